/-! The law's beginning: both objects stand. -/
theorem k_H0 (L : Nat) (xs : Nat → Int32) : jcs 32 64 0 (jnew (jH0 L xs) 100 64) 32 (jnew (jH0 L xs) 100 64) := by
  have hK : ∀ a, jK (jnew (jH0 L xs) 100 64) a = if a = 31 then (100, 64) else jK0 L a := fun a => rfl
  have hI : ∀ a j, jI (jnew (jH0 L xs) 100 64) a j = if a = 31 then 0 else if a = 18 then xs j else (jvals.getD a []).getD j 0 := fun a j => rfl
  have hL : ∀ a j, jL (jnew (jH0 L xs) 100 64) a j = if a = 31 then 0 else 0 := fun a j => rfl
  have hB : ∀ a j, jB (jnew (jH0 L xs) 100 64) a j = if a = 31 then 0 else 0 := fun a j => rfl
  refine ⟨rfl, rfl, fun a q ha hne hq => ?_, fun a j h1 h2 _ => by omega, fun a j _ => ⟨rfl, rfl, rfl⟩, fun a j ha _ => ⟨?_, by rw [hL, if_neg (by omega)], by rw [hB, if_neg (by omega)]⟩, fun a ha j => ?_, Nat.le_refl 32, Nat.le_refl 32, fun q hq => ?_, rfl, fun _ => trivial, fun a ha => ?_⟩
  · rw [hK]
    by_cases c : a = 31
    · rw [if_pos c]
      rw [c] at hq
      exact Option.some.inj (Eq.trans (by decide +kernel) hq)
    · rw [if_neg c]
      have e : jK0 L a = jK0 0 a := by
        unfold jK0
        rw [if_neg hne, if_neg hne]
      rw [e]
      have : ∀ a, a < 31 → a ≠ 18 → jKs[a]? = some (jK0 0 a) := by decide +kernel
      rw [this a (by omega) hne] at hq
      exact Option.some.inj hq
  · rw [hI, if_neg (by omega), if_neg (by omega)]
    have : jvals.getD a [] = [] := by
      have hl : jvals.length ≤ a := Nat.le_trans (by decide) ha
      rw [List.getD_eq_getElem?_getD, List.getElem?_eq_none hl]
      rfl
    rw [this]
    rfl
  · rw [hI, if_neg (by omega), if_neg (by omega)]
  · rw [List.take_zero] at hq
    exact absurd hq List.not_mem_nil
  · rw [hK, if_neg (by omega)]
    unfold jK0
    rw [if_neg (by omega), if_neg (by omega), if_neg (by omega)]
def jst0 (L : Nat) (xs : Nat → Int32) (H : jH) : Prop :=
  jsh H ∧ jn H = 422 ∧ js H = 75274 ∧ jK H 18 = (100, L) ∧ (∀ j, jI H 18 j = xs j) ∧
  (∀ a j, 32 ≤ a → jEx a j = false → jI H a j = 0 ∧ jL H a j = 0 ∧ jB H a j = 0) ∧ (∀ a j, 32 ≤ a → a < 422 → jEx a j = false → jR H a j = jRL jWs a j) ∧ jc1 H ∧ (∀ j, jI H 31 j = 0)
