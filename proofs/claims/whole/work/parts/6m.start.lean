/-! The law's beginning: both objects stand. -/
theorem k_H0 (L : Nat) (xs : Nat → Int32) : jcs 32 0 0 (jH0 L xs) 32 (jH0 L xs) := by
  refine ⟨rfl, rfl, fun a q ha hne hq => ?_, fun a j h1 h2 _ => by omega, fun a j _ => ⟨rfl, rfl, rfl⟩, fun a j ha _ => ⟨?_, rfl, rfl⟩, fun a ha j => ?_, Nat.le_refl 32, Nat.le_refl 32, fun q hq => ?_, rfl, fun h => absurd h (by decide), fun a ha => ?_⟩
  · have e : jK0 L a = jK0 0 a := by
      unfold jK0
      rw [if_neg hne, if_neg hne]
    show jK0 L a = q
    rw [e]
    have : ∀ a, a < 32 → a ≠ 18 → jKs[a]? = some (jK0 0 a) := by decide +kernel
    rw [this a ha hne] at hq
    exact Option.some.inj hq
  · show (if a = 18 then xs j else (jvals.getD a []).getD j 0) = 0
    rw [if_neg (by omega)]
    have : jvals.getD a [] = [] := by
      have hl : jvals.length ≤ a := Nat.le_trans (by decide) ha
      rw [List.getD_eq_getElem?_getD, List.getElem?_eq_none hl]
      rfl
    rw [this]
    rfl
  · show (if a = 18 then xs j else (jvals.getD a []).getD j 0) = _
    rw [if_neg (by omega)]
  · rw [List.take_zero] at hq
    exact absurd hq List.not_mem_nil
  · show (jK0 L a).1 = 99
    unfold jK0
    rw [if_neg (by omega), if_neg (by omega), if_neg (by omega)]
/-- the state behind both constructors -/
def jst0 (L : Nat) (xs : Nat → Int32) (H : jH) : Prop :=
  jsh H ∧ jn H = 513 ∧ js H = 1173692 ∧ jK H 18 = (100, L) ∧ (∀ j, jI H 18 j = xs j) ∧
  (∀ a j, 32 ≤ a → jEx a j = false → jI H a j = 0 ∧ jL H a j = 0 ∧ jB H a j = 0) ∧ (∀ a j, 32 ≤ a → a < 513 → jEx a j = false → jR H a j = jRL jWs a j) ∧
  jt1 H ∧ jr1 H ∧ jc1 H ∧ jPt H ∧ jTr H
theorem k_start {Q : Int32 → jH → Prop} (L : Nat) (xs : Nat → Int32) (hk : ∀ H, jst0 L xs H → jT (F_L_law_18 jfuel 18 32 421 0 H) Q) : jT (F_L_law 18 (jH0 L xs)) Q := by
  unfold F_L_law
  refine c_nw (k_H0 L xs) 14 33 14 (by decide +kernel) fun H1 h1 => jT_g (by decide) ?_
  refine jT_b (k_11_init_32 h1 fun HM HC hM gM hC => ?_)
  have hr := c_rebase hC (by decide)
  refine c_nw hr 61 422 75207 (by decide +kernel) fun H2 h2 => jT_g (by decide) ?_
  refine jT_b (k_18_init_421 h2 fun H3 h3 g1 g2 g3 => hk H3 ?_)
  have hA := c_trans (c_trans hM hC) h3
  have hMH : ∀ a j, a < 414 → jI H3 a j = jI HM a j ∧ jL H3 a j = jL HM a j ∧ jB H3 a j = jB HM a j := fun a j ha => by
    obtain ⟨p1, p2, p3⟩ := c_old h3 (a := a) (j := j) (by omega)
    obtain ⟨q1, q2, q3⟩ := c_old hC (a := a) (j := j) ha
    exact ⟨p1.trans q1, p2.trans q2, p3.trans q3⟩
  obtain ⟨c1, c2, c3, c4, c5⟩ := gM
  have ht : jWs.take 492 = jWs := List.take_of_length_le (by decide +kernel)
  refine ⟨c_sp hA (by decide) (by decide +kernel), hA.1, hA.2.1, c_18 hA, fun j => ((c_old hA (by decide)).1).trans (show (if (18 : Nat) = 18 then xs j else (jvals.getD 18 []).getD j 0) = xs j from if_pos rfl), fun a j ha hx => c_0 hA ⟨ha, hx⟩, fun a j h1 h2 hx => ?_, g1, g2, ?_, c_pt hA (by decide), g3⟩
  · rw [hA.2.2.2.1 a j h1 h2 hx, ht]
  · exact ⟨((hMH 398 4 (by decide)).1).trans c1, ((hMH 410 2 (by decide)).1).trans c2, ((hMH 410 3 (by decide)).2.1).trans c3, fun i hi => ((hMH 411 i (by decide)).2.2).trans (c4 i hi), fun i hi => ((hMH 409 (1 + i) (by decide)).2.2).trans (c5 i hi)⟩
