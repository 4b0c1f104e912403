/-! The reference's whole reading of a transaction. -/
def ztx (b : Nat → UInt8) (s e : Nat) : Option (List (Nat × Nat) × List (Nat × Nat) × Nat) :=
  if s + 5 ≤ e ∧ (b (s + 4)).toNat ≤ 8 then
    (ztxi b e (b (s + 4)).toNat (s + 5)).bind fun a =>
      if a.2 + 1 ≤ e ∧ (b a.2).toNat ≤ 8 then (ztxo b e (b a.2).toNat (a.2 + 1)).bind fun c => if c.2 + 4 ≤ e then some (a.1, c.1, c.2 + 4) else none else none
  else none
theorem ztxi_len {b : Nat → UInt8} {e : Nat} : ∀ {k p : Nat} {l : List (Nat × Nat)} {q : Nat}, ztxi b e k p = some (l, q) → l.length = k
  | 0, p, l, q, h => by
    have hl : [] = l := congrArg Prod.fst (Option.some.inj h)
    rw [← hl]
    rfl
  | k + 1, p, l, q, h => by
    unfold ztxi at h
    by_cases hc : p + 37 ≤ e ∧ (b (p + 36)).toNat ≤ 200 ∧ p + 41 + (b (p + 36)).toNat ≤ e
    · rw [if_pos hc] at h
      obtain ⟨w, hw, hq⟩ := Option.map_eq_some_iff.mp h
      have h1 : (p, (b (p + 36)).toNat) :: w.1 = l := congrArg Prod.fst hq
      rw [← h1, List.length_cons, ztxi_len (l := w.1) (q := w.2) hw]
    · rw [if_neg hc] at h
      exact absurd h (by simp)
theorem ztxo_len {b : Nat → UInt8} {e : Nat} : ∀ {k p : Nat} {l : List (Nat × Nat)} {q : Nat}, ztxo b e k p = some (l, q) → l.length = k
  | 0, p, l, q, h => by
    have hl : [] = l := congrArg Prod.fst (Option.some.inj h)
    rw [← hl]
    rfl
  | k + 1, p, l, q, h => by
    unfold ztxo at h
    by_cases hc : p + 9 ≤ e ∧ (b (p + 8)).toNat ≤ 200 ∧ p + 9 + (b (p + 8)).toNat ≤ e
    · rw [if_pos hc] at h
      obtain ⟨w, hw, hq⟩ := Option.map_eq_some_iff.mp h
      have h1 : (p, (b (p + 8)).toNat) :: w.1 = l := congrArg Prod.fst hq
      rw [← h1, List.length_cons, ztxo_len (l := w.1) (q := w.2) hw]
    · rw [if_neg hc] at h
      exact absurd h (by simp)
