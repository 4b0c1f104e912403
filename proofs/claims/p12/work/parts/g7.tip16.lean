/-! The reference's tree: the most work, what is spoiled. And which block has the most work. -/
/-- the tip is, of those that are not bad, the first with the most work -/
def b_max (W : Nat → Nat) (bad : Nat → Bool) (tip n : Nat) : Prop := tip < n ∧ bad tip = false ∧ ∀ k, k < n → bad k = false → W k ≤ W tip ∧ (W k = W tip → tip ≤ k)
theorem b_bst_ok {W : Nat → Nat} {bad : Nat → Bool} {s : Nat} : ∀ {n : Nat}, (∀ k, k < n → bad k = false → W k ≤ W (b_bst W bad s n)) ∧ W s ≤ W (b_bst W bad s n) ∧ (b_bst W bad s n ≠ s → b_bst W bad s n < n ∧ bad (b_bst W bad s n) = false ∧ W s < W (b_bst W bad s n) ∧ ∀ k, k < b_bst W bad s n → bad k = false → W k < W (b_bst W bad s n))
  | 0 => ⟨fun k hk => absurd hk (Nat.not_lt_zero k), Nat.le_refl _, fun h => absurd rfl h⟩
  | n + 1 => by
    obtain ⟨h1, h2, h3⟩ := b_bst_ok (W := W) (bad := bad) (s := s) (n := n)
    by_cases c : bad n = false ∧ W (b_bst W bad s n) < W n
    · have e : b_bst W bad s (n + 1) = n := if_pos c
      rw [e]
      refine ⟨fun k hk hb => ?_, by omega, fun _ => ⟨by omega, c.1, by omega, fun k hk hb => ?_⟩⟩
      · by_cases q : k = n
        · rw [q]
          exact Nat.le_refl _
        · have := h1 k (by omega) hb
          omega
      · have := h1 k hk hb
        omega
    · have e : b_bst W bad s (n + 1) = b_bst W bad s n := if_neg c
      rw [e]
      refine ⟨fun k hk hb => ?_, h2, fun hne => ?_⟩
      · by_cases q : k = n
        · rw [q] at hb ⊢
          exact Nat.not_lt.mp fun w => c ⟨hb, w⟩
        · exact h1 k (by omega) hb
      · obtain ⟨g1, g2⟩ := h3 hne
        exact ⟨by omega, g2⟩
theorem b_bst_tip {W : Nat → Nat} {bad : Nat → Bool} {tip n : Nat} (h : b_max W bad tip n) : b_bst W bad tip n = tip := by
  obtain ⟨h1, h2, h3⟩ := h
  obtain ⟨-, -, g3⟩ := b_bst_ok (W := W) (bad := bad) (s := tip) (n := n)
  by_cases c : b_bst W bad tip n = tip
  · exact c
  · obtain ⟨q1, q2, q3, -⟩ := g3 c
    have := (h3 _ q1 q2).1
    omega
/-- one more with more work than all -/
theorem b_bst_new {W : Nat → Nat} {bad : Nat → Bool} {tip n s : Nat} (h : b_max W bad tip n) (hb : bad n = false) (hW : W tip < W n) (hs : s < n) (hs2 : bad s = false) : b_bst W bad s (n + 1) = n := by
  obtain ⟨h1, h2, h3⟩ := h
  obtain ⟨g1, g2, g3⟩ := b_bst_ok (W := W) (bad := bad) (s := s) (n := n + 1)
  have hw := g1 n (by omega) hb
  have hle : ∀ k, k < n → bad k = false → W k < W n := fun k hk hbk => by
    have := (h3 k hk hbk).1
    omega
  by_cases c : b_bst W bad s (n + 1) = s
  · rw [c] at hw
    have := hle s hs hs2
    omega
  · obtain ⟨q1, q2, -⟩ := g3 c
    by_cases c2 : b_bst W bad s (n + 1) = n
    · exact c2
    · have := hle _ (by omega) q2
      omega
/-- one more without -/
theorem b_max_add {W : Nat → Nat} {bad : Nat → Bool} {tip n : Nat} (h : b_max W bad tip n) (hW : bad n = false → W n ≤ W tip) : b_max W bad tip (n + 1) := by
  obtain ⟨h1, h2, h3⟩ := h
  refine ⟨by omega, h2, fun k hk hb => ?_⟩
  by_cases c : k = n
  · rw [c] at hb ⊢
    exact ⟨hW hb, fun _ => by omega⟩
  · exact h3 k (by omega) hb
/-- fewer that are not bad -/
theorem b_max_bad {W : Nat → Nat} {bad bad' : Nat → Bool} {tip n : Nat} (h : b_max W bad tip n) (ht : bad' tip = false) (hb : ∀ k, bad' k = false → bad k = false) : b_max W bad' tip n :=
  ⟨h.1, ht, fun k hk hbk => h.2.2 k hk (hb k hbk)⟩
