/-! The reference's tree: what is found by going down a branch. -/
theorem jT_det {α : Type} {o : Option (α × jH)} {v : α} {H : jH} (h : jT o (fun r h => r = v ∧ h = H)) : o = some (v, H) := by
  obtain ⟨x, hx, h1, h2⟩ := h
  rw [hx, ← h1, ← h2]
section TR16
variable {bs : List b_k} {H : jH}
/-- the highest height that two chains share -/
def b_isf (bs : List b_k) (x y f : Nat) : Prop := f ≤ b_ht bs x ∧ f ≤ b_ht bs y ∧ b_at bs x f = b_at bs y f ∧ ∀ h, f < h → h ≤ b_ht bs x → h ≤ b_ht bs y → b_at bs x h ≠ b_at bs y h
theorem b_isf_ex (hw : b_wf bs) {x y : Nat} (hx : x < bs.length) (hy : y < bs.length) : ∃ f, b_isf bs x y f := by
  have go : ∀ d, d ≤ b_ht bs x → d ≤ b_ht bs y → (∀ h, d < h → h ≤ b_ht bs x → h ≤ b_ht bs y → b_at bs x h ≠ b_at bs y h) → ∃ f, b_isf bs x y f := by
    intro d
    induction d with
    | zero => exact fun _ _ h => ⟨0, Nat.zero_le _, Nat.zero_le _, (b_at_0 hw hx).trans (b_at_0 hw hy).symm, h⟩
    | succ d ih =>
      intro h1 h2 h3
      by_cases c : b_at bs x (d + 1) = b_at bs y (d + 1)
      · exact ⟨d + 1, h1, h2, c, h3⟩
      · refine ih (by omega) (by omega) fun h g1 g2 g3 => ?_
        by_cases c2 : h = d + 1
        · rw [c2]
          exact c
        · exact h3 h (by omega) g2 g3
  exact go (min (b_ht bs x) (b_ht bs y)) (Nat.min_le_left _ _) (Nat.min_le_right _ _) fun h g1 g2 g3 => by omega
theorem b_isf_lo (hw : b_wf bs) {x y f : Nat} (hx : x < bs.length) (hy : y < bs.length) (h : b_isf bs x y f) : ∀ g, g ≤ f → b_at bs x g = b_at bs y g := fun g hg => by
  rw [← b_at_at hw hx h.1 hg, h.2.2.1, b_at_at hw hy h.2.1 hg]
end TR16
