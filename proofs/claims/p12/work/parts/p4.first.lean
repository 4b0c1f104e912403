/-! The state of fresh objects. -/
def s_b0 : b_k := (zheadL, s_fb (znm zhead 80) 32, 0, 0, 545259519, 1000000, [])
def s_0 : s_S := ([s_b0], fun _ => 0, fun _ => false, 0, [], fun _ => [])
theorem s_0k {k : Nat} (h : k < ([s_b0] : List b_k).length) : k = 0 := Nat.lt_one_iff.mp h
theorem s_0wf : b_wf [s_b0] := ⟨Nat.le_refl _, by decide, rfl, fun k hk => by rw [s_0k hk]; exact s_fb_len, fun k h1 hk => by have := s_0k hk; omega⟩
theorem s_0r : b_right [s_b0] 0 := fun h h1 h2 => by
  have : b_ht [s_b0] 0 = 0 := rfl
  omega
theorem s_0pur : s_pur s_0 := by
  obtain ⟨l1, l2, l3, l4⟩ := b_lim_lt
  refine ⟨s_0wf, fun k hk => ?_, ⟨rfl, show (80 : Nat) ≤ 1999 by decide⟩, ⟨Nat.one_pos, rfl, fun k hk _ => ⟨Nat.le_refl _, fun _ => Nat.zero_le _⟩⟩, rfl, fun k hk => Nat.zero_le _, fun k h1 hk => ?_, p_all_nil, fun k hk x hx => ?_, fun k hk x hx => ?_, s_0r, fun _ _ => rfl⟩
  · rw [s_0k hk]
    refine ⟨show b_bits 545259519 by unfold b_bits b_sz b_ma; decide, Nat.le_refl _, ?_, show 1000000 < 4294967296 by decide⟩
    show 2 ^ 254 ≤ b_lim * 16 ^ (0 / 8)
    rw [show 0 / 8 = 0 from rfl, Nat.pow_zero, Nat.mul_one]
    exact l4
  · have := s_0k hk
    omega
  · rw [s_0k hk] at hx
    cases hx
  · rw [s_0k hk] at hx
    cases hx
theorem zheadL_row {H : jH} {r p : Nat} (h : ∀ i, i < 80 → jB H r (p + i) = zhead i) : zRow H r p zheadL := fun i u hi => by
  have hl := (List.getElem?_eq_some_iff.mp hi).1
  have h80 : zheadL.length = 80 := by decide
  rw [h i (by omega)]
  unfold zhead
  rw [List.getD_eq_getElem?_getD, hi]
  rfl
section FST
variable {L : Nat} {xs : Nat → Int32} {H : jH}
theorem s_stk {S : Nat} (h : jst0 L xs H) (e1 : 32 ≤ S ∧ jEx S 2 = false) (e2 : 32 ≤ S + 1 ∧ S + 1 < 422) (e3 : ∀ k, k < 70 → jEx (S + 1) k = false ∧ jRL jWs (S + 1) k = S + 2 + k) : zStk S [] H := by
  have r : ∀ k, k < 70 → jR H (S + 1) k = S + 2 + k := fun k hk => f_R h ⟨e2.1, e2.2, e3 k hk⟩
  refine ⟨by decide, f_I h e1, fun k hk => ?_, fun i j hi hj e => ?_, fun k it hk => (by cases hk)⟩
  · rw [r k hk]
    omega
  · rw [r i hi, r j hj] at e
    omega
theorem s_z32 {r : Nat} (h : ∀ i, i < 32 → jB H r i = 0) : zRow H r 0 p_z32 := fun i u hi => by
  unfold p_z32 at hi
  obtain ⟨h1, h2⟩ := List.getElem?_eq_some_iff.mp hi
  rw [List.length_replicate] at h1
  rw [Nat.zero_add, h i h1, ← h2, List.getElem_replicate]
end FST
