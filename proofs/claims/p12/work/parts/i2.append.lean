/-! One block more. -/
section APP
variable {bs : List b_k} {b : b_k}
theorem b_g_lo {k : Nat} (hk : k < bs.length) : b_g (bs ++ [b]) k = b_g bs k := by
  unfold b_g
  rw [List.getD_eq_getElem?_getD, List.getD_eq_getElem?_getD, List.getElem?_append_left hk]
theorem b_g_new : b_g (bs ++ [b]) bs.length = b := by
  unfold b_g
  rw [List.getD_eq_getElem?_getD, List.getElem?_append_right (Nat.le_refl _), Nat.sub_self]
  rfl
theorem b_len1 : (bs ++ [b]).length = bs.length + 1 := by rw [List.length_append]; rfl
theorem b_by_lo {k : Nat} (hk : k < bs.length) : b_by (bs ++ [b]) k = b_by bs k := by unfold b_by; rw [b_g_lo hk]
theorem b_nm_lo {k : Nat} (hk : k < bs.length) : b_nm (bs ++ [b]) k = b_nm bs k := by unfold b_nm; rw [b_g_lo hk]
theorem b_pa_lo {k : Nat} (hk : k < bs.length) : b_pa (bs ++ [b]) k = b_pa bs k := by unfold b_pa; rw [b_g_lo hk]
theorem b_ht_lo {k : Nat} (hk : k < bs.length) : b_ht (bs ++ [b]) k = b_ht bs k := by unfold b_ht; rw [b_g_lo hk]
theorem b_bi_lo {k : Nat} (hk : k < bs.length) : b_bi (bs ++ [b]) k = b_bi bs k := by unfold b_bi; rw [b_g_lo hk]
theorem b_ti_lo {k : Nat} (hk : k < bs.length) : b_ti (bs ++ [b]) k = b_ti bs k := by unfold b_ti; rw [b_g_lo hk]
theorem b_tx_lo {k : Nat} (hk : k < bs.length) : b_tx (bs ++ [b]) k = b_tx bs k := by unfold b_tx; rw [b_g_lo hk]
/-- what a new block must be -/
def b_nw (bs : List b_k) (b : b_k) : Prop := bs.length < 300 ∧ b.2.1.length = 32 ∧ b.2.2.1 < bs.length ∧ b.2.2.2.1 = b_ht bs b.2.2.1 + 1 ∧ b_lay b.1 b.2.2.2.2.2.2 ∧ b_toks true b.2.2.2.2.2.2 ∧ b.2.2.2.2.2.2 ≠ []
theorem b_wf_new (hw : b_wf bs) (hb : b_nw bs b) : b_wf (bs ++ [b]) := by
  obtain ⟨w1, w2, w3, w4, w5⟩ := hw
  obtain ⟨n1, n2, n3, n4, n5, n6, n7⟩ := hb
  refine ⟨by rw [b_len1]; omega, by rw [b_len1]; omega, by rw [b_ht_lo (by omega)]; exact w3, fun k hk => ?_, fun k k1 hk => ?_⟩
  · rw [b_len1] at hk
    by_cases c : k < bs.length
    · rw [b_nm_lo c]
      exact w4 k c
    · obtain rfl : k = bs.length := by omega
      unfold b_nm
      rw [b_g_new]
      exact n2
  · rw [b_len1] at hk
    by_cases c : k < bs.length
    · obtain ⟨p1, p2, p3⟩ := w5 k k1 c
      rw [b_pa_lo c, b_ht_lo c, b_ht_lo (show b_pa bs k < bs.length by omega), b_by_lo c, b_tx_lo c]
      exact ⟨p1, p2, p3⟩
    · obtain rfl : k = bs.length := by omega
      have ep : b_pa (bs ++ [b]) bs.length = b.2.2.1 := by unfold b_pa; rw [b_g_new]
      have eh : b_ht (bs ++ [b]) bs.length = b.2.2.2.1 := by unfold b_ht; rw [b_g_new]
      have ey : b_by (bs ++ [b]) bs.length = b.1 := by unfold b_by; rw [b_g_new]
      have et : b_tx (bs ++ [b]) bs.length = b.2.2.2.2.2.2 := by unfold b_tx; rw [b_g_new]
      rw [ep, eh, ey, et, b_ht_lo n3]
      exact ⟨n3, n4, n5, n6, n7⟩
theorem b_up_lo (hw : b_wf bs) : ∀ {d k : Nat}, k < bs.length → d ≤ b_ht bs k → b_up (bs ++ [b]) d k = b_up bs d k
  | 0, k, _, _ => rfl
  | d + 1, k, hk, hd => by
    obtain ⟨h1, h2, -⟩ := hw.2.2.2.2 k (b_ht_pos hw hk (by omega)) hk
    show b_up (bs ++ [b]) d (b_pa (bs ++ [b]) k) = b_up bs d (b_pa bs k)
    rw [b_pa_lo hk]
    exact b_up_lo hw (by omega) (by omega)
theorem b_at_lo (hw : b_wf bs) {k h : Nat} (hk : k < bs.length) : b_at (bs ++ [b]) k h = b_at bs k h := by
  unfold b_at
  rw [b_ht_lo hk]
  exact b_up_lo hw hk (Nat.sub_le _ _)
theorem b_at_lt (hw : b_wf bs) {k h : Nat} (hk : k < bs.length) : b_at bs k h < bs.length := by
  obtain ⟨q1, -⟩ := b_up_ok (d := b_ht bs k - h) hw hk (Nat.sub_le _ _)
  unfold b_at
  omega
theorem b_co_lo (hw : b_wf bs) {k : Nat} (hk : k < bs.length) : ∀ {h : Nat}, b_co (bs ++ [b]) k h = b_co bs k h
  | 0 => rfl
  | h + 1 => by
    show b_app (h + 1) true (b_tx (bs ++ [b]) (b_at (bs ++ [b]) k (h + 1))) (b_co (bs ++ [b]) k h) = b_app (h + 1) true (b_tx bs (b_at bs k (h + 1))) (b_co bs k h)
    rw [b_at_lo hw hk, b_tx_lo (b_at_lt hw hk), b_co_lo hw hk]
theorem b_v_lo (hw : b_wf bs) {k : Nat} (hk : k < bs.length) : b_v (bs ++ [b]) k = b_v bs k := by
  unfold b_v
  rw [b_ht_lo hk, b_tx_lo hk, b_co_lo hw hk]
theorem b_right_lo (hw : b_wf bs) {k : Nat} (hk : k < bs.length) : b_right (bs ++ [b]) k ↔ b_right bs k := by
  unfold b_right
  rw [b_ht_lo hk]
  refine ⟨fun h g g1 g2 => ?_, fun h g g1 g2 => ?_⟩
  · have := h g g1 g2
    rwa [b_at_lo hw hk, b_v_lo hw (b_at_lt hw hk)] at this
  · rw [b_at_lo hw hk, b_v_lo hw (b_at_lt hw hk)]
    exact h g g1 g2
theorem b_bok_new (hb : b_bok bs) (h : b_bk1 bs b.2.2.2.1 b.2.2.2.2.1 b.2.2.2.2.2.1) : b_bok (bs ++ [b]) := fun k hk => by
  rw [b_len1] at hk
  by_cases c : k < bs.length
  · rw [b_ht_lo c, b_bi_lo c, b_ti_lo c]
    exact hb k c
  · obtain rfl : k = bs.length := by omega
    unfold b_ht b_bi b_ti
    rw [b_g_new]
    exact h
theorem b_clo_new {bad : Nat → Bool} (h : b_clo bs bad) (hp : bad b.2.2.1 = false) : b_clo (bs ++ [b]) bad := fun k k1 hk hb => by
  rw [b_len1] at hk
  by_cases c : k < bs.length
  · rw [b_pa_lo c] at hb
    exact h k k1 c hb
  · obtain rfl : k = bs.length := by omega
    unfold b_pa at hb
    rw [b_g_new, hp] at hb
    exact absurd hb (by decide)
theorem b_max_eq {W W' : Nat → Nat} {bad : Nat → Bool} {tip n : Nat} (h : b_max W bad tip n) (e : ∀ k, k < n → W' k = W k) : b_max W' bad tip n := by
  obtain ⟨h1, h2, h3⟩ := h
  refine ⟨h1, h2, fun k hk hb => ?_⟩
  rw [e k hk, e tip h1]
  exact h3 k hk hb
end APP
