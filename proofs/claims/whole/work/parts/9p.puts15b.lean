/-! The bytes of a signature are put, one by one. -/
section PS15
variable {Q : Int32 → jH → Prop} {H0 : jH} {b : Nat → UInt8}
theorem z15_puts73 {a3 len n : Nat} (hs : jsh H0) (k3 : jK H0 a3 = (101, len)) (hn : n ≤ len) (hn2 : n ≤ 100) (hlen : len < 2147483648) (hB : zB13 H0 b) (hl : jI H0 428 6 = 0)
    (hk : ∀ H' c, jsh H' → jfP H0 H' → zB13 H' c → (∀ j, j < n → c j = jB H0 a3 j) → jI H' 428 6 = Int32.ofNat n → ∀ k, jT (B_15_fits_73 k 427 a3 (Int32.ofNat (n + 1)) (Int32.ofNat n) H') Q) : jT (F_15_fits_73 jfuel 427 a3 (Int32.ofNat (n + 1)) 0 H0) Q := by
  have loop : ∀ (d i fu : Nat) (c : Nat → UInt8) (H : jH), i + d = n → d < fu → jfP H0 H → zB13 H c → (∀ j, j < i → c j = jB H0 a3 j) → jI H 428 6 = Int32.ofNat i → jT (F_15_fits_73 fu 427 a3 (Int32.ofNat (n + 1)) (Int32.ofNat i) H) Q := by
    intro d
    induction d with
    | zero =>
      intro i fu c H hi hfu hfr hz hc h6
      obtain ⟨fu, rfl⟩ : ∃ k, fu = k + 1 := ⟨fu - 1, by omega⟩
      obtain rfl : i = n := by omega
      unfold F_15_fits_73
      exact hk H c (jsh_fP hs hfr) hfr hz hc h6 _
    | succ d ih =>
      intro i fu c H hi hfu hfr hz hc h6
      obtain ⟨fu, rfl⟩ : ∃ k, fu = k + 1 := ⟨fu - 1, by omega⟩
      unfold F_15_fits_73 B_15_fits_73
      have hsH := jsh_fP hs hfr
      have e1 : Int32.ofNat i + 1 = Int32.ofNat (i + 1) := jo_add (a := i) (b := 1)
      have em : Int32.ofNat (n + 1) - 1 = Int32.ofNat n := jo_sub (a := n + 1) (b := 1) (by omega)
      have k3H : jK H a3 = (101, len) := by rw [hfr.1]; exact k3
      rw [em, sR_427_1 hsH, jo_nat (n := i) (by omega), e1]
      refine jT_neg (by rw [jo_le (by omega) (by omega)]; omega) (jT_g (k15 hsH) (jT_g (by rw [k3H]; exact ⟨rfl, jo_in (by omega) (by show i < len; omega)⟩) (jT_g (k13 hsH) (jT_b (z13_put1 (m := i) hsH (by omega) h6 (jT_l (ih (i + 1) fu _ _ (by omega) (by omega) (jfP_put hfr) (zB13_put hz) (fun j hj => ?_) jI_sIe)))))))
      show (if j = i then _ else _) = _
      by_cases e : j = i
      · rw [if_pos e, e, hfr.2.2.2.2.2.1]
      · rw [if_neg e]
        exact hc j (by omega)
  exact loop n 0 jfuel b H0 (by omega) (by unfold jfuel; omega) jfP_refl hB (fun j hj => absurd hj (Nat.not_lt_zero j)) hl
end PS15
