/-! The bytes of a key are put, one by one. -/
/-- only the bytes put and their count are written -/
def jfP (H H' : jH) : Prop := jK H' = jK H ∧ jn H' = jn H ∧ js H' = js H ∧ jR H' = jR H ∧ jL H' = jL H ∧ jB H' = jB H ∧ ∀ a j, a ≠ 434 → ¬ (a = 428 ∧ j = 6) → jI H' a j = jI H a j
theorem jfP_refl {H : jH} : jfP H H := ⟨rfl, rfl, rfl, rfl, rfl, rfl, fun _ _ _ _ => rfl⟩
theorem jfP_put {H H1 : jH} {i : Nat} {x y : Int32} (h : jfP H H1) : jfP H (jsI (jsI H1 434 i x) 428 6 y) :=
  ⟨h.1, h.2.1, h.2.2.1, h.2.2.2.1, h.2.2.2.2.1, h.2.2.2.2.2.1, fun a j h1 h2 => ((jup_ne h2).trans (jup_a h1)).trans (h.2.2.2.2.2.2 a j h1 h2)⟩
theorem jsh_fP {H H1 : jH} (hs : jsh H) (h : jfP H H1) : jsh H1 := by
  obtain ⟨e1, e2, e3, e4, e5, e6, e7⟩ := h
  obtain ⟨s1, s2, s3, s4, s5⟩ := hs
  unfold jsh jsp
  rw [e1, e2, e4]
  exact ⟨s1, s2, fun a ha j => (e7 a j (by omega) fun q => by omega).trans (s3 a ha j), s4, s5⟩
theorem zB13_put {H : jH} {b : Nat → UInt8} {i : Nat} {u : UInt8} {y : Int32} (h : zB13 H b) : zB13 (jsI (jsI H 434 i (Int32.ofNat u.toNat)) 428 6 y) (fun j => if j = i then u else b j) := fun j hj => by
  refine (jI_sIa (by decide)).trans ?_
  show _ = Int32.ofNat (if j = i then u else b j).toNat
  by_cases e : j = i
  · rw [if_pos e, e]
    exact jI_sIe
  · rw [if_neg e]
    exact (jI_sIn e).trans (h j hj)
section PS15
variable {Q : Int32 → jH → Prop} {H0 : jH} {b : Nat → UInt8}
theorem z15_puts {a1 a3 len n : Nat} {a2 : Int32} (hs : jsh H0) (k3 : jK H0 a3 = (101, len)) (hn : n ≤ len) (hn2 : n ≤ 100) (hlen : len < 2147483648) (hB : zB13 H0 b) (hl : jI H0 428 6 = 0)
    (hk : ∀ H' c, jsh H' → jfP H0 H' → zB13 H' c → (∀ j, j < n → c j = jB H0 a3 j) → jI H' 428 6 = Int32.ofNat n → ∀ k, jT (B_15_fits_29 k 427 a1 a2 a3 (Int32.ofNat n) (Int32.ofNat n) H') Q) : jT (F_15_fits_29 jfuel 427 a1 a2 a3 (Int32.ofNat n) 0 H0) Q := by
  have loop : ∀ (d i fu : Nat) (c : Nat → UInt8) (H : jH), i + d = n → d < fu → jfP H0 H → zB13 H c → (∀ j, j < i → c j = jB H0 a3 j) → jI H 428 6 = Int32.ofNat i → jT (F_15_fits_29 fu 427 a1 a2 a3 (Int32.ofNat n) (Int32.ofNat i) H) Q := by
    intro d
    induction d with
    | zero =>
      intro i fu c H hi hfu hfr hz hc h6
      obtain ⟨fu, rfl⟩ : ∃ k, fu = k + 1 := ⟨fu - 1, by omega⟩
      obtain rfl : i = n := by omega
      unfold F_15_fits_29
      exact hk H c (jsh_fP hs hfr) hfr hz hc h6 _
    | succ d ih =>
      intro i fu c H hi hfu hfr hz hc h6
      obtain ⟨fu, rfl⟩ : ∃ k, fu = k + 1 := ⟨fu - 1, by omega⟩
      unfold F_15_fits_29 B_15_fits_29
      have hsH := jsh_fP hs hfr
      have e1 : Int32.ofNat i + 1 = Int32.ofNat (i + 1) := jo_add (a := i) (b := 1)
      have k3H : jK H a3 = (101, len) := by rw [hfr.1]; exact k3
      rw [sR_427_1 hsH, jo_nat (n := i) (by omega), e1]
      refine jT_neg (by rw [jo_le (by omega) (by omega)]; omega) (jT_g (k15 hsH) (jT_g (by rw [k3H]; exact ⟨rfl, jo_in (by omega) (by show i < len; omega)⟩) (jT_g (k13 hsH) (jT_b (z13_put1 (m := i) hsH (by omega) h6 (jT_l (ih (i + 1) fu _ _ (by omega) (by omega) (jfP_put hfr) (zB13_put hz) (fun j hj => ?_) jI_sIe)))))))
      show (if j = i then _ else _) = _
      by_cases e : j = i
      · rw [if_pos e, e, hfr.2.2.2.2.2.1]
      · rw [if_neg e]
        exact hc j (by omega)
  exact loop n 0 jfuel b H0 (by omega) (by unfold jfuel; omega) jfP_refl hB (fun j hj => absurd hj (Nat.not_lt_zero j)) hl
end PS15
