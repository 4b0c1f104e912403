/-! Points.curve, isPoint and roots of the reference. -/
theorem e7_v : e7.val = 7 := by decide +kernel
theorem ef_nv {n : Nat} (h : n < mM 0) : (ef_i (n : Int)).val = n := by
  have h2 := ef_v (n : Int)
  rw [mM_0] at h
  have h3 : ((n : Int) % (np_P : Int)) = n := Int.emod_eq_of_lt (Int.natCast_nonneg n) (by exact Int.ofNat_lt.mpr h)
  rw [h3] at h2
  exact Int.ofNat_inj.mp h2
section CV13
variable {Q : Unit → jH → Prop} {H0 : jH} {a b : Nat} {a' b' : Int32} {x : ef}
theorem z13_curve (ea : a' = Int32.ofNat a) (eb : b' = Int32.ofNat b) (ha : a < 48) (hb : b < 48) (hb2 : b ≠ 31) (hM : mOk (fun j => j = a ∨ j = 37)) (hs : jsh H0) (hC : z13C H0) (hx : zr H0 b x.val)
    (hk : ∀ H', jsh H' → z13C H' → jf3 (fun j => j = 31 ∨ j = a ∨ j = 37) H0 H' → zr H' a (x * x * x + e7).val → Q () H') : jT (F_13_curve 428 a' b' H0) Q := by
  unfold F_13_curve
  refine jT_g (k13 hs) (jT_b (z13_mulE (a := 31) rfl eb eb (by decide) hb hb ⟨by decide, by decide, by decide, by decide, by decide, by decide⟩ hs hC hx hx fun H1 s1 C1 f1 z1 => ?_))
  refine jT_g (k13 s1) (jT_b (z13_mulE (a := 31) (b := 31) rfl rfl eb (by decide) (by decide) hb ⟨by decide, by decide, by decide, by decide, by decide, by decide⟩ s1 C1 z1 (zr_f3 hx f1 hb2) fun H2 s2 C2 f2 z2 => ?_))
  have h21 : zr H2 21 e7.val := by
    rw [e7_v]
    exact C2.2.2.2.2.2.1
  refine jT_g (k13 s2) (jT_b (z13_plusE (b := 31) (c := 21) ea rfl rfl ha (by decide) (by decide) (by decide) hM s2 C2 z2 h21 fun H3 s3 C3 f3 z3 => jT_ret (hk H3 s3 C3 (jf3_S2 (jf3_S (jf3_S jf3_refl f1 (Or.inl rfl)) f2 (Or.inl rfl)) f3 (Or.inr (Or.inl rfl)) (Or.inr (Or.inr rfl))) z3)))
end CV13
section HALF13
variable {α : Type} {Q : α → jH → Prop} {H0 : jH} {u : Nat → Nat}
def hf13 (u : Nat → Nat) (j : Nat) : Nat := u j / 2 + u (j + 1) % 2 * 33554432
theorem hf13_nv (u : Nat → Nat) (n : Nat) : 2 * nv 67108864 (hf13 u) n + u 0 % 2 = nv 67108864 u n + u n % 2 * 67108864 ^ n := by
  induction n with
  | zero =>
    rw [nv_nil, nv_nil, Nat.pow_zero]
    omega
  | succ n ih =>
    rw [nv_succ, nv_succ, Nat.pow_succ]
    generalize nv 67108864 (hf13 u) n = A at ih ⊢
    generalize nv 67108864 u n = B at ih ⊢
    generalize (67108864 : Nat) ^ n = E at ih ⊢
    unfold hf13
    have e1 : (u n / 2 + u (n + 1) % 2 * 33554432) * E = u n / 2 * E + 33554432 * (u (n + 1) % 2 * E) := by
      rw [Nat.add_mul, Nat.mul_assoc, Nat.mul_left_comm]
    have e2 : u (n + 1) % 2 * (E * 67108864) = 67108864 * (u (n + 1) % 2 * E) := by
      rw [← Nat.mul_assoc, Nat.mul_comm _ 67108864]
    have e3 : u n * E = 2 * (u n / 2 * E) + u n % 2 * E := by
      have : u n * E = (2 * (u n / 2) + u n % 2) * E := by rw [Nat.div_add_mod]
      rw [this, Nat.add_mul, Nat.mul_assoc]
    rw [e1, e2, e3]
    omega
end HALF13
def zU13 : Nat → Prop := fun j => 31 ≤ j ∧ j ≤ 37
section RT13
variable {Q : Int32 → jH → Prop} {H0 : jH} {a : Nat}
theorem z13_isPoint {a b x y : Nat} {a' b' : Int32} (ea : a' = Int32.ofNat a) (eb : b' = Int32.ofNat b) (ha : 37 < a ∧ a < 48) (hb : 37 < b ∧ b < 48) (hs : jsh H0) (hC : z13C H0) (hx : zr H0 a x) (hy : zr H0 b y)
    (hk : ∀ H', jsh H' → z13C H' → jf3 zU13 H0 H' → Q (if x < mM 0 ∧ y < mM 0 ∧ ef_i (y : Int) * ef_i (y : Int) = ky_c x then 1 else 0) H') : jT (F_13_isPoint 428 a' b' H0) Q := by
  unfold F_13_isPoint B_13_isPoint_20 B_13_isPoint_55
  refine jT_g (k13 hs) (jT_b (z13_compare (b := 8) ea rfl ha.2 (by decide) hs hx (mM_row hC (m := 0) (by decide)) ?_))
  by_cases hxP : x < mM 0
  · rw [if_pos hxP]
    refine jT_neg (by decide) (jT_g (k13 hs) (jT_b (z13_compare (b := 8) eb rfl hb.2 (by decide) hs hy (mM_row hC (m := 0) (by decide)) ?_)))
    by_cases hyP : y < mM 0
    · rw [if_pos hyP]
      have hx2 : zr H0 a (ef_i (x : Int)).val := by rw [ef_nv hxP]; exact hx
      have hy2 : zr H0 b (ef_i (y : Int)).val := by rw [ef_nv hyP]; exact hy
      refine jT_pos (by decide) (jT_g (k13 hs) (jT_b (z13_curve (a := 33) rfl ea (by decide) ha.2 (by omega) ⟨by decide, by decide, by decide, by decide, by decide, by decide⟩ hs hC hx2 fun H1 s1 C1 f1 z1 => ?_)))
      refine jT_g (k13 s1) (jT_b (z13_mulE (a := 32) rfl eb eb (by decide) hb.2 hb.2 ⟨by decide, by decide, by decide, by decide, by decide, by decide⟩ s1 C1 (zr_f3 hy2 f1 (by omega)) (zr_f3 hy2 f1 (by omega)) fun H2 s2 C2 f2 z2 => ?_))
      have f02 : jf3 zU13 H0 H2 := jf3_S (jf3_mono f1 fun j q => by
        have q2 : j = 31 ∨ j = 33 ∨ j = 37 := q
        unfold zU13
        omega) f2 (by unfold zU13; decide)
      refine jT_g (k13 s2) (jT_b (z13_compare (a := 32) (b := 33) rfl rfl (by decide) (by decide) s2 z2 (zr_f3 z1 f2 (by decide)) ?_))
      have hkk := hk H2 s2 C2 f02
      by_cases e : ef_i (y : Int) * ef_i (y : Int) = ky_c x
      · rw [if_pos ⟨hxP, hyP, e⟩] at hkk
        have e2 : ef_i (y : Int) * ef_i (y : Int) = ef_i (x : Int) * ef_i (x : Int) * ef_i (x : Int) + e7 := e
        rw [e2, if_neg (Nat.lt_irrefl _), if_neg (Nat.lt_irrefl _)]
        exact jT_neg (fun q => q rfl) (jT_g (by decide) (jT_ret hkk))
      · rw [if_neg fun q => e q.2.2] at hkk
        have e2 : (ef_i (y : Int) * ef_i (y : Int)).val ≠ (ef_i (x : Int) * ef_i (x : Int) * ef_i (x : Int) + e7).val := fun q => e (Fin.ext q)
        refine jT_pos (fun q => ?_) (jT_g (by decide) (jT_ret hkk))
        by_cases q1 : (ef_i (y : Int) * ef_i (y : Int)).val < (ef_i (x : Int) * ef_i (x : Int) * ef_i (x : Int) + e7).val
        · rw [if_pos q1] at q
          exact absurd q (by decide)
        · rw [if_neg q1, if_pos (by omega)] at q
          exact absurd q (by decide)
    · rw [if_neg hyP]
      have hkk := hk H0 hs hC jf3_refl
      rw [if_neg fun q => hyP q.2.1] at hkk
      exact jT_neg (by split <;> decide) (jT_g (by decide) (jT_ret hkk))
  · rw [if_neg hxP]
    have hkk := hk H0 hs hC jf3_refl
    rw [if_neg fun q => hxP q.1] at hkk
    exact jT_pos (by split <;> decide) (jT_g (by decide) (jT_ret hkk))
theorem z13_half {k26 : Nat → Int32 → Int32 → jH → Option (Int32 × jH)} {c : Nat} {a' : Int32} {u : Nat → Nat} (hs : jsh H0) (hu : ∀ i, i < 10 → jI H0 429 (390 + i) = Int32.ofNat (u i)) (hu2 : ∀ i, u i < 67108864) (h10 : u 10 = 0)
    (hk : ∀ H', jf3 (· = 39) H0 H' → zr H' 39 (nv 67108864 u 10 / 2) → jT (k26 428 a' (Int32.ofNat (c + 1)) H') Q) :
    ∀ (d i fu : Nat) (H : jH), i + d = 10 → d < fu → jf3 (· = 39) H0 H → (∀ j, j < i → jI H 429 (390 + j) = Int32.ofNat (hf13 u j)) → (∀ j, i ≤ j → j < 10 → jI H 429 (390 + j) = Int32.ofNat (u j)) → jT (F_13_roots_34 k26 fu 428 a' (Int32.ofNat c) (Int32.ofNat i) H) Q := by
  have hlt : ∀ j, hf13 u j < 67108864 := fun j => by
    unfold hf13
    have := hu2 j
    omega
  intro d
  induction d with
  | zero =>
    intro i fu H hi hfu hfr h1 h2
    obtain ⟨fu, rfl⟩ : ∃ k, fu = k + 1 := ⟨fu - 1, by omega⟩
    obtain rfl : i = 10 := by omega
    unfold F_13_roots_34 B_13_roots_34
    have e1 : Int32.ofNat c + 1 = Int32.ofNat (c + 1) := jo_add (a := c) (b := 1)
    rw [e1]
    refine jT_pos (by decide) (jT_l (hk H hfr ⟨hf13 u, fun j hj => ⟨h1 j hj, hlt j⟩, ?_⟩))
    have := hf13_nv u 10
    rw [h10, Nat.zero_mod, Nat.zero_mul, Nat.add_zero] at this
    omega
  | succ d ih =>
    intro i fu H hi hfu hfr h1 h2
    obtain ⟨fu, rfl⟩ : ∃ k, fu = k + 1 := ⟨fu - 1, by omega⟩
    have hsH := jsh_f3 hs hfr
    have e1 : Int32.ofNat i + 1 = Int32.ofNat (i + 1) := jo_add (a := i) (b := 1)
    have e2 : 390 + Int32.ofNat i = Int32.ofNat (390 + i) := jo_add (a := 390) (b := i)
    have e3 : Int32.ofNat (390 + i) + 1 = Int32.ofNat (390 + (i + 1)) := jo_add (a := 390 + i) (b := 1)
    have lu := hu2 i
    have lu1 := hu2 (i + 1)
    have tail : ∀ s0 : Int32, s0 = Int32.ofNat (u (i + 1)) → jT (B_13_roots_67 (F_13_roots_34 k26 fu) 428 a' (Int32.ofNat c) (Int32.ofNat i) s0 H) Q := fun s0 hs0 => by
      unfold B_13_roots_67
      rw [hs0, sR_428_0 hsH, e2, e1, jo_nat (n := 390 + i) (by omega), h2 i (Nat.le_refl i) (by omega), show (2 : Int32) = Int32.ofNat 2 from rfl, jo_div (by omega) (by decide), jo_rem (by omega) (by decide), show (33554432 : Int32) = Int32.ofNat 33554432 from rfl, jo_mul, jo_add]
      refine jT_g (k13 hsH) (jT_g (k13 hsH) (jT_g (g429 hsH (by omega)) (jT_g (by decide) (jT_g (by decide) (jT_g (g429w hsH (by omega)) (jT_l (jT_l (ih (i + 1) fu _ (by omega) (by omega) (jf3_sI hfr (show (390 + i) / 10 = 39 by omega)) (fun j hj => ?_) fun j hj hj2 => ?_))))))))
      · by_cases e : j = i
        · rw [e]
          exact jI_sIe
        · exact (jI_sIn (by omega)).trans (h1 j (by omega))
      · exact (jI_sIn (by omega)).trans (h2 j (by omega) hj2)
    unfold F_13_roots_34 B_13_roots_34
    refine jT_neg (by rw [show (10 : Int32) = Int32.ofNat 10 from rfl, jo_le (by omega) (by omega)]; omega) ?_
    rw [e1]
    by_cases h9 : i = 9
    · refine jT_pos (by rw [show (10 : Int32) = Int32.ofNat 10 from rfl, jo_le (by omega) (by omega)]; omega) (tail _ ?_)
      rw [h9, h10]
      rfl
    · refine jT_neg (by rw [show (10 : Int32) = Int32.ofNat 10 from rfl, jo_le (by omega) (by omega)]; omega) (jT_g (k13 hsH) ?_)
      rw [sR_428_0 hsH, e2, e3, jo_nat (n := 390 + (i + 1)) (by omega)]
      exact jT_g (g429 hsH (by omega)) (tail _ (h2 (i + 1) (by omega) (by omega)))
end RT13
