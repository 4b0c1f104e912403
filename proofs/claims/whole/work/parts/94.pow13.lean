/-! The reference's sums, powers and quotients. -/
theorem t256_2 : t256 + t256 < 67108864 ^ 10 := by
  unfold t256
  decide +kernel
theorem mM_lt {m x : Nat} (h : x < mM m) : x < t256 := Nat.lt_of_lt_of_le h (mM_big m).2
theorem mM_sum {x y : Nat} (hx : x < t256) (hy : y < t256) : x + y < 67108864 ^ 10 := Nat.lt_trans (Nat.add_lt_add hx hy) t256_2
theorem mM_pos (m : Nat) : 1 < mM m := by
  unfold mM
  split <;> decide +kernel
theorem jo_and1 (x : Nat) : Int32.ofNat x &&& 1 = Int32.ofNat (x % 2) := jo_mask (m := x) (k := 1) (by decide)
theorem pow_bit {x e k M : Nat} : x ^ (e / 2 ^ k) % M = (x ^ (e / 2 ^ (k + 1)) % M * (x ^ (e / 2 ^ (k + 1)) % M) % M * (if e / 2 ^ k % 2 = 0 then 1 else x) % M) := by
  have h1 : e / 2 ^ (k + 1) = e / 2 ^ k / 2 := by rw [Nat.pow_succ, Nat.div_div_eq_div_mul]
  rw [h1]
  generalize e / 2 ^ k = f
  have h2 : f = f / 2 + f / 2 + f % 2 := by omega
  have h3 : x ^ f = x ^ (f / 2) * x ^ (f / 2) * x ^ (f % 2) := by rw [← Nat.pow_add, ← Nat.pow_add, ← h2]
  have h4 : x ^ (f % 2) = if f % 2 = 0 then 1 else x := by
    rcases (show f % 2 = 0 ∨ f % 2 = 1 by omega) with e | e
    · rw [e, if_pos rfl, Nat.pow_zero]
    · rw [e, if_neg (by decide), Nat.pow_one]
  rw [h3, h4, ← Nat.mul_mod, Nat.mod_mul_mod]
section PM13
variable {Q : Unit → jH → Prop} {H : jH} {a b c m x y : Nat} {a' b' c' m' : Int32}
theorem z13_plus (ea : a' = Int32.ofNat a) (eb : b' = Int32.ofNat b) (ec : c' = Int32.ofNat c) (em : m' = Int32.ofNat (8 + m)) (ha : a < 48) (hb : b < 48) (hc : c < 48) (hc37 : c ≠ 37) (hm : m < 2) (hs : jsh H) (hC : z13C H) (hx : zr H b x) (hy : zr H c y) (lx : x < mM m) (ly : y < mM m)
    (hk : ∀ H', jsh H' → jf3 (fun j => j = a ∨ j = 37) H H' → zr H' a ((x + y) % mM m) → Q () H') : jT (F_13_plus 428 a' b' c' m' H) Q := by
  unfold F_13_plus B_13_plus_35
  have hM := mM_row hC hm
  refine jT_g (k13 hs) (jT_b (z13_copy (a := 37) rfl eb (by decide) hb hs hx fun H1 s1 f1 z1 => ?_))
  have y1 := zr_f3 hy f1 hc37
  have m1 := zr_f3 hM f1 (by omega)
  refine jT_g (k13 s1) (jT_b (z13_addp (a := 37) rfl ec rfl (by decide) hc (fun q => hc37 q.symm) s1 z1 y1 (mM_sum (mM_lt lx) (mM_lt ly)) fun H2 s2 f2 z2 => ?_))
  have m2 := zr_f3 m1 f2 (by omega)
  have f02 := jf3_trans f1 f2
  refine jT_g (k13 s2) (jT_b (z13_compare (a := 37) rfl em (by decide) (by omega) s2 z2 m2 ?_))
  by_cases e : x + y < mM m
  · rw [if_pos e]
    refine jT_pos (by decide) (jT_g (k13 s2) (jT_b (z13_copy (b := 37) ea rfl ha (by decide) s2 z2 fun H3 s3 f3 z3 => jT_ret (hk H3 s3 (jf3_trans (jf3_mono f02 fun j q => Or.inr q) (jf3_mono f3 fun j q => Or.inl q)) (by rw [Nat.mod_eq_of_lt e]; exact z3)))))
  · rw [if_neg e]
    refine jT_neg (by split <;> decide) (jT_g (k13 s2) (jT_b (z13_addm (a := 37) rfl em rfl (by decide) (by omega) (by omega) s2 z2 m2 (Nat.le_of_not_lt e) fun H3 s3 f3 z3 => ?_)))
    refine jT_g (k13 s3) (jT_b (z13_copy (b := 37) ea rfl ha (by decide) s3 z3 fun H4 s4 f4 z4 => jT_ret (hk H4 s4 (jf3_trans (jf3_mono (jf3_trans f02 f3) fun j q => Or.inr q) (jf3_mono f4 fun j q => Or.inl q)) ?_)))
    rw [Nat.mod_eq_sub_mod (Nat.le_of_not_lt e), Nat.mod_eq_of_lt (by omega)]
    exact z4
theorem z13_minus (ea : a' = Int32.ofNat a) (eb : b' = Int32.ofNat b) (ec : c' = Int32.ofNat c) (em : m' = Int32.ofNat (8 + m)) (ha : a < 48) (hb : b < 48) (hc : c < 48) (hc37 : c ≠ 37) (hm : m < 2) (hs : jsh H) (hC : z13C H) (hx : zr H b x) (hy : zr H c y) (lx : x < mM m) (ly : y < mM m)
    (hk : ∀ H', jsh H' → jf3 (fun j => j = a ∨ j = 37) H H' → zr H' a ((x + (mM m - y)) % mM m) → Q () H') : jT (F_13_minus 428 a' b' c' m' H) Q := by
  unfold F_13_minus B_13_minus_26
  have hM := mM_row hC hm
  refine jT_g (k13 hs) (jT_b (z13_copy (a := 37) rfl eb (by decide) hb hs hx fun H1 s1 f1 z1 => ?_))
  have y1 := zr_f3 hy f1 hc37
  have m1 := zr_f3 hM f1 (by omega)
  refine jT_g (k13 s1) (jT_b (z13_compare (a := 37) rfl ec (by decide) hc s1 z1 y1 ?_))
  by_cases e : x < y
  · rw [if_pos e]
    refine jT_neg (by decide) (jT_g (k13 s1) (jT_b (z13_addp (a := 37) rfl em rfl (by decide) (by omega) (by omega) s1 z1 m1 (mM_sum (mM_lt lx) (Nat.lt_of_le_of_lt (Nat.le_refl _) ?_)) fun H2 s2 f2 z2 => ?_)))
    · unfold mM t256
      split <;> decide +kernel
    have y2 := zr_f3 y1 f2 hc37
    refine jT_g (k13 s2) (jT_b (z13_addm (a := 37) rfl ec rfl (by decide) hc (fun q => hc37 q.symm) s2 z2 y2 (by omega) fun H3 s3 f3 z3 => ?_))
    refine jT_g (k13 s3) (jT_b (z13_copy (b := 37) ea rfl ha (by decide) s3 z3 fun H4 s4 f4 z4 => jT_ret (hk H4 s4 (jf3_trans (jf3_mono (jf3_trans (jf3_trans f1 f2) f3) fun j q => Or.inr q) (jf3_mono f4 fun j q => Or.inl q)) ?_)))
    rw [Nat.mod_eq_of_lt (by omega), show x + (mM m - y) = x + mM m - y by omega]
    exact z4
  · rw [if_neg e]
    refine jT_pos (by split <;> decide) (jT_g (k13 s1) (jT_b (z13_addm (a := 37) rfl ec rfl (by decide) hc (fun q => hc37 q.symm) s1 z1 y1 (by omega) fun H3 s3 f3 z3 => ?_)))
    refine jT_g (k13 s3) (jT_b (z13_copy (b := 37) ea rfl ha (by decide) s3 z3 fun H4 s4 f4 z4 => jT_ret (hk H4 s4 (jf3_trans (jf3_mono (jf3_trans f1 f3) fun j q => Or.inr q) (jf3_mono f4 fun j q => Or.inl q)) ?_)))
    rw [show x + (mM m - y) = x - y + mM m by omega, Nat.add_mod_right, Nat.mod_eq_of_lt (by omega)]
    exact z4
end PM13
section BIT13
variable {Q : Int32 → jH → Prop} {H : jH}
theorem z13_bit {a k n : Nat} {a' k' : Int32} (ea : a' = Int32.ofNat a) (ek : k' = Int32.ofNat k) (ha : a < 48) (hk : k < 260) (hs : jsh H) (hn : zr H a n) (hQ : Q (Int32.ofNat (n / 2 ^ k % 2)) H) : jT (F_13_bit 428 a' k' H) Q := by
  subst ea
  subst ek
  obtain ⟨u, u1, u2⟩ := hn
  unfold F_13_bit B_13_bit_30
  have hv := u1 (k / 26) (by omega)
  have hlt := hv.2
  rw [sR_428_0 hs, show (26 : Int32) = Int32.ofNat 26 from rfl, jo_div (by omega) (by decide), jo_rem (by omega) (by decide), e10, jo_nat (n := 10 * a + k / 26) (by omega), hv.1, jo_shr (by omega) (by omega), jo_and1]
  have e : n / 2 ^ k % 2 = u (k / 26) / 2 ^ (k % 26) % 2 := by
    have hd := nv_digit (b := 67108864) (w := u) (n := 10) (i := k / 26) (fun i hi => (u1 i hi).2) (by decide) (by omega)
    rw [u2] at hd
    rw [← hd]
    have e1 : (2 : Nat) ^ k = 67108864 ^ (k / 26) * 2 ^ (k % 26) := by
      rw [show (67108864 : Nat) = 2 ^ 26 by decide, ← Nat.pow_mul, ← Nat.pow_add, Nat.div_add_mod]
    rw [e1, ← Nat.div_div_eq_div_mul]
    generalize n / 67108864 ^ (k / 26) = z
    have h26 : k % 26 < 26 := Nat.mod_lt _ (by decide)
    generalize k % 26 = s at h26
    have e2 : (67108864 : Nat) = 2 ^ s * 2 ^ (26 - s) := by rw [← Nat.pow_add, show s + (26 - s) = 26 by omega]
    rw [e2, Nat.mod_mul_right_div_self]
    have e3 : (2 : Nat) ^ (26 - s) = 2 * 2 ^ (25 - s) := by rw [Nat.mul_comm, ← Nat.pow_succ, show (25 - s).succ = 26 - s by omega]
    rw [e3, Nat.mod_mul_right_mod]
  rw [e] at hQ
  refine jT_g (k13 hs) (jT_g (by decide) (jT_g (g429 hs (by omega)) (jT_g (by decide) ?_)))
  rcases (show u (k / 26) / 2 ^ (k % 26) % 2 = 0 ∨ u (k / 26) / 2 ^ (k % 26) % 2 = 1 by omega) with e | e
  · rw [e] at hQ ⊢
    exact jT_pos (by decide) (jT_g (by decide) (jT_ret hQ))
  · rw [e] at hQ ⊢
    exact jT_neg (fun q => q rfl) (jT_g (by decide) (jT_ret hQ))
theorem z13_isOdd {a n : Nat} {a' : Int32} (ea : a' = Int32.ofNat a) (ha : a < 48) (hs : jsh H) (hn : zr H a n) (hQ : Q (Int32.ofNat (n % 2)) H) : jT (F_13_isOdd 428 a' H) Q := by
  subst ea
  obtain ⟨u, u1, u2⟩ := hn
  unfold F_13_isOdd B_13_isOdd_20
  have hv := u1 0 (by omega)
  have hlt := hv.2
  have e0 : (10 : Int32) * Int32.ofNat a = Int32.ofNat (10 * a) := jo_mul (a := 10) (b := a)
  have e : n % 2 = u 0 % 2 := by
    have hd := nv_digit (b := 67108864) (w := u) (n := 10) (i := 0) (fun i hi => (u1 i hi).2) (by decide) (by omega)
    rw [u2] at hd
    rw [← hd, Nat.pow_zero, Nat.div_one]
    omega
  rw [Nat.add_zero] at hv
  rw [sR_428_0 hs, e0, jo_nat (n := 10 * a) (by omega), hv.1, show (2 : Int32) = Int32.ofNat 2 from rfl, jo_rem (by omega) (by decide)]
  rw [e] at hQ
  refine jT_g (k13 hs) (jT_g (g429 hs (by omega)) (jT_g (by decide) ?_))
  rcases (show u 0 % 2 = 0 ∨ u 0 % 2 = 1 by omega) with e | e
  · rw [e] at hQ ⊢
    exact jT_pos (by decide) (jT_g (by decide) (jT_ret hQ))
  · rw [e] at hQ ⊢
    exact jT_neg (fun q => q rfl) (jT_g (by decide) (jT_ret hQ))
end BIT13
section POW13
variable {Q : Unit → jH → Prop} {H0 : jH} {a b c m x y : Nat} {a' b' c' m' : Int32}
theorem z13_power20 {e : Nat} (ha : a < 48) (hm : m < 2) (hs : jsh H0) (hC : z13C H0) (lx : x < mM m)
    (hk : ∀ H', jsh H' → jf3 (fun j => j = a ∨ j = 38 ∨ j = 44) H0 H' → zr H' a (x ^ e % mM m) → Q () H') :
    ∀ (k fu : Nat) (H : jH), k ≤ 256 → k < fu → jf3 (fun j => j = 38 ∨ j = 44) H0 H → zr H 38 (x ^ (e / 2 ^ k) % mM m) → zr H 44 x → zr H 39 e → jT (F_13_power_20 fu 428 (Int32.ofNat a) (Int32.ofNat (8 + m)) (Int32.ofInt (k - 1 : Int)) H) Q := by
  intro k
  induction k with
  | zero =>
    intro fu H h256 hfu hfr h38 h44 h39
    obtain ⟨fu, rfl⟩ : ∃ k, fu = k + 1 := ⟨fu - 1, by omega⟩
    unfold F_13_power_20 B_13_power_20
    have hsH := jsh_f3 hs hfr
    rw [Nat.pow_zero, Nat.div_one] at h38
    exact jT_pos (by decide) (jT_g (k13 hsH) (jT_b (z13_copy (b := 38) rfl rfl ha (by decide) hsH h38 fun H1 s1 f1 z1 => jT_ret (hk H1 s1 (jf3_trans (jf3_mono hfr fun j q => Or.inr q) (jf3_mono f1 fun j q => Or.inl q)) z1))))
  | succ k ih =>
    intro fu H h256 hfu hfr h38 h44 h39
    obtain ⟨fu, rfl⟩ : ∃ k, fu = k + 1 := ⟨fu - 1, by omega⟩
    unfold F_13_power_20 B_13_power_20 B_13_power_58
    have hsH := jsh_f3 hs hfr
    have hCH := z13C_f3 hC hfr ⟨by decide, by decide, by decide, by decide, by decide, by decide⟩
    have ek : Int32.ofInt (((k + 1 : Nat) : Int) - 1) = Int32.ofNat k := by
      rw [show ((k + 1 : Nat) : Int) - 1 = (k : Int) by omega]
      exact (ji_ofInt (by omega)).symm
    have ek1 : Int32.ofNat k + (-1) = Int32.ofInt ((k : Int) - 1) := by
      rw [ji_ofInt (by omega), show (-1 : Int32) = Int32.ofInt (-1) from by decide, ji_add]
      rfl
    have hpos : 0 < mM m := Nat.lt_trans (by decide) (mM_pos m)
    have l38 := mM_lt (Nat.mod_lt (x ^ (e / 2 ^ (k + 1))) hpos)
    rw [ek, ek1]
    refine jT_neg (by rw [show (0 : Int32) = Int32.ofNat 0 from rfl, jo_lt (by omega) (by decide)]; omega) (jT_g (k13 hsH) (jT_b (z13_mul (a := 38) (b := 38) (c := 38) rfl rfl rfl rfl (by decide) (by decide) (by decide) hm (by omega) hsH hCH h38 h38 l38 l38 fun H1 s1 f1 z1 => ?_)))
    have z39 := zr_f3 h39 f1 (by decide)
    have z44 := zr_f3 h44 f1 (by decide)
    have C1 := z13C_f3 hCH f1 ⟨by decide, by decide, by decide, by decide, by decide, by decide⟩
    have f01 := jf3_trans hfr (jf3_mono f1 fun j q => Or.inl q)
    refine jT_g (k13 s1) (jT_b (z13_bit (a := 39) rfl rfl (by decide) (by omega) s1 z39 ?_))
    have hp := pow_bit (x := x) (e := e) (k := k) (M := mM m)
    rcases (show e / 2 ^ k % 2 = 0 ∨ e / 2 ^ k % 2 = 1 by omega) with q | q
    · rw [q, if_pos rfl, Nat.mul_one, Nat.mod_mod] at hp
      rw [q]
      exact jT_pos rfl (jT_l (ih fu H1 (by omega) (by omega) f01 (by rw [hp]; exact z1) z44 z39))
    · rw [q, if_neg (by decide)] at hp
      rw [q]
      have l1 := mM_lt (Nat.mod_lt (x ^ (e / 2 ^ (k + 1)) % mM m * (x ^ (e / 2 ^ (k + 1)) % mM m)) hpos)
      refine jT_neg (by decide) (jT_g (k13 s1) (jT_b (z13_mul (a := 38) (b := 38) (c := 44) rfl rfl rfl rfl (by decide) (by decide) (by decide) hm (by omega) s1 C1 z1 z44 l1 (mM_lt lx) fun H2 s2 f2 z2 => ?_)))
      exact jT_l (ih fu H2 (by omega) (by omega) (jf3_trans f01 (jf3_mono f2 fun j q => Or.inl q)) (by rw [hp]; exact z2) (zr_f3 z44 f2 (by decide)) (zr_f3 z39 f2 (by decide)))
theorem z13_power {e : Nat} (ea : a' = Int32.ofNat a) (eb : b' = Int32.ofNat b) (em : m' = Int32.ofNat (8 + m)) (ha : a < 48) (hb : b < 48) (hm : m < 2) (hs : jsh H0) (hC : z13C H0) (hx : zr H0 b x) (lx : x < mM m) (he : zr H0 39 e) (le : e < t256)
    (hk : ∀ H', jsh H' → jf3 (fun j => j = a ∨ j = 38 ∨ j = 44) H0 H' → zr H' a (x ^ e % mM m) → Q () H') : jT (F_13_power 428 a' b' m' H0) Q := by
  subst ea
  subst em
  unfold F_13_power
  have ke : ∀ {H' : jH}, zr H' 39 e → e / 2 ^ 256 = 0 := fun _ => Nat.div_eq_of_lt le
  refine jT_g (k13 hs) (jT_b (z13_copy (a := 44) rfl eb (by decide) hb hs hx fun H1 s1 f1 z1 => ?_))
  have h20 := zr_f3 hC.2.2.2.2.1 f1 (by decide)
  refine jT_g (k13 s1) (jT_b (z13_copy (a := 38) (b := 20) rfl rfl (by decide) (by decide) s1 h20 fun H2 s2 f2 z2 => ?_))
  exact z13_power20 (e := e) ha hm hs hC lx hk 256 jfuel H2 (Nat.le_refl _) (by unfold jfuel; omega) (jf3_trans (jf3_mono f1 fun j q => Or.inr q) (jf3_mono f2 fun j q => Or.inl q)) (by rw [ke he, Nat.pow_zero, Nat.mod_eq_of_lt (mM_pos m)]; exact z2) (zr_f3 z1 f2 (by decide)) (zr_f3 (zr_f3 he f1 (by decide)) f2 (by decide))
end POW13
