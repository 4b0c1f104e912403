/-! Points.multiply of the reference, whole. -/
theorem t256_8 : (4294967296 : Nat) ^ 8 = t256 := by
  unfold t256
  decide +kernel
theorem t256_pos : 0 < t256 := by
  unfold t256
  decide +kernel
theorem mC_le (m : Nat) : mC m ≤ nC := by
  unfold mC
  split
  · decide +kernel
  · exact Nat.le_refl _
theorem mB_le (t : Nat) : mB t ≤ 4294967296 ^ 16 := by
  unfold mB
  split
  · exact Nat.le_refl _
  · split
    · decide +kernel
    · split
      · decide +kernel
      · split
        · decide +kernel
        · decide +kernel
theorem mB_4 : mB 4 = t256 := by
  unfold mB t256
  decide +kernel
theorem mB_0 : mB 0 = t256 * t256 := by
  unfold mB t256
  decide +kernel
theorem mB_W {t V : Nat} (h : V < mB t) : V < W22 := Nat.lt_of_lt_of_le h (Nat.le_trans (mB_le t) (by unfold W22; decide +kernel))
theorem mC_next {m t V : Nat} (h : V < mB t) : V % t256 + V / t256 * mC m < mB (t + 1) := by
  have e := Nat.mod_add_div V t256
  have := mB_next (k := t) (lo := V % t256) (hi := V / t256) (by rw [t256_8]; exact Nat.mod_lt _ t256_pos) (by rw [t256_8, e]; exact h)
  exact Nat.lt_of_le_of_lt (Nat.add_le_add_left (Nat.mul_le_mul_left _ (mC_le m)) _) this.1
theorem mCM' (m : Nat) : t256 = mC m + mM m := (mCM m).symm
theorem mC_mod (m V : Nat) : (V % t256 + V / t256 * mC m) % mM m = V % mM m := by
  have e := Nat.mod_add_div V t256
  have e2 : V = V % t256 + V / t256 * mC m + mM m * (V / t256) := by
    have e3 : t256 * (V / t256) = V / t256 * mC m + mM m * (V / t256) := by
      have : ∀ q, t256 * q = q * mC m + mM m * q := fun q => by rw [mCM' m, Nat.add_mul, Nat.mul_comm (mC m)]
      exact this _
    rw [Nat.add_assoc, ← e3, e]
  have e4 := congrArg (· % mM m) e2
  have e5 : V % mM m = (V % t256 + V / t256 * mC m + mM m * (V / t256)) % mM m := e4
  rw [e5, Nat.add_mul_mod_self_left]
theorem mM_big (m : Nat) : t256 < mM m + mM m ∧ mM m ≤ t256 := by
  unfold mM t256
  split
  · exact ⟨by decide +kernel, by decide +kernel⟩
  · exact ⟨by decide +kernel, by decide +kernel⟩
theorem mM_row {H : jH} {m : Nat} (hC : z13C H) (hm : m < 2) : zr H (8 + m) (mM m) := by
  unfold mM
  rcases (show m = 0 ∨ m = 1 by omega) with e | e
  · rw [if_pos e, e]
    exact hC.1
  · rw [if_neg (by omega), e]
    exact hC.2.1
theorem nv_w21 {w : Nat → Nat} {t : Nat} (hb : ∀ k, k < 22 → w k < 67108864) (h : nv 67108864 w 22 < mB t) : w 21 < 4194304 := by
  have h1 : nv 67108864 w 22 < 67108864 ^ 21 := Nat.lt_of_lt_of_le h (Nat.le_trans (mB_le t) (by decide +kernel))
  have := nv_digit (b := 67108864) (w := w) (n := 22) (i := 21) hb (by decide) (by decide)
  rw [Nat.div_eq_of_lt h1, Nat.zero_mod] at this
  rw [← this]
  decide
theorem nv_w10 {w : Nat → Nat} (hb : ∀ k, k < 22 → w k < 67108864) (h : nv 67108864 w 22 < 2 ^ 256) : nv 67108864 w 10 = nv 67108864 w 22 := by
  have h1 := (nv_wide hb).mp h
  have h2 : nv 67108864 w 22 = nv 67108864 w 10 + 67108864 ^ 10 * nv 67108864 (fun i => w (10 + i)) 12 := nv_cut (b := 67108864) (w := w) (m := 10) 12
  rw [h2, nv_zero (w := fun i => w (10 + i)) fun i hi => h1.2 _ (by omega) (by omega), Nat.mul_zero, Nat.add_zero]
section MUL13
variable {Q : Unit → jH → Prop} {H0 : jH} {a b c m : Nat}
theorem z13_mul136 {V : Nat} {w : Nat → Nat} (ha : a < 48) (hm : m < 2) (ha8 : a ≠ 8 + m) (hs : jsh H0) (hR : zr H0 (8 + m) (mM m)) (hw : zl3 H0 430 w) (hb : ∀ k, k < 22 → w k < 67108864) (hV : nv 67108864 w 10 = V) (hV2 : V < t256)
    (hk : ∀ H', jf3 (· = a) H0 H' → zr H' a (V % mM m) → Q () H') :
    ∀ (d i fu : Nat) (H : jH), i + d = 10 → d < fu → jf3 (· = a) H0 H → (jL H 430 = jL H0 430) → (∀ j, j < i → jI H 429 (10 * a + j) = Int32.ofNat (w j)) → jT (F_13_multiply_136 fu 428 (Int32.ofNat a) (Int32.ofNat (8 + m)) (Int32.ofNat i) H) Q := by
  intro d
  induction d with
  | zero =>
    intro i fu H hi hfu hfr h430 h1
    obtain ⟨fu, rfl⟩ : ∃ k, fu = k + 1 := ⟨fu - 1, by omega⟩
    obtain rfl : i = 10 := by omega
    unfold F_13_multiply_136 B_13_multiply_136 B_13_multiply_187
    have hsH := jsh_f3 hs hfr
    have hz : zr H a V := ⟨w, fun i hi => ⟨h1 i hi, hb i (by omega)⟩, hV⟩
    have hRH := zr_f3 hR hfr fun q => ha8 q.symm
    have hbig := mM_big m
    refine jT_pos (by decide) (jT_g (k13 hsH) (jT_b (z13_compare rfl rfl ha (by omega) hsH hz hRH ?_)))
    by_cases e : V < mM m
    · rw [if_pos e]
      exact jT_pos (by decide) (jT_ret (hk H hfr (by rw [Nat.mod_eq_of_lt e]; exact hz)))
    · rw [if_neg e]
      refine jT_neg (by split <;> decide) (jT_g (k13 hsH) (jT_b (z13_addm rfl rfl rfl ha (by omega) ha8 hsH hz hRH (Nat.le_of_not_lt e) fun H1 hs1 f1 z1 => jT_ret (hk H1 (jf3_trans hfr f1) ?_))))
      rw [Nat.mod_eq_sub_mod (Nat.le_of_not_lt e), Nat.mod_eq_of_lt (by omega)]
      exact z1
  | succ d ih =>
    intro i fu H hi hfu hfr h430 h1
    obtain ⟨fu, rfl⟩ : ∃ k, fu = k + 1 := ⟨fu - 1, by omega⟩
    unfold F_13_multiply_136 B_13_multiply_136
    have hsH := jsh_f3 hs hfr
    have e1 : Int32.ofNat i + 1 = Int32.ofNat (i + 1) := jo_add (a := i) (b := 1)
    have hL : jL H 430 i = Int64.ofNat (w i) := by
      rw [h430]
      exact hw i (by omega)
    have hbi := hb i (by omega)
    refine jT_neg (by rw [show (10 : Int32) = Int32.ofNat 10 from rfl, jo_le (by omega) (by omega)]; omega) (jT_g (k13 hsH) (jT_g (k13 hsH) ?_))
    rw [sR_428_1 hsH, sR_428_0 hsH, e10, jo_nat (n := 10 * a + i) (by omega), jo_nat (n := i) (by omega), hL, lw_i32, Nat.mod_eq_of_lt (by omega), e1]
    refine jT_g (g430 hsH (by omega)) (jT_g (g429w hsH (by omega)) (jT_l (jT_l (ih (i + 1) fu _ (by omega) (by omega) (jf3_sI hfr (show (10 * a + i) / 10 = a by omega)) h430 fun j hj => ?_))))
    by_cases e : j = i
    · rw [e]
      exact jI_sIe
    · exact (jI_sIn (by omega)).trans (h1 j (by omega))
theorem z13_mul111 {X : Nat} (ha : a < 48) (hm : m < 2) (ha8 : a ≠ 8 + m) (hs : jsh H0) (hC : z13C H0) (hk : ∀ H', jf3 (· = a) H0 H' → zr H' a (X % mM m) → Q () H') :
    ∀ (d t fu : Nat) (w : Nat → Nat) (H : jH), t + d = 4 → d < fu → jf3 (fun _ => False) H0 H → zl3 H 430 w → (∀ k, k < 22 → w k < 67108864) → nv 67108864 w 22 < mB t → nv 67108864 w 22 % mM m = X % mM m → jT (F_13_multiply_111 fu 428 (Int32.ofNat a) (Int32.ofNat (8 + m)) H) Q := by
  have fin : ∀ (w : Nat → Nat) (H : jH), jf3 (fun _ => False) H0 H → zl3 H 430 w → (∀ k, k < 22 → w k < 67108864) → nv 67108864 w 22 < t256 → nv 67108864 w 22 % mM m = X % mM m → jT (F_13_multiply_136 jfuel 428 (Int32.ofNat a) (Int32.ofNat (8 + m)) (Int32.ofNat 0) H) Q := fun w H hfr hw hb hV hX => by
    have hsH := jsh_f3 hs hfr
    have hCH := z13C_f3 hC hfr ⟨id, id, id, id, id, id⟩
    have hV10 := nv_w10 hb hV
    exact z13_mul136 (H0 := H) ha hm ha8 hsH (mM_row hCH hm) hw hb hV10 hV (fun H' f' z' => hk H' (jf3_trans (jf3_mono hfr fun _ q => q.elim) f') (by rw [← hX]; exact z')) 10 0 jfuel H rfl (by unfold jfuel; omega) jf3_refl rfl fun j hj => absurd hj (Nat.not_lt_zero j)
  intro d
  induction d with
  | zero =>
    intro t fu w H ht hfu hfr hw hb hV hX
    obtain ⟨fu, rfl⟩ : ∃ k, fu = k + 1 := ⟨fu - 1, by omega⟩
    have ht4 : t = 4 := by omega
    rw [ht4, mB_4] at hV
    unfold F_13_multiply_111 B_13_multiply_111
    have hsH := jsh_f3 hs hfr
    refine jT_g (k13 hsH) (jT_b (z13_isWide hsH hw hb ?_))
    have hV3 : nv 67108864 w 22 < 2 ^ 256 := hV
    rw [if_pos hV3]
    exact jT_pos rfl (fin w H hfr hw hb hV hX)
  | succ d ih =>
    intro t fu w H ht hfu hfr hw hb hV hX
    obtain ⟨fu, rfl⟩ : ∃ k, fu = k + 1 := ⟨fu - 1, by omega⟩
    unfold F_13_multiply_111 B_13_multiply_111
    have hsH := jsh_f3 hs hfr
    refine jT_g (k13 hsH) (jT_b (z13_isWide hsH hw hb ?_))
    by_cases e : nv 67108864 w 22 < 2 ^ 256
    · rw [if_pos e]
      exact jT_pos rfl (fin w H hfr hw hb e hX)
    · rw [if_neg e]
      have hCH := z13C_f3 hC hfr ⟨id, id, id, id, id, id⟩
      have em : (10 : Int32) * (Int32.ofNat (8 + m) - 8) = Int32.ofNat (10 * m) := by
        rcases (show m = 0 ∨ m = 1 by omega) with e | e <;> rw [e] <;> decide
      have hn := mC_next (m := m) hV
      refine jT_neg (by decide) (jT_g (k13 hsH) (jT_b (z13_fold (M0 := fun _ => False) em hm hsH hCH ⟨id, id, id, id, id, id⟩ hw hb (nv_w21 hb hV) (mB_W hn) fun H1 w1 f1 z1 b1 v1 => ih (t + 1) fu w1 H1 (by omega) (by omega) (jf3_trans hfr f1) z1 b1 (by rw [v1]; exact hn) (by rw [v1, mC_mod]; exact hX))))
theorem z13_mul27 {u v : Nat → Nat} (ha : a < 48) (hb : b < 48) (hc : c < 48) (hm : m < 2) (ha8 : a ≠ 8 + m) (hs : jsh H0) (hC : z13C H0) (hu : ∀ i, i < 10 → jI H0 429 (10 * b + i) = Int32.ofNat (u i) ∧ u i < 67108864) (hv : ∀ i, i < 10 → jI H0 429 (10 * c + i) = Int32.ofNat (v i) ∧ v i < 67108864)
    (lu : nv 67108864 u 10 < t256) (lv : nv 67108864 v 10 < t256) (hk : ∀ H', jf3 (· = a) H0 H' → zr H' a (nv 67108864 u 10 * nv 67108864 v 10 % mM m) → Q () H') :
    ∀ (d i fu : Nat) (w : Nat → Nat) (H : jH), i + d = 10 → d < fu → jf3 (fun _ => False) H0 H → zl3 H 430 w → nv 67108864 w 22 = nv 67108864 u i * nv 67108864 v 10 → (∀ k, w k ≤ 0 + i * 4503599627370496) → jT (F_13_multiply_27 fu 428 (Int32.ofNat a) (Int32.ofNat b) (Int32.ofNat c) (Int32.ofNat (8 + m)) (Int32.ofNat i) H) Q := by
  intro d
  induction d with
  | zero =>
    intro i fu w H hi hfu hfr hw hval hbd
    obtain ⟨fu, rfl⟩ : ∃ k, fu = k + 1 := ⟨fu - 1, by omega⟩
    obtain rfl : i = 10 := by omega
    unfold F_13_multiply_27 B_13_multiply_27
    have hsH := jsh_f3 hs hfr
    have hlt : nv 67108864 u 10 * nv 67108864 v 10 < mB 0 := by
      rw [mB_0]
      exact Nat.mul_lt_mul'' lu lv
    refine jT_pos (by decide) (jT_g (k13 hsH) (jT_b (z13_carry (M0 := fun _ => False) hsH hw (fun k _ => Nat.lt_of_le_of_lt (hbd k) (by decide)) hval (mB_W hlt) fun H1 w1 f1 _ z1 b1 v1 => ?_)))
    have f01 := jf3_trans hfr f1
    exact z13_mul111 (H0 := H0) ha hm ha8 hs hC hk 4 0 jfuel w1 H1 rfl (by unfold jfuel; omega) f01 z1 b1 (by rw [v1]; exact hlt) (by rw [v1])
  | succ d ih =>
    intro i fu w H hi hfu hfr hw hval hbd
    obtain ⟨fu, rfl⟩ : ∃ k, fu = k + 1 := ⟨fu - 1, by omega⟩
    unfold F_13_multiply_27 B_13_multiply_27
    have hsH := jsh_f3 hs hfr
    have vu : jI H 429 (10 * b + i) = Int32.ofNat (u i) := (hfr.2.2.2.2.2.2 429 _ fun q => q.2).trans (hu i (by omega)).1
    have lui := (hu i (by omega)).2
    refine jT_neg (by rw [show (10 : Int32) = Int32.ofNat 10 from rfl, jo_le (by omega) (by omega)]; omega) (jT_g (k13 hsH) ?_)
    rw [sR_428_0 hsH, e10, jo_nat (n := 10 * b + i) (by omega), vu, lo_i32 (by omega)]
    refine jT_g (g429 hsH (by omega)) (jT_l (z13_mul52 (M0 := fun _ => False) (H0 := H) (w0 := w) hc (by omega) hsH lui (v := v) (fun j hj => ⟨(hfr.2.2.2.2.2.2 429 _ fun q => q.2).trans (hv j hj).1, (hv j hj).2⟩) (fun H1 w1 f1 z1 v1 b1 => ?_) (fun _ q => q) 10 0 jfuel w H rfl (by unfold jfuel; omega) jf3_refl hw (by rw [show nv 67108864 v 0 = 0 from rfl, Nat.mul_zero, Nat.zero_mul, Nat.add_zero]) (fun k => Nat.le_add_right _ _) fun _ _ => rfl))
    refine ih (i + 1) fu w1 H1 (by omega) (by omega) (jf3_trans hfr f1) z1 ?_ fun k => bd_step (b1 k) (hbd k)
    rw [v1, hval]
    show _ = (nv 67108864 u i + u i * 67108864 ^ i) * _
    rw [Nat.add_mul, Nat.mul_assoc, Nat.mul_assoc, Nat.mul_comm (nv 67108864 v 10) (67108864 ^ i)]
theorem z13_mul {x y : Nat} {a' b' c' m' : Int32} (ea : a' = Int32.ofNat a) (eb : b' = Int32.ofNat b) (ec : c' = Int32.ofNat c) (em : m' = Int32.ofNat (8 + m)) (ha : a < 48) (hb : b < 48) (hc : c < 48) (hm : m < 2) (ha8 : a ≠ 8 + m) (hs : jsh H0) (hC : z13C H0) (hx : zr H0 b x) (hy : zr H0 c y) (lx : x < t256) (ly : y < t256)
    (hk : ∀ H', jsh H' → jf3 (· = a) H0 H' → zr H' a (x * y % mM m) → Q () H') : jT (F_13_multiply 428 a' b' c' m' H0) Q := by
  subst ea
  subst eb
  subst ec
  subst em
  obtain ⟨u, u1, u2⟩ := hx
  obtain ⟨v, v1, v2⟩ := hy
  have loop : ∀ (d i fu : Nat) (H : jH), i + d = 22 → d < fu → jf3 (fun _ => False) H0 H → (∀ j, j < i → jL H 430 j = Int64.ofNat 0) → jT (F_13_multiply_3 fu 428 (Int32.ofNat a) (Int32.ofNat b) (Int32.ofNat c) (Int32.ofNat (8 + m)) (Int32.ofNat i) H) Q := by
    intro d
    induction d with
    | zero =>
      intro i fu H hi hfu hfr h1
      obtain ⟨fu, rfl⟩ : ∃ k, fu = k + 1 := ⟨fu - 1, by omega⟩
      have hi22 : i = 22 := by omega
      unfold F_13_multiply_3 B_13_multiply_3
      refine jT_pos (by rw [hi22]; decide) (z13_mul27 (H0 := H0) (u := u) (v := v) ha hb hc hm ha8 hs hC u1 v1 (by rw [u2]; exact lx) (by rw [v2]; exact ly) (fun H' f' z' => hk H' (jsh_f3 hs f') f' (by rw [u2, v2] at z'; exact z')) 10 0 jfuel (fun _ => 0) H rfl (by unfold jfuel; omega) hfr (fun k hk2 => h1 k (by omega)) (by rw [nv_zero fun _ _ => rfl, show nv 67108864 u 0 = 0 from rfl, Nat.zero_mul]) fun k => Nat.zero_le _)
    | succ d ih =>
      intro i fu H hi hfu hfr h1
      obtain ⟨fu, rfl⟩ : ∃ k, fu = k + 1 := ⟨fu - 1, by omega⟩
      unfold F_13_multiply_3 B_13_multiply_3
      have hsH := jsh_f3 hs hfr
      have e1 : Int32.ofNat i + 1 = Int32.ofNat (i + 1) := jo_add (a := i) (b := 1)
      refine jT_neg (by rw [show (22 : Int32) = Int32.ofNat 22 from rfl, jo_le (by omega) (by omega)]; omega) (jT_g (k13 hsH) ?_)
      rw [sR_428_1 hsH, jo_nat (n := i) (by omega), e1]
      refine jT_g (g430 hsH (by omega)) (jT_l (jT_l (ih (i + 1) fu _ (by omega) (by omega) (jf3_sL hfr (Or.inl rfl)) fun j hj => ?_)))
      by_cases e : j = i
      · rw [e]
        exact jup_eq
      · exact (jup_i e).trans (h1 j (by omega))
  unfold F_13_multiply
  exact loop 22 0 jfuel H0 rfl (by unfold jfuel; omega) jf3_refl fun j hj => absurd hj (Nat.not_lt_zero j)
end MUL13
