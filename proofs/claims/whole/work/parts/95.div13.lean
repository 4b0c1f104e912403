/-! The reference's quotients; its field; a number's rows as members of the field. -/
theorem mM_low (m : Nat) : 2 ≤ mM m % 67108864 := by
  unfold mM
  split <;> decide +kernel
section DIV13
variable {Q : Unit → jH → Prop} {H0 : jH} {a b c m x y : Nat} {a' b' c' m' : Int32}
def zSd (a : Nat) : Nat → Prop := fun j => j = a ∨ j = 38 ∨ j = 39 ∨ j = 44 ∨ j = 45 ∨ j = 46
theorem z13_divide (ea : a' = Int32.ofNat a) (eb : b' = Int32.ofNat b) (ec : c' = Int32.ofNat c) (em : m' = Int32.ofNat (8 + m)) (ha : a < 48) (hb : b < 48) (hc : c < 48) (hb2 : b ≠ 39) (hc2 : c ≠ 39 ∧ c ≠ 45) (hm : m < 2) (ha8 : a ≠ 8 + m) (hs : jsh H0) (hC : z13C H0) (hx : zr H0 b x) (hy : zr H0 c y) (lx : x < mM m) (ly : y < mM m)
    (hk : ∀ H', jsh H' → jf3 (zSd a) H0 H' → zr H' a (x * (y ^ (mM m - 2) % mM m) % mM m) → Q () H') : jT (F_13_divide 428 a' b' c' m' H0) Q := by
  unfold F_13_divide
  have hM := mM_row hC hm
  refine jT_g (k13 hs) (jT_b (z13_copy (a := 39) (b := 8 + m) rfl em (by decide) (by omega) hs hM fun H1 s1 f1 z1 => ?_))
  obtain ⟨u, u1, u2⟩ := z1
  have hd := nv_digit (b := 67108864) (w := u) (n := 10) (i := 0) (fun i hi => (u1 i hi).2) (by decide) (by omega)
  rw [u2, Nat.pow_zero, Nat.div_one] at hd
  have hlow := mM_low m
  rw [hd] at hlow
  have v0 : jI H1 429 390 = Int32.ofNat (u 0) := (u1 0 (by omega)).1
  have l0 := (u1 0 (by omega)).2
  have esub : Int32.ofNat (u 0) - 2 = Int32.ofNat (u 0 - 2) := jo_sub (a := u 0) (b := 2) hlow
  rw [sR_428_0 s1, show (390 : Int32).toNatClampNeg = 390 from rfl, v0, esub]
  refine jT_g (k13 s1) (jT_g (g429 s1 (k := 390) (by decide)) (jT_g (g429w s1 (k := 390) (by decide)) (jT_l ?_)))
  have f2 : jf3 (zSd a) H0 (jsI H1 429 390 (Int32.ofNat (u 0 - 2))) := jf3_sI (jf3_mono f1 fun j q => Or.inr (Or.inr (Or.inl q))) (Or.inr (Or.inr (Or.inl (by decide))))
  have f12 : jf3 (· = 39) H1 (jsI H1 429 390 (Int32.ofNat (u 0 - 2))) := jf3_sI jf3_refl (by decide)
  have z39 : zr (jsI H1 429 390 (Int32.ofNat (u 0 - 2))) 39 (mM m - 2) := by
    refine ⟨nup u 0 (u 0 - 2), fun i hi => ?_, ?_⟩
    · unfold nup
      by_cases e : i = 0
      · rw [if_pos e, e]
        exact ⟨jI_sIe, by omega⟩
      · rw [if_neg e]
        exact ⟨(jI_sIn (by omega)).trans (u1 i hi).1, (u1 i hi).2⟩
    · have hup := nv_up (b := 67108864) (w := u) (i := 0) (v := u 0 - 2) (n := 10) (by omega)
      rw [u2, Nat.pow_zero, Nat.mul_one, Nat.mul_one] at hup
      omega
  have xb := zr_f3 (zr_f3 hx f1 hb2) f12 hb2
  have yc := zr_f3 (zr_f3 hy f1 hc2.1) f12 hc2.1
  have C2 := z13C_f3 (z13C_f3 hC f1 ⟨by decide, by decide, by decide, by decide, by decide, by decide⟩) f12 ⟨by decide, by decide, by decide, by decide, by decide, by decide⟩
  have s2 := jsh_f3 hs f2
  generalize jsI H1 429 390 (Int32.ofNat (u 0 - 2)) = H2 at f2 f12 z39 xb yc C2 s2 ⊢
  refine jT_g (k13 s2) (jT_b (z13_copy (a := 45) rfl eb (by decide) hb s2 xb fun H3 s3 f3 z3 => ?_))
  have C3 := z13C_f3 C2 f3 ⟨by decide, by decide, by decide, by decide, by decide, by decide⟩
  have hlt : mM m - 2 < t256 := by
    have := (mM_big m).2
    have := mM_pos m
    omega
  refine jT_g (k13 s3) (jT_b (z13_power (a := 46) rfl ec em (by decide) hc hm s3 C3 (zr_f3 yc f3 hc2.2) ly (zr_f3 z39 f3 (by decide)) hlt fun H4 s4 f4 z4 => ?_))
  have C4 := z13C_f3 C3 f4 ⟨by decide, by decide, by decide, by decide, by decide, by decide⟩
  have hpos : 0 < mM m := Nat.lt_trans (by decide) (mM_pos m)
  refine jT_g (k13 s4) (jT_b (z13_mul (b := 45) (c := 46) ea rfl rfl em ha (by decide) (by decide) hm ha8 s4 C4 (zr_f3 z3 f4 (by decide)) z4 (mM_lt lx) (mM_lt (Nat.mod_lt _ hpos)) fun H5 s5 f5 z5 => jT_ret (hk H5 s5 ?_ z5)))
  refine jf3_trans f2 (jf3_trans (jf3_mono f3 fun j q => ?_) (jf3_trans (jf3_mono f4 fun j q => ?_) (jf3_mono f5 fun j q => Or.inl q)))
  · exact Or.inr (Or.inr (Or.inr (Or.inr (Or.inl q))))
  · rcases q with q | q | q
    · exact Or.inr (Or.inr (Or.inr (Or.inr (Or.inr q))))
    · exact Or.inr (Or.inl q)
    · exact Or.inr (Or.inr (Or.inr (Or.inl q)))
end DIV13
theorem mM_0 : mM 0 = 115792089237316195423570985008687907853269984665640564039457584007908834671663 := by
  unfold mM
  rw [if_pos rfl]
  rfl
theorem ev_lt (u : ef) : u.val < mM 0 := by
  rw [mM_0]
  exact u.isLt
theorem ev_mul (u v : ef) : u.val * v.val % mM 0 = (u * v).val := by
  rw [mM_0, Fin.val_mul]
theorem ev_add (u v : ef) : (u.val + v.val) % mM 0 = (u + v).val := by
  rw [mM_0, Fin.val_add]
theorem ev_sub (u v : ef) : (u.val + (mM 0 - v.val)) % mM 0 = (u - v).val := by
  rw [mM_0, Nat.add_comm]
  rfl
theorem ev_pow (u : ef) (e : Nat) : u.val ^ e % mM 0 = (ef_p u e).val := by
  have h := ef_v ((u.val ^ e : Nat) : Int)
  rw [mM_0]
  unfold ef_p
  have h2 : ((u.val ^ e % np_P : Nat) : Int) = ((u.val ^ e : Nat) : Int) % (np_P : Int) := Int.natCast_emod _ _
  rw [← h2] at h
  exact (Int.ofNat_inj.mp h).symm
section E13
variable {Q : Unit → jH → Prop} {H : jH} {a b c : Nat} {a' b' c' : Int32} {u v : ef}
theorem z13_mulE (ea : a' = Int32.ofNat a) (eb : b' = Int32.ofNat b) (ec : c' = Int32.ofNat c) (ha : a < 48) (hb : b < 48) (hc : c < 48) (hM : mOk (· = a)) (hs : jsh H) (hC : z13C H) (hx : zr H b u.val) (hy : zr H c v.val)
    (hk : ∀ H', jsh H' → z13C H' → jf3 (· = a) H H' → zr H' a (u * v).val → Q () H') : jT (F_13_multiply 428 a' b' c' 8 H) Q :=
  z13_mul (m := 0) ea eb ec rfl ha hb hc (by decide) (fun e => hM.1 e.symm) hs hC hx hy (mM_lt (ev_lt u)) (mM_lt (ev_lt v)) fun H' s' f' z' => hk H' s' (z13C_f3 hC f' hM) f' (by rw [ev_mul] at z'; exact z')
theorem z13_plusE (ea : a' = Int32.ofNat a) (eb : b' = Int32.ofNat b) (ec : c' = Int32.ofNat c) (ha : a < 48) (hb : b < 48) (hc : c < 48) (hc37 : c ≠ 37) (hM : mOk (fun j => j = a ∨ j = 37)) (hs : jsh H) (hC : z13C H) (hx : zr H b u.val) (hy : zr H c v.val)
    (hk : ∀ H', jsh H' → z13C H' → jf3 (fun j => j = a ∨ j = 37) H H' → zr H' a (u + v).val → Q () H') : jT (F_13_plus 428 a' b' c' 8 H) Q :=
  z13_plus (m := 0) ea eb ec rfl ha hb hc hc37 (by decide) hs hC hx hy (ev_lt u) (ev_lt v) fun H' s' f' z' => hk H' s' (z13C_f3 hC f' hM) f' (by rw [ev_add] at z'; exact z')
theorem z13_minusE (ea : a' = Int32.ofNat a) (eb : b' = Int32.ofNat b) (ec : c' = Int32.ofNat c) (ha : a < 48) (hb : b < 48) (hc : c < 48) (hc37 : c ≠ 37) (hM : mOk (fun j => j = a ∨ j = 37)) (hs : jsh H) (hC : z13C H) (hx : zr H b u.val) (hy : zr H c v.val)
    (hk : ∀ H', jsh H' → z13C H' → jf3 (fun j => j = a ∨ j = 37) H H' → zr H' a (u - v).val → Q () H') : jT (F_13_minus 428 a' b' c' 8 H) Q :=
  z13_minus (m := 0) ea eb ec rfl ha hb hc hc37 (by decide) hs hC hx hy (ev_lt u) (ev_lt v) fun H' s' f' z' => hk H' s' (z13C_f3 hC f' hM) f' (by rw [ev_sub] at z'; exact z')
theorem z13_copyE (ea : a' = Int32.ofNat a) (eb : b' = Int32.ofNat b) (ha : a < 48) (hb : b < 48) (hM : mOk (· = a)) (hs : jsh H) (hC : z13C H) {x : Nat} (hx : zr H b x)
    (hk : ∀ H', jsh H' → z13C H' → jf3 (· = a) H H' → zr H' a x → Q () H') : jT (F_13_copy 428 a' b' H) Q :=
  z13_copy ea eb ha hb hs hx fun H' s' f' z' => hk H' s' (z13C_f3 hC f' hM) f' z'
theorem z13_divE (ea : a' = Int32.ofNat a) (eb : b' = Int32.ofNat b) (ec : c' = Int32.ofNat c) (ha : a < 48) (hb : b < 48) (hc : c < 48) (hb2 : b ≠ 39) (hc2 : c ≠ 39 ∧ c ≠ 45) (hM : mOk (zSd a)) (hs : jsh H) (hC : z13C H) (hx : zr H b u.val) (hy : zr H c v.val)
    (hk : ∀ H', jsh H' → z13C H' → jf3 (zSd a) H H' → zr H' a (u * ef_p v (np_P - 2)).val → Q () H') : jT (F_13_divide 428 a' b' c' 8 H) Q :=
  z13_divide (m := 0) ea eb ec rfl ha hb hc hb2 hc2 (by decide) (fun e => hM.1 (Or.inl e.symm)) hs hC hx hy (ev_lt u) (ev_lt v) fun H' s' f' z' => hk H' s' (z13C_f3 hC f' hM) f' (by
    have e : mM 0 - 2 = np_P - 2 := by rw [mM_0]; rfl
    rw [e, ev_pow, ev_mul] at z'
    exact z')
end E13
theorem ef_flt_inv {v : ef} (hv : v ≠ 0) (x : ef) : x * v * ef_p v (np_P - 2) = x := by
  have h1 : ef_p v (1 + (np_P - 2)) = 1 := ef_flt hv _ (by decide +kernel)
  rw [ef_padd, ef_p1] at h1
  generalize ef_p v (np_P - 2) = w at h1 ⊢
  clear hv
  grind
