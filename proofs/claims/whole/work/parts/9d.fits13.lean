/-! Points.fits of the reference: it answers as the class's holds. -/
def z25 (H : jH) : Prop := ∃ X Y, zr H 25 X ∧ zr H 26 Y
theorem zq3_25 {H : jH} : ∀ {o : Option (ef × ef)}, zq3 H 25 o → z25 H
  | none, ⟨X, Y, a, b, _⟩ => ⟨X, Y, a, b⟩
  | some _, ⟨_, X, Y, _, a, b, _⟩ => ⟨X.val, Y.val, a, b⟩
theorem z25_f3 {M : Nat → Prop} {H H' : jH} (h : z25 H) (hf : jf3 M H H') (h1 : ¬ M 25) (h2 : ¬ M 26) : z25 H' := by
  obtain ⟨X, Y, a, b⟩ := h
  exact ⟨X, Y, zr_f3 a hf h1, zr_f3 b hf h2⟩
def zF13 : Nat → Prop := fun j => 22 ≤ j ∧ j ≤ 47
theorem zF13_ok : mOk zF13 := by
  unfold mOk zF13
  decide
theorem mM_1 : mM 1 = nN := by
  unfold mM
  rw [if_neg (by decide)]
theorem nN_t : nN < t256 := by
  unfold t256
  decide +kernel
theorem zSd_F {a : Nat} (ha : 22 ≤ a ∧ a ≤ 47) {j : Nat} (h : zSd a j) : zF13 j := by
  have h2 : j = a ∨ j = 38 ∨ j = 39 ∨ j = 44 ∨ j = 45 ∨ j = 46 := h
  unfold zF13
  omega
section FT13
variable {Q : Int32 → jH → Prop} {H0 : jH}
theorem z13_isReg {k : Nat} {k' : Int32} {H : jH} (ek : k' = Int32.ofNat k) (hk : k < 8) (hQ : Q 1 H) : jT (F_13_isRegister k' H) Q := by
  subst ek
  unfold F_13_isRegister B_13_isRegister_15
  exact jT_neg (by rw [show (0 : Int32) = Int32.ofNat 0 from rfl, jo_lt (by omega) (by decide)]; omega) (jT_neg (by rw [show (8 : Int32) = Int32.ofNat 8 from rfl, jo_le (by omega) (by omega)]; omega) (jT_g (by decide) (jT_ret hQ)))
theorem z13_isSpot {k : Nat} {k' : Int32} {H : jH} (ek : k' = Int32.ofNat k) (hk : k < 4) (hQ : Q 1 H) : jT (F_13_isSpot k' H) Q := by
  subst ek
  unfold F_13_isSpot B_13_isSpot_14
  exact jT_neg (by rw [show (0 : Int32) = Int32.ofNat 0 from rfl, jo_lt (by omega) (by decide)]; omega) (jT_neg (by rw [show (4 : Int32) = Int32.ofNat 4 from rfl, jo_le (by omega) (by omega)]; omega) (jT_g (by decide) (jT_ret hQ)))
def sg_in (r s : Nat) : Prop := r ≠ 0 ∧ s ≠ 0 ∧ r < nN ∧ s < nN
theorem cmp_ne {x y : Nat} {A : Prop} (h : x ≠ y) (q : (if x < y then (-1 : Int32) else if y < x then 1 else 0) = 0) : A := by
  by_cases q1 : x < y
  · rw [if_pos q1] at q
    exact absurd q (by decide)
  · rw [if_neg q1, if_pos (by omega)] at q
    exact absurd q (by decide)
theorem z13_fits {i ra sa za r s z : Nat} {x y : ef} {i' r' s' z' : Int32} (ei : i' = Int32.ofNat i) (er : r' = Int32.ofNat ra) (es : s' = Int32.ofNat sa) (ez : z' = Int32.ofNat za) (hi : i < 4) (hra : ra < 8) (hsa : sa < 8) (hza : za < 8) (hs : jsh H0) (hC : z13C H0) (h25 : z25 H0) (hf : jI H0 433 i = 0) (hc : eg_c e7 (x, y)) (hx : zr H0 (10 + 2 * i) x.val) (hy : zr H0 (11 + 2 * i) y.val)
    (hr : zr H0 ra r) (hss : zr H0 sa s) (hz : zr H0 za z) (lz : z < t256)
    (hk : ∀ H' v, jsh H' → z13C H' → z25 H' → jf3 zF13 H0 H' → (v = 1 ∧ sg_in r s ∧ sg_ok r s z (x, y) ∨ v = 0 ∧ ¬ (sg_in r s ∧ sg_ok r s z (x, y))) → Q v H') : jT (F_13_fits 428 i' r' s' z' H0) Q := by
  subst ei
  unfold F_13_fits B_13_fits_76 B_13_fits_220
  refine jT_b (z13_isSpot rfl hi (jT_neg (by decide) (jT_b (z13_isReg er hra (jT_neg (by decide) (jT_b (z13_isReg es hsa (jT_neg (by decide) (jT_b (z13_isReg ez hza (jT_pos (by decide) (jT_g (k13 hs) ?_))))))))))))
  rw [sR_428_4 hs, jo_nat (n := i) (by omega), hf]
  refine jT_g (by rw [sK_433 hs]; exact ⟨rfl, jo_in (by omega) hi⟩) (jT_neg (fun q => q rfl) (jT_g (k13 hs) (jT_b (z13_isNothing er (by omega) hs hr ?_))))
  by_cases r0 : r = 0
  · rw [if_pos r0]
    exact jT_pos (by decide) (jT_ret (hk H0 0 hs hC h25 jf3_refl (Or.inr ⟨rfl, fun q => q.1.1 r0⟩)))
  rw [if_neg r0]
  refine jT_neg (fun q => q rfl) (jT_g (k13 hs) (jT_b (z13_isNothing es (by omega) hs hss ?_)))
  by_cases s0 : s = 0
  · rw [if_pos s0]
    exact jT_pos (by decide) (jT_ret (hk H0 0 hs hC h25 jf3_refl (Or.inr ⟨rfl, fun q => q.1.2.1 s0⟩)))
  rw [if_neg s0]
  have h9 := mM_row hC (m := 1) (by decide)
  rw [mM_1] at h9
  refine jT_neg (fun q => q rfl) (jT_g (k13 hs) (jT_b (z13_compare (b := 9) er rfl (by omega) (by decide) hs hr h9 ?_)))
  by_cases rN' : ¬ r < nN
  · rw [if_neg rN']
    exact jT_pos (by split <;> decide) (jT_ret (hk H0 0 hs hC h25 jf3_refl (Or.inr ⟨rfl, fun q => rN' q.1.2.2.1⟩)))
  have rN : r < nN := Decidable.of_not_not rN'
  rw [if_pos rN]
  refine jT_neg (by decide) (jT_g (k13 hs) (jT_b (z13_compare (b := 9) es rfl (by omega) (by decide) hs hss h9 ?_)))
  by_cases sN' : ¬ s < nN
  · rw [if_neg sN']
    exact jT_neg (by split <;> decide) (jT_ret (hk H0 0 hs hC h25 jf3_refl (Or.inr ⟨rfl, fun q => sN' q.1.2.2.2⟩)))
  have sN : s < nN := Decidable.of_not_not sN'
  rw [if_pos sN]
  have hin : sg_in r s := ⟨r0, s0, rN, sN⟩
  have one_t : 1 < t256 := by unfold t256; decide +kernel
  have pN : 0 < nN := by decide +kernel
  -- the quotients
  refine jT_pos (by decide) (jT_g (k13 hs) (jT_b (z13_mul (a := 42) (c := 20) (m := 1) rfl ez rfl rfl (by decide) (by omega) (by decide) (by decide) (by decide) hs hC hz hC.2.2.2.2.1 lz one_t fun H1 s1 f1 z1 => ?_)))
  rw [mM_1, Nat.mul_one] at z1
  have C1 := z13C_f3 hC f1 ⟨by decide, by decide, by decide, by decide, by decide, by decide⟩
  have g1 : jf3 zF13 H0 H1 := jf3_S jf3_refl f1 (by unfold zF13; decide)
  refine jT_g (k13 s1) (jT_b (z13_divide (a := 42) (b := 42) (m := 1) rfl rfl es rfl (by decide) (by decide) (by omega) (by decide) ⟨by omega, by omega⟩ (by decide) (by decide) s1 C1 z1 (zr_f3 hss f1 (by omega)) (by rw [mM_1]; exact Nat.mod_lt _ pN) (by rw [mM_1]; exact sN) fun H2 s2 f2 z2 => ?_))
  rw [mM_1] at z2
  have g2 : jf3 zF13 H0 H2 := jf3_trans g1 (jf3_mono f2 fun j q => zSd_F (by decide) q)
  have C2 := z13C_f3 hC g2 zF13_ok
  have no0 : ∀ k, k < 22 → ¬ zF13 k := fun k hk q => by
    have : 22 ≤ k ∧ k ≤ 47 := q
    omega
  refine jT_g (k13 s2) (jT_b (z13_divide (a := 43) (m := 1) rfl er es rfl (by decide) (by omega) (by omega) (by omega) ⟨by omega, by omega⟩ (by decide) (by decide) s2 C2 (zr_f3 hr g2 (no0 _ (by omega))) (zr_f3 hss g2 (no0 _ (by omega))) (by rw [mM_1]; exact rN) (by rw [mM_1]; exact sN) fun H3 s3 f3 z3 => ?_))
  rw [mM_1] at z3
  have w3 := zr_f3 z2 f3 (by unfold zSd; decide)
  have p3 := z25_f3 (z25_f3 (z25_f3 h25 f1 (by decide) (by decide)) f2 (by unfold zSd; decide) (by unfold zSd; decide)) f3 (by unfold zSd; decide) (by unfold zSd; decide)
  have g3 : jf3 zF13 H0 H3 := jf3_trans g2 (jf3_mono f3 fun j q => zSd_F (by decide) q)
  have C3 := z13C_f3 hC g3 zF13_ok
  obtain ⟨u1, hu1⟩ : ∃ u, u = z % nN * (s ^ (nN - 2) % nN) % nN := ⟨_, rfl⟩
  obtain ⟨u2, hu2⟩ : ∃ u, u = r * (s ^ (nN - 2) % nN) % nN := ⟨_, rfl⟩
  rw [← hu1] at w3
  rw [← hu2] at z3
  have lu1 : u1 < t256 := by rw [hu1]; exact Nat.lt_trans (Nat.mod_lt _ pN) nN_t
  have lu2 : u2 < t256 := by rw [hu2]; exact Nat.lt_trans (Nat.mod_lt _ pN) nN_t
  -- the base
  have nF : ∀ k, k < 22 → ¬ zF13 k := no0
  refine jT_g (k13 s3) (jT_b (z13_copyE (a := 22) (b := 18) rfl rfl (by decide) (by decide) ⟨by decide, by decide, by decide, by decide, by decide, by decide⟩ s3 C3 C3.2.2.1 fun H4 s4 C4 f4 z4 => ?_))
  refine jT_g (k13 s4) (jT_b (z13_copyE (a := 23) (b := 19) rfl rfl (by decide) (by decide) ⟨by decide, by decide, by decide, by decide, by decide, by decide⟩ s4 C4 C4.2.2.2.1 fun H5 s5 C5 f5 z5 => ?_))
  refine jT_g (k13 s5) (jT_b (z13_copyE (a := 24) (b := 20) rfl rfl (by decide) (by decide) ⟨by decide, by decide, by decide, by decide, by decide, by decide⟩ s5 C5 C5.2.2.2.2.1 fun H6 s6 C6 f6 z6 => ?_))
  have g6 : jf3 zF13 H0 H6 := jf3_S (jf3_S (jf3_S g3 f4 (by unfold zF13; decide)) f5 (by unfold zF13; decide)) f6 (by unfold zF13; decide)
  have hB6 : zq3 H6 22 (some eB) := by
    refine ⟨eB_c, ef_i (eBx : Int), ef_i (eBy : Int), 1, ?_, ?_, z6, by decide +kernel, (Fin.mul_one _).symm, (Fin.mul_one _).symm⟩
    · rw [ef_nv (by unfold mM; decide +kernel)]
      exact zr_f3 (zr_f3 z4 f5 (by decide)) f6 (by decide)
    · rw [ef_nv (by unfold mM; decide +kernel)]
      exact zr_f3 z5 f6 (by decide)
  have w6 := zr_f3 (zr_f3 (zr_f3 w3 f4 (by decide)) f5 (by decide)) f6 (by decide)
  have z36 := zr_f3 (zr_f3 (zr_f3 z3 f4 (by decide)) f5 (by decide)) f6 (by decide)
  have p6 := z25_f3 (z25_f3 (z25_f3 p3 f4 (by decide) (by decide)) f5 (by decide) (by decide)) f6 (by decide) (by decide)
  refine jT_g (k13 s6) (jT_b (z13_multiple (a := 42) rfl (by decide) s6 C6 hB6 w6 lu1 p6 fun H7 s7 C7 f7 z7 => ?_))
  have z37 := zr_f3 z36 f7 (by unfold zSm13; decide)
  have g7 : jf3 zF13 H0 H7 := jf3_trans g6 (jf3_mono f7 fun j q => by
    have : 25 ≤ j ∧ j ≤ 37 := q
    unfold zF13
    omega)
  refine jT_g (k13 s7) (jT_b (z13_cp25 (p := 44) (q := 25) rfl (Or.inr (Or.inr rfl)) rfl (Or.inr (Or.inl rfl)) (by decide) s7 C7 z7 fun H8 s8 C8 f8 z8 => ?_))
  have z38 := zr_f3 z37 f8 (by decide)
  have p8 := z25_f3 (zq3_25 z7) f8 (by decide) (by decide)
  have g8 : jf3 zF13 H0 H8 := jf3_trans g7 (jf3_mono f8 fun j q => by
    have : 44 ≤ j ∧ j ≤ 44 + 2 := q
    unfold zF13
    omega)
  have f08 : jI H8 433 i = 0 := (g8.2.2.2.2.2.2 433 _ fun q => absurd q.1 (by decide)).trans hf
  refine jT_g (k13 s8) (jT_b (z13_load (i := i) rfl hi s8 C8 hc (zr_f3 hx g8 (nF _ (by omega))) (zr_f3 hy g8 (nF _ (by omega))) f08 fun H9 s9 C9 f9 z9 => ?_))
  have z39 := zr_f3 z38 f9 (by decide)
  have p9 := z25_f3 p8 f9 (by decide) (by decide)
  have q9 := zq3_f3 f9 (by decide) (by decide) (by decide) z8
  have g9 : jf3 zF13 H0 H9 := jf3_trans g8 (jf3_mono f9 fun j q => by
    have : 22 ≤ j ∧ j ≤ 24 := q
    unfold zF13
    omega)
  refine jT_g (k13 s9) (jT_b (z13_multiple (a := 43) rfl (by decide) s9 C9 z9 z39 lu2 p9 fun H10 s10 C10 f10 z10 => ?_))
  have q10 := zq3_f3 f10 (by unfold zSm13; decide) (by unfold zSm13; decide) (by unfold zSm13; decide) q9
  have g10 : jf3 zF13 H0 H10 := jf3_trans g9 (jf3_mono f10 fun j q => by
    have : 25 ≤ j ∧ j ≤ 37 := q
    unfold zF13
    omega)
  refine jT_g (k13 s10) (jT_b (z13_join (q := 44) rfl (Or.inr rfl) s10 C10 z10 q10 fun H11 s11 C11 f11 z11 => ?_))
  have g11 : jf3 zF13 H0 H11 := jf3_trans g10 (jf3_mono f11 fun j q => by
    have h2 := zS25_m q
    have : 25 ≤ j ∧ j ≤ 37 := h2
    unfold zF13
    omega)
  have hsg : sg_ok r s z (x, y) ↔ hl_ok (eg_add ef_iv (eN u2 (x, y)) (eN u1 eB)) r := by
    have e1 : eg_add ef_iv (eN u2 (x, y)) (eN u1 eB) = eg_add ef_iv (eN u1 eB) (eN u2 (x, y)) := eg_comm ef_fld (ef_onN hc u2) (ef_onN eB_c u1)
    have e2 : u1 = z * (s ^ (nN - 2) % nN) % nN := by rw [hu1, Nat.mod_mul_mod]
    rw [e1, e2, hu2]
    exact Iff.rfl
  obtain ⟨o, ho⟩ : ∃ o, o = eg_add ef_iv (eN u2 (x, y)) (eN u1 eB) := ⟨_, rfl⟩
  rw [← ho] at hsg z11
  cases o with
  | none =>
    have p11 := zq3_25 z11
    obtain ⟨_, _, _, _, h0⟩ := z11
    refine jT_g (k13 s11) (jT_b (z13_isNone (a := 25) (x := 0) rfl (by decide) s11 h0 ?_))
    rw [if_pos rfl]
    refine jT_neg (by decide) (jT_ret (hk H11 0 s11 C11 p11 g11 (Or.inr ⟨rfl, fun q => ?_⟩)))
    obtain ⟨_, q1, _⟩ := hsg.mp q.2
    cases q1
  | some P =>
    have p11 := zq3_25 z11
    obtain ⟨_, X, Y, Z, zX, zY, zZ, hZ, hX, hY⟩ := z11
    refine jT_g (k13 s11) (jT_b (z13_isNone (a := 25) rfl (by decide) s11 zZ ?_))
    rw [if_neg fun e => hZ (ev_0.mp e)]
    refine jT_pos rfl (jT_g (k13 s11) (jT_b (z13_divE (a := 42) (b := 25) (c := 27) rfl rfl rfl (by decide) (by decide) (by decide) (by decide) (by decide) (by unfold mOk zSd; decide) s11 C11 zX zZ fun H12 s12 C12 f12 z12 => ?_)))
    have eP : X * ef_p Z (np_P - 2) = P.1 := by rw [hX]; exact ef_flt_inv hZ P.1
    rw [eP] at z12
    refine jT_g (k13 s12) (jT_b (z13_mul (a := 42) (b := 42) (c := 20) (m := 1) rfl rfl rfl rfl (by decide) (by decide) (by decide) (by decide) (by decide) s12 C12 z12 C12.2.2.2.2.1 (mM_lt (ev_lt P.1)) one_t fun H13 s13 f13 z13 => ?_))
    rw [mM_1, Nat.mul_one] at z13
    have g12 : jf3 zF13 H0 H12 := jf3_trans g11 (jf3_mono f12 fun j q => zSd_F (by decide) q)
    have g13 : jf3 zF13 H0 H13 := jf3_S g12 f13 (by unfold zF13; decide)
    have C13 := z13C_f3 hC g13 zF13_ok
    have p13 := z25_f3 (z25_f3 p11 f12 (by unfold zSd; decide) (by unfold zSd; decide)) f13 (by decide) (by decide)
    refine jT_g (k13 s13) (jT_b (z13_compare (a := 42) rfl er (by decide) (by omega) s13 z13 (zr_f3 hr g13 (nF _ (by omega))) ?_))
    by_cases e : P.1.val % nN = r
    · rw [e, if_neg (Nat.lt_irrefl _), if_neg (Nat.lt_irrefl _)]
      exact jT_neg (fun q => q rfl) (jT_ret (hk H13 1 s13 C13 p13 g13 (Or.inl ⟨rfl, hin, hsg.mpr ⟨P, rfl, e⟩⟩)))
    · refine jT_pos (fun q => cmp_ne e q) (jT_ret (hk H13 0 s13 C13 p13 g13 (Or.inr ⟨rfl, fun q => ?_⟩)))
      obtain ⟨P2, q1, q2⟩ := hsg.mp q.2
      cases q1
      exact e q2
end FT13
