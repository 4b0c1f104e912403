/-! Points.key of the reference: the same bytes are a key as for the class. -/
theorem ky_ev2 (c : ef) : (if ((ky_rt c).val % 2 = 1 ↔ (2 : Nat) = 3) then ky_rt c else -ky_rt c) = ky_ev c := by
  unfold ky_ev
  rcases (show (ky_rt c).val % 2 = 0 ∨ (ky_rt c).val % 2 = 1 by omega) with q | q
  · rw [if_pos q, if_pos (by omega)]
  · rw [if_neg (by omega), if_neg (by omega)]
theorem ky_ev3 (c : ef) : (if ((ky_rt c).val % 2 = 1 ↔ (3 : Nat) = 3) then ky_rt c else -ky_rt c) = 0 - ky_ev c := by
  unfold ky_ev
  rcases (show (ky_rt c).val % 2 = 0 ∨ (ky_rt c).val % 2 = 1 by omega) with q | q
  · rw [if_pos q, if_neg (by omega), ef_0s]
  · rw [if_pos (by omega), if_neg (by omega), ef_nn]
def zK13 (i : Nat) : Nat → Prop := fun j => (31 ≤ j ∧ j ≤ 47) ∨ j = 10 + 2 * i ∨ j = 11 + 2 * i
def zT13 : Nat → Prop := fun j => 31 ≤ j ∧ j ≤ 47
theorem zT13_K {i j : Nat} (h : zT13 j) : zK13 i j := Or.inl h
theorem zSr13_T {j : Nat} (h : zSr13 j) : zT13 j := by
  unfold zSr13 at h
  unfold zT13
  omega
theorem zSm13_T {H0 H1 : jH} (h : jf3 (fun j => j = 31 ∨ j = 33 ∨ j = 37) H0 H1) : jf3 zT13 H0 H1 := jf3_mono h fun j q => by
  have q2 : j = 31 ∨ j = 33 ∨ j = 37 := q
  unfold zT13
  omega
theorem zr_sI {H : jH} {m n a j : Nat} {v : Int32} (h : zr H m n) (ha : a ≠ 429) : zr (jsI H a j v) m n := by
  obtain ⟨u, u1, u2⟩ := h
  exact ⟨u, fun i hi => ⟨(jI_sIa (fun e => ha e.symm)).trans (u1 i hi).1, (u1 i hi).2⟩, u2⟩
theorem z13C_sI {H : jH} {a j : Nat} {v : Int32} (h : z13C H) (ha : a ≠ 429) (ha2 : a ≠ 432) : z13C (jsI H a j v) := by
  obtain ⟨h1, h2, h3, h4, h5, h6, h7⟩ := h
  exact ⟨zr_sI h1 ha, zr_sI h2 ha, zr_sI h3 ha, zr_sI h4 ha, zr_sI h5 ha, zr_sI h6 ha, fun m i q1 q2 => (jI_sIa (fun e => ha2 e.symm)).trans (h7 m i q1 q2)⟩
section KEY13
variable {Q : Int32 → jH → Prop} {H0 : jH} {i : Nat}
theorem z13_key169 {x y : ef} (hi : i < 4) (hs : jsh H0) (hC : z13C H0) (hx : zr H0 40 x.val) (hy : zr H0 41 y.val)
    (hk : ∀ H', jsh H' → z13C H' → jf3 (zK13 i) H0 H' → zr H' (10 + 2 * i) x.val → zr H' (11 + 2 * i) y.val → Q 1 (jsI H' 433 i 0)) : jT (B_13_key_169 428 (Int32.ofNat i) H0) Q := by
  unfold B_13_key_169
  have e1 : 10 + 2 * Int32.ofNat i = Int32.ofNat (10 + 2 * i) := by rw [show (2 : Int32) = Int32.ofNat 2 from rfl, jo_mul, show (10 : Int32) = Int32.ofNat 10 from rfl, jo_add]
  have e2 : 11 + 2 * Int32.ofNat i = Int32.ofNat (11 + 2 * i) := by rw [show (2 : Int32) = Int32.ofNat 2 from rfl, jo_mul, show (11 : Int32) = Int32.ofNat 11 from rfl, jo_add]
  refine jT_g (k13 hs) (jT_b (z13_copyE (b := 40) e1 rfl (by omega) (by decide) ⟨by omega, by omega, by omega, by omega, by omega, by omega⟩ hs hC hx fun H1 s1 C1 f1 z1 => ?_))
  refine jT_g (k13 s1) (jT_b (z13_copyE (b := 41) e2 rfl (by omega) (by decide) ⟨by omega, by omega, by omega, by omega, by omega, by omega⟩ s1 C1 (zr_f3 hy f1 (by omega)) fun H2 s2 C2 f2 z2 => ?_))
  have g : jf3 (zK13 i) H0 H2 := jf3_S (jf3_S jf3_refl f1 (Or.inr (Or.inl rfl))) f2 (Or.inr (Or.inr rfl))
  refine jT_g (k13 s2) ?_
  rw [sR_428_4 s2, jo_nat (n := i) (by omega), show (0 &&& 1 : Int32) = 0 from rfl]
  exact jT_g (by rw [sK_433 s2]; exact ⟨rfl, jo_in (by omega) hi⟩) (jT_l (jT_ret (hk H2 s2 C2 g (zr_f3 z1 f2 (by omega)) z2)))
variable {b : Nat → UInt8}
theorem z13_key45 (hi : i < 4) (hs : jsh H0) (hC : z13C H0) (hB : zB13 H0 b) (h23 : (b 0).toNat = 2 ∨ (b 0).toNat = 3)
    (hk1 : ∀ q H', ky_pt b 33 = some q → jsh H' → z13C H' → jf3 (zK13 i) H0 H' → zr H' (10 + 2 * i) q.1.val → zr H' (11 + 2 * i) q.2.val → Q 1 (jsI H' 433 i 0))
    (hk0 : ∀ H', ky_pt b 33 = none → jsh H' → z13C H' → jf3 zT13 H0 H' → Q 0 H') : jT (B_13_key_45 428 (Int32.ofNat i) H0) Q := by
  unfold B_13_key_45
  refine jT_g (k13 hs) (jT_b (z13_read (a := 40) (f := 1) (n := 32) rfl rfl rfl (by decide) (by decide) (by decide) ⟨by decide, by decide, by decide, by decide, by decide, by decide⟩ hs hC hB fun H1 s1 C1 f1 z1 => ?_))
  rw [rdn_32] at z1
  have ek : ky_pt b 33 = if bgn b 1 32 < np_P ∧ ky_rt (ky_c (bgn b 1 32)) * ky_rt (ky_c (bgn b 1 32)) = ky_c (bgn b 1 32) then
      some (ef_i (bgn b 1 32 : Nat), if ((ky_rt (ky_c (bgn b 1 32))).val % 2 = 1 ↔ (b 0).toNat = 3) then ky_rt (ky_c (bgn b 1 32)) else -ky_rt (ky_c (bgn b 1 32))) else none := if_pos ⟨rfl, h23⟩
  have eM : mM 0 = np_P := by unfold mM; rw [if_pos rfl]
  have g1 : jf3 zT13 H0 H1 := jf3_S jf3_refl f1 (by unfold zT13; decide)
  refine jT_g (k13 s1) (jT_b (z13_compare (a := 40) (b := 8) rfl rfl (by decide) (by decide) s1 z1 (mM_row C1 (m := 0) (by decide)) ?_))
  by_cases hP : bgn b 1 32 < mM 0
  · rw [if_pos hP]
    have hx : zr H1 40 (ef_i (bgn b 1 32 : Nat)).val := by rw [ef_nv hP]; exact z1
    rw [eM] at hP
    refine jT_pos (by decide) (jT_g (k13 s1) (jT_b (z13_curve (a := 33) (b := 40) rfl rfl (by decide) (by decide) (by decide) ⟨by decide, by decide, by decide, by decide, by decide, by decide⟩ s1 C1 hx fun H2 s2 C2 f2 z2 => ?_)))
    have g2 := jf3_trans g1 (zSm13_T f2)
    have x2 := zr_f3 hx f2 (by decide)
    have z2c : zr H2 33 (ky_c (bgn b 1 32)).val := z2
    refine jT_g (k13 s2) (jT_b (z13_roots s2 C2 z2c (fun H3 e s3 C3 f3 z3 => ?_) fun H3 e s3 C3 f3 => ?_))
    · rw [if_pos ⟨hP, e⟩] at ek
      have g3 := jf3_trans g2 (jf3_mono f3 fun j q => zSr13_T q)
      have x3 := zr_f3 x2 f3 (by unfold zSr13; decide)
      have hb0 := zB13_f3 hB g3 0 (by decide)
      refine jT_pos (by decide) (jT_g (k13 s3) ?_)
      rw [sR_428_5 s3, show (0 : Int32).toNatClampNeg = 0 from rfl, hb0]
      refine jT_g (g434 s3 (k := 0) (by decide)) ?_
      rcases h23 with h2 | h3
      · rw [h2, ky_ev2] at ek
        rw [h2]
        exact jT_pos (by decide) (z13_key169 hi s3 C3 x3 z3 fun H' s' C' f' zx zy => hk1 _ H' ek s' C' (jf3_trans (jf3_mono g3 fun j q => zT13_K q) f') zx zy)
      · rw [h3, ky_ev3] at ek
        rw [h3]
        refine jT_neg (fun q => q rfl) (jT_g (k13 s3) (jT_b (z13_nothing (a := 33) rfl (by decide) s3 fun H4 s4 f4 z4 => ?_)))
        have C4 := z13C_f3 C3 f4 ⟨by decide, by decide, by decide, by decide, by decide, by decide⟩
        have z40 : zr H4 33 (0 : ef).val := z4
        refine jT_g (k13 s4) (jT_b (z13_minusE (a := 41) (b := 33) (c := 41) rfl rfl rfl (by decide) (by decide) (by decide) (by decide) ⟨by decide, by decide, by decide, by decide, by decide, by decide⟩ s4 C4 z40 (zr_f3 z3 f4 (by decide)) fun H5 s5 C5 f5 z5 => ?_))
        have g5 : jf3 zT13 H0 H5 := jf3_S2 (jf3_S g3 f4 (by unfold zT13; decide)) f5 (by unfold zT13; decide) (by unfold zT13; decide)
        exact z13_key169 hi s5 C5 (zr_f3 (zr_f3 x3 f4 (by decide)) f5 (by decide)) z5 fun H' s' C' f' zx zy => hk1 _ H' ek s' C' (jf3_trans (jf3_mono g5 fun j q => zT13_K q) f') zx zy
    · rw [if_neg fun q => e q.2] at ek
      exact jT_neg (fun q => q rfl) (jT_ret (hk0 H3 ek s3 C3 (jf3_trans g2 (jf3_mono f3 fun j q => zSr13_T q))))
  · rw [if_neg hP]
    rw [eM] at hP
    rw [if_neg fun q => hP q.1] at ek
    exact jT_neg (by split <;> decide) (jT_ret (hk0 H1 ek s1 C1 g1))
theorem z13_key119 {len : Nat} (hi : i < 4) (hlen : len < 2147483648) (hs : jsh H0) (hC : z13C H0) (hB : zB13 H0 b) (h23 : ¬ (len = 33 ∧ ((b 0).toNat = 2 ∨ (b 0).toNat = 3)))
    (hk1 : ∀ q H', ky_pt b len = some q → jsh H' → z13C H' → jf3 (zK13 i) H0 H' → zr H' (10 + 2 * i) q.1.val → zr H' (11 + 2 * i) q.2.val → Q 1 (jsI H' 433 i 0))
    (hk0 : ∀ H', ky_pt b len = none → jsh H' → z13C H' → jf3 zT13 H0 H' → Q 0 H') : jT (B_13_key_119 428 (Int32.ofNat i) (Int32.ofNat len) H0) Q := by
  unfold B_13_key_119 B_13_key_167
  have ek : ky_pt b len = if len = 65 ∧ (b 0).toNat = 4 then
    (if bgn b 1 32 < np_P ∧ bgn b 33 32 < np_P ∧ ef_i (bgn b 33 32 : Nat) * ef_i (bgn b 33 32 : Nat) = ky_c (bgn b 1 32) then some (ef_i (bgn b 1 32 : Nat), ef_i (bgn b 33 32 : Nat)) else none)
    else none := if_neg h23
  have eM : mM 0 = np_P := by unfold mM; rw [if_pos rfl]
  by_cases h65 : len = 65
  · refine jT_neg (fun q => q (by rw [h65]; rfl)) (jT_g (k13 hs) ?_)
    have hb0 := hB 0 (by decide)
    have hbl := u8_lt (b 0)
    rw [sR_428_5 hs, show (0 : Int32).toNatClampNeg = 0 from rfl, hb0]
    refine jT_g (g434 hs (k := 0) (by decide)) ?_
    by_cases h4 : (b 0).toNat = 4
    · rw [if_pos ⟨h65, h4⟩] at ek
      refine jT_neg (fun q => q (by rw [h4]; rfl)) (jT_g (k13 hs) (jT_b (z13_read (a := 40) (f := 1) (n := 32) rfl rfl rfl (by decide) (by decide) (by decide) ⟨by decide, by decide, by decide, by decide, by decide, by decide⟩ hs hC hB fun H1 s1 C1 f1 z1 => ?_)))
      refine jT_g (k13 s1) (jT_b (z13_read (a := 41) (f := 33) (n := 32) rfl rfl rfl (by decide) (by decide) (by decide) ⟨by decide, by decide, by decide, by decide, by decide, by decide⟩ s1 C1 (zB13_f3 hB f1) fun H2 s2 C2 f2 z2 => ?_))
      rw [rdn_32] at z1 z2
      have g2 : jf3 zT13 H0 H2 := jf3_S (jf3_S jf3_refl f1 (by unfold zT13; decide)) f2 (by unfold zT13; decide)
      have x2 := zr_f3 z1 f2 (by decide)
      refine jT_g (k13 s2) (jT_b (z13_isPoint (a := 40) (b := 41) rfl rfl (by decide) (by decide) s2 C2 x2 z2 fun H3 s3 C3 f3 => ?_))
      have x3 := zr_f3 x2 f3 (by unfold zU13; decide)
      have y3 := zr_f3 z2 f3 (by unfold zU13; decide)
      have g3 : jf3 zT13 H0 H3 := jf3_trans g2 (jf3_mono f3 fun j q => by
        have q2 : 31 ≤ j ∧ j ≤ 37 := q
        unfold zT13
        omega)
      rw [eM]
      by_cases e : bgn b 1 32 < np_P ∧ bgn b 33 32 < np_P ∧ ef_i (bgn b 33 32 : Nat) * ef_i (bgn b 33 32 : Nat) = ky_c (bgn b 1 32)
      · rw [if_pos e] at ek ⊢
        have ex : (ef_i (bgn b 1 32 : Nat)).val = bgn b 1 32 := ef_nv (by rw [eM]; exact e.1)
        have ey : (ef_i (bgn b 33 32 : Nat)).val = bgn b 33 32 := ef_nv (by rw [eM]; exact e.2.1)
        exact jT_pos (by decide) (z13_key169 (x := ef_i (bgn b 1 32 : Nat)) (y := ef_i (bgn b 33 32 : Nat)) hi s3 C3 (by rw [ex]; exact x3) (by rw [ey]; exact y3) fun H' s' C' f' zx zy => hk1 _ H' ek s' C' (jf3_trans (jf3_mono g3 fun j q => zT13_K q) f') zx zy)
      · rw [if_neg e] at ek ⊢
        exact jT_neg (fun q => q rfl) (jT_ret (hk0 H3 ek s3 C3 g3))
    · rw [if_neg fun q => h4 q.2] at ek
      exact jT_pos (fun q => h4 ((jo_eq (by omega) (by decide)).mp (q.trans (show (4 : Int32) = Int32.ofNat 4 from rfl)))) (jT_ret (hk0 H0 ek hs hC jf3_refl))
  · rw [if_neg fun q => h65 q.1] at ek
    exact jT_pos (fun q => h65 ((jo_eq (by omega) (by decide)).mp (q.trans (show (65 : Int32) = Int32.ofNat 65 from rfl)))) (jT_ret (hk0 H0 ek hs hC jf3_refl))
theorem z13_key {len : Nat} {i' : Int32} (ei : i' = Int32.ofNat i) (hi : i < 4) (hlen : len < 2147483648) (hs : jsh H0) (hC : z13C H0) (hB : zB13 H0 b) (hl : jI H0 428 6 = Int32.ofNat len)
    (hk1 : ∀ q H', ky_pt b len = some q → jsh H' → z13C H' → jf3 (zK13 i) (jsI H0 428 6 0) H' → zr H' (10 + 2 * i) q.1.val → zr H' (11 + 2 * i) q.2.val → Q 1 (jsI H' 433 i 0))
    (hk0 : ∀ H', ky_pt b len = none → jsh H' → z13C H' → jf3 zT13 (jsI H0 428 6 0) H' → Q 0 H') : jT (F_13_key 428 i' H0) Q := by
  subst ei
  unfold F_13_key F_13_isSpot B_13_isSpot_14
  refine jT_b (jT_neg (by rw [show (0 : Int32) = Int32.ofNat 0 from rfl, jo_lt (by omega) (by decide)]; omega) (jT_neg (by rw [show (4 : Int32) = Int32.ofNat 4 from rfl, jo_le (by omega) (by omega)]; omega) (jT_g (by decide) (jT_ret ?_))))
  refine jT_pos (by decide) (jT_g (k13 hs) (jT_lo (e' := Int32.ofNat len) hl (jT_g (k13 hs) (jT_l ?_))))
  have s1 : jsh (jsI H0 428 6 0) := jsh_sI hs (by decide)
  have C1 : z13C (jsI H0 428 6 0) := z13C_sI hC (by decide) (by decide)
  have B1 : zB13 (jsI H0 428 6 0) b := fun j hj => (jI_sIa (by decide)).trans (hB j hj)
  generalize jsI H0 428 6 0 = H1 at hk1 hk0 s1 C1 B1 ⊢
  by_cases h33 : len = 33
  · refine jT_neg (fun q => q (by rw [h33]; rfl)) (jT_g (k13 s1) ?_)
    have hb0 := B1 0 (by decide)
    have hbl := u8_lt (b 0)
    rw [sR_428_5 s1, show (0 : Int32).toNatClampNeg = 0 from rfl, hb0]
    refine jT_g (g434 s1 (k := 0) (by decide)) ?_
    by_cases h2 : (b 0).toNat = 2
    · rw [h33] at hk1 hk0
      exact jT_pos (by rw [h2]; rfl) (z13_key45 hi s1 C1 B1 (Or.inl h2) hk1 hk0)
    · refine jT_neg (fun q => h2 ((jo_eq (by omega) (by decide)).mp (q.trans (show (2 : Int32) = Int32.ofNat 2 from rfl)))) (jT_g (k13 s1) (jT_g (g434 s1 (k := 0) (by decide)) ?_))
      by_cases h3 : (b 0).toNat = 3
      · rw [h33] at hk1 hk0
        exact jT_neg (fun q => q (by rw [h3]; rfl)) (z13_key45 hi s1 C1 B1 (Or.inr h3) hk1 hk0)
      · exact jT_pos (fun q => h3 ((jo_eq (by omega) (by decide)).mp (q.trans (show (3 : Int32) = Int32.ofNat 3 from rfl)))) (z13_key119 hi hlen s1 C1 B1 (fun q => q.2.elim h2 h3) hk1 hk0)
  · exact jT_pos (fun q => h33 ((jo_eq (by omega) (by decide)).mp (q.trans (show (33 : Int32) = Int32.ofNat 33 from rfl)))) (z13_key119 hi hlen s1 C1 B1 (fun q => h33 q.1) hk1 hk0)
end KEY13
