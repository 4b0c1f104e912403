/-! Signing.fits of the reference, the whole. -/
theorem jf3_w {M : Nat → Prop} {H H' : jH} (h : jf3 M H H') {a : Nat} (ha : a ≠ 429) (j : Nat) : jI H' a j = jI H a j := h.2.2.2.2.2.2 a j fun q => ha q.1
theorem jfP_w {H H' : jH} (h : jfP H H') {a : Nat} (ha : a ≠ 434) (ha2 : a ≠ 428) (j : Nat) : jI H' a j = jI H a j := h.2.2.2.2.2.2 a j ha fun q => ha2 q.1
section FITS15B
variable {Q : Int32 → jH → Prop} {row s len lr la llen inp : Nat} {tb lk sg ky : List UInt8} {y : w_y} {H0 : jH}
theorem z15_fits (hy : w_ty tb y) (hlk : lk.length ≤ 200) (hc : w_c15 row s len lr la llen inp tb y lk H0) (hp : w_p13 H0) (h442 : zRow H0 442 0 sg) (h443 : zRow H0 443 0 ky) (hsg : sg.length ≤ 120) (hky : ky.length ≤ 120)
    (hk : ∀ H' v, jsh H' → w_p13 H' → jfr w_S15 H0 H' → (v = 1 ∧ w_fit tb y inp lk sg ky ∨ v = 0 ∧ ¬ w_fit tb y inp lk sg ky) → Q v H') : jT (F_15_fits 427 442 (Int32.ofNat sg.length) 443 (Int32.ofNat ky.length) H0) Q := by
  have hs := hc.1.1
  have l8 : y.1.length ≤ 8 := (ztx_spec hy.1).1
  have l9 : y.2.1.length ≤ 8 := (ztx_spec hy.1).2.1
  have hinp := hc.2.2.2.2.2.2
  have no : ¬ w_fit tb y inp lk sg ky → jT (B_15_fits_24 H0) Q := fun h => by
    unfold B_15_fits_24
    exact jT_g (by decide) (jT_ret (hk H0 0 hs hp jfr_refl (Or.inr ⟨rfl, h⟩)))
  have n1 : ∀ {n : Nat}, n ≤ 120 → (Int32.ofNat n < 1 ↔ n < 1) := fun hn => by rw [show (1 : Int32) = Int32.ofNat 1 from rfl, jo_lt (by omega) (by omega)]
  unfold F_15_fits
  by_cases c1 : sg.length < 1
  · exact jT_pos ((n1 hsg).mpr c1) (no fun ⟨q, _, h, _⟩ => by have := sg_b_len h; omega)
  refine jT_neg (fun q => c1 ((n1 hsg).mp q)) ?_
  by_cases c2 : 73 < sg.length
  · exact jT_pos (by rw [show (73 : Int32) = Int32.ofNat 73 from rfl, jo_lt (by omega) (by omega)]; exact c2) (no fun ⟨q, _, h, _⟩ => by have := sg_b_len h; omega)
  refine jT_neg (by rw [show (73 : Int32) = Int32.ofNat 73 from rfl, jo_lt (by omega) (by omega)]; exact c2) ?_
  by_cases c3 : ky.length < 1
  · exact jT_pos ((n1 hky).mpr c3) (no fun ⟨q, h, _⟩ => by have := ky_pt_len h; omega)
  refine jT_neg (fun q => c3 ((n1 hky).mp q)) ?_
  by_cases c4 : ky.length ≤ 65
  rotate_left
  · exact jT_neg (by rw [show (65 : Int32) = Int32.ofNat 65 from rfl, jo_le (by omega) (by omega)]; exact c4) (no fun ⟨q, h, _⟩ => by have := ky_pt_len h; omega)
  refine jT_pos (by rw [show (65 : Int32) = Int32.ofNat 65 from rfl, jo_le (by omega) (by omega)]; exact c4) ?_
  clear no n1
  obtain ⟨p1, p2, ⟨b0, p3⟩, p4⟩ := hp
  refine z15_puts hs (sK_443 hs) (by omega) (by omega) (by decide) p3 p4 fun H1 c s1 f1 B1 hcj m1 fk => ?_
  have C1 : z13C H1 := z13C_I p1 (jfP_w f1 (by decide) (by decide)) (jfP_w f1 (by decide) (by decide))
  have q1 : z25 H1 := z25_I p2 (jfP_w f1 (by decide) (by decide))
  have eky : ky_pt c ky.length = ky_pt (fun i => ky.getD i 0) ky.length := ky_pt_ext fun j hj => by
    have := h443 j _ (getD_of hj)
    rw [Nat.zero_add] at this
    exact (hcj j hj).trans this
  unfold B_15_fits_29
  refine jT_pos (by rw [jo_le (by omega) (by omega)]; exact Nat.le_refl _) (jT_g (k15 s1) ?_)
  rw [sR_427_1 s1]
  refine jT_g (k13 s1) (jT_b (z13_key (i := 0) (len := ky.length) rfl (by decide) (by omega) s1 C1 B1 m1 (fun q H2 e2 s2 C2 f2 x2 y2 => ?_) fun H2 e2 s2 C2 f2 => ?_))
  rotate_left
  · -- no key
    have B2 : zB13 H2 c := zB13_f3 (fun j hj => (jI_sIa (by decide)).trans (B1 j hj)) f2
    refine jT_neg (by decide) (jT_g (by decide) (jT_ret (hk H2 0 s2 ⟨C2, z25_f3 (z25_I q1 fun j => jI_sIa (by decide)) f2 (by unfold zT13; decide) (by unfold zT13; decide), ⟨c, B2⟩, (jf3_w f2 (by decide) 6).trans jI_sIe⟩ (jfr_trans (jfr_sI (jfr_fP f1) (Or.inr (Or.inr (Or.inl ⟨rfl, rfl⟩)))) (jfr_f3 f2)) (Or.inr ⟨rfl, fun ⟨q, h, _⟩ => ?_⟩))))
    rw [← eky, e2] at h
    cases h
  -- a key
  have hq : eg_c e7 q := ky_pt_c e2
  have s2' : jsh (jsI H2 433 0 0) := jsh_sI s2 (by decide)
  have B2 : zB13 (jsI H2 433 0 0) c := fun j hj => (jI_sIa (by decide)).trans (zB13_f3 (H := jsI H1 428 6 0) (fun j hj => (jI_sIa (by decide)).trans (B1 j hj)) f2 j hj)
  have C2' : z13C (jsI H2 433 0 0) := z13C_sI C2 (by decide) (by decide)
  have q2 : z25 (jsI H2 433 0 0) := z25_I (z25_f3 (z25_I q1 fun j => jI_sIa (by decide)) f2 (by unfold zK13; decide) (by unfold zK13; decide)) fun j => jI_sIa (by decide)
  have m2 : jI (jsI H2 433 0 0) 428 6 = 0 := (jI_sIa (by decide)).trans ((jf3_w f2 (by decide) 6).trans jI_sIe)
  have x2' : zr (jsI H2 433 0 0) 10 q.1.val := zr_sI x2 (by decide)
  have y2' : zr (jsI H2 433 0 0) 11 q.2.val := zr_sI y2 (by decide)
  have t2 : jI (jsI H2 433 0 0) 433 0 = 0 := jI_sIe
  have f02 : jfr w_S15 H0 (jsI H2 433 0 0) := jfr_sI (jfr_trans (jfr_sI (jfr_fP f1) (Or.inr (Or.inr (Or.inl ⟨rfl, rfl⟩)))) (jfr_f3 f2)) (Or.inr (Or.inr (Or.inr (Or.inr (by omega)))))
  have cc2 : w_c15 row s len lr la llen inp tb y lk (jsI H2 433 0 0) := w_c15_sI (w_c15_f3 (w_c15_sI (w_c15_fP hc f1) (Or.inl rfl)) f2) (Or.inr rfl)
  have r442 : zRow (jsI H2 433 0 0) 442 0 sg := zRow_eq h442 fun i _ => (jfr_B f02 (by unfold w_S15; omega))
  refine jT_pos (by decide) ?_
  generalize jsI H2 433 0 0 = H3 at *
  clear f1 f2 B1 m1 fk C1 q1 x2 y2 C2 h442 h443 p1 p2 p3 p4 hc
  obtain ⟨n, hn⟩ : ∃ n, sg.length = n + 1 := ⟨sg.length - 1, by omega⟩
  have en : Int32.ofNat (n + 1) - 1 = Int32.ofNat n := jo_sub (a := n + 1) (b := 1) (by omega)
  rw [hn]
  refine z15_puts73 (n := n) s2' (sK_442 s2') (by omega) (by omega) (by decide) B2 m2 fun H4 c' s4 f4 B4 hcj4 m4 fk => ?_
  have C4 : z13C H4 := z13C_I C2' (jfP_w f4 (by decide) (by decide)) (jfP_w f4 (by decide) (by decide))
  have q4 : z25 H4 := z25_I q2 (jfP_w f4 (by decide) (by decide))
  have esg : ∀ j, j < n + 1 - 1 → c' j = (fun i => sg.getD i 0) j := fun j hj => by
    have := r442 j _ (getD_of (by omega))
    rw [Nat.zero_add] at this
    exact (hcj4 j (by omega)).trans this
  unfold B_15_fits_73
  rw [en]
  refine jT_pos (by rw [jo_le (by omega) (by omega)]; exact Nat.le_refl _) (jT_g (k15 s4) ?_)
  rw [sR_427_1 s4]
  refine jT_g (k13 s4) (jT_b (z13_signature (ra := 0) (rb := 1) (m := n) rfl rfl (by decide) (by decide) (by decide) (by omega) s4 C4 B4 m4 (fun H5 s5 C5 f5 b5 r5 t5 => ?_) fun nb => ?_))
  rotate_left
  · -- no signature
    refine jT_neg (by decide) (jT_g (by decide) (jT_ret (hk _ 0 (jsh_sI s4 (by decide)) ⟨z13C_sI C4 (by decide) (by decide), z25_I q4 fun j => jI_sIa (by decide), ⟨c', fun j hj => (jI_sIa (by decide)).trans (B4 j hj)⟩, jI_sIe⟩ (jfr_sI (jfr_trans f02 (jfr_fP f4)) (Or.inr (Or.inr (Or.inl ⟨rfl, rfl⟩)))) (Or.inr ⟨rfl, fun ⟨q', _, h, _⟩ => ?_⟩))))
    rw [hn] at h
    exact nb ((sg_b_ext esg).mpr h)
  obtain ⟨bb, -, -, er, es⟩ := sg_b_imp esg b5
  rw [er] at r5
  rw [es] at t5
  have q5 : z25 H5 := z25_f3 (z25_I q4 fun j => jI_sIa (by decide)) f5 (by decide) (by decide)
  have B5 : zB13 H5 c' := zB13_f3 (fun j hj => (jI_sIa (by decide)).trans (B4 j hj)) f5
  have m5 : jI H5 428 6 = 0 := (jf3_w f5 (by decide) 6).trans jI_sIe
  have x5 : zr H5 10 q.1.val := zr_f3 (zr_sI (zr_I x2' (jfP_w f4 (by decide) (by decide))) (by decide)) f5 (by decide)
  have y5 : zr H5 11 q.2.val := zr_f3 (zr_sI (zr_I y2' (jfP_w f4 (by decide) (by decide))) (by decide)) f5 (by decide)
  have u5 : jI H5 433 0 = 0 := (jf3_w f5 (by decide) 0).trans ((jI_sIa (by decide)).trans ((jfP_w f4 (by decide) (by decide) 0).trans t2))
  have cc5 : w_c15 row s len lr la llen inp tb y lk H5 := w_c15_f3 (w_c15_sI (w_c15_fP cc2 f4) (Or.inl rfl)) f5
  have f05 : jfr w_S15 H0 H5 := jfr_trans (jfr_sI (jfr_trans f02 (jfr_fP f4)) (Or.inr (Or.inr (Or.inl ⟨rfl, rfl⟩)))) (jfr_f3 f5)
  have r5' : jB H5 442 n = sg.getD n 0 := by
    have e1 := r442 n _ (getD_of (by omega))
    rw [Nat.zero_add] at e1
    rw [f5.2.2.2.2.1]
    show jB H4 442 n = _
    rw [f4.2.2.2.2.2.1]
    exact e1
  have pp5 : w_p13 H5 := ⟨C5, q5, ⟨c', B5⟩, m5⟩
  generalize hkd : (sg.getD n 0).toNat = kd at *
  have hkd256 : kd < 256 := by rw [← hkd]; exact u8_lt _
  have e31 : Int32.ofNat kd &&& 31 = Int32.ofNat (kd % 32) := jo_mask (m := kd) (k := 5) (by decide)
  have fin : ∀ H' v, jsh H' → w_p13 H' → jfr w_S15 H5 H' → (v = 1 ∧ sg_in (sg_r fun i => sg.getD i 0) (sg_s fun i => sg.getD i 0) ∧ sg_ok (sg_r fun i => sg.getD i 0) (sg_s fun i => sg.getD i 0) (w_z tb y inp lk kd) q ∨ v = 0 ∧ ¬ (sg_in (sg_r fun i => sg.getD i 0) (sg_s fun i => sg.getD i 0) ∧ sg_ok (sg_r fun i => sg.getD i 0) (sg_s fun i => sg.getD i 0) (w_z tb y inp lk kd) q)) → Q v H' := by
    intro H' v s' p' f' hv
    refine hk H' v s' p' (jfr_trans f05 f') ?_
    have el : (sg.getD (sg.length - 1) 0).toNat = kd := by
      rw [hn, show n + 1 - 1 = n by omega]
      exact hkd
    rcases hv with ⟨e, h1, h2⟩ | ⟨e, h⟩
    · refine Or.inl ⟨e, q, eky.symm.trans e2, by rw [hn]; exact bb, h1, ?_⟩
      rw [el]
      exact h2
    · refine Or.inr ⟨e, fun ⟨q', h0, h1, h2, h3⟩ => h ?_⟩
      rw [← eky, e2] at h0
      obtain rfl := Option.some.inj h0
      rw [el] at h3
      exact ⟨h2, h3⟩
  refine jT_pos (by decide) ?_
  rw [jo_nat (n := n) (by omega), r5', jb_and, hkd]
  refine jT_g (gA (sK_442 s5) (jo_in (by omega) (by omega))) (jT_l ?_)
  rw [e31]
  by_cases k3 : kd % 32 = 3
  · refine jT_neg (fun w => w (by rw [k3]; rfl)) (jT_g (k15 s5) (jT_g (k15 s5) ?_))
    have cc5c := cc5
    obtain ⟨⟨g1, g2, g3, g4, g5, g6⟩, -, -, ⟨d1, d2, d3, d4⟩, -⟩ := cc5c
    rw [g2, g3, d4]
    refine jT_g (k56 s5) ?_
    by_cases k4 : inp < y.2.1.length
    · exact jT_pos (by rw [jo_lt (by omega) (by omega)]; exact k4) (z15_w166 hy hkd256 (fun _ => k4) hlk cc5 pp5 hq u5 x5 y5 r5 t5 fin)
    · refine jT_neg (by rw [jo_lt (by omega) (by omega)]; exact k4) (jT_g (k15 s5) ?_)
      rw [sR_427_1 s5]
      refine jT_g (k13 s5) (jT_b (z13_set (a := 2) (w := fun k => if k = 0 then 1 else 0) rfl rfl rfl rfl rfl (fun i _ => by show (if i = 0 then 1 else 0) < _; split <;> omega) (by decide) s5 fun H6 s6 f6 z6 => ?_))
      have ez : nv 18446744073709551616 (fun k => if k = 0 then 1 else 0) 4 = w_z tb y inp lk kd := by
        unfold w_z
        rw [if_pos ⟨k3, by omega⟩, nv_succ, nv_succ, nv_succ, nv_succ, nv_nil]
        show 0 + 1 * 18446744073709551616 ^ 0 + 0 * _ + 0 * _ + 0 * _ = 1
        rw [Nat.pow_zero]
      rw [ez] at z6
      obtain ⟨⟨h1, h2, h3', h4, h5, h6, h7⟩, -⟩ := pp5
      refine z15_w222 (kd := kd) s6 ⟨⟨zr_f3 h1 f6 (by decide), zr_f3 h2 f6 (by decide), zr_f3 h3' f6 (by decide), zr_f3 h4 f6 (by decide), zr_f3 h5 f6 (by decide), zr_f3 h6 f6 (by decide), fun m i w1 w2 => (jf3_w f6 (by decide) _).trans (h7 m i w1 w2)⟩, z25_f3 q5 f6 (by decide) (by decide), ⟨c', zB13_f3 B5 f6⟩, (jf3_w f6 (by decide) 6).trans m5⟩ hq ((jf3_w f6 (by decide) 0).trans u5) (zr_f3 x5 f6 (by decide)) (zr_f3 y5 f6 (by decide)) (zr_f3 r5 f6 (by decide)) (zr_f3 t5 f6 (by decide)) z6 ?_ fun H' v s' p' f' hv => fin H' v s' p' (jfr_trans (jfr_f3 f6) f') hv
      unfold w_z
      rw [if_pos ⟨k3, by omega⟩]
      unfold t256
      decide +kernel
  · exact jT_pos (fun w => k3 ((jo_eq (a := kd % 32) (b := 3) (by omega) (by omega)).mp w)) (z15_w166 hy hkd256 (fun w => absurd w k3) hlk cc5 pp5 hq u5 x5 y5 r5 t5 fin)
end FITS15B
