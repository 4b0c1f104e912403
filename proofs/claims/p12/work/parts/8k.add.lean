/-! Point.add. -/
theorem ef_nz {x y : ef} (h : x * y = 0) (hy : y ≠ 0) : x = 0 := (ef_dom x y h).resolve_right hy
theorem z5_normE {Q : Int32 → jH → Prop} {t r : Nat} {H : jH} {v : ef} {B : Int} (e : t = r) (k0 : jK H r = (103, 10)) (h : zL H r v B) (hB : B ≤ 8589934592) (hk : ∀ H', jfL (· = r) H H' → Q (if v = 0 then 1 else 0) H') : jT (F_5_normalize t H) Q := by
  subst e
  exact z5_norm k0 h hB fun H' f hf _ _ _ => hk H' hf
theorem ef_10 {t : ef} (e : 1 * t + 0 * t = 0) : t = 0 := by grind
theorem ef_sub0 {x y : ef} (e : x - y = 0) : x = y := by grind
theorem ef_00 (x w : ef) : 1 * ((x - x) * w) + 0 * ((x - x) * w) = 0 := by grind
theorem zL_same {H H' : jH} {r : Nat} {v : ef} {B : Int} (h : zL H r v B) (he : ∀ j, jL H' r j = jL H r j) : zL H' r v B := zL_cp h fun j _ => he j
theorem ef_opp {x1 y1 x2 y2 : ef} (h1 : eg_c e7 (x1, y1)) (h2 : eg_c e7 (x2, y2)) (hx : x1 = x2) (hy : y1 ≠ y2) : y1 = -y2 := by
  unfold eg_c at h1 h2
  change y1 * y1 = x1 * x1 * x1 + e7 at h1
  change y2 * y2 = x2 * x2 * x2 + e7 at h2
  rw [hx, ← h2] at h1
  have e : (y1 - y2) * (y1 + y2) = 0 := by
    clear h2 hx hy
    grind
  rcases ef_dom _ _ e with w | w
  · exact absurd (ef_sub0 w) hy
  · clear h1 h2 e hx hy
    grind
section ADD
variable {Q : Int32 → jH → Prop} {p q : Nat} {H : jH}
theorem z5_add241 {v : Int32} (kp : (jK H p).1 = 5) (hv : v = 0 ∨ v = 1) (hQ : Q v (jsI H p 3 v)) : jT (B_5_add_241 p p v H) Q := by
  unfold B_5_add_241
  refine jT_g ⟨kp, hv⟩ (jT_l (jT_g kp ?_))
  have e : jI (jsI H p 3 v) p 3 = v := jI_sIe
  rw [e]
  exact jT_g hv (jT_ret hQ)
/-- behind the differences -/
theorem z5_add181 {x1 y1 Z1 Y1 x2 y2 Z2 : ef} {U1 S1 H1v Kv : ef} {m : Int} {m' : Int64} (hm : m' = Int64.ofInt m) (hm1 : m = 1 ∨ m = -1) (hs : jsh H) (hp : zpt p) (hq : zpt q) (hne : p ≠ q) (h3 : jI H p 3 = 0) (hc1 : eg_c e7 (x1, y1)) (hc2 : eg_c e7 (x2, y2))
    (hZ1 : Z1 ≠ 0) (hZ2 : Z2 ≠ 0) (hP : zP5 H p (some (x1, y1)))
    (zz : zL H (p + 3) Z1 zBd) (qz : zL H (q + 3) Z2 zBd) (zl : zL H 78 U1 zRb) (za : zL H 79 H1v zBd) (zo : zL H 80 S1 zRb) (zu : zL H 81 Kv zRb)
    (eU : U1 = x1 * (Z1 * Z2 * (Z1 * Z2))) (eS : S1 = y1 * (Z1 * Z2 * (Z1 * Z2) * (Z1 * Z2))) (eH : H1v = (x2 - x1) * (Z1 * Z2 * (Z1 * Z2))) (eK : ef_i m * Kv + ef_i (-1) * S1 = (y2 - y1) * (Z1 * Z2 * (Z1 * Z2) * (Z1 * Z2)))
    (hk : ∀ r H', jfJ (zS5 p) H H' → ((r = 1 ∧ zP5 H' p (eg_add ef_iv (some (x1, y1)) (some (x2, y2)))) ∨ (r = 0 ∧ (x1, y1) = (x2, y2) ∧ zP5 H' p (some (x1, y1)))) → Q r H') :
    jT (B_5_add_181 p q 75 76 77 78 79 80 81 81 81 m' H) Q := by
  obtain ⟨kp, ⟨rx, ry, rz⟩, kx, ky, kz⟩ := sPt hs hp
  obtain ⟨kq, ⟨sx, sy, sz⟩, lx, ly, lz⟩ := sPt hs hq
  have kp5 : (jK H p).1 = 5 := by rw [kp]
  have kq5 : (jK H q).1 = 5 := by rw [kq]
  have hgp : (96 ≤ p ∧ p < 168) ∧ (96 ≤ q ∧ q < 168) ∧ (p + 4 ≤ q ∨ q + 4 ≤ p) := ⟨zpt_ge hp, zpt_ge hq, zpt_ne hp hq hne⟩
  have k75 := sK75 hs
  have k751 : (jK H 75).1 = 112 := by rw [k75]
  have kw : ∀ n, n < 8 → jK H (76 + n) = (103, 10) ∧ jR H 75 n = 76 + n := fun n hn => sWk hs (by omega)
  have hW : Z1 * Z2 ≠ 0 := ef_nm hZ1 hZ2
  have hWW : Z1 * Z2 * (Z1 * Z2) ≠ 0 := ef_nm hW hW
  have hWWW : Z1 * Z2 * (Z1 * Z2) * (Z1 * Z2) ≠ 0 := ef_nm hWW hW
  have g6 : ∀ (K' : Nat → Nat × Nat), K' = jK H → (K' 75).1 = 112 ∧ jin (6 : Int32) (K' 75).2 := fun K' e => by rw [e, k75]; exact ⟨rfl, by decide⟩
  have g7 : ∀ (K' : Nat → Nat × Nat), K' = jK H → (K' 75).1 = 112 ∧ jin (7 : Int32) (K' 75).2 := fun K' e => by rw [e, k75]; exact ⟨rfl, by decide⟩
  have s_w0 : zS5 p 76 := Or.inl ⟨by decide, by decide⟩
  have s_w1 : zS5 p 77 := Or.inl ⟨by decide, by decide⟩
  have s_w2 : zS5 p 78 := Or.inl ⟨by decide, by decide⟩
  have s_w3 : zS5 p 79 := Or.inl ⟨by decide, by decide⟩
  have s_w4 : zS5 p 80 := Or.inl ⟨by decide, by decide⟩
  have s_w5 : zS5 p 81 := Or.inl ⟨by decide, by decide⟩
  have s_w6 : zS5 p 82 := Or.inl ⟨by decide, by decide⟩
  have s_w7 : zS5 p 83 := Or.inl ⟨by decide, by decide⟩
  have s_px : zS5 p (p + 1) := Or.inr ⟨by omega, by omega⟩
  have s_py : zS5 p (p + 2) := Or.inr ⟨by omega, by omega⟩
  have s_pz : zS5 p (p + 3) := Or.inr ⟨by omega, by omega⟩
  unfold B_5_add_181
  have fr0 : jfJ (zS5 p) H H := jfJ_refl
  have ii0 : jI H = jI H := rfl
  have kk0 : jK H = jK H := rfl
  have rr0 : jR H = jR H := rfl
  refine jT_b (z5_mixE (a0 := 81) (a1 := 81) (a2 := 80) (m := m) (n := (-1)) (C := zBd) rfl rfl rfl (by rw [kk0]; exact (kw 5 (by decide)).1) (by rw [kk0]; exact (kw 5 (by decide)).1) (by rw [kk0]; exact (kw 4 (by decide)).1) zu zo hm rfl (fun x y q1 q2 q3 q4 => by unfold zRb zBd at *; rcases hm1 with e | e <;> rw [e] <;> omega) fun H1 f1 v1 => ?_)
  have fr1 := jfJ_L fr0 f1 (fun a ha => by rw [ha]; exact s_w5)
  have kk1 : jK H1 = jK H := fr1.1
  have rr1 : jR H1 = jR H := fr1.2.2.2.1
  have ii1 : jI H1 = jI H := f1.2.2.2.1.trans ii0
  have pz1 := zL_fL zz f1 (by have := hgp; show ¬ p + 3 = 81; omega)
  have qz1 := zL_fL qz f1 (by have := hgp; show ¬ q + 3 = 81; omega)
  have w21 := zL_fL zl f1 (by have := hgp; show ¬ 78 = 81; omega)
  have w31 := zL_fL za f1 (by have := hgp; show ¬ 79 = 81; omega)
  have w41 := zL_fL zo f1 (by have := hgp; show ¬ 80 = 81; omega)
  obtain ⟨V1, hV1⟩ : ∃ x : ef, x = ef_i m * Kv + ef_i (-1) * S1 := ⟨_, rfl⟩
  rw [← hV1] at v1
  have w51 := v1
  refine jT_g (g6 _ kk1) ?_
  refine jT_b (z5_mixE (a0 := 82) (a1 := 79) (a2 := 79) (m := 1) (n := 0) (C := zBd) (by rw [rr1]; exact (kw 6 (by decide)).2) rfl rfl (by rw [kk1]; exact (kw 6 (by decide)).1) (by rw [kk1]; exact (kw 3 (by decide)).1) (by rw [kk1]; exact (kw 3 (by decide)).1) w31 w31 rfl rfl (fun x y q1 q2 q3 q4 => by unfold zRb zBd at *; omega) fun H2 f2 v2 => ?_)
  have fr2 := jfJ_L fr1 f2 (fun a ha => by rw [ha]; exact s_w6)
  have kk2 : jK H2 = jK H := fr2.1
  have rr2 : jR H2 = jR H := fr2.2.2.2.1
  have ii2 : jI H2 = jI H := f2.2.2.2.1.trans ii1
  have pz2 := zL_fL pz1 f2 (by have := hgp; show ¬ p + 3 = 82; omega)
  have qz2 := zL_fL qz1 f2 (by have := hgp; show ¬ q + 3 = 82; omega)
  have w22 := zL_fL w21 f2 (by have := hgp; show ¬ 78 = 82; omega)
  have w32 := zL_fL w31 f2 (by have := hgp; show ¬ 79 = 82; omega)
  have w42 := zL_fL w41 f2 (by have := hgp; show ¬ 80 = 82; omega)
  have w52 := zL_fL w51 f2 (by have := hgp; show ¬ 81 = 82; omega)
  obtain ⟨V2, hV2⟩ : ∃ x : ef, x = ef_i 1 * H1v + ef_i 0 * H1v := ⟨_, rfl⟩
  rw [← hV2] at v2
  have w62 := v2
  have hV6 : V2 = 0 ↔ x1 = x2 := by
    rw [hV2, ef_c1, ef_c0, eH]
    refine ⟨fun e => ?_, fun e => ?_⟩
    · exact (ef_sub0 (ef_nz (ef_10 e) hWW)).symm
    · rw [e]; exact ef_00 _ _
  refine jT_g (g6 _ kk2) (jT_b (z5_normE (r := 82) (by rw [rr2]; exact (kw 6 (by decide)).2) (by rw [kk2]; exact (kw 6 (by decide)).1) w62 (by decide) fun Hn fn => ?_))
  have fr3 := jfJ_L fr2 fn (fun a ha => by rw [ha]; exact s_w6)
  have kk3 : jK Hn = jK H := fr3.1
  have rr3 : jR Hn = jR H := fr3.2.2.2.1
  have ii3 : jI Hn = jI H := fn.2.2.2.1.trans ii2
  generalize hHn : Hn = H3 at *
  have pz3 := zL_fL pz2 fn (by have := hgp; show ¬ p + 3 = 82; omega)
  have qz3 := zL_fL qz2 fn (by have := hgp; show ¬ q + 3 = 82; omega)
  have w23 := zL_fL w22 fn (by have := hgp; show ¬ 78 = 82; omega)
  have w33 := zL_fL w32 fn (by have := hgp; show ¬ 79 = 82; omega)
  have w43 := zL_fL w42 fn (by have := hgp; show ¬ 80 = 82; omega)
  have w53 := zL_fL w52 fn (by have := hgp; show ¬ 81 = 82; omega)
  by_cases hx : x1 = x2
  · rw [if_pos (hV6.mpr hx)]
    refine jT_neg (by decide) ?_
    refine jT_g (g7 _ kk3) ?_
    refine jT_b (z5_mixE (a0 := 83) (a1 := 81) (a2 := 81) (m := 1) (n := 0) (C := zBd) (by rw [rr3]; exact (kw 7 (by decide)).2) rfl rfl (by rw [kk3]; exact (kw 7 (by decide)).1) (by rw [kk3]; exact (kw 5 (by decide)).1) (by rw [kk3]; exact (kw 5 (by decide)).1) w53 w53 rfl rfl (fun x y q1 q2 q3 q4 => by unfold zRb zBd at *; omega) fun H4 f4 v4 => ?_)
    have fr4 := jfJ_L fr3 f4 (fun a ha => by rw [ha]; exact s_w7)
    have kk4 : jK H4 = jK H := fr4.1
    have rr4 : jR H4 = jR H := fr4.2.2.2.1
    have ii4 : jI H4 = jI H := f4.2.2.2.1.trans ii3
    have pz4 := zL_fL pz3 f4 (by have := hgp; show ¬ p + 3 = 83; omega)
    have qz4 := zL_fL qz3 f4 (by have := hgp; show ¬ q + 3 = 83; omega)
    have w24 := zL_fL w23 f4 (by have := hgp; show ¬ 78 = 83; omega)
    have w34 := zL_fL w33 f4 (by have := hgp; show ¬ 79 = 83; omega)
    have w44 := zL_fL w43 f4 (by have := hgp; show ¬ 80 = 83; omega)
    have w54 := zL_fL w53 f4 (by have := hgp; show ¬ 81 = 83; omega)
    obtain ⟨V3, hV3⟩ : ∃ x : ef, x = ef_i 1 * V1 + ef_i 0 * V1 := ⟨_, rfl⟩
    rw [← hV3] at v4
    have w74 := v4
    refine jT_g (g7 _ kk4) (jT_b (z5_normE (r := 83) (by rw [rr4]; exact (kw 7 (by decide)).2) (by rw [kk4]; exact (kw 7 (by decide)).1) w74 (by decide) fun Hz fz => ?_))
    have frz := jfJ_L fr4 fz (fun a ha => by rw [ha]; exact s_w7)
    have kpz : (jK Hz p).1 = 5 := by rw [frz.1]; exact kp5
    have hVz : V3 = 0 ↔ y1 = y2 := by
      rw [hV3, ef_c1, ef_c0, hV1, eK]
      refine ⟨fun e => ?_, fun e => ?_⟩
      · exact (ef_sub0 (ef_nz (ef_10 e) hWWW)).symm
      · rw [e]; exact ef_00 _ _
    have fzi := jfJ_sI (i := 3) (v := (0 : Int32)) frz (show zS5 p p from Or.inr ⟨Nat.le_refl p, by omega⟩)
    have fzi1 := jfJ_sI (i := 3) (v := (1 : Int32)) frz (show zS5 p p from Or.inr ⟨Nat.le_refl p, by omega⟩)
    have hrow : ∀ (v : Int32) (j : Nat), jL (jsI Hz p 3 v) (p + 1) j = jL H (p + 1) j := fun v j => (fz.2.2.2.2.2.2 (p + 1) (by have := hgp; show ¬ p + 1 = 83; omega) j).trans ((f4.2.2.2.2.2.2 (p + 1) (by have := hgp; show ¬ p + 1 = 83; omega) j).trans ((fn.2.2.2.2.2.2 (p + 1) (by have := hgp; show ¬ p + 1 = 82; omega) j).trans ((f2.2.2.2.2.2.2 (p + 1) (by have := hgp; show ¬ p + 1 = 82; omega) j).trans (f1.2.2.2.2.2.2 (p + 1) (by have := hgp; show ¬ p + 1 = 81; omega) j))))
    have hrow2 : ∀ (v : Int32) (j : Nat), jL (jsI Hz p 3 v) (p + 2) j = jL H (p + 2) j := fun v j => (fz.2.2.2.2.2.2 (p + 2) (by have := hgp; show ¬ p + 2 = 83; omega) j).trans ((f4.2.2.2.2.2.2 (p + 2) (by have := hgp; show ¬ p + 2 = 83; omega) j).trans ((fn.2.2.2.2.2.2 (p + 2) (by have := hgp; show ¬ p + 2 = 82; omega) j).trans ((f2.2.2.2.2.2.2 (p + 2) (by have := hgp; show ¬ p + 2 = 82; omega) j).trans (f1.2.2.2.2.2.2 (p + 2) (by have := hgp; show ¬ p + 2 = 81; omega) j))))
    have hrow3 : ∀ (v : Int32) (j : Nat), jL (jsI Hz p 3 v) (p + 3) j = jL H (p + 3) j := fun v j => (fz.2.2.2.2.2.2 (p + 3) (by have := hgp; show ¬ p + 3 = 83; omega) j).trans ((f4.2.2.2.2.2.2 (p + 3) (by have := hgp; show ¬ p + 3 = 83; omega) j).trans ((fn.2.2.2.2.2.2 (p + 3) (by have := hgp; show ¬ p + 3 = 82; omega) j).trans ((f2.2.2.2.2.2.2 (p + 3) (by have := hgp; show ¬ p + 3 = 82; omega) j).trans (f1.2.2.2.2.2.2 (p + 3) (by have := hgp; show ¬ p + 3 = 81; omega) j))))
    by_cases hy : y1 = y2
    · rw [if_pos (hVz.mpr hy)]
      refine jT_pos (by decide) (z5_add241 kpz (Or.inl rfl) (hk 0 _ fzi (Or.inr ⟨rfl, by rw [hx, hy], ?_⟩)))
      obtain ⟨c1, c2, X, Y, Z, c3, c4, c5, c6⟩ := hP
      exact ⟨jI_sIe, c2, X, Y, Z, zL_same c3 (hrow 0), zL_same c4 (hrow2 0), zL_same c5 (hrow3 0), c6⟩
    · rw [if_neg (fun e => hy (hVz.mp e))]
      refine jT_neg (by decide) (z5_add241 kpz (Or.inr rfl) (hk 1 _ fzi1 (Or.inl ⟨rfl, ?_⟩)))
      rw [eg_add_op ⟨hx, ?_⟩]
      · exact jI_sIe
      · refine ef_opp hc1 hc2 hx hy
  · rw [if_neg (fun e => hx (hV6.mp e))]
    refine jT_pos rfl ?_
    refine jT_g (by rw [kk3]; exact kp5) (jT_g (by rw [kk3]; exact kp5) (jT_g (by rw [kk3]; exact kq5) (jT_b (z5_mulE (a0 := p + 3) (a1 := p + 3) (a2 := q + 3) (by rw [rr3]; exact rz) (by rw [rr3]; exact rz) (by rw [rr3]; exact sz) (by rw [kk3]; exact kz) (by rw [kk3]; exact kz) (by rw [kk3]; exact lz) pz3 qz3 (by decide) fun H4 f4 v4 => ?_))))
    have fr4 := jfJ_L fr3 f4 (fun a ha => by rw [ha]; exact s_pz)
    have kk4 : jK H4 = jK H := fr4.1
    have rr4 : jR H4 = jR H := fr4.2.2.2.1
    have ii4 : jI H4 = jI H := f4.2.2.2.1.trans ii3
    have qz4 := zL_fL qz3 f4 (by have := hgp; show ¬ q + 3 = p + 3; omega)
    have w24 := zL_fL w23 f4 (by have := hgp; show ¬ 78 = p + 3; omega)
    have w34 := zL_fL w33 f4 (by have := hgp; show ¬ 79 = p + 3; omega)
    have w44 := zL_fL w43 f4 (by have := hgp; show ¬ 80 = p + 3; omega)
    have w54 := zL_fL w53 f4 (by have := hgp; show ¬ 81 = p + 3; omega)
    obtain ⟨V3, hV3⟩ : ∃ x : ef, x = Z1 * Z2 := ⟨_, rfl⟩
    rw [← hV3] at v4
    have pz4 := v4
    refine jT_g (by rw [kk4]; exact kp5) (jT_g (by rw [kk4]; exact kp5) (jT_b (z5_mulE (a0 := p + 3) (a1 := p + 3) (a2 := 79) (by rw [rr4]; exact rz) (by rw [rr4]; exact rz) rfl (by rw [kk4]; exact kz) (by rw [kk4]; exact kz) (by rw [kk4]; exact (kw 3 (by decide)).1) pz4 w34 (by decide) fun H5 f5 v5 => ?_)))
    have fr5 := jfJ_L fr4 f5 (fun a ha => by rw [ha]; exact s_pz)
    have kk5 : jK H5 = jK H := fr5.1
    have rr5 : jR H5 = jR H := fr5.2.2.2.1
    have ii5 : jI H5 = jI H := f5.2.2.2.1.trans ii4
    have qz5 := zL_fL qz4 f5 (by have := hgp; show ¬ q + 3 = p + 3; omega)
    have w25 := zL_fL w24 f5 (by have := hgp; show ¬ 78 = p + 3; omega)
    have w35 := zL_fL w34 f5 (by have := hgp; show ¬ 79 = p + 3; omega)
    have w45 := zL_fL w44 f5 (by have := hgp; show ¬ 80 = p + 3; omega)
    have w55 := zL_fL w54 f5 (by have := hgp; show ¬ 81 = p + 3; omega)
    obtain ⟨V4, hV4⟩ : ∃ x : ef, x = V3 * H1v := ⟨_, rfl⟩
    rw [← hV4] at v5
    have pz5 := v5
    refine jT_b (z5_mulE (a0 := 76) (a1 := 79) (a2 := 79) rfl rfl rfl (by rw [kk5]; exact (kw 0 (by decide)).1) (by rw [kk5]; exact (kw 3 (by decide)).1) (by rw [kk5]; exact (kw 3 (by decide)).1) w35 w35 (by decide) fun H6 f6 v6 => ?_)
    have fr6 := jfJ_L fr5 f6 (fun a ha => by rw [ha]; exact s_w0)
    have kk6 : jK H6 = jK H := fr6.1
    have rr6 : jR H6 = jR H := fr6.2.2.2.1
    have ii6 : jI H6 = jI H := f6.2.2.2.1.trans ii5
    have pz6 := zL_fL pz5 f6 (by have := hgp; show ¬ p + 3 = 76; omega)
    have qz6 := zL_fL qz5 f6 (by have := hgp; show ¬ q + 3 = 76; omega)
    have w26 := zL_fL w25 f6 (by have := hgp; show ¬ 78 = 76; omega)
    have w36 := zL_fL w35 f6 (by have := hgp; show ¬ 79 = 76; omega)
    have w46 := zL_fL w45 f6 (by have := hgp; show ¬ 80 = 76; omega)
    have w56 := zL_fL w55 f6 (by have := hgp; show ¬ 81 = 76; omega)
    obtain ⟨V5, hV5⟩ : ∃ x : ef, x = H1v * H1v := ⟨_, rfl⟩
    rw [← hV5] at v6
    have w06 := v6
    refine jT_b (z5_mulE (a0 := 77) (a1 := 76) (a2 := 79) rfl rfl rfl (by rw [kk6]; exact (kw 1 (by decide)).1) (by rw [kk6]; exact (kw 0 (by decide)).1) (by rw [kk6]; exact (kw 3 (by decide)).1) w06 w36 (by decide) fun H7 f7 v7 => ?_)
    have fr7 := jfJ_L fr6 f7 (fun a ha => by rw [ha]; exact s_w1)
    have kk7 : jK H7 = jK H := fr7.1
    have rr7 : jR H7 = jR H := fr7.2.2.2.1
    have ii7 : jI H7 = jI H := f7.2.2.2.1.trans ii6
    have pz7 := zL_fL pz6 f7 (by have := hgp; show ¬ p + 3 = 77; omega)
    have qz7 := zL_fL qz6 f7 (by have := hgp; show ¬ q + 3 = 77; omega)
    have w07 := zL_fL w06 f7 (by have := hgp; show ¬ 76 = 77; omega)
    have w27 := zL_fL w26 f7 (by have := hgp; show ¬ 78 = 77; omega)
    have w37 := zL_fL w36 f7 (by have := hgp; show ¬ 79 = 77; omega)
    have w47 := zL_fL w46 f7 (by have := hgp; show ¬ 80 = 77; omega)
    have w57 := zL_fL w56 f7 (by have := hgp; show ¬ 81 = 77; omega)
    obtain ⟨V6, hV6⟩ : ∃ x : ef, x = V5 * H1v := ⟨_, rfl⟩
    rw [← hV6] at v7
    have w17 := v7
    refine jT_b (z5_mulE (a0 := 78) (a1 := 78) (a2 := 76) rfl rfl rfl (by rw [kk7]; exact (kw 2 (by decide)).1) (by rw [kk7]; exact (kw 2 (by decide)).1) (by rw [kk7]; exact (kw 0 (by decide)).1) w27 w07 (by decide) fun H8 f8 v8 => ?_)
    have fr8 := jfJ_L fr7 f8 (fun a ha => by rw [ha]; exact s_w2)
    have kk8 : jK H8 = jK H := fr8.1
    have rr8 : jR H8 = jR H := fr8.2.2.2.1
    have ii8 : jI H8 = jI H := f8.2.2.2.1.trans ii7
    have pz8 := zL_fL pz7 f8 (by have := hgp; show ¬ p + 3 = 78; omega)
    have qz8 := zL_fL qz7 f8 (by have := hgp; show ¬ q + 3 = 78; omega)
    have w08 := zL_fL w07 f8 (by have := hgp; show ¬ 76 = 78; omega)
    have w18 := zL_fL w17 f8 (by have := hgp; show ¬ 77 = 78; omega)
    have w38 := zL_fL w37 f8 (by have := hgp; show ¬ 79 = 78; omega)
    have w48 := zL_fL w47 f8 (by have := hgp; show ¬ 80 = 78; omega)
    have w58 := zL_fL w57 f8 (by have := hgp; show ¬ 81 = 78; omega)
    obtain ⟨V7, hV7⟩ : ∃ x : ef, x = U1 * V5 := ⟨_, rfl⟩
    rw [← hV7] at v8
    have w28 := v8
    refine jT_b (z5_mulE (a0 := 76) (a1 := 81) (a2 := 81) rfl rfl rfl (by rw [kk8]; exact (kw 0 (by decide)).1) (by rw [kk8]; exact (kw 5 (by decide)).1) (by rw [kk8]; exact (kw 5 (by decide)).1) w58 w58 (by decide) fun H9 f9 v9 => ?_)
    have fr9 := jfJ_L fr8 f9 (fun a ha => by rw [ha]; exact s_w0)
    have kk9 : jK H9 = jK H := fr9.1
    have rr9 : jR H9 = jR H := fr9.2.2.2.1
    have ii9 : jI H9 = jI H := f9.2.2.2.1.trans ii8
    have pz9 := zL_fL pz8 f9 (by have := hgp; show ¬ p + 3 = 76; omega)
    have qz9 := zL_fL qz8 f9 (by have := hgp; show ¬ q + 3 = 76; omega)
    have w19 := zL_fL w18 f9 (by have := hgp; show ¬ 77 = 76; omega)
    have w29 := zL_fL w28 f9 (by have := hgp; show ¬ 78 = 76; omega)
    have w39 := zL_fL w38 f9 (by have := hgp; show ¬ 79 = 76; omega)
    have w49 := zL_fL w48 f9 (by have := hgp; show ¬ 80 = 76; omega)
    have w59 := zL_fL w58 f9 (by have := hgp; show ¬ 81 = 76; omega)
    obtain ⟨V8, hV8⟩ : ∃ x : ef, x = V1 * V1 := ⟨_, rfl⟩
    rw [← hV8] at v9
    have w09 := v9
    refine jT_g (by rw [kk9]; exact kp5) (jT_b (z5_mixE (a0 := p + 1) (a1 := 76) (a2 := 77) (m := 1) (n := (-1)) (C := zBd) (by rw [rr9]; exact rx) rfl rfl (by rw [kk9]; exact kx) (by rw [kk9]; exact (kw 0 (by decide)).1) (by rw [kk9]; exact (kw 1 (by decide)).1) w09 w19 rfl rfl (fun x y q1 q2 q3 q4 => by unfold zRb zBd at *; omega) fun H10 f10 v10 => ?_))
    have fr10 := jfJ_L fr9 f10 (fun a ha => by rw [ha]; exact s_px)
    have kk10 : jK H10 = jK H := fr10.1
    have rr10 : jR H10 = jR H := fr10.2.2.2.1
    have ii10 : jI H10 = jI H := f10.2.2.2.1.trans ii9
    have pz10 := zL_fL pz9 f10 (by have := hgp; show ¬ p + 3 = p + 1; omega)
    have qz10 := zL_fL qz9 f10 (by have := hgp; show ¬ q + 3 = p + 1; omega)
    have w010 := zL_fL w09 f10 (by have := hgp; show ¬ 76 = p + 1; omega)
    have w110 := zL_fL w19 f10 (by have := hgp; show ¬ 77 = p + 1; omega)
    have w210 := zL_fL w29 f10 (by have := hgp; show ¬ 78 = p + 1; omega)
    have w310 := zL_fL w39 f10 (by have := hgp; show ¬ 79 = p + 1; omega)
    have w410 := zL_fL w49 f10 (by have := hgp; show ¬ 80 = p + 1; omega)
    have w510 := zL_fL w59 f10 (by have := hgp; show ¬ 81 = p + 1; omega)
    obtain ⟨V9, hV9⟩ : ∃ x : ef, x = ef_i 1 * V8 + ef_i (-1) * V6 := ⟨_, rfl⟩
    rw [← hV9] at v10
    have px10 := v10
    refine jT_g (by rw [kk10]; exact kp5) (jT_g (by rw [kk10]; exact kp5) (jT_b (z5_mixE (a0 := p + 1) (a1 := p + 1) (a2 := 78) (m := 1) (n := (-2)) (C := 1000000000) (by rw [rr10]; exact rx) (by rw [rr10]; exact rx) rfl (by rw [kk10]; exact kx) (by rw [kk10]; exact kx) (by rw [kk10]; exact (kw 2 (by decide)).1) px10 w210 rfl rfl (fun x y q1 q2 q3 q4 => by unfold zRb zBd at *; omega) fun H11 f11 v11 => ?_)))
    have fr11 := jfJ_L fr10 f11 (fun a ha => by rw [ha]; exact s_px)
    have kk11 : jK H11 = jK H := fr11.1
    have rr11 : jR H11 = jR H := fr11.2.2.2.1
    have ii11 : jI H11 = jI H := f11.2.2.2.1.trans ii10
    have pz11 := zL_fL pz10 f11 (by have := hgp; show ¬ p + 3 = p + 1; omega)
    have qz11 := zL_fL qz10 f11 (by have := hgp; show ¬ q + 3 = p + 1; omega)
    have w011 := zL_fL w010 f11 (by have := hgp; show ¬ 76 = p + 1; omega)
    have w111 := zL_fL w110 f11 (by have := hgp; show ¬ 77 = p + 1; omega)
    have w211 := zL_fL w210 f11 (by have := hgp; show ¬ 78 = p + 1; omega)
    have w311 := zL_fL w310 f11 (by have := hgp; show ¬ 79 = p + 1; omega)
    have w411 := zL_fL w410 f11 (by have := hgp; show ¬ 80 = p + 1; omega)
    have w511 := zL_fL w510 f11 (by have := hgp; show ¬ 81 = p + 1; omega)
    obtain ⟨V10, hV10⟩ : ∃ x : ef, x = ef_i 1 * V9 + ef_i (-2) * V7 := ⟨_, rfl⟩
    rw [← hV10] at v11
    have px11 := v11
    refine jT_g (by rw [kk11]; exact kp5) (jT_b (z5_settleE (r := p + 1) (by rw [rr11]; exact rx) (by rw [kk11]; exact kx) px11 (by decide) fun H12 f12 v12 => ?_))
    have fr12 := jfJ_L fr11 f12 (fun a ha => by rw [ha]; exact s_px)
    have kk12 : jK H12 = jK H := fr12.1
    have rr12 : jR H12 = jR H := fr12.2.2.2.1
    have ii12 : jI H12 = jI H := f12.2.2.2.1.trans ii11
    have pz12 := zL_fL pz11 f12 (by have := hgp; show ¬ p + 3 = p + 1; omega)
    have qz12 := zL_fL qz11 f12 (by have := hgp; show ¬ q + 3 = p + 1; omega)
    have w012 := zL_fL w011 f12 (by have := hgp; show ¬ 76 = p + 1; omega)
    have w112 := zL_fL w111 f12 (by have := hgp; show ¬ 77 = p + 1; omega)
    have w212 := zL_fL w211 f12 (by have := hgp; show ¬ 78 = p + 1; omega)
    have w312 := zL_fL w311 f12 (by have := hgp; show ¬ 79 = p + 1; omega)
    have w412 := zL_fL w411 f12 (by have := hgp; show ¬ 80 = p + 1; omega)
    have w512 := zL_fL w511 f12 (by have := hgp; show ¬ 81 = p + 1; omega)
    have px12 := v12
    refine jT_g (by rw [kk12]; exact kp5) (jT_b (z5_mixE (a0 := 78) (a1 := 78) (a2 := p + 1) (m := 1) (n := (-1)) (C := zBd) rfl rfl (by rw [rr12]; exact rx) (by rw [kk12]; exact (kw 2 (by decide)).1) (by rw [kk12]; exact (kw 2 (by decide)).1) (by rw [kk12]; exact kx) w212 px12 rfl rfl (fun x y q1 q2 q3 q4 => by unfold zRb zBd at *; omega) fun H13 f13 v13 => ?_))
    have fr13 := jfJ_L fr12 f13 (fun a ha => by rw [ha]; exact s_w2)
    have kk13 : jK H13 = jK H := fr13.1
    have rr13 : jR H13 = jR H := fr13.2.2.2.1
    have ii13 : jI H13 = jI H := f13.2.2.2.1.trans ii12
    have px13 := zL_fL px12 f13 (by have := hgp; show ¬ p + 1 = 78; omega)
    have pz13 := zL_fL pz12 f13 (by have := hgp; show ¬ p + 3 = 78; omega)
    have qz13 := zL_fL qz12 f13 (by have := hgp; show ¬ q + 3 = 78; omega)
    have w013 := zL_fL w012 f13 (by have := hgp; show ¬ 76 = 78; omega)
    have w113 := zL_fL w112 f13 (by have := hgp; show ¬ 77 = 78; omega)
    have w313 := zL_fL w312 f13 (by have := hgp; show ¬ 79 = 78; omega)
    have w413 := zL_fL w412 f13 (by have := hgp; show ¬ 80 = 78; omega)
    have w513 := zL_fL w512 f13 (by have := hgp; show ¬ 81 = 78; omega)
    obtain ⟨V11, hV11⟩ : ∃ x : ef, x = ef_i 1 * V7 + ef_i (-1) * V10 := ⟨_, rfl⟩
    rw [← hV11] at v13
    have w213 := v13
    refine jT_b (z5_mulE (a0 := 78) (a1 := 78) (a2 := 81) rfl rfl rfl (by rw [kk13]; exact (kw 2 (by decide)).1) (by rw [kk13]; exact (kw 2 (by decide)).1) (by rw [kk13]; exact (kw 5 (by decide)).1) w213 w513 (by decide) fun H14 f14 v14 => ?_)
    have fr14 := jfJ_L fr13 f14 (fun a ha => by rw [ha]; exact s_w2)
    have kk14 : jK H14 = jK H := fr14.1
    have rr14 : jR H14 = jR H := fr14.2.2.2.1
    have ii14 : jI H14 = jI H := f14.2.2.2.1.trans ii13
    have px14 := zL_fL px13 f14 (by have := hgp; show ¬ p + 1 = 78; omega)
    have pz14 := zL_fL pz13 f14 (by have := hgp; show ¬ p + 3 = 78; omega)
    have qz14 := zL_fL qz13 f14 (by have := hgp; show ¬ q + 3 = 78; omega)
    have w014 := zL_fL w013 f14 (by have := hgp; show ¬ 76 = 78; omega)
    have w114 := zL_fL w113 f14 (by have := hgp; show ¬ 77 = 78; omega)
    have w314 := zL_fL w313 f14 (by have := hgp; show ¬ 79 = 78; omega)
    have w414 := zL_fL w413 f14 (by have := hgp; show ¬ 80 = 78; omega)
    have w514 := zL_fL w513 f14 (by have := hgp; show ¬ 81 = 78; omega)
    obtain ⟨V12, hV12⟩ : ∃ x : ef, x = V11 * V1 := ⟨_, rfl⟩
    rw [← hV12] at v14
    have w214 := v14
    refine jT_b (z5_mulE (a0 := 80) (a1 := 80) (a2 := 77) rfl rfl rfl (by rw [kk14]; exact (kw 4 (by decide)).1) (by rw [kk14]; exact (kw 4 (by decide)).1) (by rw [kk14]; exact (kw 1 (by decide)).1) w414 w114 (by decide) fun H15 f15 v15 => ?_)
    have fr15 := jfJ_L fr14 f15 (fun a ha => by rw [ha]; exact s_w4)
    have kk15 : jK H15 = jK H := fr15.1
    have rr15 : jR H15 = jR H := fr15.2.2.2.1
    have ii15 : jI H15 = jI H := f15.2.2.2.1.trans ii14
    have px15 := zL_fL px14 f15 (by have := hgp; show ¬ p + 1 = 80; omega)
    have pz15 := zL_fL pz14 f15 (by have := hgp; show ¬ p + 3 = 80; omega)
    have qz15 := zL_fL qz14 f15 (by have := hgp; show ¬ q + 3 = 80; omega)
    have w015 := zL_fL w014 f15 (by have := hgp; show ¬ 76 = 80; omega)
    have w115 := zL_fL w114 f15 (by have := hgp; show ¬ 77 = 80; omega)
    have w215 := zL_fL w214 f15 (by have := hgp; show ¬ 78 = 80; omega)
    have w315 := zL_fL w314 f15 (by have := hgp; show ¬ 79 = 80; omega)
    have w515 := zL_fL w514 f15 (by have := hgp; show ¬ 81 = 80; omega)
    obtain ⟨V13, hV13⟩ : ∃ x : ef, x = S1 * V6 := ⟨_, rfl⟩
    rw [← hV13] at v15
    have w415 := v15
    refine jT_g (by rw [kk15]; exact kp5) (jT_b (z5_mixE (a0 := p + 2) (a1 := 78) (a2 := 80) (m := 1) (n := (-1)) (C := zBd) (by rw [rr15]; exact ry) rfl rfl (by rw [kk15]; exact ky) (by rw [kk15]; exact (kw 2 (by decide)).1) (by rw [kk15]; exact (kw 4 (by decide)).1) w215 w415 rfl rfl (fun x y q1 q2 q3 q4 => by unfold zRb zBd at *; omega) fun H16 f16 v16 => ?_))
    have fr16 := jfJ_L fr15 f16 (fun a ha => by rw [ha]; exact s_py)
    have kk16 : jK H16 = jK H := fr16.1
    have rr16 : jR H16 = jR H := fr16.2.2.2.1
    have ii16 : jI H16 = jI H := f16.2.2.2.1.trans ii15
    have px16 := zL_fL px15 f16 (by have := hgp; show ¬ p + 1 = p + 2; omega)
    have pz16 := zL_fL pz15 f16 (by have := hgp; show ¬ p + 3 = p + 2; omega)
    have qz16 := zL_fL qz15 f16 (by have := hgp; show ¬ q + 3 = p + 2; omega)
    have w016 := zL_fL w015 f16 (by have := hgp; show ¬ 76 = p + 2; omega)
    have w116 := zL_fL w115 f16 (by have := hgp; show ¬ 77 = p + 2; omega)
    have w216 := zL_fL w215 f16 (by have := hgp; show ¬ 78 = p + 2; omega)
    have w316 := zL_fL w315 f16 (by have := hgp; show ¬ 79 = p + 2; omega)
    have w416 := zL_fL w415 f16 (by have := hgp; show ¬ 80 = p + 2; omega)
    have w516 := zL_fL w515 f16 (by have := hgp; show ¬ 81 = p + 2; omega)
    obtain ⟨V14, hV14⟩ : ∃ x : ef, x = ef_i 1 * V12 + ef_i (-1) * V13 := ⟨_, rfl⟩
    rw [← hV14] at v16
    have py16 := v16
    refine jT_g (by decide) (jT_ret (hk 1 H16 fr16 (Or.inl ⟨rfl, ?_⟩)))
    have hop : ¬ eg_op (x1, y1) (x2, y2) := fun e => hx e.1
    have hl := eg_sl_ok ef_fld hc1 hc2 hop
    rw [eg_add_l ef_fld hc1 hc2 hop hl]
    rw [ef_c1, ef_m1] at hV9
    rw [ef_c1, ef_m2] at hV10
    rw [ef_c1, ef_m1] at hV11
    rw [ef_c1, ef_m1] at hV14
    rw [eK] at hV1
    obtain ⟨e1, e2⟩ := ej_add2 (x1 := x1) (y1 := y1) (x2 := x2) (y2 := y2) (W := Z1 * Z2) (Z1 := Z1) (Z2 := Z2) hl.1 rfl eH hV1 eU eS hV3 hV4 hV5 hV6 hV7 hV8 hV9 hV10 hV11 hV12 hV13 hV14
    refine ⟨by rw [ii16]; exact h3, eg_3_c hc1 hl, V10, V14, V4, px16, py16, zL_mono pz16 (by decide), ?_, e1, e2⟩
    rw [hV4, hV3, eH]
    exact ef_nm hW (ef_nm (fun e => hx (ef_sub0 e).symm) hWW)
end ADD
