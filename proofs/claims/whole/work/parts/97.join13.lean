/-! Points.join of the reference. -/
theorem et_add1 {α : Type} [Lean.Grind.CommRing α] {x1 y1 x2 y2 Z1 Z2 X1 Y1 X2 Y2 U V : α} (h1 : X1 = x1 * Z1) (h2 : Y1 = y1 * Z1) (h3 : X2 = x2 * Z2) (h4 : Y2 = y2 * Z2) (hU : U = Y2 * Z1 - Y1 * Z2) (hV : V = X2 * Z1 - X1 * Z2) : U = (y2 - y1) * (Z1 * Z2) ∧ V = (x2 - x1) * (Z1 * Z2) := by
  rw [hU, hV, h1, h2, h3, h4]
  clear hU hV h1 h2 h3 h4
  exact ⟨by grind, by grind⟩
theorem et_add2 {α : Type} [Lean.Grind.CommRing α] {x1 y1 x2 y2 l U V W : α} (hl : l * (x1 - x2) = y1 - y2) (hU : U = (y2 - y1) * W) (hV : V = (x2 - x1) * W) : U = l * V := by
  rw [hU, hV]
  clear hU hV
  grind
theorem et_add3 {α : Type} [Lean.Grind.CommRing α] {x1 y1 x2 l U V W B2 R V3 A X3 Y3 F1 : α} (hU : U = l * V) (hV : V = (x2 - x1) * W) (hB : B2 = x1 * W) (hR : R = V * V * B2) (hV3 : V3 = V * V * V) (hA : A = U * U * W - V3 - R - R) (hX3 : X3 = V * A) (hF : F1 = y1 * W) (hY3 : Y3 = U * (R - A) - F1 * V3) :
    X3 = (l * l - x1 - x2) * (V3 * W) ∧ Y3 = (l * (x1 - (l * l - x1 - x2)) - y1) * (V3 * W) := by
  rw [hX3, hY3, hA, hR, hV3, hB, hF, hU, hV]
  clear hX3 hY3 hA hR hV3 hB hF hU hV
  exact ⟨by grind, by grind⟩
theorem et_sq {α : Type} [Lean.Grind.CommRing α] {x1 x2 y1 y2 b : α} (e : x1 = x2) (h1 : y1 * y1 = x1 * x1 * x1 + b) (h2 : y2 * y2 = x2 * x2 * x2 + b) : (y2 - y1) * (y1 + y2) = 0 := by
  rw [e] at h1
  clear e
  grind
theorem et_ng {α : Type} [Lean.Grind.CommRing α] {y1 y2 : α} (h : y1 + y2 = 0) : y1 = -y2 := by grind
theorem et_m3 (x a b : ef) : x * a * b = x * (a * b) := by grind
theorem ev_0 {v : ef} : v.val = 0 ↔ v = 0 := ⟨fun e => Fin.ext e, fun e => by rw [e]; rfl⟩
section JN13
variable {Q : Unit → jH → Prop} {H0 : jH} {q : Nat} {q' : Int32}
theorem z13_cp25 {o : Option (ef × ef)} {p : Nat} {p' : Int32} (ep : p' = Int32.ofNat p) (hp : p = 25 ∨ p = 28 ∨ p = 44) (eq : q' = Int32.ofNat q) (hq : q = 22 ∨ q = 25 ∨ q = 28 ∨ q = 44) (hne : p ≠ q) (hs : jsh H0) (hC : z13C H0) (h : zq3 H0 q o) (hk : ∀ H', jsh H' → z13C H' → jf3 (fun j => p ≤ j ∧ j ≤ p + 2) H0 H' → zq3 H' p o → Q () H') : jT (F_13_copyPoint 428 p' q' H0) Q := by
  have ex : ∃ X Y Z, zr H0 q X ∧ zr H0 (q + 1) Y ∧ zr H0 (q + 2) Z ∧ ∀ H', zr H' p X → zr H' (p + 1) Y → zr H' (p + 2) Z → zq3 H' p o := by
    cases o with
    | none =>
      obtain ⟨X, Y, hX, hY, h0⟩ := h
      exact ⟨X, Y, 0, hX, hY, h0, fun _ a b d => ⟨X, Y, a, b, d⟩⟩
    | some o =>
      obtain ⟨c, X, Y, Z, a, b, d, e⟩ := h
      exact ⟨X.val, Y.val, Z.val, a, b, d, fun _ a b d => ⟨c, X, Y, Z, a, b, d, e⟩⟩
  obtain ⟨X, Y, Z, zX, zY, zZ, hfin⟩ := ex
  unfold F_13_copyPoint
  have ep1 : p' + 1 = Int32.ofNat (p + 1) := by rw [ep]; exact jo_add (a := p) (b := 1)
  have ep2 : p' + 2 = Int32.ofNat (p + 2) := by rw [ep]; exact jo_add (a := p) (b := 2)
  have eq1 : q' + 1 = Int32.ofNat (q + 1) := by rw [eq]; exact jo_add (a := q) (b := 1)
  have eq2 : q' + 2 = Int32.ofNat (q + 2) := by rw [eq]; exact jo_add (a := q) (b := 2)
  refine jT_g (k13 hs) (jT_b (z13_copyE ep eq (by omega) (by omega) ⟨by omega, by omega, by omega, by omega, by omega, by omega⟩ hs hC zX fun H1 s1 C1 f1 z1 => ?_))
  refine jT_g (k13 s1) (jT_b (z13_copyE ep1 eq1 (by omega) (by omega) ⟨by omega, by omega, by omega, by omega, by omega, by omega⟩ s1 C1 (zr_f3 zY f1 (by omega)) fun H2 s2 C2 f2 z2 => ?_))
  refine jT_g (k13 s2) (jT_b (z13_copyE ep2 eq2 (by omega) (by omega) ⟨by omega, by omega, by omega, by omega, by omega, by omega⟩ s2 C2 (zr_f3 (zr_f3 zZ f1 (by omega)) f2 (by omega)) fun H3 s3 C3 f3 z3 => jT_ret (hk H3 s3 C3 ?_ (hfin H3 (zr_f3 (zr_f3 z1 f2 (by omega)) f3 (by omega)) (zr_f3 z2 f3 (by omega)) z3))))
  exact jf3_S (jf3_S (jf3_S jf3_refl f1 (by show p ≤ p ∧ p ≤ p + 2; omega)) f2 (by show p ≤ p + 1 ∧ p + 1 ≤ p + 2; omega)) f3 (by show p ≤ p + 2 ∧ p + 2 ≤ p + 2; omega)
theorem z13_join {o1 o2 : Option (ef × ef)} (eq : q' = Int32.ofNat q) (hq : q = 28 ∨ q = 44) (hs : jsh H0) (hC : z13C H0) (hp1 : zq3 H0 25 o1) (hp2 : zq3 H0 q o2) (hk : ∀ H', jsh H' → z13C H' → jf3 zS25 H0 H' → zq3 H' 25 (eg_add ef_iv o1 o2) → Q () H') : jT (F_13_join 428 25 q' H0) Q := by
  have eq1 : q' + 1 = Int32.ofNat (q + 1) := by rw [eq]; exact jo_add (a := q) (b := 1)
  have eq2 : q' + 2 = Int32.ofNat (q + 2) := by rw [eq]; exact jo_add (a := q) (b := 2)
  unfold F_13_join B_13_join_133
  cases o2 with
  | none =>
    obtain ⟨_, _, _, _, h0⟩ := hp2
    refine jT_g (k13 hs) (jT_b (z13_isNone (a := q) (x := 0) eq (by omega) hs h0 ?_))
    rw [if_pos rfl]
    refine jT_neg (by decide) (jT_ret (hk H0 hs hC jf3_refl ?_))
    rw [eg_add_none]
    exact hp1
  | some Q2 =>
  have hp20 := hp2
  obtain ⟨hc2, X2, Y2, Z2, zX2, zY2, zZ2, hZ2, hX2, hY2⟩ := hp2
  refine jT_g (k13 hs) (jT_b (z13_isNone (a := q) eq (by omega) hs zZ2 ?_))
  rw [if_neg fun e => hZ2 (ev_0.mp e)]
  refine jT_pos rfl ?_
  cases o1 with
  | none =>
    obtain ⟨_, _, _, _, h0⟩ := hp1
    refine jT_g (k13 hs) (jT_b (z13_isNone (a := 25) (x := 0) rfl (by decide) hs h0 ?_))
    rw [if_pos rfl]
    refine jT_neg (by decide) (jT_g (k13 hs) (jT_b (z13_cp25 (p := 25) rfl (Or.inl rfl) eq (by omega) (by omega) hs hC hp20 fun H1 s1 C1 f1 z1 => jT_ret (hk H1 s1 C1 (jf3_mono f1 fun j q => Or.inl q) z1))))
  | some Q1 =>
  have hp10 := hp1
  obtain ⟨x1, y1⟩ := Q1
  obtain ⟨x2, y2⟩ := Q2
  obtain ⟨hc1, X1, Y1, Z1, zX1, zY1, zZ1, hZ1, hX1, hY1⟩ := hp1
  change X1 = x1 * Z1 at hX1
  change Y1 = y1 * Z1 at hY1
  change X2 = x2 * Z2 at hX2
  change Y2 = y2 * Z2 at hY2
  refine jT_g (k13 hs) (jT_b (z13_isNone (a := 25) rfl (by decide) hs zZ1 ?_))
  rw [if_neg fun e => hZ1 (ev_0.mp e)]
  refine jT_pos rfl ?_
  refine jT_g (k13 hs) (jT_b (z13_mulE (a := 31) (b := (q + 1)) (c := 27) rfl eq1 (by decide) (by decide) (by omega) (by decide) ⟨by decide, by decide, by decide, by decide, by decide, by decide⟩ hs hC zY2 zZ1 fun H1 s1 C1 f1 z1 => ?_))
  obtain ⟨A1, h_A1⟩ : ∃ t, t = Y2 * Z1 := ⟨_, rfl⟩
  rw [← h_A1] at z1
  have g1 : jf3 zS25 H0 H1 := jf3_S jf3_refl f1 (by unfold zS25; decide)
  have x1_25 := zr_f3 zX1 f1 (by decide)
  have x1_26 := zr_f3 zY1 f1 (by decide)
  have x1_27 := zr_f3 zZ1 f1 (by decide)
  have x1_q := zr_f3 zX2 f1 (by omega)
  have x1_q1 := zr_f3 zY2 f1 (by omega)
  have x1_q2 := zr_f3 zZ2 f1 (by omega)
  refine jT_g (k13 s1) (jT_b (z13_mulE (a := 34) (b := 26) (c := (q + 2)) rfl (by decide) eq2 (by decide) (by decide) (by omega) ⟨by decide, by decide, by decide, by decide, by decide, by decide⟩ s1 C1 x1_26 x1_q2 fun H2 s2 C2 f2 z2 => ?_))
  obtain ⟨A2, h_A2⟩ : ∃ t, t = Y1 * Z2 := ⟨_, rfl⟩
  rw [← h_A2] at z2
  have g2 : jf3 zS25 H0 H2 := jf3_S g1 f2 (by unfold zS25; decide)
  have x2_25 := zr_f3 x1_25 f2 (by decide)
  have x2_26 := zr_f3 x1_26 f2 (by decide)
  have x2_27 := zr_f3 x1_27 f2 (by decide)
  have x2_q := zr_f3 x1_q f2 (by omega)
  have x2_q1 := zr_f3 x1_q1 f2 (by omega)
  have x2_q2 := zr_f3 x1_q2 f2 (by omega)
  have x2_31 := zr_f3 z1 f2 (by decide)
  refine jT_g (k13 s2) (jT_b (z13_minusE (a := 31) (b := 31) (c := 34) rfl rfl rfl (by decide) (by decide) (by decide) (by decide) ⟨by decide, by decide, by decide, by decide, by decide, by decide⟩ s2 C2 x2_31 z2 fun H3 s3 C3 f3 z3 => ?_))
  obtain ⟨U, h_U⟩ : ∃ t, t = A1 - A2 := ⟨_, rfl⟩
  rw [← h_U] at z3
  have g3 : jf3 zS25 H0 H3 := jf3_S2 g2 f3 (by unfold zS25; decide) (by unfold zS25; decide)
  have x3_25 := zr_f3 x2_25 f3 (by decide)
  have x3_26 := zr_f3 x2_26 f3 (by decide)
  have x3_27 := zr_f3 x2_27 f3 (by decide)
  have x3_q := zr_f3 x2_q f3 (by omega)
  have x3_q1 := zr_f3 x2_q1 f3 (by omega)
  have x3_q2 := zr_f3 x2_q2 f3 (by omega)
  have x3_34 := zr_f3 z2 f3 (by decide)
  refine jT_g (k13 s3) (jT_b (z13_mulE (a := 32) (b := q) (c := 27) rfl eq (by decide) (by decide) (by omega) (by decide) ⟨by decide, by decide, by decide, by decide, by decide, by decide⟩ s3 C3 x3_q x3_27 fun H4 s4 C4 f4 z4 => ?_))
  obtain ⟨B1, h_B1⟩ : ∃ t, t = X2 * Z1 := ⟨_, rfl⟩
  rw [← h_B1] at z4
  have g4 : jf3 zS25 H0 H4 := jf3_S g3 f4 (by unfold zS25; decide)
  have x4_25 := zr_f3 x3_25 f4 (by decide)
  have x4_26 := zr_f3 x3_26 f4 (by decide)
  have x4_27 := zr_f3 x3_27 f4 (by decide)
  have x4_q := zr_f3 x3_q f4 (by omega)
  have x4_q1 := zr_f3 x3_q1 f4 (by omega)
  have x4_q2 := zr_f3 x3_q2 f4 (by omega)
  have x4_31 := zr_f3 z3 f4 (by decide)
  have x4_34 := zr_f3 x3_34 f4 (by decide)
  refine jT_g (k13 s4) (jT_b (z13_mulE (a := 34) (b := 25) (c := (q + 2)) rfl rfl eq2 (by decide) (by decide) (by omega) ⟨by decide, by decide, by decide, by decide, by decide, by decide⟩ s4 C4 x4_25 x4_q2 fun H5 s5 C5 f5 z5 => ?_))
  obtain ⟨B2, h_B2⟩ : ∃ t, t = X1 * Z2 := ⟨_, rfl⟩
  rw [← h_B2] at z5
  have g5 : jf3 zS25 H0 H5 := jf3_S g4 f5 (by unfold zS25; decide)
  have x5_25 := zr_f3 x4_25 f5 (by decide)
  have x5_26 := zr_f3 x4_26 f5 (by decide)
  have x5_27 := zr_f3 x4_27 f5 (by decide)
  have x5_q := zr_f3 x4_q f5 (by omega)
  have x5_q1 := zr_f3 x4_q1 f5 (by omega)
  have x5_q2 := zr_f3 x4_q2 f5 (by omega)
  have x5_31 := zr_f3 x4_31 f5 (by decide)
  have x5_32 := zr_f3 z4 f5 (by decide)
  refine jT_g (k13 s5) (jT_b (z13_minusE (a := 32) (b := 32) (c := 34) rfl rfl rfl (by decide) (by decide) (by decide) (by decide) ⟨by decide, by decide, by decide, by decide, by decide, by decide⟩ s5 C5 x5_32 z5 fun H6 s6 C6 f6 z6 => ?_))
  obtain ⟨V, h_V⟩ : ∃ t, t = B1 - B2 := ⟨_, rfl⟩
  rw [← h_V] at z6
  have g6 : jf3 zS25 H0 H6 := jf3_S2 g5 f6 (by unfold zS25; decide) (by unfold zS25; decide)
  have x6_25 := zr_f3 x5_25 f6 (by decide)
  have x6_26 := zr_f3 x5_26 f6 (by decide)
  have x6_27 := zr_f3 x5_27 f6 (by decide)
  have x6_q := zr_f3 x5_q f6 (by omega)
  have x6_q1 := zr_f3 x5_q1 f6 (by omega)
  have x6_q2 := zr_f3 x5_q2 f6 (by omega)
  have x6_31 := zr_f3 x5_31 f6 (by decide)
  have x6_34 := zr_f3 z5 f6 (by decide)
  obtain ⟨hU2, hV2⟩ := et_add1 (U := U) hX1 hY1 hX2 hY2 (by rw [h_U, h_A1, h_A2]) (by rw [h_V, h_B1, h_B2] : V = X2 * Z1 - X1 * Z2)
  have hW0 : Z1 * Z2 ≠ 0 := ef_nm hZ1 hZ2
  refine jT_g (k13 s6) (jT_b (z13_isNothing (a := 32) rfl (by decide) s6 z6 ?_))
  by_cases hV0 : V = 0
  · rw [if_pos (ev_0.mpr hV0)]
    have hxx : x1 = x2 := by
      rw [hV0] at hV2
      rcases ef_dom _ _ hV2.symm with e | e
      · exact eg_q2 e
      · exact absurd e hW0
    refine jT_neg (by decide) (jT_g (k13 s6) (jT_b (z13_isNothing (a := 31) rfl (by decide) s6 x6_31 ?_)))
    by_cases hU0 : U = 0
    · rw [if_pos (ev_0.mpr hU0)]
      have hyy : y1 = y2 := by
        rw [hU0] at hU2
        rcases ef_dom _ _ hU2.symm with e | e
        · exact eg_q2 e
        · exact absurd e hW0
      have hpq : zq3 H6 25 (some (x1, y1)) := ⟨hc1, X1, Y1, Z1, x6_25, x6_26, x6_27, hZ1, hX1, hY1⟩
      refine jT_neg (by decide) (jT_g (k13 s6) (jT_b (z13_twice s6 C6 hpq fun H' s' C' f' z' => jT_ret (hk H' s' C' (jf3_trans g6 f') ?_))))
      rw [← hxx, ← hyy]
      exact z'
    · rw [if_neg fun e => hU0 (ev_0.mp e)]
      have hyn : y2 - y1 ≠ 0 := fun e => hU0 (by rw [hU2, e, Fin.zero_mul])
      have hop : eg_op (x1, y1) (x2, y2) := ⟨hxx, et_ng ((ef_dom _ _ (et_sq hxx hc1 hc2)).resolve_left hyn)⟩
      refine jT_pos rfl (jT_g (k13 s6) (jT_b (z13_nothing (a := 27) rfl (by decide) s6 fun H' s' f' z' => jT_ret (hk H' s' (z13C_f3 C6 f' ⟨by decide, by decide, by decide, by decide, by decide, by decide⟩) (jf3_S g6 f' (by unfold zS25; decide)) ?_))))
      rw [eg_add_op hop]
      exact ⟨X1.val, Y1.val, zr_f3 x6_25 f' (by decide), zr_f3 x6_26 f' (by decide), z'⟩
  · rw [if_neg fun e => hV0 (ev_0.mp e)]
    refine jT_pos rfl ?_
    refine jT_g (k13 s6) (jT_b (z13_mulE (a := 35) (b := 32) (c := 32) rfl rfl rfl (by decide) (by decide) (by decide) ⟨by decide, by decide, by decide, by decide, by decide, by decide⟩ s6 C6 z6 z6 fun H7 s7 C7 f7 z7 => ?_))
    obtain ⟨VV, h_VV⟩ : ∃ t, t = V * V := ⟨_, rfl⟩
    rw [← h_VV] at z7
    have g7 : jf3 zS25 H0 H7 := jf3_S g6 f7 (by unfold zS25; decide)
    have x7_26 := zr_f3 x6_26 f7 (by decide)
    have x7_27 := zr_f3 x6_27 f7 (by decide)
    have x7_q2 := zr_f3 x6_q2 f7 (by omega)
    have x7_31 := zr_f3 x6_31 f7 (by decide)
    have x7_34 := zr_f3 x6_34 f7 (by decide)
    have x7_32 := zr_f3 z6 f7 (by decide)
    refine jT_g (k13 s7) (jT_b (z13_mulE (a := 33) (b := 35) (c := 34) rfl rfl rfl (by decide) (by decide) (by decide) ⟨by decide, by decide, by decide, by decide, by decide, by decide⟩ s7 C7 z7 x7_34 fun H8 s8 C8 f8 z8 => ?_))
    obtain ⟨R, h_R⟩ : ∃ t, t = VV * B2 := ⟨_, rfl⟩
    rw [← h_R] at z8
    have g8 : jf3 zS25 H0 H8 := jf3_S g7 f8 (by unfold zS25; decide)
    have x8_26 := zr_f3 x7_26 f8 (by decide)
    have x8_27 := zr_f3 x7_27 f8 (by decide)
    have x8_q2 := zr_f3 x7_q2 f8 (by omega)
    have x8_31 := zr_f3 x7_31 f8 (by decide)
    have x8_32 := zr_f3 x7_32 f8 (by decide)
    have x8_35 := zr_f3 z7 f8 (by decide)
    refine jT_g (k13 s8) (jT_b (z13_mulE (a := 35) (b := 35) (c := 32) rfl rfl rfl (by decide) (by decide) (by decide) ⟨by decide, by decide, by decide, by decide, by decide, by decide⟩ s8 C8 x8_35 x8_32 fun H9 s9 C9 f9 z9 => ?_))
    obtain ⟨V3, h_V3⟩ : ∃ t, t = VV * V := ⟨_, rfl⟩
    rw [← h_V3] at z9
    have g9 : jf3 zS25 H0 H9 := jf3_S g8 f9 (by unfold zS25; decide)
    have x9_26 := zr_f3 x8_26 f9 (by decide)
    have x9_27 := zr_f3 x8_27 f9 (by decide)
    have x9_q2 := zr_f3 x8_q2 f9 (by omega)
    have x9_31 := zr_f3 x8_31 f9 (by decide)
    have x9_32 := zr_f3 x8_32 f9 (by decide)
    have x9_33 := zr_f3 z8 f9 (by decide)
    refine jT_g (k13 s9) (jT_b (z13_mulE (a := 36) (b := 27) (c := (q + 2)) rfl (by decide) eq2 (by decide) (by decide) (by omega) ⟨by decide, by decide, by decide, by decide, by decide, by decide⟩ s9 C9 x9_27 x9_q2 fun H10 s10 C10 f10 z10 => ?_))
    obtain ⟨W, h_W⟩ : ∃ t, t = Z1 * Z2 := ⟨_, rfl⟩
    rw [← h_W] at z10
    have g10 : jf3 zS25 H0 H10 := jf3_S g9 f10 (by unfold zS25; decide)
    have x10_26 := zr_f3 x9_26 f10 (by decide)
    have x10_q2 := zr_f3 x9_q2 f10 (by omega)
    have x10_31 := zr_f3 x9_31 f10 (by decide)
    have x10_32 := zr_f3 x9_32 f10 (by decide)
    have x10_35 := zr_f3 z9 f10 (by decide)
    have x10_33 := zr_f3 x9_33 f10 (by decide)
    refine jT_g (k13 s10) (jT_b (z13_mulE (a := 34) (b := 31) (c := 31) rfl rfl rfl (by decide) (by decide) (by decide) ⟨by decide, by decide, by decide, by decide, by decide, by decide⟩ s10 C10 x10_31 x10_31 fun H11 s11 C11 f11 z11 => ?_))
    obtain ⟨UU, h_UU⟩ : ∃ t, t = U * U := ⟨_, rfl⟩
    rw [← h_UU] at z11
    have g11 : jf3 zS25 H0 H11 := jf3_S g10 f11 (by unfold zS25; decide)
    have x11_26 := zr_f3 x10_26 f11 (by decide)
    have x11_q2 := zr_f3 x10_q2 f11 (by omega)
    have x11_31 := zr_f3 x10_31 f11 (by decide)
    have x11_32 := zr_f3 x10_32 f11 (by decide)
    have x11_35 := zr_f3 x10_35 f11 (by decide)
    have x11_33 := zr_f3 x10_33 f11 (by decide)
    have x11_36 := zr_f3 z10 f11 (by decide)
    refine jT_g (k13 s11) (jT_b (z13_mulE (a := 34) (b := 34) (c := 36) rfl rfl rfl (by decide) (by decide) (by decide) ⟨by decide, by decide, by decide, by decide, by decide, by decide⟩ s11 C11 z11 x11_36 fun H12 s12 C12 f12 z12 => ?_))
    obtain ⟨T1, h_T1⟩ : ∃ t, t = UU * W := ⟨_, rfl⟩
    rw [← h_T1] at z12
    have g12 : jf3 zS25 H0 H12 := jf3_S g11 f12 (by unfold zS25; decide)
    have x12_26 := zr_f3 x11_26 f12 (by decide)
    have x12_q2 := zr_f3 x11_q2 f12 (by omega)
    have x12_31 := zr_f3 x11_31 f12 (by decide)
    have x12_32 := zr_f3 x11_32 f12 (by decide)
    have x12_35 := zr_f3 x11_35 f12 (by decide)
    have x12_33 := zr_f3 x11_33 f12 (by decide)
    have x12_36 := zr_f3 x11_36 f12 (by decide)
    refine jT_g (k13 s12) (jT_b (z13_minusE (a := 34) (b := 34) (c := 35) rfl rfl rfl (by decide) (by decide) (by decide) (by decide) ⟨by decide, by decide, by decide, by decide, by decide, by decide⟩ s12 C12 z12 x12_35 fun H13 s13 C13 f13 z13 => ?_))
    obtain ⟨T2, h_T2⟩ : ∃ t, t = T1 - V3 := ⟨_, rfl⟩
    rw [← h_T2] at z13
    have g13 : jf3 zS25 H0 H13 := jf3_S2 g12 f13 (by unfold zS25; decide) (by unfold zS25; decide)
    have x13_26 := zr_f3 x12_26 f13 (by decide)
    have x13_q2 := zr_f3 x12_q2 f13 (by omega)
    have x13_31 := zr_f3 x12_31 f13 (by decide)
    have x13_32 := zr_f3 x12_32 f13 (by decide)
    have x13_35 := zr_f3 x12_35 f13 (by decide)
    have x13_33 := zr_f3 x12_33 f13 (by decide)
    have x13_36 := zr_f3 x12_36 f13 (by decide)
    refine jT_g (k13 s13) (jT_b (z13_minusE (a := 34) (b := 34) (c := 33) rfl rfl rfl (by decide) (by decide) (by decide) (by decide) ⟨by decide, by decide, by decide, by decide, by decide, by decide⟩ s13 C13 z13 x13_33 fun H14 s14 C14 f14 z14 => ?_))
    obtain ⟨T3, h_T3⟩ : ∃ t, t = T2 - R := ⟨_, rfl⟩
    rw [← h_T3] at z14
    have g14 : jf3 zS25 H0 H14 := jf3_S2 g13 f14 (by unfold zS25; decide) (by unfold zS25; decide)
    have x14_26 := zr_f3 x13_26 f14 (by decide)
    have x14_q2 := zr_f3 x13_q2 f14 (by omega)
    have x14_31 := zr_f3 x13_31 f14 (by decide)
    have x14_32 := zr_f3 x13_32 f14 (by decide)
    have x14_35 := zr_f3 x13_35 f14 (by decide)
    have x14_33 := zr_f3 x13_33 f14 (by decide)
    have x14_36 := zr_f3 x13_36 f14 (by decide)
    refine jT_g (k13 s14) (jT_b (z13_minusE (a := 34) (b := 34) (c := 33) rfl rfl rfl (by decide) (by decide) (by decide) (by decide) ⟨by decide, by decide, by decide, by decide, by decide, by decide⟩ s14 C14 z14 x14_33 fun H15 s15 C15 f15 z15 => ?_))
    obtain ⟨A, h_A⟩ : ∃ t, t = T3 - R := ⟨_, rfl⟩
    rw [← h_A] at z15
    have g15 : jf3 zS25 H0 H15 := jf3_S2 g14 f15 (by unfold zS25; decide) (by unfold zS25; decide)
    have x15_26 := zr_f3 x14_26 f15 (by decide)
    have x15_q2 := zr_f3 x14_q2 f15 (by omega)
    have x15_31 := zr_f3 x14_31 f15 (by decide)
    have x15_32 := zr_f3 x14_32 f15 (by decide)
    have x15_35 := zr_f3 x14_35 f15 (by decide)
    have x15_33 := zr_f3 x14_33 f15 (by decide)
    have x15_36 := zr_f3 x14_36 f15 (by decide)
    refine jT_g (k13 s15) (jT_b (z13_minusE (a := 33) (b := 33) (c := 34) rfl rfl rfl (by decide) (by decide) (by decide) (by decide) ⟨by decide, by decide, by decide, by decide, by decide, by decide⟩ s15 C15 x15_33 z15 fun H16 s16 C16 f16 z16 => ?_))
    obtain ⟨R2, h_R2⟩ : ∃ t, t = R - A := ⟨_, rfl⟩
    rw [← h_R2] at z16
    have g16 : jf3 zS25 H0 H16 := jf3_S2 g15 f16 (by unfold zS25; decide) (by unfold zS25; decide)
    have x16_26 := zr_f3 x15_26 f16 (by decide)
    have x16_q2 := zr_f3 x15_q2 f16 (by omega)
    have x16_31 := zr_f3 x15_31 f16 (by decide)
    have x16_32 := zr_f3 x15_32 f16 (by decide)
    have x16_35 := zr_f3 x15_35 f16 (by decide)
    have x16_36 := zr_f3 x15_36 f16 (by decide)
    have x16_34 := zr_f3 z15 f16 (by decide)
    refine jT_g (k13 s16) (jT_b (z13_mulE (a := 33) (b := 31) (c := 33) rfl rfl rfl (by decide) (by decide) (by decide) ⟨by decide, by decide, by decide, by decide, by decide, by decide⟩ s16 C16 x16_31 z16 fun H17 s17 C17 f17 z17 => ?_))
    obtain ⟨E, h_E⟩ : ∃ t, t = U * R2 := ⟨_, rfl⟩
    rw [← h_E] at z17
    have g17 : jf3 zS25 H0 H17 := jf3_S g16 f17 (by unfold zS25; decide)
    have x17_26 := zr_f3 x16_26 f17 (by decide)
    have x17_q2 := zr_f3 x16_q2 f17 (by omega)
    have x17_32 := zr_f3 x16_32 f17 (by decide)
    have x17_35 := zr_f3 x16_35 f17 (by decide)
    have x17_36 := zr_f3 x16_36 f17 (by decide)
    have x17_34 := zr_f3 x16_34 f17 (by decide)
    refine jT_g (k13 s17) (jT_b (z13_mulE (a := 31) (b := 26) (c := (q + 2)) rfl (by decide) eq2 (by decide) (by decide) (by omega) ⟨by decide, by decide, by decide, by decide, by decide, by decide⟩ s17 C17 x17_26 x17_q2 fun H18 s18 C18 f18 z18 => ?_))
    obtain ⟨F1, h_F1⟩ : ∃ t, t = Y1 * Z2 := ⟨_, rfl⟩
    rw [← h_F1] at z18
    have g18 : jf3 zS25 H0 H18 := jf3_S g17 f18 (by unfold zS25; decide)
    have x18_32 := zr_f3 x17_32 f18 (by decide)
    have x18_35 := zr_f3 x17_35 f18 (by decide)
    have x18_33 := zr_f3 z17 f18 (by decide)
    have x18_36 := zr_f3 x17_36 f18 (by decide)
    have x18_34 := zr_f3 x17_34 f18 (by decide)
    refine jT_g (k13 s18) (jT_b (z13_mulE (a := 31) (b := 31) (c := 35) rfl rfl rfl (by decide) (by decide) (by decide) ⟨by decide, by decide, by decide, by decide, by decide, by decide⟩ s18 C18 z18 x18_35 fun H19 s19 C19 f19 z19 => ?_))
    obtain ⟨F, h_F⟩ : ∃ t, t = F1 * V3 := ⟨_, rfl⟩
    rw [← h_F] at z19
    have g19 : jf3 zS25 H0 H19 := jf3_S g18 f19 (by unfold zS25; decide)
    have x19_32 := zr_f3 x18_32 f19 (by decide)
    have x19_35 := zr_f3 x18_35 f19 (by decide)
    have x19_33 := zr_f3 x18_33 f19 (by decide)
    have x19_36 := zr_f3 x18_36 f19 (by decide)
    have x19_34 := zr_f3 x18_34 f19 (by decide)
    refine jT_g (k13 s19) (jT_b (z13_minusE (a := 26) (b := 33) (c := 31) (by decide) rfl rfl (by decide) (by decide) (by decide) (by decide) ⟨by decide, by decide, by decide, by decide, by decide, by decide⟩ s19 C19 x19_33 z19 fun H20 s20 C20 f20 z20 => ?_))
    obtain ⟨Y3, h_Y3⟩ : ∃ t, t = E - F := ⟨_, rfl⟩
    rw [← h_Y3] at z20
    have g20 : jf3 zS25 H0 H20 := jf3_S2 g19 f20 (by unfold zS25; decide) (by unfold zS25; decide)
    have x20_32 := zr_f3 x19_32 f20 (by decide)
    have x20_35 := zr_f3 x19_35 f20 (by decide)
    have x20_36 := zr_f3 x19_36 f20 (by decide)
    have x20_34 := zr_f3 x19_34 f20 (by decide)
    refine jT_g (k13 s20) (jT_b (z13_mulE (a := 25) (b := 32) (c := 34) rfl rfl rfl (by decide) (by decide) (by decide) ⟨by decide, by decide, by decide, by decide, by decide, by decide⟩ s20 C20 x20_32 x20_34 fun H21 s21 C21 f21 z21 => ?_))
    obtain ⟨X3, h_X3⟩ : ∃ t, t = V * A := ⟨_, rfl⟩
    rw [← h_X3] at z21
    have g21 : jf3 zS25 H0 H21 := jf3_S g20 f21 (by unfold zS25; decide)
    have x21_35 := zr_f3 x20_35 f21 (by decide)
    have x21_36 := zr_f3 x20_36 f21 (by decide)
    have x21_26 := zr_f3 z20 f21 (by decide)
    refine jT_g (k13 s21) (jT_b (z13_mulE (a := 27) (b := 35) (c := 36) (by decide) rfl rfl (by decide) (by decide) (by decide) ⟨by decide, by decide, by decide, by decide, by decide, by decide⟩ s21 C21 x21_35 x21_36 fun H22 s22 C22 f22 z22 => ?_))
    obtain ⟨Z3, h_Z3⟩ : ∃ t, t = V3 * W := ⟨_, rfl⟩
    rw [← h_Z3] at z22
    have g22 : jf3 zS25 H0 H22 := jf3_S g21 f22 (by unfold zS25; decide)
    have x22_26 := zr_f3 x21_26 f22 (by decide)
    have x22_25 := zr_f3 z21 f22 (by decide)
    have hne : x1 ≠ x2 := fun e => hV0 (by rw [hV2, e, Fin.sub_self, Fin.zero_mul])
    have hno : ¬ eg_op (x1, y1) (x2, y2) := fun e => hne e.1
    have hl := eg_sl_ok ef_fld hc1 hc2 hno
    refine jT_ret (hk H22 s22 C22 g22 ?_)
    rw [eg_add_l ef_fld hc1 hc2 hno hl]
    obtain ⟨l, hl2⟩ : ∃ l, l = eg_sl ef_iv (x1, y1) (x2, y2) := ⟨_, rfl⟩
    rw [← hl2] at hl ⊢
    have hUl := et_add2 hl.1 hU2 hV2
    obtain ⟨r1, r2⟩ := et_add3 (x1 := x1) (y1 := y1) (x2 := x2) (l := l) (U := U) (V := V) (W := Z1 * Z2) (B2 := B2) (R := R) (V3 := V3) (A := A) (X3 := X3) (Y3 := Y3) (F1 := F1) hUl hV2 (by rw [h_B2, hX1, et_m3]) (by rw [h_R, h_VV]) (by rw [h_V3, h_VV]) (by rw [h_A, h_T3, h_T2, h_T1, h_UU, h_W]) h_X3 (by rw [h_F1, hY1, et_m3]) (by rw [h_Y3, h_E, h_R2, h_F])
    have hZ3 : Z3 ≠ 0 := by
      rw [h_Z3, h_V3, h_VV, h_W]
      exact ef_nm (ef_nm (ef_nm hV0 hV0) hV0) hW0
    rw [← h_W, ← h_Z3] at r1 r2
    exact ⟨eg_3_c hc1 hl, X3, Y3, Z3, x22_25, x22_26, z22, hZ3, r1, r2⟩
end JN13
