/-! Point.add, from its beginning. -/
theorem ef_w2 (x y : ef) : x * x * (y * y) = x * y * (x * y) := by grind
theorem ef_w3 (x y : ef) : x * x * x * (y * y * y) = x * y * (x * y) * (x * y) := by grind
theorem ef_u1 {x Z1 Z2 C B X : ef} (hC : C = X * B) (hB : B = Z2 * Z2) (hX : X = x * (Z1 * Z1)) : C = x * (Z1 * Z2 * (Z1 * Z2)) := by
  rw [hC, hB, hX]
  clear hC hB hX
  grind
theorem ef_s1 {y Z1 Z2 G F B Y : ef} (hG : G = F * Y) (hF : F = B * Z2) (hB : B = Z2 * Z2) (hY : Y = y * (Z1 * Z1 * Z1)) : G = y * (Z1 * Z2 * (Z1 * Z2) * (Z1 * Z2)) := by
  rw [hG, hF, hB, hY]
  clear hG hF hB hY
  grind
theorem ej_addR {x1 y1 Z1 X1 Y1 x2 y2 Z2 X2 Y2 s A B C D E F G I J K : ef} (hX1 : X1 = x1 * (Z1 * Z1)) (hY1 : Y1 = y1 * (Z1 * Z1 * Z1)) (hX2 : X2 = x2 * (Z2 * Z2)) (hY2 : Y2 = y2 * (Z2 * Z2 * Z2))
    (hA : A = Z1 * Z1) (hB : B = Z2 * Z2) (hC : C = X1 * B) (hD : D = X2 * A) (hE : E = 1 * D + -1 * C) (hF : F = B * Z2) (hG : G = F * Y1) (hI : I = A * Z1) (hJ : J = I * Y2) (hK : K = s * J + -1 * G) :
    E = (x2 - x1) * (Z1 * Z1 * (Z2 * Z2)) ∧ K = (s * y2 - y1) * (Z1 * Z1 * Z1 * (Z2 * Z2 * Z2)) :=
  ej_add (l := 0) (M := 0) (N := 0) (O := 0) (T := 0) (U := 0) (V := 0) (W := 0) (X3 := 0) (Y3 := 0) (Z3 := 0) (Z0 := 0) (C2 := 0) (L1 := 0) (T2 := 0) (W2 := 0) (W3 := 0) hX1 hY1 hX2 hY2 hA hB hC hD hE hF hG hI hJ hK
def zsg (m : Int32) (o : Option (ef × ef)) : Option (ef × ef) := if m = 0 then o else eg_neg o
section ADD2
variable {Q : Int32 → jH → Prop} {p q : Nat} {m : Int32} {H : jH}
theorem z5_add {o1 o2 : Option (ef × ef)} (hs : jsh H) (hp : zpt p) (hq : zpt q) (hne : p ≠ q) (h1 : zP5 H p o1) (h2 : zP5 H q o2)
    (hk : ∀ r H', jfJ (zS5 p) H H' → ((r = 1 ∧ zP5 H' p (eg_add ef_iv o1 (zsg m o2))) ∨ (r = 0 ∧ o1 = zsg m o2 ∧ o1 ≠ none ∧ zP5 H' p o1)) → Q r H') : jT (F_5_add p q m 75 H) Q := by
  obtain ⟨kp, ⟨rx, ry, rz⟩, kx, ky, kz⟩ := sPt hs hp
  obtain ⟨kq, ⟨sx, sy, sz⟩, lx, ly, lz⟩ := sPt hs hq
  have kp5 : (jK H p).1 = 5 := by rw [kp]
  have kq5 : (jK H q).1 = 5 := by rw [kq]
  have hgp : (96 ≤ p ∧ p < 168) ∧ (96 ≤ q ∧ q < 168) ∧ (p + 4 ≤ q ∨ q + 4 ≤ p) := ⟨zpt_ge hp, zpt_ge hq, zpt_ne hp hq hne⟩
  have k75 := sK75 hs
  have k751 : (jK H 75).1 = 112 := by rw [k75]
  have kw : ∀ n, n < 8 → jK H (76 + n) = (103, 10) ∧ jR H 75 n = 76 + n := fun n hn => sWk hs (by omega)
  unfold F_5_add
  cases o2 with
  | none =>
    change jI H q 3 = 1 at h2
    have e : zsg m (none : Option (ef × ef)) = none := by unfold zsg; split <;> rfl
    refine jT_g kq5 (jT_pos (by rw [h2]; decide) ?_)
    unfold B_5_add_14
    refine jT_g (by decide) (jT_ret (hk 1 H jfJ_refl (Or.inl ⟨rfl, ?_⟩)))
    rw [e, eg_add_none]
    exact h1
  | some Q2 =>
  cases o1 with
  | none =>
    have h3 := h2.1
    change jI H p 3 = 1 at h1
    refine jT_g kq5 (jT_neg (fun e => e h3) (jT_g k751 (jT_pos (by rw [k75]; decide) (jT_g kp5 (jT_neg (by rw [h1]; decide) (jT_g kp5 (jT_b (z5_set hs hp hq hne h2 fun H1 f1 v1 => jT_g (by decide) (jT_ret (hk 1 H1 (jfJ_mono f1 fun a ha => Or.inr ha) (Or.inl ⟨rfl, v1⟩)))))))))))
  | some Q1 =>
  obtain ⟨x1, y1⟩ := Q1
  obtain ⟨x2, y2⟩ := Q2
  have hP := h1
  obtain ⟨h13, hc1, X1, Y1, Z1, zx, zy, zz, hZ1, hX1, hY1⟩ := h1
  obtain ⟨h23, hc2, X2, Y2, Z2, tx, ty, tz, hZ2, hX2, hY2⟩ := h2
  have s_w0 : zS5 p 76 := Or.inl ⟨by decide, by decide⟩
  have s_w1 : zS5 p 77 := Or.inl ⟨by decide, by decide⟩
  have s_w2 : zS5 p 78 := Or.inl ⟨by decide, by decide⟩
  have s_w3 : zS5 p 79 := Or.inl ⟨by decide, by decide⟩
  have s_w4 : zS5 p 80 := Or.inl ⟨by decide, by decide⟩
  have s_w5 : zS5 p 81 := Or.inl ⟨by decide, by decide⟩
  refine jT_g kq5 (jT_neg (fun e => e h23) (jT_g k751 (jT_pos (by rw [k75]; decide) (jT_g kp5 (jT_pos h13 ?_)))))
  refine jT_g ⟨k751, by rw [k75]; decide⟩ (jT_lo (e' := 76) (kw 0 (by decide)).2 (jT_g ⟨k751, by rw [k75]; decide⟩ (jT_lo (e' := 77) (kw 1 (by decide)).2 (jT_g ⟨k751, by rw [k75]; decide⟩ (jT_lo (e' := 78) (kw 2 (by decide)).2 (jT_g ⟨k751, by rw [k75]; decide⟩ (jT_lo (e' := 79) (kw 3 (by decide)).2 (jT_g ⟨k751, by rw [k75]; decide⟩ (jT_lo (e' := 80) (kw 4 (by decide)).2 (jT_g ⟨k751, by rw [k75]; decide⟩ (jT_lo (e' := 81) (kw 5 (by decide)).2 ?_)))))))))))
  have fr0 : jfJ (zS5 p) H H := jfJ_refl
  have ii0 : jI H = jI H := rfl
  have kk0 : jK H = jK H := rfl
  have rr0 : jR H = jR H := rfl
  refine jT_g (by rw [kk0]; exact kp5) (jT_g (by rw [kk0]; exact kp5) (jT_b (z5_mulE (a0 := 76) (a1 := p + 3) (a2 := p + 3) rfl (by rw [rr0]; exact rz) (by rw [rr0]; exact rz) (by rw [kk0]; exact (kw 0 (by decide)).1) (by rw [kk0]; exact kz) (by rw [kk0]; exact kz) zz zz (by decide) fun H1 f1 v1 => ?_)))
  have fr1 := jfJ_L fr0 f1 (fun a ha => by rw [ha]; exact s_w0)
  have kk1 : jK H1 = jK H := fr1.1
  have rr1 : jR H1 = jR H := fr1.2.2.2.1
  have ii1 : jI H1 = jI H := f1.2.2.2.1.trans ii0
  have px1 := zL_fL zx f1 (by have := hgp; show ¬ p + 1 = 76; omega)
  have py1 := zL_fL zy f1 (by have := hgp; show ¬ p + 2 = 76; omega)
  have pz1 := zL_fL zz f1 (by have := hgp; show ¬ p + 3 = 76; omega)
  have qx1 := zL_fL tx f1 (by have := hgp; show ¬ q + 1 = 76; omega)
  have qy1 := zL_fL ty f1 (by have := hgp; show ¬ q + 2 = 76; omega)
  have qz1 := zL_fL tz f1 (by have := hgp; show ¬ q + 3 = 76; omega)
  obtain ⟨V1, hV1⟩ : ∃ x : ef, x = Z1 * Z1 := ⟨_, rfl⟩
  rw [← hV1] at v1
  have w01 := v1
  refine jT_g (by rw [kk1]; exact kq5) (jT_g (by rw [kk1]; exact kq5) (jT_b (z5_mulE (a0 := 77) (a1 := q + 3) (a2 := q + 3) rfl (by rw [rr1]; exact sz) (by rw [rr1]; exact sz) (by rw [kk1]; exact (kw 1 (by decide)).1) (by rw [kk1]; exact lz) (by rw [kk1]; exact lz) qz1 qz1 (by decide) fun H2 f2 v2 => ?_)))
  have fr2 := jfJ_L fr1 f2 (fun a ha => by rw [ha]; exact s_w1)
  have kk2 : jK H2 = jK H := fr2.1
  have rr2 : jR H2 = jR H := fr2.2.2.2.1
  have ii2 : jI H2 = jI H := f2.2.2.2.1.trans ii1
  have px2 := zL_fL px1 f2 (by have := hgp; show ¬ p + 1 = 77; omega)
  have py2 := zL_fL py1 f2 (by have := hgp; show ¬ p + 2 = 77; omega)
  have pz2 := zL_fL pz1 f2 (by have := hgp; show ¬ p + 3 = 77; omega)
  have qx2 := zL_fL qx1 f2 (by have := hgp; show ¬ q + 1 = 77; omega)
  have qy2 := zL_fL qy1 f2 (by have := hgp; show ¬ q + 2 = 77; omega)
  have qz2 := zL_fL qz1 f2 (by have := hgp; show ¬ q + 3 = 77; omega)
  have w02 := zL_fL w01 f2 (by have := hgp; show ¬ 76 = 77; omega)
  obtain ⟨V2, hV2⟩ : ∃ x : ef, x = Z2 * Z2 := ⟨_, rfl⟩
  rw [← hV2] at v2
  have w12 := v2
  refine jT_g (by rw [kk2]; exact kp5) (jT_b (z5_mulE (a0 := 78) (a1 := p + 1) (a2 := 77) rfl (by rw [rr2]; exact rx) rfl (by rw [kk2]; exact (kw 2 (by decide)).1) (by rw [kk2]; exact kx) (by rw [kk2]; exact (kw 1 (by decide)).1) px2 w12 (by decide) fun H3 f3 v3 => ?_))
  have fr3 := jfJ_L fr2 f3 (fun a ha => by rw [ha]; exact s_w2)
  have kk3 : jK H3 = jK H := fr3.1
  have rr3 : jR H3 = jR H := fr3.2.2.2.1
  have ii3 : jI H3 = jI H := f3.2.2.2.1.trans ii2
  have px3 := zL_fL px2 f3 (by have := hgp; show ¬ p + 1 = 78; omega)
  have py3 := zL_fL py2 f3 (by have := hgp; show ¬ p + 2 = 78; omega)
  have pz3 := zL_fL pz2 f3 (by have := hgp; show ¬ p + 3 = 78; omega)
  have qx3 := zL_fL qx2 f3 (by have := hgp; show ¬ q + 1 = 78; omega)
  have qy3 := zL_fL qy2 f3 (by have := hgp; show ¬ q + 2 = 78; omega)
  have qz3 := zL_fL qz2 f3 (by have := hgp; show ¬ q + 3 = 78; omega)
  have w03 := zL_fL w02 f3 (by have := hgp; show ¬ 76 = 78; omega)
  have w13 := zL_fL w12 f3 (by have := hgp; show ¬ 77 = 78; omega)
  obtain ⟨V3, hV3⟩ : ∃ x : ef, x = X1 * V2 := ⟨_, rfl⟩
  rw [← hV3] at v3
  have w23 := v3
  refine jT_g (by rw [kk3]; exact kq5) (jT_b (z5_mulE (a0 := 79) (a1 := q + 1) (a2 := 76) rfl (by rw [rr3]; exact sx) rfl (by rw [kk3]; exact (kw 3 (by decide)).1) (by rw [kk3]; exact lx) (by rw [kk3]; exact (kw 0 (by decide)).1) qx3 w03 (by decide) fun H4 f4 v4 => ?_))
  have fr4 := jfJ_L fr3 f4 (fun a ha => by rw [ha]; exact s_w3)
  have kk4 : jK H4 = jK H := fr4.1
  have rr4 : jR H4 = jR H := fr4.2.2.2.1
  have ii4 : jI H4 = jI H := f4.2.2.2.1.trans ii3
  have px4 := zL_fL px3 f4 (by have := hgp; show ¬ p + 1 = 79; omega)
  have py4 := zL_fL py3 f4 (by have := hgp; show ¬ p + 2 = 79; omega)
  have pz4 := zL_fL pz3 f4 (by have := hgp; show ¬ p + 3 = 79; omega)
  have qx4 := zL_fL qx3 f4 (by have := hgp; show ¬ q + 1 = 79; omega)
  have qy4 := zL_fL qy3 f4 (by have := hgp; show ¬ q + 2 = 79; omega)
  have qz4 := zL_fL qz3 f4 (by have := hgp; show ¬ q + 3 = 79; omega)
  have w04 := zL_fL w03 f4 (by have := hgp; show ¬ 76 = 79; omega)
  have w14 := zL_fL w13 f4 (by have := hgp; show ¬ 77 = 79; omega)
  have w24 := zL_fL w23 f4 (by have := hgp; show ¬ 78 = 79; omega)
  obtain ⟨V4, hV4⟩ : ∃ x : ef, x = X2 * V1 := ⟨_, rfl⟩
  rw [← hV4] at v4
  have w34 := v4
  refine jT_b (z5_mixE (a0 := 79) (a1 := 79) (a2 := 78) (m := 1) (n := (-1)) (C := zBd) rfl rfl rfl (by rw [kk4]; exact (kw 3 (by decide)).1) (by rw [kk4]; exact (kw 3 (by decide)).1) (by rw [kk4]; exact (kw 2 (by decide)).1) w34 w24 rfl rfl (fun x y q1 q2 q3 q4 => by unfold zRb zBd at *; omega) fun H5 f5 v5 => ?_)
  have fr5 := jfJ_L fr4 f5 (fun a ha => by rw [ha]; exact s_w3)
  have kk5 : jK H5 = jK H := fr5.1
  have rr5 : jR H5 = jR H := fr5.2.2.2.1
  have ii5 : jI H5 = jI H := f5.2.2.2.1.trans ii4
  have px5 := zL_fL px4 f5 (by have := hgp; show ¬ p + 1 = 79; omega)
  have py5 := zL_fL py4 f5 (by have := hgp; show ¬ p + 2 = 79; omega)
  have pz5 := zL_fL pz4 f5 (by have := hgp; show ¬ p + 3 = 79; omega)
  have qx5 := zL_fL qx4 f5 (by have := hgp; show ¬ q + 1 = 79; omega)
  have qy5 := zL_fL qy4 f5 (by have := hgp; show ¬ q + 2 = 79; omega)
  have qz5 := zL_fL qz4 f5 (by have := hgp; show ¬ q + 3 = 79; omega)
  have w05 := zL_fL w04 f5 (by have := hgp; show ¬ 76 = 79; omega)
  have w15 := zL_fL w14 f5 (by have := hgp; show ¬ 77 = 79; omega)
  have w25 := zL_fL w24 f5 (by have := hgp; show ¬ 78 = 79; omega)
  obtain ⟨V5, hV5⟩ : ∃ x : ef, x = ef_i 1 * V4 + ef_i (-1) * V3 := ⟨_, rfl⟩
  rw [← hV5] at v5
  have w35 := v5
  refine jT_g (by rw [kk5]; exact kq5) (jT_b (z5_mulE (a0 := 80) (a1 := 77) (a2 := q + 3) rfl rfl (by rw [rr5]; exact sz) (by rw [kk5]; exact (kw 4 (by decide)).1) (by rw [kk5]; exact (kw 1 (by decide)).1) (by rw [kk5]; exact lz) w15 qz5 (by decide) fun H6 f6 v6 => ?_))
  have fr6 := jfJ_L fr5 f6 (fun a ha => by rw [ha]; exact s_w4)
  have kk6 : jK H6 = jK H := fr6.1
  have rr6 : jR H6 = jR H := fr6.2.2.2.1
  have ii6 : jI H6 = jI H := f6.2.2.2.1.trans ii5
  have px6 := zL_fL px5 f6 (by have := hgp; show ¬ p + 1 = 80; omega)
  have py6 := zL_fL py5 f6 (by have := hgp; show ¬ p + 2 = 80; omega)
  have pz6 := zL_fL pz5 f6 (by have := hgp; show ¬ p + 3 = 80; omega)
  have qx6 := zL_fL qx5 f6 (by have := hgp; show ¬ q + 1 = 80; omega)
  have qy6 := zL_fL qy5 f6 (by have := hgp; show ¬ q + 2 = 80; omega)
  have qz6 := zL_fL qz5 f6 (by have := hgp; show ¬ q + 3 = 80; omega)
  have w06 := zL_fL w05 f6 (by have := hgp; show ¬ 76 = 80; omega)
  have w16 := zL_fL w15 f6 (by have := hgp; show ¬ 77 = 80; omega)
  have w26 := zL_fL w25 f6 (by have := hgp; show ¬ 78 = 80; omega)
  have w36 := zL_fL w35 f6 (by have := hgp; show ¬ 79 = 80; omega)
  obtain ⟨V6, hV6⟩ : ∃ x : ef, x = V2 * Z2 := ⟨_, rfl⟩
  rw [← hV6] at v6
  have w46 := v6
  refine jT_g (by rw [kk6]; exact kp5) (jT_b (z5_mulE (a0 := 80) (a1 := 80) (a2 := p + 2) rfl rfl (by rw [rr6]; exact ry) (by rw [kk6]; exact (kw 4 (by decide)).1) (by rw [kk6]; exact (kw 4 (by decide)).1) (by rw [kk6]; exact ky) w46 py6 (by decide) fun H7 f7 v7 => ?_))
  have fr7 := jfJ_L fr6 f7 (fun a ha => by rw [ha]; exact s_w4)
  have kk7 : jK H7 = jK H := fr7.1
  have rr7 : jR H7 = jR H := fr7.2.2.2.1
  have ii7 : jI H7 = jI H := f7.2.2.2.1.trans ii6
  have px7 := zL_fL px6 f7 (by have := hgp; show ¬ p + 1 = 80; omega)
  have py7 := zL_fL py6 f7 (by have := hgp; show ¬ p + 2 = 80; omega)
  have pz7 := zL_fL pz6 f7 (by have := hgp; show ¬ p + 3 = 80; omega)
  have qx7 := zL_fL qx6 f7 (by have := hgp; show ¬ q + 1 = 80; omega)
  have qy7 := zL_fL qy6 f7 (by have := hgp; show ¬ q + 2 = 80; omega)
  have qz7 := zL_fL qz6 f7 (by have := hgp; show ¬ q + 3 = 80; omega)
  have w07 := zL_fL w06 f7 (by have := hgp; show ¬ 76 = 80; omega)
  have w17 := zL_fL w16 f7 (by have := hgp; show ¬ 77 = 80; omega)
  have w27 := zL_fL w26 f7 (by have := hgp; show ¬ 78 = 80; omega)
  have w37 := zL_fL w36 f7 (by have := hgp; show ¬ 79 = 80; omega)
  obtain ⟨V7, hV7⟩ : ∃ x : ef, x = V6 * Y1 := ⟨_, rfl⟩
  rw [← hV7] at v7
  have w47 := v7
  refine jT_g (by rw [kk7]; exact kp5) (jT_b (z5_mulE (a0 := 81) (a1 := 76) (a2 := p + 3) rfl rfl (by rw [rr7]; exact rz) (by rw [kk7]; exact (kw 5 (by decide)).1) (by rw [kk7]; exact (kw 0 (by decide)).1) (by rw [kk7]; exact kz) w07 pz7 (by decide) fun H8 f8 v8 => ?_))
  have fr8 := jfJ_L fr7 f8 (fun a ha => by rw [ha]; exact s_w5)
  have kk8 : jK H8 = jK H := fr8.1
  have rr8 : jR H8 = jR H := fr8.2.2.2.1
  have ii8 : jI H8 = jI H := f8.2.2.2.1.trans ii7
  have px8 := zL_fL px7 f8 (by have := hgp; show ¬ p + 1 = 81; omega)
  have py8 := zL_fL py7 f8 (by have := hgp; show ¬ p + 2 = 81; omega)
  have pz8 := zL_fL pz7 f8 (by have := hgp; show ¬ p + 3 = 81; omega)
  have qx8 := zL_fL qx7 f8 (by have := hgp; show ¬ q + 1 = 81; omega)
  have qy8 := zL_fL qy7 f8 (by have := hgp; show ¬ q + 2 = 81; omega)
  have qz8 := zL_fL qz7 f8 (by have := hgp; show ¬ q + 3 = 81; omega)
  have w08 := zL_fL w07 f8 (by have := hgp; show ¬ 76 = 81; omega)
  have w18 := zL_fL w17 f8 (by have := hgp; show ¬ 77 = 81; omega)
  have w28 := zL_fL w27 f8 (by have := hgp; show ¬ 78 = 81; omega)
  have w38 := zL_fL w37 f8 (by have := hgp; show ¬ 79 = 81; omega)
  have w48 := zL_fL w47 f8 (by have := hgp; show ¬ 80 = 81; omega)
  obtain ⟨V8, hV8⟩ : ∃ x : ef, x = V1 * Z1 := ⟨_, rfl⟩
  rw [← hV8] at v8
  have w58 := v8
  refine jT_g (by rw [kk8]; exact kq5) (jT_b (z5_mulE (a0 := 81) (a1 := 81) (a2 := q + 2) rfl rfl (by rw [rr8]; exact sy) (by rw [kk8]; exact (kw 5 (by decide)).1) (by rw [kk8]; exact (kw 5 (by decide)).1) (by rw [kk8]; exact ly) w58 qy8 (by decide) fun H9 f9 v9 => ?_))
  have fr9 := jfJ_L fr8 f9 (fun a ha => by rw [ha]; exact s_w5)
  have kk9 : jK H9 = jK H := fr9.1
  have rr9 : jR H9 = jR H := fr9.2.2.2.1
  have ii9 : jI H9 = jI H := f9.2.2.2.1.trans ii8
  have px9 := zL_fL px8 f9 (by have := hgp; show ¬ p + 1 = 81; omega)
  have py9 := zL_fL py8 f9 (by have := hgp; show ¬ p + 2 = 81; omega)
  have pz9 := zL_fL pz8 f9 (by have := hgp; show ¬ p + 3 = 81; omega)
  have qx9 := zL_fL qx8 f9 (by have := hgp; show ¬ q + 1 = 81; omega)
  have qy9 := zL_fL qy8 f9 (by have := hgp; show ¬ q + 2 = 81; omega)
  have qz9 := zL_fL qz8 f9 (by have := hgp; show ¬ q + 3 = 81; omega)
  have w09 := zL_fL w08 f9 (by have := hgp; show ¬ 76 = 81; omega)
  have w19 := zL_fL w18 f9 (by have := hgp; show ¬ 77 = 81; omega)
  have w29 := zL_fL w28 f9 (by have := hgp; show ¬ 78 = 81; omega)
  have w39 := zL_fL w38 f9 (by have := hgp; show ¬ 79 = 81; omega)
  have w49 := zL_fL w48 f9 (by have := hgp; show ¬ 80 = 81; omega)
  obtain ⟨V9, hV9⟩ : ∃ x : ef, x = V8 * Y2 := ⟨_, rfl⟩
  rw [← hV9] at v9
  have w59 := v9
  have hs2 := jsh_fJ hs fr9 (zS5_18 hp)
  rw [ef_c1, ef_m1] at hV5
  have hP2 : zP5 H9 p (some (x1, y1)) := ⟨by rw [ii9]; exact h13, hc1, X1, Y1, Z1, px9, py9, pz9, hZ1, hX1, hY1⟩
  have eU := ef_u1 hV3 hV2 hX1
  have eS := ef_s1 hV7 hV6 hV2 hY1
  have eE := (ej_addR (x1 := x1) (y1 := y1) (x2 := x2) (y2 := y2) (s := 1) (K := 1 * V9 + -1 * V7) hX1 hY1 hX2 hY2 hV1 hV2 hV3 hV4 hV5 hV6 hV7 hV8 hV9 rfl).1
  rw [ef_w2] at eE
  by_cases hm : m = 0
  · have eK := (ej_addR (x1 := x1) (y1 := y1) (x2 := x2) (y2 := y2) (s := 1) (K := 1 * V9 + -1 * V7) hX1 hY1 hX2 hY2 hV1 hV2 hV3 hV4 hV5 hV6 hV7 hV8 hV9 rfl).2
    rw [ef_w3, show (1 : ef) * y2 - y1 = y2 - y1 by clear hk; grind] at eK
    refine jT_pos hm (z5_add181 (Y1 := 0) (m := 1) rfl (Or.inl rfl) hs2 hp hq hne (by rw [ii9]; exact h13) hc1 hc2 hZ1 hZ2 hP2 pz9 qz9 w29 w39 w49 w59 eU eS eE (by rw [ef_c1, ef_m1]; exact eK) fun rr H' f' h' => hk rr H' (jfJ_trans fr9 f') ?_)
    unfold zsg
    rw [if_pos hm]
    rcases h' with h' | h'
    · exact Or.inl h'
    · exact Or.inr ⟨h'.1, congrArg some h'.2.1, by simp, h'.2.2⟩
  · have eK := (ej_addR (x1 := x1) (y1 := y1) (x2 := x2) (y2 := y2) (s := -1) (K := -1 * V9 + -1 * V7) hX1 hY1 hX2 hY2 hV1 hV2 hV3 hV4 hV5 hV6 hV7 hV8 hV9 rfl).2
    rw [ef_w3, show (-1 : ef) * y2 - y1 = -y2 - y1 by clear hk; grind] at eK
    refine jT_neg hm (z5_add181 (Y1 := 0) (m := -1) (y2 := -y2) rfl (Or.inr rfl) hs2 hp hq hne (by rw [ii9]; exact h13) hc1 (eg_m_c hc2) hZ1 hZ2 hP2 pz9 qz9 w29 w39 w49 w59 eU eS eE (by rw [ef_m1]; exact eK) fun rr H' f' h' => hk rr H' (jfJ_trans fr9 f') ?_)
    unfold zsg
    rw [if_neg hm]
    rcases h' with h' | h'
    · exact Or.inl h'
    · exact Or.inr ⟨h'.1, congrArg some h'.2.1, by simp, h'.2.2⟩
end ADD2
