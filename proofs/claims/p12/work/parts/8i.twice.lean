/-! Point.twice, Point.add, set, unit. -/
theorem ef_c0 : ef_i 0 = 0 := ef_0
theorem ef_c1 : ef_i 1 = 1 := ef_1
theorem ef_c2 : ef_i 2 = 2 := by decide +kernel
theorem ef_c3 : ef_i 3 = 3 := by decide +kernel
theorem ef_c4 : ef_i 4 = 4 := by decide +kernel
theorem ef_c9 : ef_i 9 = 9 := by decide +kernel
theorem ef_m1 : ef_i (-1) = -1 := by decide +kernel
theorem ef_m2 : ef_i (-2) = -2 := by decide +kernel
theorem ef_m8 : ef_i (-8) = -8 := by decide +kernel
section EJ
variable {α : Type}
theorem ej_dbl [Lean.Grind.CommRing α] {x y l Z X Y A B C D E F G I J K Z2 X2 : α} (hX : X = x * (Z * Z)) (hY : Y = y * (Z * Z * Z)) (hl : l * (y + y) = x * x + x * x + x * x)
    (hA : A = X * X) (hB : B = Y * Y) (hC : C = X * B) (hD : D = Y * Z) (hZ2 : Z2 = 2 * D + 0 * D) (hE : E = A * A) (hX2 : X2 = 9 * E + -8 * C) (hF : F = 4 * C + -1 * X2) (hG : G = F * A) (hI : I = B * B) (hJ : J = 3 * G + -8 * I) :
    X2 = (l * l - x - x) * (Z2 * Z2) ∧ J = (l * (x - (l * l - x - x)) - y) * (Z2 * Z2 * Z2) ∧ Z2 = 2 * (Y * Z) := by
  have hz : Z2 = 2 * (Y * Z) := by
    rw [hZ2, hD]
    clear hX hY hl hA hB hC hD hZ2 hE hX2 hF hG hI hJ
    grind
  have h4 : 4 * (y * y) * (l * l) = 9 * (x * x * x * x) := by
    have e : 4 * (y * y) * (l * l) = (l * (y + y)) * (l * (y + y)) := by
      clear hX hY hl hA hB hC hD hZ2 hE hX2 hF hG hI hJ hz
      grind
    rw [e, hl]
    clear hX hY hl hA hB hC hD hZ2 hE hX2 hF hG hI hJ hz e
    grind
  have e1 : X2 = (l * l - x - x) * (Z2 * Z2) := by
    have q : (l * l - x - x) * (Z2 * Z2) = (Z * Z * Z * Z * (Z * Z * Z * Z)) * (4 * (y * y) * (l * l)) - 8 * (x * (y * y)) * (Z * Z * Z * Z * (Z * Z * Z * Z)) := by
      rw [hz, hY]
      clear hX hY hl hA hB hC hD hZ2 hE hX2 hF hG hI hJ hz h4
      grind
    rw [q, h4, hX2, hE, hC, hA, hB, hX, hY]
    clear hX hY hl hA hB hC hD hZ2 hE hX2 hF hG hI hJ hz h4 q
    grind
  refine ⟨e1, ?_, hz⟩
  have q : (l * (x - (l * l - x - x)) - y) * (Z2 * Z2 * Z2) = (Z * Z * Z * Z * (Z * Z * Z * Z) * (Z * Z * Z * Z)) * (4 * (y * y) * (l * (y + y)) * (3 * x - l * l) - 8 * (y * y * (y * y))) := by
    rw [hz, hY]
    clear hX hY hl hA hB hC hD hZ2 hE hX2 hF hG hI hJ hz h4 e1
    grind
  rw [q, hl, hJ, hG, hF, e1, hz, hI, hC, hA, hB, hX, hY]
  clear hX hY hl hA hB hC hD hZ2 hE hX2 hF hG hI hJ hz h4 e1 q
  grind
theorem ej_add [Lean.Grind.CommRing α] {x1 y1 Z1 X1 Y1 x2 y2 Z2 X2 Y2 s l A B C D E F G I J K M N O T U V W X3 Y3 Z3 Z0 C2 L1 T2 W2 W3 : α} (hX1 : X1 = x1 * (Z1 * Z1)) (hY1 : Y1 = y1 * (Z1 * Z1 * Z1)) (hX2 : X2 = x2 * (Z2 * Z2)) (hY2 : Y2 = y2 * (Z2 * Z2 * Z2))
    (hA : A = Z1 * Z1) (hB : B = Z2 * Z2) (hC : C = X1 * B) (hD : D = X2 * A) (hE : E = 1 * D + -1 * C) (hF : F = B * Z2) (hG : G = F * Y1) (hI : I = A * Z1) (hJ : J = I * Y2) (hK : K = s * J + -1 * G) :
    E = (x2 - x1) * (Z1 * Z1 * (Z2 * Z2)) ∧ K = (s * y2 - y1) * (Z1 * Z1 * Z1 * (Z2 * Z2 * Z2)) := by
  constructor
  · rw [hE, hD, hC, hA, hB, hX1, hX2]
    clear hX1 hY1 hX2 hY2 hA hB hC hD hE hF hG hI hJ hK
    grind
  · rw [hK, hJ, hG, hF, hI, hA, hB, hY1, hY2]
    clear hX1 hY1 hX2 hY2 hA hB hC hD hE hF hG hI hJ hK
    grind
theorem ej_add2 [Lean.Grind.CommRing α] {x1 y1 x2 y2 l W C E G K Z1 Z2 M Z3 N O T U X0 X3 V R S Y3 : α} (hl : l * (x1 - x2) = y1 - y2) (hW : W = Z1 * Z2) (hE : E = (x2 - x1) * (W * W)) (hK : K = (y2 - y1) * (W * W * W)) (hC : C = x1 * (W * W)) (hG : G = y1 * (W * W * W))
    (hM : M = Z1 * Z2) (hZ3 : Z3 = M * E) (hN : N = E * E) (hO : O = N * E) (hT : T = C * N) (hU : U = K * K) (hX0 : X0 = 1 * U + -1 * O) (hX3 : X3 = 1 * X0 + -2 * T) (hV : V = 1 * T + -1 * X3) (hR : R = V * K) (hS : S = G * O) (hY3 : Y3 = 1 * R + -1 * S) :
    X3 = (l * l - x1 - x2) * (Z3 * Z3) ∧ Y3 = (l * (x1 - (l * l - x1 - x2)) - y1) * (Z3 * Z3 * Z3) := by
  have hk : K = l * E * W := by
    have : y2 - y1 = l * (x2 - x1) := by
      clear hW hE hK hC hG hM hZ3 hN hO hT hU hX0 hX3 hV hR hS hY3
      grind
    rw [hK, hE, this]
    clear hl hW hE hK hC hG hM hZ3 hN hO hT hU hX0 hX3 hV hR hS hY3 this
    grind
  have hz : Z3 = W * E := by rw [hZ3, hM, hW]
  have he : E = x2 * (W * W) - C := by
    rw [hE, hC]
    clear hl hW hE hK hC hG hM hZ3 hN hO hT hU hX0 hX3 hV hR hS hY3 hz hk
    grind
  have e1 : X3 = (l * l - x1 - x2) * (Z3 * Z3) := by
    rw [hX3, hX0, hU, hO, hT, hN, hz, hk]
    have q : (l * l - x1 - x2) * (W * E * (W * E)) = (l * E * W) * (l * E * W) - E * E * (x1 * (W * W)) - E * E * (x2 * (W * W)) := by
      clear hl hW hE hK hC hG hM hZ3 hN hO hT hU hX0 hX3 hV hR hS hY3 hz hk he
      grind
    rw [q, ← hC, show x2 * (W * W) = E + C by rw [he]; clear hl hW hE hK hC hG hM hZ3 hN hO hT hU hX0 hX3 hV hR hS hY3 hz hk he q; grind]
    clear hl hW hE hK hC hG hM hZ3 hN hO hT hU hX0 hX3 hV hR hS hY3 hz hk he q
    grind
  refine ⟨e1, ?_⟩
  have q : (l * (x1 - (l * l - x1 - x2)) - y1) * (Z3 * Z3 * Z3) = (l * E * W) * ((x1 * (W * W)) * (E * E) - (l * l - x1 - x2) * (Z3 * Z3)) - (y1 * (W * W * W)) * (E * E * E) := by
    rw [hz]
    clear hl hW hE hK hC hG hM hZ3 hN hO hT hU hX0 hX3 hV hR hS hY3 hz hk he e1
    grind
  rw [q, ← e1, ← hk, ← hC, ← hG, hY3, hR, hV, hS, hT, hO, hN]
  clear hl hW hE hK hC hG hM hZ3 hN hO hT hU hX0 hX3 hV hR hS hY3 hz hk he e1 q
  grind
end EJ
theorem ef_nm {x y : ef} (hx : x ≠ 0) (hy : y ≠ 0) : x * y ≠ 0 := fun e => (ef_dom x y e).elim hx hy
/-- what an operation on the point p writes -/
def zS5 (p : Nat) : Nat → Prop := fun a => (76 ≤ a ∧ a < 92) ∨ (p ≤ a ∧ a ≤ p + 3)
theorem zpt_ge {p : Nat} (h : zpt p) : 96 ≤ p ∧ p < 168 := by
  obtain ⟨k, hk, rfl⟩ := h
  omega
theorem zpt_ne {p q : Nat} (h : zpt p) (g : zpt q) (hne : p ≠ q) : p + 4 ≤ q ∨ q + 4 ≤ p := by
  obtain ⟨k, hk, rfl⟩ := h
  obtain ⟨m, hm, rfl⟩ := g
  omega
theorem zS5_18 {p : Nat} (h : zpt p) : ∀ a, a < 18 → ¬ zS5 p a := fun a ha q => by
  have := zpt_ge h
  unfold zS5 at q
  omega
theorem z5_settleE {Q : Unit → jH → Prop} {t r : Nat} {H : jH} {v : ef} {B : Int} (e : t = r) (k0 : jK H r = (103, 10)) (h : zL H r v B) (hB : B ≤ 8589934592) (hk : ∀ H', jfL (· = r) H H' → zL H' r v 134217728 → Q () H') : jT (F_5_settle t H) Q := by
  subst e
  exact z5_settle k0 h hB hk
theorem z5_twice {Q : Unit → jH → Prop} {p : Nat} {H : jH} {o : Option (ef × ef)} (hs : jsh H) (hp : zpt p) (h : zP5 H p o) (hk : ∀ H', jfJ (zS5 p) H H' → zP5 H' p (eg_add ef_iv o o) → Q () H') : jT (F_5_twice p 75 H) Q := by
  obtain ⟨kp, ⟨rx, ry, rz⟩, kx, ky, kz⟩ := sPt hs hp
  have kp5 : (jK H p).1 = 5 := by rw [kp]
  have hgp := zpt_ge hp
  have k75 := sK75 hs
  have k751 : (jK H 75).1 = 112 := by rw [k75]
  unfold F_5_twice
  cases o with
  | none =>
    change jI H p 3 = 1 at h
    refine jT_g kp5 (jT_pos (by rw [h]; decide) ?_)
    exact jT_ret (hk H jfJ_refl h)
  | some q =>
    obtain ⟨h3, hc, X, Y, Z, zx, zy, zz, hZ, hX, hY⟩ := h
    have hl := eg_sl_ok ef_fld hc hc (fun e => ef_y hc (by
      have e2 := e.2
      have e3 : 2 * q.2 = 0 := by
        generalize q.2 = y at e2 ⊢
        clear hk zx zy zz hX hY e hZ
        grind
      exact (ef_dom _ _ e3).resolve_left ef_fld.2.2.1))
    have hadd := eg_add_l ef_fld hc hc (fun e => ef_y hc (by
      have e2 := e.2
      have e3 : 2 * q.2 = 0 := by
        generalize q.2 = y at e2 ⊢
        clear hk zx zy zz hX hY e hZ hl
        grind
      exact (ef_dom _ _ e3).resolve_left ef_fld.2.2.1)) hl
    have k0 := sWk hs (k := 0) (by decide)
    have k1 := sWk hs (k := 1) (by decide)
    have k2 := sWk hs (k := 2) (by decide)
    have k3 := sWk hs (k := 3) (by decide)
    have s_w0 : zS5 p 76 := Or.inl ⟨by decide, by decide⟩
    have s_w1 : zS5 p 77 := Or.inl ⟨by decide, by decide⟩
    have s_w2 : zS5 p 78 := Or.inl ⟨by decide, by decide⟩
    have s_w3 : zS5 p 79 := Or.inl ⟨by decide, by decide⟩
    have s_px : zS5 p (p + 1) := Or.inr ⟨by omega, by omega⟩
    have s_py : zS5 p (p + 2) := Or.inr ⟨by omega, by omega⟩
    have s_pz : zS5 p (p + 3) := Or.inr ⟨by omega, by omega⟩
    refine jT_g kp5 (jT_neg (fun e => e h3) (jT_g k751 (jT_pos (by rw [k75]; decide) ?_)))
    refine jT_g ⟨k751, by rw [k75]; decide⟩ (jT_lo (e' := 76) k0.2 (jT_g ⟨k751, by rw [k75]; decide⟩ (jT_lo (e' := 77) k1.2 (jT_g ⟨k751, by rw [k75]; decide⟩ (jT_lo (e' := 78) k2.2 (jT_g ⟨k751, by rw [k75]; decide⟩ (jT_lo (e' := 79) k3.2 ?_)))))))
    have fr0 : jfJ (zS5 p) H H := jfJ_refl
    have ii0 : jI H = jI H := rfl
    have kk0 : jK H = jK H := rfl
    have rr0 : jR H = jR H := rfl
    refine jT_g (by rw [kk0]; exact kp5) (jT_g (by rw [kk0]; exact kp5) (jT_b (z5_mulE (a0 := 76) (a1 := p + 1) (a2 := p + 1) rfl (by rw [rr0]; exact rx) (by rw [rr0]; exact rx) (by rw [kk0]; exact k0.1) (by rw [kk0]; exact kx) (by rw [kk0]; exact kx) zx zx (by decide) fun H1 f1 v1 => ?_)))
    have fr1 := jfJ_L fr0 f1 (fun a ha => by rw [ha]; exact s_w0)
    have kk1 : jK H1 = jK H := fr1.1
    have rr1 : jR H1 = jR H := fr1.2.2.2.1
    have ii1 : jI H1 = jI H := f1.2.2.2.1.trans ii0
    have px1 := zL_fL zx f1 (by have := hgp; show ¬ p + 1 = 76; omega)
    have py1 := zL_fL zy f1 (by have := hgp; show ¬ p + 2 = 76; omega)
    have pz1 := zL_fL zz f1 (by have := hgp; show ¬ p + 3 = 76; omega)
    obtain ⟨V1, hV1⟩ : ∃ x : ef, x = X * X := ⟨_, rfl⟩
    rw [← hV1] at v1
    have w01 := v1
    refine jT_g (by rw [kk1]; exact kp5) (jT_g (by rw [kk1]; exact kp5) (jT_b (z5_mulE (a0 := 77) (a1 := p + 2) (a2 := p + 2) rfl (by rw [rr1]; exact ry) (by rw [rr1]; exact ry) (by rw [kk1]; exact k1.1) (by rw [kk1]; exact ky) (by rw [kk1]; exact ky) py1 py1 (by decide) fun H2 f2 v2 => ?_)))
    have fr2 := jfJ_L fr1 f2 (fun a ha => by rw [ha]; exact s_w1)
    have kk2 : jK H2 = jK H := fr2.1
    have rr2 : jR H2 = jR H := fr2.2.2.2.1
    have ii2 : jI H2 = jI H := f2.2.2.2.1.trans ii1
    have px2 := zL_fL px1 f2 (by have := hgp; show ¬ p + 1 = 77; omega)
    have py2 := zL_fL py1 f2 (by have := hgp; show ¬ p + 2 = 77; omega)
    have pz2 := zL_fL pz1 f2 (by have := hgp; show ¬ p + 3 = 77; omega)
    have w02 := zL_fL w01 f2 (by have := hgp; show ¬ 76 = 77; omega)
    obtain ⟨V2, hV2⟩ : ∃ x : ef, x = Y * Y := ⟨_, rfl⟩
    rw [← hV2] at v2
    have w12 := v2
    refine jT_g (by rw [kk2]; exact kp5) (jT_b (z5_mulE (a0 := 78) (a1 := p + 1) (a2 := 77) rfl (by rw [rr2]; exact rx) rfl (by rw [kk2]; exact k2.1) (by rw [kk2]; exact kx) (by rw [kk2]; exact k1.1) px2 w12 (by decide) fun H3 f3 v3 => ?_))
    have fr3 := jfJ_L fr2 f3 (fun a ha => by rw [ha]; exact s_w2)
    have kk3 : jK H3 = jK H := fr3.1
    have rr3 : jR H3 = jR H := fr3.2.2.2.1
    have ii3 : jI H3 = jI H := f3.2.2.2.1.trans ii2
    have px3 := zL_fL px2 f3 (by have := hgp; show ¬ p + 1 = 78; omega)
    have py3 := zL_fL py2 f3 (by have := hgp; show ¬ p + 2 = 78; omega)
    have pz3 := zL_fL pz2 f3 (by have := hgp; show ¬ p + 3 = 78; omega)
    have w03 := zL_fL w02 f3 (by have := hgp; show ¬ 76 = 78; omega)
    have w13 := zL_fL w12 f3 (by have := hgp; show ¬ 77 = 78; omega)
    obtain ⟨V3, hV3⟩ : ∃ x : ef, x = X * V2 := ⟨_, rfl⟩
    rw [← hV3] at v3
    have w23 := v3
    refine jT_g (by rw [kk3]; exact kp5) (jT_g (by rw [kk3]; exact kp5) (jT_g (by rw [kk3]; exact kp5) (jT_b (z5_mulE (a0 := p + 3) (a1 := p + 2) (a2 := p + 3) (by rw [rr3]; exact rz) (by rw [rr3]; exact ry) (by rw [rr3]; exact rz) (by rw [kk3]; exact kz) (by rw [kk3]; exact ky) (by rw [kk3]; exact kz) py3 pz3 (by decide) fun H4 f4 v4 => ?_))))
    have fr4 := jfJ_L fr3 f4 (fun a ha => by rw [ha]; exact s_pz)
    have kk4 : jK H4 = jK H := fr4.1
    have rr4 : jR H4 = jR H := fr4.2.2.2.1
    have ii4 : jI H4 = jI H := f4.2.2.2.1.trans ii3
    have px4 := zL_fL px3 f4 (by have := hgp; show ¬ p + 1 = p + 3; omega)
    have py4 := zL_fL py3 f4 (by have := hgp; show ¬ p + 2 = p + 3; omega)
    have w04 := zL_fL w03 f4 (by have := hgp; show ¬ 76 = p + 3; omega)
    have w14 := zL_fL w13 f4 (by have := hgp; show ¬ 77 = p + 3; omega)
    have w24 := zL_fL w23 f4 (by have := hgp; show ¬ 78 = p + 3; omega)
    obtain ⟨V4, hV4⟩ : ∃ x : ef, x = Y * Z := ⟨_, rfl⟩
    rw [← hV4] at v4
    have pz4 := v4
    refine jT_g (by rw [kk4]; exact kp5) (jT_g (by rw [kk4]; exact kp5) (jT_g (by rw [kk4]; exact kp5) (jT_b (z5_mixE (a0 := p + 3) (a1 := p + 3) (a2 := p + 3) (m := 2) (n := 0) (C := zBd) (by rw [rr4]; exact rz) (by rw [rr4]; exact rz) (by rw [rr4]; exact rz) (by rw [kk4]; exact kz) (by rw [kk4]; exact kz) (by rw [kk4]; exact kz) pz4 pz4 rfl rfl (fun x y q1 q2 q3 q4 => by unfold zRb zBd at *; omega) fun H5 f5 v5 => ?_))))
    have fr5 := jfJ_L fr4 f5 (fun a ha => by rw [ha]; exact s_pz)
    have kk5 : jK H5 = jK H := fr5.1
    have rr5 : jR H5 = jR H := fr5.2.2.2.1
    have ii5 : jI H5 = jI H := f5.2.2.2.1.trans ii4
    have px5 := zL_fL px4 f5 (by have := hgp; show ¬ p + 1 = p + 3; omega)
    have py5 := zL_fL py4 f5 (by have := hgp; show ¬ p + 2 = p + 3; omega)
    have w05 := zL_fL w04 f5 (by have := hgp; show ¬ 76 = p + 3; omega)
    have w15 := zL_fL w14 f5 (by have := hgp; show ¬ 77 = p + 3; omega)
    have w25 := zL_fL w24 f5 (by have := hgp; show ¬ 78 = p + 3; omega)
    obtain ⟨V5, hV5⟩ : ∃ x : ef, x = ef_i 2 * V4 + ef_i 0 * V4 := ⟨_, rfl⟩
    rw [← hV5] at v5
    have pz5 := v5
    refine jT_b (z5_mulE (a0 := 79) (a1 := 76) (a2 := 76) rfl rfl rfl (by rw [kk5]; exact k3.1) (by rw [kk5]; exact k0.1) (by rw [kk5]; exact k0.1) w05 w05 (by decide) fun H6 f6 v6 => ?_)
    have fr6 := jfJ_L fr5 f6 (fun a ha => by rw [ha]; exact s_w3)
    have kk6 : jK H6 = jK H := fr6.1
    have rr6 : jR H6 = jR H := fr6.2.2.2.1
    have ii6 : jI H6 = jI H := f6.2.2.2.1.trans ii5
    have px6 := zL_fL px5 f6 (by have := hgp; show ¬ p + 1 = 79; omega)
    have py6 := zL_fL py5 f6 (by have := hgp; show ¬ p + 2 = 79; omega)
    have pz6 := zL_fL pz5 f6 (by have := hgp; show ¬ p + 3 = 79; omega)
    have w06 := zL_fL w05 f6 (by have := hgp; show ¬ 76 = 79; omega)
    have w16 := zL_fL w15 f6 (by have := hgp; show ¬ 77 = 79; omega)
    have w26 := zL_fL w25 f6 (by have := hgp; show ¬ 78 = 79; omega)
    obtain ⟨V6, hV6⟩ : ∃ x : ef, x = V1 * V1 := ⟨_, rfl⟩
    rw [← hV6] at v6
    have w36 := v6
    refine jT_g (by rw [kk6]; exact kp5) (jT_b (z5_mixE (a0 := p + 1) (a1 := 79) (a2 := 78) (m := 9) (n := (-8)) (C := 4000000000) (by rw [rr6]; exact rx) rfl rfl (by rw [kk6]; exact kx) (by rw [kk6]; exact k3.1) (by rw [kk6]; exact k2.1) w36 w26 rfl rfl (fun x y q1 q2 q3 q4 => by unfold zRb zBd at *; omega) fun H7 f7 v7 => ?_))
    have fr7 := jfJ_L fr6 f7 (fun a ha => by rw [ha]; exact s_px)
    have kk7 : jK H7 = jK H := fr7.1
    have rr7 : jR H7 = jR H := fr7.2.2.2.1
    have ii7 : jI H7 = jI H := f7.2.2.2.1.trans ii6
    have py7 := zL_fL py6 f7 (by have := hgp; show ¬ p + 2 = p + 1; omega)
    have pz7 := zL_fL pz6 f7 (by have := hgp; show ¬ p + 3 = p + 1; omega)
    have w07 := zL_fL w06 f7 (by have := hgp; show ¬ 76 = p + 1; omega)
    have w17 := zL_fL w16 f7 (by have := hgp; show ¬ 77 = p + 1; omega)
    have w27 := zL_fL w26 f7 (by have := hgp; show ¬ 78 = p + 1; omega)
    have w37 := zL_fL w36 f7 (by have := hgp; show ¬ 79 = p + 1; omega)
    obtain ⟨V7, hV7⟩ : ∃ x : ef, x = ef_i 9 * V6 + ef_i (-8) * V3 := ⟨_, rfl⟩
    rw [← hV7] at v7
    have px7 := v7
    refine jT_g (by rw [kk7]; exact kp5) (jT_b (z5_settleE (r := p + 1) (by rw [rr7]; exact rx) (by rw [kk7]; exact kx) px7 (by decide) fun H8 f8 v8 => ?_))
    have fr8 := jfJ_L fr7 f8 (fun a ha => by rw [ha]; exact s_px)
    have kk8 : jK H8 = jK H := fr8.1
    have rr8 : jR H8 = jR H := fr8.2.2.2.1
    have ii8 : jI H8 = jI H := f8.2.2.2.1.trans ii7
    have py8 := zL_fL py7 f8 (by have := hgp; show ¬ p + 2 = p + 1; omega)
    have pz8 := zL_fL pz7 f8 (by have := hgp; show ¬ p + 3 = p + 1; omega)
    have w08 := zL_fL w07 f8 (by have := hgp; show ¬ 76 = p + 1; omega)
    have w18 := zL_fL w17 f8 (by have := hgp; show ¬ 77 = p + 1; omega)
    have w28 := zL_fL w27 f8 (by have := hgp; show ¬ 78 = p + 1; omega)
    have w38 := zL_fL w37 f8 (by have := hgp; show ¬ 79 = p + 1; omega)
    have px8 := v8
    refine jT_g (by rw [kk8]; exact kp5) (jT_b (z5_mixE (a0 := 79) (a1 := 78) (a2 := p + 1) (m := 4) (n := (-1)) (C := 1000000000) rfl rfl (by rw [rr8]; exact rx) (by rw [kk8]; exact k3.1) (by rw [kk8]; exact k2.1) (by rw [kk8]; exact kx) w28 px8 rfl rfl (fun x y q1 q2 q3 q4 => by unfold zRb zBd at *; omega) fun H9 f9 v9 => ?_))
    have fr9 := jfJ_L fr8 f9 (fun a ha => by rw [ha]; exact s_w3)
    have kk9 : jK H9 = jK H := fr9.1
    have rr9 : jR H9 = jR H := fr9.2.2.2.1
    have ii9 : jI H9 = jI H := f9.2.2.2.1.trans ii8
    have px9 := zL_fL px8 f9 (by have := hgp; show ¬ p + 1 = 79; omega)
    have py9 := zL_fL py8 f9 (by have := hgp; show ¬ p + 2 = 79; omega)
    have pz9 := zL_fL pz8 f9 (by have := hgp; show ¬ p + 3 = 79; omega)
    have w09 := zL_fL w08 f9 (by have := hgp; show ¬ 76 = 79; omega)
    have w19 := zL_fL w18 f9 (by have := hgp; show ¬ 77 = 79; omega)
    have w29 := zL_fL w28 f9 (by have := hgp; show ¬ 78 = 79; omega)
    obtain ⟨V8, hV8⟩ : ∃ x : ef, x = ef_i 4 * V3 + ef_i (-1) * V7 := ⟨_, rfl⟩
    rw [← hV8] at v9
    have w39 := v9
    refine jT_b (z5_mulE (a0 := 79) (a1 := 79) (a2 := 76) rfl rfl rfl (by rw [kk9]; exact k3.1) (by rw [kk9]; exact k3.1) (by rw [kk9]; exact k0.1) w39 w09 (by decide) fun H10 f10 v10 => ?_)
    have fr10 := jfJ_L fr9 f10 (fun a ha => by rw [ha]; exact s_w3)
    have kk10 : jK H10 = jK H := fr10.1
    have rr10 : jR H10 = jR H := fr10.2.2.2.1
    have ii10 : jI H10 = jI H := f10.2.2.2.1.trans ii9
    have px10 := zL_fL px9 f10 (by have := hgp; show ¬ p + 1 = 79; omega)
    have py10 := zL_fL py9 f10 (by have := hgp; show ¬ p + 2 = 79; omega)
    have pz10 := zL_fL pz9 f10 (by have := hgp; show ¬ p + 3 = 79; omega)
    have w010 := zL_fL w09 f10 (by have := hgp; show ¬ 76 = 79; omega)
    have w110 := zL_fL w19 f10 (by have := hgp; show ¬ 77 = 79; omega)
    have w210 := zL_fL w29 f10 (by have := hgp; show ¬ 78 = 79; omega)
    obtain ⟨V9, hV9⟩ : ∃ x : ef, x = V8 * V1 := ⟨_, rfl⟩
    rw [← hV9] at v10
    have w310 := v10
    refine jT_b (z5_mulE (a0 := 77) (a1 := 77) (a2 := 77) rfl rfl rfl (by rw [kk10]; exact k1.1) (by rw [kk10]; exact k1.1) (by rw [kk10]; exact k1.1) w110 w110 (by decide) fun H11 f11 v11 => ?_)
    have fr11 := jfJ_L fr10 f11 (fun a ha => by rw [ha]; exact s_w1)
    have kk11 : jK H11 = jK H := fr11.1
    have rr11 : jR H11 = jR H := fr11.2.2.2.1
    have ii11 : jI H11 = jI H := f11.2.2.2.1.trans ii10
    have px11 := zL_fL px10 f11 (by have := hgp; show ¬ p + 1 = 77; omega)
    have py11 := zL_fL py10 f11 (by have := hgp; show ¬ p + 2 = 77; omega)
    have pz11 := zL_fL pz10 f11 (by have := hgp; show ¬ p + 3 = 77; omega)
    have w011 := zL_fL w010 f11 (by have := hgp; show ¬ 76 = 77; omega)
    have w211 := zL_fL w210 f11 (by have := hgp; show ¬ 78 = 77; omega)
    have w311 := zL_fL w310 f11 (by have := hgp; show ¬ 79 = 77; omega)
    obtain ⟨V10, hV10⟩ : ∃ x : ef, x = V2 * V2 := ⟨_, rfl⟩
    rw [← hV10] at v11
    have w111 := v11
    refine jT_g (by rw [kk11]; exact kp5) (jT_b (z5_mixE (a0 := p + 2) (a1 := 79) (a2 := 77) (m := 3) (n := (-8)) (C := 3000000000) (by rw [rr11]; exact ry) rfl rfl (by rw [kk11]; exact ky) (by rw [kk11]; exact k3.1) (by rw [kk11]; exact k1.1) w311 w111 rfl rfl (fun x y q1 q2 q3 q4 => by unfold zRb zBd at *; omega) fun H12 f12 v12 => ?_))
    have fr12 := jfJ_L fr11 f12 (fun a ha => by rw [ha]; exact s_py)
    have kk12 : jK H12 = jK H := fr12.1
    have rr12 : jR H12 = jR H := fr12.2.2.2.1
    have ii12 : jI H12 = jI H := f12.2.2.2.1.trans ii11
    have px12 := zL_fL px11 f12 (by have := hgp; show ¬ p + 1 = p + 2; omega)
    have pz12 := zL_fL pz11 f12 (by have := hgp; show ¬ p + 3 = p + 2; omega)
    have w012 := zL_fL w011 f12 (by have := hgp; show ¬ 76 = p + 2; omega)
    have w112 := zL_fL w111 f12 (by have := hgp; show ¬ 77 = p + 2; omega)
    have w212 := zL_fL w211 f12 (by have := hgp; show ¬ 78 = p + 2; omega)
    have w312 := zL_fL w311 f12 (by have := hgp; show ¬ 79 = p + 2; omega)
    obtain ⟨V11, hV11⟩ : ∃ x : ef, x = ef_i 3 * V9 + ef_i (-8) * V10 := ⟨_, rfl⟩
    rw [← hV11] at v12
    have py12 := v12
    refine jT_g (by rw [kk12]; exact kp5) (jT_b (z5_settleE (r := p + 2) (by rw [rr12]; exact ry) (by rw [kk12]; exact ky) py12 (by decide) fun H13 f13 v13 => ?_))
    have fr13 := jfJ_L fr12 f13 (fun a ha => by rw [ha]; exact s_py)
    have kk13 : jK H13 = jK H := fr13.1
    have rr13 : jR H13 = jR H := fr13.2.2.2.1
    have ii13 : jI H13 = jI H := f13.2.2.2.1.trans ii12
    have px13 := zL_fL px12 f13 (by have := hgp; show ¬ p + 1 = p + 2; omega)
    have pz13 := zL_fL pz12 f13 (by have := hgp; show ¬ p + 3 = p + 2; omega)
    have w013 := zL_fL w012 f13 (by have := hgp; show ¬ 76 = p + 2; omega)
    have w113 := zL_fL w112 f13 (by have := hgp; show ¬ 77 = p + 2; omega)
    have w213 := zL_fL w212 f13 (by have := hgp; show ¬ 78 = p + 2; omega)
    have w313 := zL_fL w312 f13 (by have := hgp; show ¬ 79 = p + 2; omega)
    have py13 := v13
    refine jT_ret (hk H13 fr13 ?_)
    rw [hadd]
    rw [ef_c2, ef_c0] at hV5
    rw [ef_c9, ef_m8] at hV7
    rw [ef_c4, ef_m1] at hV8
    rw [ef_c3, ef_m8] at hV11
    obtain ⟨e1, e2, e3⟩ := ej_dbl (K := 0) hX hY hl.2 hV1 hV2 hV3 hV4 hV5 hV6 hV7 hV8 hV9 hV10 hV11
    refine ⟨by rw [ii13]; exact h3, eg_3_c hc hl, V7, V11, V5, px13, zL_mono py13 (by decide), pz13, ?_, e1, e2⟩
    rw [e3, hY]
    exact ef_nm (by decide +kernel) (ef_nm (ef_nm (ef_y hc) (ef_nm (ef_nm hZ hZ) hZ)) hZ)
