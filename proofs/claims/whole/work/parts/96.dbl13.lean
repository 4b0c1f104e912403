/-! Points.twice of the reference. -/
theorem et_dbl1 {α : Type} [Lean.Grind.CommRing α] {x y l Z X W : α} (hX : X = x * Z) (hl : l * (y + y) = x * x + x * x + x * x) (hW : W = X * X + (X * X + X * X)) : W = l * (y + y) * (Z * Z) := by
  rw [hl, hW, hX]
  clear hl hW hX
  grind
theorem et_dbl2 {α : Type} [Lean.Grind.CommRing α] {x y l Z W S B h : α} (hW : W = l * (y + y) * (Z * Z)) (hS : S = y * Z * Z) (hB : B = x * Z * (y * Z) * S) (hh : h = W * W - B - B - B - B - B - B - B - B) : h = (y * y) * (Z * Z * (Z * Z)) * (4 * (l * l - x - x)) := by
  rw [hh, hB, hS, hW]
  clear hh hB hS hW
  grind
theorem et_dbl3 {α : Type} [Lean.Grind.CommRing α] {x y l Z W S B h X3 T Y3 E F : α} (hW : W = l * (y + y) * (Z * Z)) (hS : S = y * Z * Z) (hB : B = x * Z * (y * Z) * S) (hh : h = (y * y) * (Z * Z * (Z * Z)) * (4 * (l * l - x - x))) (hX3 : X3 = h * S + h * S) (hT : T = S * S * S)
    (hE : E = W * (B + B + (B + B) - h)) (hF : F = y * Z * S * (y * Z * S)) (hY3 : Y3 = E - F - F - F - F - F - F - F - F) : X3 = (l * l - x - x) * (T + T + (T + T) + (T + T + (T + T))) ∧ Y3 = (l * (x - (l * l - x - x)) - y) * (T + T + (T + T) + (T + T + (T + T))) := by
  rw [hX3, hT, hY3, hE, hF, hh, hB, hS, hW]
  clear hX3 hT hY3 hE hF hh hB hS hW
  exact ⟨by grind, by grind⟩
theorem ed_8 (k : ef) : (1 + 1 + (1 + 1) + (1 + 1 + (1 + 1))) * k = k + k + (k + k) + (k + k + (k + k)) := by grind
theorem ef_nop {p : ef × ef} (hc : eg_c e7 p) : ¬ eg_op p p := fun e => ef_y hc (by
  have e2 := e.2
  have e3 : 2 * p.2 = 0 := by
    generalize p.2 = y at e2 ⊢
    clear e hc
    grind
  exact (ef_dom _ _ e3).resolve_left ef_fld.2.2.1)
def es13 : Nat → ef → ef → ef
  | 0, h, _ => h
  | n + 1, h, b => es13 n (h - b) b
def ed13 : Nat → ef → ef
  | 0, v => v
  | n + 1, v => ed13 n (v + v)
def zS25 : Nat → Prop := fun j => (25 ≤ j ∧ j ≤ 27) ∨ (31 ≤ j ∧ j ≤ 37)
/-- the rows from k on stand for the point o -/
def zq3 (H : jH) (k : Nat) : Option (ef × ef) → Prop
  | none => ∃ X Y : Nat, zr H k X ∧ zr H (k + 1) Y ∧ zr H (k + 2) 0
  | some q => eg_c e7 q ∧ ∃ X Y Z : ef, zr H k X.val ∧ zr H (k + 1) Y.val ∧ zr H (k + 2) Z.val ∧ Z ≠ 0 ∧ X = q.1 * Z ∧ Y = q.2 * Z
theorem zq3_f3 {M : Nat → Prop} {H H' : jH} {k : Nat} (hf : jf3 M H H') (h0 : ¬ M k) (h1 : ¬ M (k + 1)) (h2 : ¬ M (k + 2)) : ∀ {o : Option (ef × ef)}, zq3 H k o → zq3 H' k o
  | none, ⟨X, Y, a, b, d⟩ => ⟨X, Y, zr_f3 a hf h0, zr_f3 b hf h1, zr_f3 d hf h2⟩
  | some _, ⟨c, X, Y, Z, a, b, d, e⟩ => ⟨c, X, Y, Z, zr_f3 a hf h0, zr_f3 b hf h1, zr_f3 d hf h2, e⟩
theorem zq3_on {H : jH} {k : Nat} : ∀ {o : Option (ef × ef)}, zq3 H k o → eg_on e7 o
  | none, _ => True.intro
  | some _, h => h.1
section TW13
variable {S : Nat → Prop} {H0 H1 H2 : jH} {d : Nat}
theorem jf3_S (h : jf3 S H0 H1) (f : jf3 (· = d) H1 H2) (hd : S d) : jf3 S H0 H2 := jf3_trans h (jf3_mono f fun j q => by rw [show j = d from q]; exact hd)
theorem jf3_S2 (h : jf3 S H0 H1) (f : jf3 (fun j => j = d ∨ j = 37) H1 H2) (hd : S d) (h37 : S 37) : jf3 S H0 H2 := jf3_trans h (jf3_mono f fun j q => by
  rcases (show j = d ∨ j = 37 from q) with q | q
  · rw [q]; exact hd
  · rw [q]; exact h37)
variable {Q : Unit → jH → Prop} {v w : ef}
theorem z13_tw267 (hs : jsh H0) (hC : z13C H0) (hk : ∀ H', jsh H' → z13C H' → jf3 (fun j => j = 27 ∨ j = 34 ∨ j = 37) H0 H' → zr H' 27 w.val → Q () H') :
    ∀ (d i fu : Nat) (v : ef) (H : jH), i + d = 3 → d < fu → jsh H → z13C H → jf3 (fun j => j = 27 ∨ j = 34 ∨ j = 37) H0 H → zr H 34 v.val → ed13 d v = w → jT (F_13_twice_267 fu 428 25 (Int32.ofNat i) H) Q := by
  intro d
  induction d with
  | zero =>
    intro i fu v H hi hfu hsH hCH hfr h34 hw
    obtain ⟨fu, rfl⟩ : ∃ k, fu = k + 1 := ⟨fu - 1, by omega⟩
    obtain rfl : i = 3 := by omega
    unfold F_13_twice_267 B_13_twice_267
    refine jT_pos (by decide) (jT_g (k13 hsH) (jT_b (z13_copyE (a := 27) (b := 34) (by decide) rfl (by decide) (by decide) ⟨by decide, by decide, by decide, by decide, by decide, by decide⟩ hsH hCH h34 fun H3 s3 C3 f3 z3 => jT_ret (hk H3 s3 C3 (jf3_S hfr f3 (Or.inl rfl)) ?_))))
    rw [← hw]
    exact z3
  | succ d ih =>
    intro i fu v H hi hfu hsH hCH hfr h34 hw
    obtain ⟨fu, rfl⟩ : ∃ k, fu = k + 1 := ⟨fu - 1, by omega⟩
    unfold F_13_twice_267 B_13_twice_267
    have e1 : Int32.ofNat i + 1 = Int32.ofNat (i + 1) := jo_add (a := i) (b := 1)
    rw [e1]
    refine jT_neg (by rw [show (3 : Int32) = Int32.ofNat 3 from rfl, jo_le (by omega) (by omega)]; omega) (jT_g (k13 hsH) (jT_b (z13_plusE (a := 34) (b := 34) (c := 34) rfl rfl rfl (by decide) (by decide) (by decide) (by decide) ⟨by decide, by decide, by decide, by decide, by decide, by decide⟩ hsH hCH h34 h34 fun H3 s3 C3 f3 z3 => ?_)))
    exact jT_l (ih (i + 1) fu (v + v) H3 (by omega) (by omega) s3 C3 (jf3_S2 hfr f3 (Or.inr (Or.inl rfl)) (Or.inr (Or.inr rfl))) z3 hw)
theorem z13_tw185 {b : ef} (hs : jsh H0) (hC : z13C H0) (hb : zr H0 35 b.val) (hk : ∀ H' k, jsh H' → z13C H' → jf3 (fun j => j = 34 ∨ j = 37) H0 H' → zr H' 34 w.val → jT (B_13_twice_185 k 428 25 (Int32.ofNat 8) H') Q) :
    ∀ (d i fu : Nat) (v : ef) (H : jH), i + d = 8 → d < fu → jsh H → z13C H → jf3 (fun j => j = 34 ∨ j = 37) H0 H → zr H 34 v.val → es13 d v b = w → jT (F_13_twice_185 fu 428 25 (Int32.ofNat i) H) Q := by
  intro d
  induction d with
  | zero =>
    intro i fu v H hi hfu hsH hCH hfr h34 hw
    obtain ⟨fu, rfl⟩ : ∃ k, fu = k + 1 := ⟨fu - 1, by omega⟩
    obtain rfl : i = 8 := by omega
    unfold F_13_twice_185
    exact hk H _ hsH hCH hfr (by rw [← hw]; exact h34)
  | succ d ih =>
    intro i fu v H hi hfu hsH hCH hfr h34 hw
    obtain ⟨fu, rfl⟩ : ∃ k, fu = k + 1 := ⟨fu - 1, by omega⟩
    unfold F_13_twice_185 B_13_twice_185
    have e1 : Int32.ofNat i + 1 = Int32.ofNat (i + 1) := jo_add (a := i) (b := 1)
    rw [e1]
    refine jT_neg (by rw [show (8 : Int32) = Int32.ofNat 8 from rfl, jo_le (by omega) (by omega)]; omega) (jT_g (k13 hsH) (jT_b (z13_minusE (a := 34) (b := 34) (c := 35) rfl rfl rfl (by decide) (by decide) (by decide) (by decide) ⟨by decide, by decide, by decide, by decide, by decide, by decide⟩ hsH hCH h34 (zr_f3 hb hfr (by decide)) fun H3 s3 C3 f3 z3 => ?_)))
    exact jT_l (ih (i + 1) fu (v - b) H3 (by omega) (by omega) s3 C3 (jf3_S2 hfr f3 (Or.inl rfl) (Or.inr rfl)) z3 hw)
theorem z13_tw86 {b : ef} (hs : jsh H0) (hC : z13C H0) (hb : zr H0 33 b.val) (hk : ∀ H' k, jsh H' → z13C H' → jf3 (fun j => j = 36 ∨ j = 37) H0 H' → zr H' 36 w.val → jT (B_13_twice_86 k 428 25 (Int32.ofNat 8) H') Q) :
    ∀ (d i fu : Nat) (v : ef) (H : jH), i + d = 8 → d < fu → jsh H → z13C H → jf3 (fun j => j = 36 ∨ j = 37) H0 H → zr H 36 v.val → es13 d v b = w → jT (F_13_twice_86 fu 428 25 (Int32.ofNat i) H) Q := by
  intro d
  induction d with
  | zero =>
    intro i fu v H hi hfu hsH hCH hfr h34 hw
    obtain ⟨fu, rfl⟩ : ∃ k, fu = k + 1 := ⟨fu - 1, by omega⟩
    obtain rfl : i = 8 := by omega
    unfold F_13_twice_86
    exact hk H _ hsH hCH hfr (by rw [← hw]; exact h34)
  | succ d ih =>
    intro i fu v H hi hfu hsH hCH hfr h34 hw
    obtain ⟨fu, rfl⟩ : ∃ k, fu = k + 1 := ⟨fu - 1, by omega⟩
    unfold F_13_twice_86 B_13_twice_86
    have e1 : Int32.ofNat i + 1 = Int32.ofNat (i + 1) := jo_add (a := i) (b := 1)
    rw [e1]
    refine jT_neg (by rw [show (8 : Int32) = Int32.ofNat 8 from rfl, jo_le (by omega) (by omega)]; omega) (jT_g (k13 hsH) (jT_b (z13_minusE (a := 36) (b := 36) (c := 33) rfl rfl rfl (by decide) (by decide) (by decide) (by decide) ⟨by decide, by decide, by decide, by decide, by decide, by decide⟩ hsH hCH h34 (zr_f3 hb hfr (by decide)) fun H3 s3 C3 f3 z3 => ?_)))
    exact jT_l (ih (i + 1) fu (v - b) H3 (by omega) (by omega) s3 C3 (jf3_S2 hfr f3 (Or.inl rfl) (Or.inr rfl)) z3 hw)
theorem z13_twice {q : ef × ef} (hs : jsh H0) (hC : z13C H0) (hp : zq3 H0 25 (some q)) (hk : ∀ H', jsh H' → z13C H' → jf3 zS25 H0 H' → zq3 H' 25 (eg_add ef_iv (some q) (some q)) → Q () H') : jT (F_13_twice 428 25 H0) Q := by
  obtain ⟨x, y⟩ := q
  obtain ⟨hc, X, Y, Z, zX, zY, zZ, hZ, hX, hY⟩ := hp
  change X = x * Z at hX
  change Y = y * Z at hY
  unfold F_13_twice
  refine jT_g (k13 hs) (jT_b (z13_mulE (a := 31) (b := 25) (c := 25) rfl rfl rfl (by decide) (by decide) (by decide) ⟨by decide, by decide, by decide, by decide, by decide, by decide⟩ hs hC zX zX fun H1 s1 C1 f1 z1 => ?_))
  obtain ⟨A1, h_A1⟩ : ∃ t, t = X * X := ⟨_, rfl⟩
  rw [← h_A1] at z1
  have g1 : jf3 zS25 H0 H1 := jf3_S jf3_refl f1 (by unfold zS25; decide)
  have x1_25 := zr_f3 zX f1 (by decide)
  have x1_26 := zr_f3 zY f1 (by decide)
  have x1_27 := zr_f3 zZ f1 (by decide)
  refine jT_g (k13 s1) (jT_b (z13_plusE (a := 34) (b := 31) (c := 31) rfl rfl rfl (by decide) (by decide) (by decide) (by decide) ⟨by decide, by decide, by decide, by decide, by decide, by decide⟩ s1 C1 z1 z1 fun H2 s2 C2 f2 z2 => ?_))
  obtain ⟨A2, h_A2⟩ : ∃ t, t = A1 + A1 := ⟨_, rfl⟩
  rw [← h_A2] at z2
  have g2 : jf3 zS25 H0 H2 := jf3_S2 g1 f2 (by unfold zS25; decide) (by unfold zS25; decide)
  have x2_25 := zr_f3 x1_25 f2 (by decide)
  have x2_26 := zr_f3 x1_26 f2 (by decide)
  have x2_27 := zr_f3 x1_27 f2 (by decide)
  have x2_31 := zr_f3 z1 f2 (by decide)
  refine jT_g (k13 s2) (jT_b (z13_plusE (a := 31) (b := 31) (c := 34) rfl rfl rfl (by decide) (by decide) (by decide) (by decide) ⟨by decide, by decide, by decide, by decide, by decide, by decide⟩ s2 C2 x2_31 z2 fun H3 s3 C3 f3 z3 => ?_))
  obtain ⟨W, h_W⟩ : ∃ t, t = A1 + A2 := ⟨_, rfl⟩
  rw [← h_W] at z3
  have g3 : jf3 zS25 H0 H3 := jf3_S2 g2 f3 (by unfold zS25; decide) (by unfold zS25; decide)
  have x3_25 := zr_f3 x2_25 f3 (by decide)
  have x3_26 := zr_f3 x2_26 f3 (by decide)
  have x3_27 := zr_f3 x2_27 f3 (by decide)
  refine jT_g (k13 s3) (jT_b (z13_mulE (a := 32) (b := 26) (c := 27) rfl (by decide) (by decide) (by decide) (by decide) (by decide) ⟨by decide, by decide, by decide, by decide, by decide, by decide⟩ s3 C3 x3_26 x3_27 fun H4 s4 C4 f4 z4 => ?_))
  obtain ⟨U, h_U⟩ : ∃ t, t = Y * Z := ⟨_, rfl⟩
  rw [← h_U] at z4
  have g4 : jf3 zS25 H0 H4 := jf3_S g3 f4 (by unfold zS25; decide)
  have x4_25 := zr_f3 x3_25 f4 (by decide)
  have x4_26 := zr_f3 x3_26 f4 (by decide)
  have x4_31 := zr_f3 z3 f4 (by decide)
  refine jT_g (k13 s4) (jT_b (z13_mulE (a := 33) (b := 25) (c := 26) rfl rfl (by decide) (by decide) (by decide) (by decide) ⟨by decide, by decide, by decide, by decide, by decide, by decide⟩ s4 C4 x4_25 x4_26 fun H5 s5 C5 f5 z5 => ?_))
  obtain ⟨B1, h_B1⟩ : ∃ t, t = X * Y := ⟨_, rfl⟩
  rw [← h_B1] at z5
  have g5 : jf3 zS25 H0 H5 := jf3_S g4 f5 (by unfold zS25; decide)
  have x5_26 := zr_f3 x4_26 f5 (by decide)
  have x5_31 := zr_f3 x4_31 f5 (by decide)
  have x5_32 := zr_f3 z4 f5 (by decide)
  refine jT_g (k13 s5) (jT_b (z13_mulE (a := 33) (b := 33) (c := 32) rfl rfl rfl (by decide) (by decide) (by decide) ⟨by decide, by decide, by decide, by decide, by decide, by decide⟩ s5 C5 z5 x5_32 fun H6 s6 C6 f6 z6 => ?_))
  obtain ⟨B, h_B⟩ : ∃ t, t = B1 * U := ⟨_, rfl⟩
  rw [← h_B] at z6
  have g6 : jf3 zS25 H0 H6 := jf3_S g5 f6 (by unfold zS25; decide)
  have x6_26 := zr_f3 x5_26 f6 (by decide)
  have x6_31 := zr_f3 x5_31 f6 (by decide)
  have x6_32 := zr_f3 x5_32 f6 (by decide)
  refine jT_g (k13 s6) (jT_b (z13_mulE (a := 36) (b := 31) (c := 31) rfl rfl rfl (by decide) (by decide) (by decide) ⟨by decide, by decide, by decide, by decide, by decide, by decide⟩ s6 C6 x6_31 x6_31 fun H7 s7 C7 f7 z7 => ?_))
  obtain ⟨C, h_C⟩ : ∃ t, t = W * W := ⟨_, rfl⟩
  rw [← h_C] at z7
  have g7 : jf3 zS25 H0 H7 := jf3_S g6 f7 (by unfold zS25; decide)
  have x7_26 := zr_f3 x6_26 f7 (by decide)
  have x7_31 := zr_f3 x6_31 f7 (by decide)
  have x7_32 := zr_f3 x6_32 f7 (by decide)
  have x7_33 := zr_f3 z6 f7 (by decide)
  refine z13_tw86 (H0 := H7) (b := B) s7 C7 x7_33 (fun H8 k86 s8 C8 f8 z8 => ?_) 8 0 jfuel C H7 rfl (by unfold jfuel; omega) s7 C7 jf3_refl z7 rfl
  unfold B_13_twice_86
  refine jT_pos (by decide) ?_
  obtain ⟨h, hh⟩ : ∃ t, t = C - B - B - B - B - B - B - B - B := ⟨_, rfl⟩
  change zr H8 36 (C - B - B - B - B - B - B - B - B).val at z8
  rw [← hh] at z8
  have g8 : jf3 zS25 H0 H8 := jf3_S2 g7 f8 (by unfold zS25; decide) (by unfold zS25; decide)
  have x8_26 := zr_f3 x7_26 f8 (by decide)
  have x8_31 := zr_f3 x7_31 f8 (by decide)
  have x8_32 := zr_f3 x7_32 f8 (by decide)
  have x8_33 := zr_f3 x7_33 f8 (by decide)
  refine jT_g (k13 s8) (jT_b (z13_plusE (a := 34) (b := 33) (c := 33) rfl rfl rfl (by decide) (by decide) (by decide) (by decide) ⟨by decide, by decide, by decide, by decide, by decide, by decide⟩ s8 C8 x8_33 x8_33 fun H9 s9 C9 f9 z9 => ?_))
  obtain ⟨D1, h_D1⟩ : ∃ t, t = B + B := ⟨_, rfl⟩
  rw [← h_D1] at z9
  have g9 : jf3 zS25 H0 H9 := jf3_S2 g8 f9 (by unfold zS25; decide) (by unfold zS25; decide)
  have x9_26 := zr_f3 x8_26 f9 (by decide)
  have x9_31 := zr_f3 x8_31 f9 (by decide)
  have x9_32 := zr_f3 x8_32 f9 (by decide)
  have x9_36 := zr_f3 z8 f9 (by decide)
  refine jT_g (k13 s9) (jT_b (z13_plusE (a := 34) (b := 34) (c := 34) rfl rfl rfl (by decide) (by decide) (by decide) (by decide) ⟨by decide, by decide, by decide, by decide, by decide, by decide⟩ s9 C9 z9 z9 fun H10 s10 C10 f10 z10 => ?_))
  obtain ⟨D2, h_D2⟩ : ∃ t, t = D1 + D1 := ⟨_, rfl⟩
  rw [← h_D2] at z10
  have g10 : jf3 zS25 H0 H10 := jf3_S2 g9 f10 (by unfold zS25; decide) (by unfold zS25; decide)
  have x10_26 := zr_f3 x9_26 f10 (by decide)
  have x10_31 := zr_f3 x9_31 f10 (by decide)
  have x10_32 := zr_f3 x9_32 f10 (by decide)
  have x10_36 := zr_f3 x9_36 f10 (by decide)
  refine jT_g (k13 s10) (jT_b (z13_minusE (a := 34) (b := 34) (c := 36) rfl rfl rfl (by decide) (by decide) (by decide) (by decide) ⟨by decide, by decide, by decide, by decide, by decide, by decide⟩ s10 C10 z10 x10_36 fun H11 s11 C11 f11 z11 => ?_))
  obtain ⟨D, h_D⟩ : ∃ t, t = D2 - h := ⟨_, rfl⟩
  rw [← h_D] at z11
  have g11 : jf3 zS25 H0 H11 := jf3_S2 g10 f11 (by unfold zS25; decide) (by unfold zS25; decide)
  have x11_26 := zr_f3 x10_26 f11 (by decide)
  have x11_31 := zr_f3 x10_31 f11 (by decide)
  have x11_32 := zr_f3 x10_32 f11 (by decide)
  have x11_36 := zr_f3 x10_36 f11 (by decide)
  refine jT_g (k13 s11) (jT_b (z13_mulE (a := 34) (b := 31) (c := 34) rfl rfl rfl (by decide) (by decide) (by decide) ⟨by decide, by decide, by decide, by decide, by decide, by decide⟩ s11 C11 x11_31 z11 fun H12 s12 C12 f12 z12 => ?_))
  obtain ⟨E, h_E⟩ : ∃ t, t = W * D := ⟨_, rfl⟩
  rw [← h_E] at z12
  have g12 : jf3 zS25 H0 H12 := jf3_S g11 f12 (by unfold zS25; decide)
  have x12_26 := zr_f3 x11_26 f12 (by decide)
  have x12_32 := zr_f3 x11_32 f12 (by decide)
  have x12_36 := zr_f3 x11_36 f12 (by decide)
  refine jT_g (k13 s12) (jT_b (z13_mulE (a := 35) (b := 26) (c := 32) rfl (by decide) rfl (by decide) (by decide) (by decide) ⟨by decide, by decide, by decide, by decide, by decide, by decide⟩ s12 C12 x12_26 x12_32 fun H13 s13 C13 f13 z13 => ?_))
  obtain ⟨F1, h_F1⟩ : ∃ t, t = Y * U := ⟨_, rfl⟩
  rw [← h_F1] at z13
  have g13 : jf3 zS25 H0 H13 := jf3_S g12 f13 (by unfold zS25; decide)
  have x13_32 := zr_f3 x12_32 f13 (by decide)
  have x13_36 := zr_f3 x12_36 f13 (by decide)
  have x13_34 := zr_f3 z12 f13 (by decide)
  refine jT_g (k13 s13) (jT_b (z13_mulE (a := 35) (b := 35) (c := 35) rfl rfl rfl (by decide) (by decide) (by decide) ⟨by decide, by decide, by decide, by decide, by decide, by decide⟩ s13 C13 z13 z13 fun H14 s14 C14 f14 z14 => ?_))
  obtain ⟨F, h_F⟩ : ∃ t, t = F1 * F1 := ⟨_, rfl⟩
  rw [← h_F] at z14
  have g14 : jf3 zS25 H0 H14 := jf3_S g13 f14 (by unfold zS25; decide)
  have x14_32 := zr_f3 x13_32 f14 (by decide)
  have x14_36 := zr_f3 x13_36 f14 (by decide)
  have x14_34 := zr_f3 x13_34 f14 (by decide)
  refine z13_tw185 (H0 := H14) (b := F) s14 C14 z14 (fun H15 k185 s15 C15 f15 z15 => ?_) 8 0 jfuel E H14 rfl (by unfold jfuel; omega) s14 C14 jf3_refl x14_34 rfl
  unfold B_13_twice_185
  refine jT_pos (by decide) ?_
  obtain ⟨Y3, hY3⟩ : ∃ t, t = E - F - F - F - F - F - F - F - F := ⟨_, rfl⟩
  change zr H15 34 (E - F - F - F - F - F - F - F - F).val at z15
  rw [← hY3] at z15
  have g15 : jf3 zS25 H0 H15 := jf3_S2 g14 f15 (by unfold zS25; decide) (by unfold zS25; decide)
  have x15_32 := zr_f3 x14_32 f15 (by decide)
  have x15_36 := zr_f3 x14_36 f15 (by decide)
  refine jT_g (k13 s15) (jT_b (z13_copyE (a := 26) (b := 34) (by decide) rfl (by decide) (by decide) ⟨by decide, by decide, by decide, by decide, by decide, by decide⟩ s15 C15 z15 fun H16 s16 C16 f16 z16 => ?_))
  have g16 : jf3 zS25 H0 H16 := jf3_S g15 f16 (by unfold zS25; decide)
  have x16_32 := zr_f3 x15_32 f16 (by decide)
  have x16_36 := zr_f3 x15_36 f16 (by decide)
  refine jT_g (k13 s16) (jT_b (z13_mulE (a := 34) (b := 36) (c := 32) rfl rfl rfl (by decide) (by decide) (by decide) ⟨by decide, by decide, by decide, by decide, by decide, by decide⟩ s16 C16 x16_36 x16_32 fun H17 s17 C17 f17 z17 => ?_))
  obtain ⟨M, h_M⟩ : ∃ t, t = h * U := ⟨_, rfl⟩
  rw [← h_M] at z17
  have g17 : jf3 zS25 H0 H17 := jf3_S g16 f17 (by unfold zS25; decide)
  have x17_32 := zr_f3 x16_32 f17 (by decide)
  have x17_26 := zr_f3 z16 f17 (by decide)
  refine jT_g (k13 s17) (jT_b (z13_plusE (a := 25) (b := 34) (c := 34) rfl rfl rfl (by decide) (by decide) (by decide) (by decide) ⟨by decide, by decide, by decide, by decide, by decide, by decide⟩ s17 C17 z17 z17 fun H18 s18 C18 f18 z18 => ?_))
  obtain ⟨X3, h_X3⟩ : ∃ t, t = M + M := ⟨_, rfl⟩
  rw [← h_X3] at z18
  have g18 : jf3 zS25 H0 H18 := jf3_S2 g17 f18 (by unfold zS25; decide) (by unfold zS25; decide)
  have x18_32 := zr_f3 x17_32 f18 (by decide)
  have x18_26 := zr_f3 x17_26 f18 (by decide)
  have x18_34 := zr_f3 z17 f18 (by decide)
  refine jT_g (k13 s18) (jT_b (z13_mulE (a := 34) (b := 32) (c := 32) rfl rfl rfl (by decide) (by decide) (by decide) ⟨by decide, by decide, by decide, by decide, by decide, by decide⟩ s18 C18 x18_32 x18_32 fun H19 s19 C19 f19 z19 => ?_))
  obtain ⟨K1, h_K1⟩ : ∃ t, t = U * U := ⟨_, rfl⟩
  rw [← h_K1] at z19
  have g19 : jf3 zS25 H0 H19 := jf3_S g18 f19 (by unfold zS25; decide)
  have x19_32 := zr_f3 x18_32 f19 (by decide)
  have x19_26 := zr_f3 x18_26 f19 (by decide)
  have x19_25 := zr_f3 z18 f19 (by decide)
  refine jT_g (k13 s19) (jT_b (z13_mulE (a := 34) (b := 34) (c := 32) rfl rfl rfl (by decide) (by decide) (by decide) ⟨by decide, by decide, by decide, by decide, by decide, by decide⟩ s19 C19 z19 x19_32 fun H20 s20 C20 f20 z20 => ?_))
  obtain ⟨K, h_K⟩ : ∃ t, t = K1 * U := ⟨_, rfl⟩
  rw [← h_K] at z20
  have g20 : jf3 zS25 H0 H20 := jf3_S g19 f20 (by unfold zS25; decide)
  have x20_26 := zr_f3 x19_26 f20 (by decide)
  have x20_25 := zr_f3 x19_25 f20 (by decide)
  refine z13_tw267 (H0 := H20) (w := K + K + (K + K) + (K + K + (K + K))) s20 C20 (fun H' s' C' f' z' => ?_) 3 0 jfuel K H20 rfl (by unfold jfuel; omega) s20 C20 jf3_refl z20 rfl
  have gg : jf3 zS25 H0 H' := jf3_trans g20 (jf3_mono f' fun j q => by
    rcases (show j = 27 ∨ j = 34 ∨ j = 37 from q) with q | q | q <;> rw [q] <;> unfold zS25 <;> decide)
  refine hk H' s' C' gg ?_
  have hyne : y ≠ 0 := ef_y hc
  have hno : ¬ eg_op (x, y) (x, y) := ef_nop hc
  have hl := eg_sl_ok ef_fld hc hc hno
  rw [eg_add_l ef_fld hc hc hno hl]
  obtain ⟨l, hl2⟩ : ∃ l, l = eg_sl ef_iv (x, y) (x, y) := ⟨_, rfl⟩
  rw [← hl2] at hl ⊢
  have hW2 := et_dbl1 (x := x) (y := y) (l := l) (Z := Z) (X := X) (W := W) hX (hl.2) (by rw [h_W, h_A2, h_A1])
  have hU2 : U = y * Z * Z := by rw [h_U, hY]
  have hB2 : B = x * Z * (y * Z) * U := by rw [h_B, h_B1, hX, hY]
  have hh2 := et_dbl2 (h := h) hW2 hU2 hB2 (by rw [hh, h_C])
  obtain ⟨r1, r2⟩ := et_dbl3 (X3 := X3) (T := K) (Y3 := Y3) (E := E) (F := F) hW2 hU2 hB2 hh2 (by rw [h_X3, h_M]) (by rw [h_K, h_K1]) (by rw [h_E, h_D, h_D2, h_D1]) (by rw [h_F, h_F1, hY]) hY3
  have hU0 : U ≠ 0 := by
    rw [hU2]
    exact ef_nm (ef_nm hyne hZ) hZ
  have hK0 : K ≠ 0 := by
    rw [h_K, h_K1]
    exact ef_nm (ef_nm hU0 hU0) hU0
  have h8 : K + K + (K + K) + (K + K + (K + K)) ≠ 0 := fun e => by
    have h1 : ef_i 8 * K = 0 := by
      have h2 : ef_i 8 = 1 + 1 + (1 + 1) + (1 + 1 + (1 + 1)) := by decide +kernel
      rw [h2, ← e]
      exact ed_8 K
    rcases ef_dom _ _ h1 with e2 | e2
    · exact absurd e2 (by decide +kernel)
    · exact hK0 e2
  exact ⟨eg_3_c hc hl, X3, Y3, _, zr_f3 x20_25 f' (by decide), zr_f3 x20_26 f' (by decide), z', h8, r1, r2⟩
end TW13
