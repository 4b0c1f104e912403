/-! setKey: which bytes are a key, and the odd multiples of its point. -/
def ky_rt (c : ef) : ef := ef_p c ((np_P + 1) / 4)
def ky_c (x : Nat) : ef := ef_i x * ef_i x * ef_i x + e7
def ky_pt (b : Nat → UInt8) (n : Nat) : Option (ef × ef) :=
  if n = 33 ∧ ((b 0).toNat = 2 ∨ (b 0).toNat = 3) then
    (if bgn b 1 32 < np_P ∧ ky_rt (ky_c (bgn b 1 32)) * ky_rt (ky_c (bgn b 1 32)) = ky_c (bgn b 1 32) then
      some (ef_i (bgn b 1 32 : Nat), if ((ky_rt (ky_c (bgn b 1 32))).val % 2 = 1 ↔ (b 0).toNat = 3) then ky_rt (ky_c (bgn b 1 32)) else -ky_rt (ky_c (bgn b 1 32))) else none)
  else if n = 65 ∧ (b 0).toNat = 4 then
    (if bgn b 1 32 < np_P ∧ bgn b 33 32 < np_P ∧ ef_i (bgn b 33 32 : Nat) * ef_i (bgn b 33 32 : Nat) = ky_c (bgn b 1 32) then some (ef_i (bgn b 1 32 : Nat), ef_i (bgn b 33 32 : Nat)) else none)
  else none
theorem jb_n (u : UInt8) (k : Nat) (hk : k < 128) : jbs u = Int32.ofNat k ↔ u.toNat = k := by
  have h : ∀ m : Nat, m < 256 → ∀ k, k < 128 → (jbs (UInt8.ofNat m) = Int32.ofNat k ↔ m = k) := by decide +kernel
  have := h u.toNat (UInt8.toNat_lt u) k hk
  rw [UInt8.ofNat_toNat] at this
  exact this
theorem zL_add0 {H : jH} {r : Nat} {v : ef} {B : Int} {n : Int} (h : zL H r v B) (hn : 0 ≤ n) : zL (jsL H r 0 (jL H r 0 + Int64.ofInt n)) r (v + ef_i n) (B + n) := by
  obtain ⟨f, h1, h2, h3⟩ := h
  have b0 := h2 0 (by omega)
  refine ⟨zup f 0 (f 0 + n), ?_, fun i hi => ?_, ?_⟩
  · rw [h1 0 (by omega), li_add]
    exact zg_up h1
  · have := h2 i hi
    unfold zup
    split
    · omega
    · omega
  · rw [← h3, ← ef_add]
    congr 1
    unfold fe zup
    simp (decide := true) only [reduceIte]
    omega
/-- what setKey writes -/
def zSk : Nat → Prop := fun a => a = 53 ∨ a = 54 ∨ (76 ≤ a ∧ a < 92) ∨ zSb 108 a
theorem zSk_18 : ∀ a, a < 18 → ¬ zSk a := fun a ha q => by
  unfold zSk zSb at q
  omega
theorem ef_mw (y c : ef) : -1 * y + 0 * c = -y := by grind
section KEY
variable {R : Int32 → jH → Prop} {H0 : jH}
theorem z8_key371 {Q : ef × ef} (hQ : eg_c e7 Q) (hk : ∀ H', jfJ zSk H0 H' → zodds H' 108 Q 8 → R 1 H') :
    ∀ (d i fu : Nat) (H : jH), i + d = 8 → d < fu → 1 ≤ i → jsh H → jfJ zSk H0 H → zodds H 108 Q i → zP5 H 96 (eN 2 Q) → jT (F_8_setKey_371 fu 50 (Int32.ofNat i) H) R := by
  intro d
  induction d with
  | zero =>
    intro i fu H hi hfu h1 hs hf hod h2
    obtain ⟨fu, rfl⟩ : ∃ k, fu = k + 1 := ⟨fu - 1, by omega⟩
    obtain rfl : i = 8 := by omega
    unfold F_8_setKey_371 B_8_setKey_371
    exact jT_pos (by decide) (jT_g (by decide) (jT_ret (hk _ hf hod)))
  | succ d ih =>
    intro i fu H hi hfu h1 hs hf hod h2
    obtain ⟨fu, rfl⟩ : ∃ k, fu = k + 1 := ⟨fu - 1, by omega⟩
    unfold F_8_setKey_371 B_8_setKey_371
    have e1 : Int32.ofNat i + 1 = Int32.ofNat (i + 1) := jo_add (a := i) (b := 1)
    have em : Int32.ofNat i - 1 = Int32.ofNat (i - 1) := jo_sub (a := i) (b := 1) h1
    have k50 : ∀ H, jsh H → (jK H 50).1 = 8 := fun H hs => by rw [sK_50 hs]
    have ho : (108 : Nat) = 104 ∨ (108 : Nat) = 108 := Or.inr rfl
    have hp5 : ∀ H, jsh H → (jK H (108 + 8 * i)).1 = 5 := fun H hs => by rw [(sPt hs (zpt_o (i := i) ho (by omega))).1]
    refine jT_neg (by rw [show (8 : Int32) = Int32.ofNat 8 from rfl, jo_le (by omega) (by omega)]; omega) (jT_g (k50 H hs) ?_)
    rw [sR_50_13 hs, em, jo_nat (n := i) (by omega), jo_nat (n := i - 1) (by omega), (sOdd hs (i := i) (by omega)).2]
    refine jT_g (by rw [(sK94 hs).2]; exact ⟨rfl, jo_in (by omega) (by show i < 8; omega)⟩) (jT_g (k50 H hs) (jT_g (by rw [(sK94 hs).2]; exact ⟨rfl, jo_in (by omega) (by show i - 1 < 8; omega)⟩) (jT_g (hp5 H hs) ?_)))
    refine z5_odd1 (o := 108) (H0 := H) ho h1 (by omega) rfl (sOdd hs (by omega)).2 hs jfJ_refl hod h2 fun H1 s1 f1 o1 t1 p1 => ?_
    refine jT_g (k50 H1 s1) ?_
    rw [sR_50_13 s1, (sOdd s1 (i := i) (by omega)).2]
    refine jT_g (by rw [(sK94 s1).2]; exact ⟨rfl, jo_in (by omega) (by show i < 8; omega)⟩) (jT_g (k50 H1 s1) (jT_g (k50 H1 s1) (jT_g (hp5 H1 s1) ?_)))
    refine z5_odd2 (o := 108) (H0 := H) hQ ho h1 (by omega) rfl (sR_50_14 s1) (sR_50_9 s1) s1 f1 o1 t1 p1 fun r H2 s2 f2 o2 t2 => jT_l ?_
    rw [e1]
    exact ih (i + 1) fu H2 (by omega) (by omega) (by omega) s2 (jfJ_trans hf (jfJ_mono f2 fun a ha => Or.inr (Or.inr (Or.inr ha)))) o2 t2
theorem z108 : zpt 108 := ⟨3, by decide, rfl⟩
theorem z8_key342 {x y : ef} {H : jH} (hQ : eg_c e7 (x, y)) (hs : jsh H) (hf : jfJ zSk H0 H) (hx : zL H 109 x 67108863) (hy : zL H 110 y zRb) (hk : ∀ H', jfJ zSk H0 H' → zodds H' 108 (x, y) 8 → R 1 H') : jT (B_8_setKey_342 50 108 H) R := by
  have k50 : ∀ H, jsh H → (jK H 50).1 = 8 := fun H hs => by rw [sK_50 hs]
  have g96 : ∀ H, jsh H → (jK H 96).1 = 5 := fun H hs => by rw [(sPt hs zpt_96).1]
  have g108 : ∀ H, jsh H → (jK H 108).1 = 5 := fun H hs => by rw [(sPt hs z108).1]
  unfold B_8_setKey_342
  refine jT_g (g108 H hs) (jT_b (z5_unit (p := 108) (x := x) (y := y) hs z108 hx (by decide) hy (by decide) hQ fun H3 f3 v3 => ?_))
  have f3' : jfJ zSk H0 H3 := jfJ_trans hf (jfJ_mono f3 fun a ha => by unfold zS4 at ha; unfold zSk zSb; omega)
  have s3 := jsh_fJ hs f3 (fun a ha q => by unfold zS4 at q; omega)
  refine jT_g (k50 H3 s3) ?_
  rw [sR_50_14 s3]
  refine jT_g (g96 H3 s3) (jT_b (z5_set s3 zpt_96 z108 (by decide) v3 fun H4 f4 v4 => ?_))
  rw [if_pos rfl] at v4
  have v34 : zP5 H4 108 (some (x, y)) := zP5_fJ f4 (by unfold zS4; omega) (by unfold zS4; omega) (by unfold zS4; omega) (by unfold zS4; omega) v3
  have f4' : jfJ zSk H0 H4 := jfJ_trans f3' (jfJ_mono f4 fun a ha => by unfold zS4 at ha; unfold zSk zSb; omega)
  have s4 := jsh_fJ s3 f4 (fun a ha q => by unfold zS4 at q; omega)
  refine jT_g (k50 H4 s4) (jT_g (k50 H4 s4) ?_)
  rw [sR_50_14 s4, sR_50_9 s4]
  refine jT_g (g96 H4 s4) (jT_b (z5_twice s4 zpt_96 v4 fun H5 f5 v5 => ?_))
  have v35 : zP5 H5 108 (eN 1 (x, y)) := zP5_fJ f5 (by unfold zS5; omega) (by unfold zS5; omega) (by unfold zS5; omega) (by unfold zS5; omega) v34
  have f5' : jfJ zSk H0 H5 := jfJ_trans f4' (jfJ_mono f5 fun a ha => by unfold zS5 at ha; unfold zSk zSb; omega)
  have s5 := jsh_fJ s4 f5 (fun a ha q => by unfold zS5 at q; omega)
  refine z8_key371 (H0 := H0) hQ hk 7 1 jfuel H5 rfl (by unfold jfuel; omega) (by omega) s5 f5' (fun i hi => ?_) v5
  obtain rfl : i = 0 := by omega
  exact v35
theorem fe_odd {f : Nat → Int} {v : Nat} (h : fe f = (v : Int)) : f 0 % 2 = 1 ↔ v % 2 = 1 := by
  unfold fe at h
  omega
theorem li_and1 (x : Int) : Int64.ofInt x &&& 1 = Int64.ofInt (x % 2) := by
  refine Int64.toBitVec_inj.mp ?_
  rw [Int64.toBitVec_and, Int64.toBitVec_ofInt, Int64.toBitVec_ofInt]
  refine BitVec.eq_of_toNat_eq ?_
  rw [BitVec.toNat_and, BitVec.toNat_ofInt, BitVec.toNat_ofInt]
  have e : (Int64.toBitVec 1).toNat = 2 ^ 1 - 1 := by decide
  rw [e, Nat.and_two_pow_sub_one_eq_mod]
  omega
/-- whether it lies on the curve, and which of the two it is -/
theorem z8_key230 {a1 len : Nat} {a3 : Int32} {x y c : ef} {H : jH} (ha1 : jK H a1 = (101, len)) (hlen : 0 < len) (hs : jsh H) (hf : jfJ zSk H0 H) (hx : zL H 109 x 67108863) (hy : zL H 110 y zRb) (hc : zL H 90 c RB) (hc2 : c = x * x * x + e7)
    (h0 : y * y ≠ c → ∀ H', jfJ zSk H0 H' → R 0 H')
    (h1 : y * y = c → ∀ H', jfJ zSk H0 H' → zodds H' 108 (x, if a3 = 0 then y else if (y.val % 2 = 1 ↔ (jB H a1 0).toNat = 3) then y else -y) 8 → R 1 H') : jT (B_8_setKey_230 50 a1 a3 108 90 91 H) R := by
  obtain ⟨kp, ⟨rx, ry, rz⟩, kx, ky, kz⟩ := sPt hs z108
  have g108 : ∀ H', jfL (fun r => r = 91 ∨ r = 110) H H' → (jK H' 108).1 = 5 ∧ jR H' 108 1 = 110 := fun H' h => by
    rw [h.1, h.2.2.2.2.1, kp]
    exact ⟨rfl, ry⟩
  have k91 := (sWk hs (k := 15) (by decide)).1
  have k90 := (sWk hs (k := 14) (by decide)).1
  have big : ∀ H', jfL (fun r => r = 91 ∨ r = 110) H H' → jfJ zSk H0 H' := fun H' h => jfJ_trans hf (jfL_J (jfL_mono h fun a ha => by unfold zSk zSb; omega))
  unfold B_8_setKey_230
  refine jT_g (g108 H jfL_refl).1 (jT_g (g108 H jfL_refl).1 (jT_b (z5_mulE (a0 := 91) (a1 := 110) (a2 := 110) rfl ry ry k91 ky ky hy hy (by decide) fun H1 f1 v1 => ?_)))
  have c1 : zL H1 90 c RB := zL_fL hc f1 (by show ¬ (90 : Nat) = 91; decide)
  refine jT_b (z5_mixE (a0 := 91) (a1 := 91) (a2 := 90) (m := 1) (n := -1) (C := 411041800) rfl rfl rfl (by rw [f1.1]; exact k91) (by rw [f1.1]; exact k91) (by rw [f1.1]; exact k90) v1 c1 rfl rfl (fun x y q1 q2 q3 q4 => by unfold zRb RB at *; omega) fun H2 f2 v2 => ?_)
  refine jT_b (z5_norm (by rw [f2.1, f1.1]; exact k91) v2 (by decide) fun H3 _ f3 _ _ _ => ?_)
  have F3 : jfL (fun r => r = 91 ∨ r = 110) H H3 := jfL_mono (jfL_trans f1 (jfL_trans f2 f3)) fun r hr => Or.inl hr
  have s3 := jsh_fL hs F3
  have x3 : zL H3 109 x 67108863 := zL_fL hx F3 (by show ¬ ((109 : Nat) = 91 ∨ (109 : Nat) = 110); decide)
  have F3' : jfL (· = 91) H H3 := jfL_trans f1 (jfL_trans f2 f3)
  have y3 : zL H3 110 y zRb := zL_fL hy F3' (by show ¬ (110 : Nat) = 91; decide)
  have hz : ef_i 1 * (y * y) + ef_i (-1) * c = 0 ↔ y * y = c := by
    rw [ef_c1, ef_m1]
    generalize y * y = u
    clear hc2 h0 h1 hc c1 v1 v2
    exact ⟨fun e => by grind, fun e => by grind⟩
  by_cases hyc : y * y = c
  · rw [if_pos (hz.mpr hyc)]
    have hQ : eg_c e7 (x, y) := hyc.trans hc2
    refine jT_pos (by decide) ?_
    by_cases h3 : a3 = 0
    · refine jT_pos h3 (z8_key342 hQ s3 (big H3 F3) x3 y3 fun H' f' o' => h1 hyc H' f' ?_)
      rw [if_pos h3]
      exact o'
    · refine jT_neg h3 (jT_g (g108 H3 F3).1 ?_)
      rw [(g108 H3 F3).2]
      refine jT_b (z5_norm (by rw [F3.1]; exact ky) y3 (by decide) fun H4 g f4 z4 b4 e4 => ?_)
      have F4 : jfL (fun r => r = 91 ∨ r = 110) H H4 := jfL_trans F3 (jfL_mono f4 fun r hr => Or.inr hr)
      have s4 := jsh_fL hs F4
      have x4 : zL H4 109 x 67108863 := zL_fL x3 f4 (by show ¬ (109 : Nat) = 110; decide)
      have y4 : zL H4 110 y 67108864 := ⟨g, z4, fun i hi => by have := b4 i hi; omega, by rw [e4, ef_of]⟩
      have c4 : zL H4 90 c RB := zL_fL hc F4 (by show ¬ ((90 : Nat) = 91 ∨ (90 : Nat) = 110); decide)
      have par := fe_odd e4
      have b40 := b4 0 (by omega)
      refine jT_g (g108 H4 F4).1 ?_
      rw [(g108 H4 F4).2]
      refine jT_g (gL (by rw [F4.1]; exact ky) (by decide)) ?_
      rw [show (0 : Int32).toNatClampNeg = 0 from rfl, z4 0 (by omega), li_and1]
      have hodd : (Int64.ofInt (g 0 % 2) = 1) ↔ y.val % 2 = 1 := by
        rw [← par]
        refine ⟨fun e => ?_, fun e => by rw [e]; rfl⟩
        have := congrArg Int64.toInt e
        rw [li_int (by omega) (by omega)] at this
        exact this
      have ka4 : jK H4 a1 = (101, len) := by rw [F4.1]; exact ha1
      have eB4 : jB H4 a1 0 = jB H a1 0 := by rw [F4.2.2.2.2.2.1]
      have fin : ∀ (m' : Int64) (m : Int), m' = Int64.ofInt m → (m = 1 ∨ m = -1) → (m = 1 ↔ (y.val % 2 = 1 ↔ (jB H a1 0).toNat = 3)) → jT (B_8_setKey_336 50 108 90 110 110 m' H4) R := fun m' m hm hm1 hpar => by
        unfold B_8_setKey_336
        refine jT_b (z5_mixE (a0 := 110) (a1 := 110) (a2 := 90) (m := m) (n := 0) (C := zRb) rfl rfl rfl (by rw [F4.1]; exact ky) (by rw [F4.1]; exact ky) (by rw [F4.1]; exact k90) y4 c4 hm rfl (fun x y q1 q2 q3 q4 => by unfold zRb RB at *; rcases hm1 with e | e <;> rw [e] <;> omega) fun H5 f5 v5 => ?_)
        have F5 : jfL (fun r => r = 91 ∨ r = 110) H H5 := jfL_trans F4 (jfL_mono f5 fun r hr => Or.inr hr)
        have s5 := jsh_fL hs F5
        have x5 : zL H5 109 x 67108863 := zL_fL x4 f5 (by show ¬ (109 : Nat) = 110; decide)
        have e5 : ef_i m * y + ef_i 0 * c = (if a3 = 0 then y else if (y.val % 2 = 1 ↔ (jB H a1 0).toNat = 3) then y else -y) := by
          rw [if_neg h3]
          rcases hm1 with e | e
          · rw [if_pos (hpar.mp e), e, ef_1w]
          · rw [if_neg (fun q => by have := hpar.mpr q; omega), e, ef_m1, ef_c0]
            exact ef_mw y c
        rw [e5] at v5
        have hQ5 : eg_c e7 (x, if a3 = 0 then y else if (y.val % 2 = 1 ↔ (jB H a1 0).toNat = 3) then y else -y) := by
          rw [if_neg h3]
          split
          · exact hQ
          · exact eg_m_c hQ
        exact z8_key342 hQ5 s5 (big H5 F5) x5 v5 fun H' f' o' => h1 hyc H' f' o'
      have go : ∀ s0 : Int32, (s0 = 1 ∨ s0 = 0) → (s0 = 1 ↔ y.val % 2 = 1) → jT (B_8_setKey_300 50 a1 108 90 s0 H4) R := fun s0 hs0 hp0 => by
        unfold B_8_setKey_300
        refine jT_g (g108 H4 F4).1 (jT_g (g108 H4 F4).1 (jT_g (by rw [ka4]; exact ⟨rfl, jo_in (n := 0) (by decide) (by show 0 < len; exact hlen)⟩) ?_))
        rw [show (0 : Int32).toNatClampNeg = 0 from rfl, (g108 H4 F4).2, eB4]
        unfold B_8_setKey_326
        by_cases h3b : (jB H a1 0).toNat = 3
        · refine jT_neg (fun q => q ((jb_n _ 3 (by decide)).mpr h3b)) ?_
          by_cases hy1 : y.val % 2 = 1
          · exact jT_neg (fun q => q (hp0.mpr hy1)) (fin 1 1 rfl (Or.inl rfl) ⟨fun _ => ⟨fun _ => h3b, fun _ => hy1⟩, fun _ => rfl⟩)
          · exact jT_pos (fun q => hy1 (hp0.mp q)) (fin (-1) (-1) rfl (Or.inr rfl) ⟨fun q => absurd q (by decide), fun q => absurd (q.mpr h3b) hy1⟩)
        · refine jT_pos (fun q => h3b ((jb_n _ 3 (by decide)).mp q)) ?_
          by_cases hy1 : y.val % 2 = 1
          · exact jT_pos (fun q => by rw [hp0.mpr hy1] at q; exact absurd q (by decide)) (fin (-1) (-1) rfl (Or.inr rfl) ⟨fun q => absurd q (by decide), fun q => absurd (q.mp hy1) h3b⟩)
          · exact jT_neg (fun q => q (hs0.resolve_left fun e => hy1 (hp0.mp e))) (fin 1 1 rfl (Or.inl rfl) ⟨fun _ => ⟨fun e => absurd e hy1, fun e => absurd e h3b⟩, fun _ => rfl⟩)
      by_cases hy1 : y.val % 2 = 1
      · exact jT_neg (fun q => q (hodd.mpr hy1)) (go 1 (Or.inl rfl) ⟨fun _ => hy1, fun _ => rfl⟩)
      · exact jT_pos (fun q => hy1 (hodd.mp q)) (go 0 (Or.inr rfl) ⟨fun e => absurd e (by decide), fun e => absurd e hy1⟩)
  · rw [if_neg (fun e => hyc (hz.mp e))]
    exact jT_neg (by decide) (jT_g (by decide) (jT_ret (h0 hyc H3 (big H3 F3))))
theorem nv_bgn {b : Nat → UInt8} {f : Nat} : nv 256 (fun k => (b (f + 32 - 1 - k)).toNat) (min 32 32) = bgn b f 32 := rfl
theorem z8_key71 {a1 len n : Nat} {a3 a4 : Int32} {H : jH} (ha1 : jK H a1 = (101, len)) (hlen : len < 2147483648) (hs : jsh H) (hf : jfJ zSk H0 H) (hn : n ≤ len)
    (h34 : (a3 ≠ 0 ∧ a4 = 0 ∧ n = 33 ∧ ((jB H a1 0).toNat = 2 ∨ (jB H a1 0).toNat = 3)) ∨ (a3 = 0 ∧ a4 ≠ 0 ∧ n = 65 ∧ (jB H a1 0).toNat = 4))
    (h0 : ky_pt (jB H a1) n = none → ∀ H', jfJ zSk H0 H' → R 0 H') (h1 : ∀ Q, ky_pt (jB H a1) n = some Q → ∀ H', jfJ zSk H0 H' → zodds H' 108 Q 8 → R 1 H') : jT (B_8_setKey_71 50 a1 a3 a4 H) R := by
  obtain ⟨kp, ⟨rx, ry, rz⟩, kx, ky, kz⟩ := sPt hs z108
  have hn33 : 33 ≤ len := by rcases h34 with h | h <;> omega
  have a53 : a1 ≠ 53 := fun e => by rw [e, sK_53 hs] at ha1; exact absurd ha1 (by simp)
  have a54 : a1 ≠ 54 := fun e => by rw [e, sK_54 hs] at ha1; exact absurd ha1 (by simp)
  have same : ∀ H', jfJ zSk H H' → jsh H' ∧ (jK H' 50).1 = 8 ∧ (jK H' 108).1 = 5 ∧ jR H' 108 0 = 109 ∧ jR H' 108 1 = 110 ∧ jK H' 109 = (103, 10) ∧ jK H' 110 = (103, 10) ∧ jB H' = jB H ∧ jfJ zSk H0 H' ∧ jK H' a1 = (101, len) := fun H' h => by
    have s' := jsh_fJ hs h zSk_18
    refine ⟨s', by rw [sK_50 s'], ?_⟩
    rw [h.1, h.2.2.2.1]
    exact ⟨by rw [kp], rx, ry, kx, ky, h.2.2.2.2.1, jfJ_trans hf h, ha1⟩
  obtain ⟨-, p1, p2, p3, p4, p5, p6, -, -, -⟩ := same H jfJ_refl
  unfold B_8_setKey_71
  refine jT_g p1 ?_
  rw [sR_50_13 hs]
  refine jT_g (by rw [(sK94 hs).2]; exact ⟨rfl, by decide⟩) ?_
  rw [show jR H 95 (0 : Int32).toNatClampNeg = 108 from (sOdd hs (i := 0) (by decide)).2]
  refine jT_l (jT_g p1 (jT_b (z8_set (r := 53) (f := 1) (n := 32) (len := len) (sR_50_3 hs) rfl rfl (sK_53 hs) (by decide) ha1 hlen (by omega) a53 fun H1 f1 v1 => ?_)))
  rw [nv_bgn] at v1
  have F1 : jfJ zSk H H1 := jfJ_mono f1 fun a ha => Or.inl ha
  obtain ⟨s1, q1, q2, q3, q4, q5, q6, q7, q8, q9⟩ := same H1 F1
  refine jT_g q1 (jT_g q2 (jT_b (z8_spread (r := 53) (t := 109) (sR_50_3 s1) q3 (sK_53 s1) q5 v1 fun H2 f2 x2 => ?_)))
  have v2 := zN8_fJ v1 (jfL_J f2) (by show ¬ (53 : Nat) = 109; decide)
  have F2 : jfJ zSk H H2 := jfJ_trans F1 (jfL_J (jfL_mono f2 fun a ha => by unfold zSk zSb; omega))
  obtain ⟨s2, t1, t2, t3, t4, t5, t6, t7, t8, t9⟩ := same H2 F2
  have vP : zN8 H2 7 np_P := ⟨wP, fun i hi => ⟨sSt7 s2 i hi, wP_lt i⟩, wP_nv⟩
  refine jT_g t1 (jT_b (z8_isBelow (r := 53) (t := 7) (sR_50_3 s2) rfl (sK_53 s2) (sK s2 (a := 7) rfl (by decide) (by decide)) v2 vP ?_))
  have no : ky_pt (jB H a1) n = none → ∀ H', jfJ zSk H H' → jT (jg ((0 : Int32) = 0 ∨ (0 : Int32) = 1) (some ((0 : Int32), H'))) R := fun e H' h => jT_g (by decide) (jT_ret (h0 e H' (same H' h).2.2.2.2.2.2.2.2.1))
  by_cases hxP : bgn (jB H a1) 1 32 < np_P
  rotate_left
  · rw [if_neg hxP]
    refine jT_neg (by decide) (no ?_ H2 F2)
    unfold ky_pt
    rcases h34 with ⟨-, -, e1, e2⟩ | ⟨-, -, e1, e2⟩
    · rw [if_pos ⟨e1, e2⟩, if_neg (fun q => hxP q.1)]
    · rw [if_neg (by omega), if_pos ⟨e1, e2⟩, if_neg (fun q => hxP q.1)]
  rw [if_pos hxP]
  have k90 := sWk s2 (k := 14) (by decide)
  have k91 := sWk s2 (k := 15) (by decide)
  refine jT_pos (by decide) (jT_g t1 ?_)
  rw [sR_50_9 s2]
  refine jT_g (by rw [sK75 s2]; exact ⟨rfl, by decide⟩) (jT_lo (e' := 90) k90.2 (jT_g t1 (jT_g (by rw [sK75 s2]; exact ⟨rfl, by decide⟩) (jT_lo (e' := 91) k91.2 (jT_g t2 (jT_g t2 (jT_b (z5_mulE (a0 := 90) (a1 := 109) (a2 := 109) rfl t3 t3 k90.1 t5 t5 x2 x2 (by decide) fun H3 f3 v3 => ?_))))))) )
  have x3 := zL_fL x2 f3 (by show ¬ (109 : Nat) = 90; decide)
  have F3 : jfJ zSk H H3 := jfJ_trans F2 (jfL_J (jfL_mono f3 fun a ha => by unfold zSk zSb; omega))
  obtain ⟨s3, u1, u2, u3, u4, u5, u6, u7, u8, u9⟩ := same H3 F3
  refine jT_g u2 (jT_b (z5_mulE (a0 := 90) (a1 := 90) (a2 := 109) rfl rfl u3 (sWk s3 (k := 14) (by decide)).1 (sWk s3 (k := 14) (by decide)).1 u5 v3 x3 (by decide) fun H4 f4 v4 => ?_))
  have x4 := zL_fL x3 f4 (by show ¬ (109 : Nat) = 90; decide)
  have F4 : jfJ zSk H H4 := jfJ_trans F3 (jfL_J (jfL_mono f4 fun a ha => by unfold zSk zSb; omega))
  obtain ⟨s4, -⟩ := same H4 F4
  have g90 : (jK H4 90).1 = 103 ∧ jin (0) (jK H4 90).2 := gL (sWk s4 (k := 14) (by decide)).1 (by decide)
  refine jT_g g90 (jT_g g90 (jT_l ?_))
  have v5 : zL (jsL H4 90 0 (jL H4 90 0 + Int64.ofInt 7)) 90 (ky_c (bgn (jB H a1) 1 32)) RB := zL_mono (zL_add0 v4 (n := 7) (by decide)) (by decide)
  have f5 : jfL (· = 90) H4 (jsL H4 90 0 (jL H4 90 0 + Int64.ofInt 7)) := jfL_sL jfL_refl rfl
  change jT (_) R
  rw [show (0 : Int32).toNatClampNeg = 0 from rfl, show (7 : Int64) = Int64.ofInt 7 from rfl]
  generalize jsL H4 90 0 (jL H4 90 0 + Int64.ofInt 7) = H5 at v5 f5
  have x5 := zL_fL x4 f5 (by show ¬ (109 : Nat) = 90; decide)
  have F5 : jfJ zSk H H5 := jfJ_trans F4 (jfL_J (jfL_mono f5 fun a ha => by unfold zSk zSb; omega))
  obtain ⟨s5, w1, w2, w3, w4, w5, w6, w7, w8, w9⟩ := same H5 F5
  rcases h34 with ⟨e3, e4, e1, e2⟩ | ⟨e3, e4, e1, e2⟩
  · refine jT_pos e4 (jT_g w2 (jT_g w1 ?_))
    refine jT_b (z5_root (to := 110) w4 rfl (sR_50_9 s5) s5 (by decide) w6 (by decide) v5 fun H6 f6 v6 => ?_)
    rw [rt_end] at v6
    have x6 := zL_fL x5 f6 (by unfold zSw; decide)
    have c6 := zL_fL v5 f6 (by unfold zSw; decide)
    have F6 : jfJ zSk H H6 := jfJ_trans F5 (jfL_J (jfL_mono f6 fun a ha => by unfold zSw at ha; unfold zSk zSb; omega))
    obtain ⟨s6, -, -, -, -, -, -, y7, y8, y9⟩ := same H6 F6
    refine z8_key230 (len := len) y9 (by omega) s6 y8 x6 v6 c6 rfl (fun hy H' f' => h0 ?_ H' f') (fun hy H' f' o' => h1 _ ?_ H' f' o')
    · unfold ky_pt
      rw [if_pos ⟨e1, e2⟩, if_neg (fun q => hy q.2)]
    · unfold ky_pt
      rw [if_pos ⟨e1, e2⟩, if_pos ⟨hxP, hy⟩, if_neg e3, y7]
      rfl
  · refine jT_neg e4 (jT_g w1 (jT_b (z8_set (r := 54) (f := 33) (n := 32) (len := len) (sR_50_4 s5) rfl rfl (sK_54 s5) (by decide) w9 hlen (by omega) a54 fun H6 f6 v6 => ?_)))
    rw [nv_bgn, w7] at v6
    have F6 : jfJ zSk H H6 := jfJ_trans F5 (jfJ_mono f6 fun a ha => Or.inr (Or.inl ha))
    obtain ⟨s6, y1, y2, y3, y4, y5, y6, y7, y8, y9⟩ := same H6 F6
    have x6 := zL_fJ x5 f6 (by show ¬ (109 : Nat) = 54; decide)
    have c6 := zL_fJ v5 f6 (by show ¬ (90 : Nat) = 54; decide)
    refine jT_g y1 (jT_g y2 (jT_b (z8_spread (r := 54) (t := 110) (sR_50_4 s6) y4 (sK_54 s6) y6 v6 fun H7 f7 v7 => ?_)))
    have n7 := zN8_fJ v6 (jfL_J f7) (by show ¬ (54 : Nat) = 110; decide)
    have F7 : jfJ zSk H H7 := jfJ_trans F6 (jfL_J (jfL_mono f7 fun a ha => by unfold zSk zSb; omega))
    obtain ⟨s7, r1, r2, r3, r4, r5, r6, r7, r8, r9⟩ := same H7 F7
    have x7 := zL_fL x6 f7 (by show ¬ (109 : Nat) = 110; decide)
    have c7 := zL_fL c6 f7 (by show ¬ (90 : Nat) = 110; decide)
    have vP7 : zN8 H7 7 np_P := ⟨wP, fun i hi => ⟨sSt7 s7 i hi, wP_lt i⟩, wP_nv⟩
    refine jT_g r1 (jT_b (z8_isBelow (r := 54) (t := 7) (sR_50_4 s7) rfl (sK_54 s7) (sK s7 (a := 7) rfl (by decide) (by decide)) n7 vP7 ?_))
    by_cases hyP : bgn (jB H a1) 33 32 < np_P
    · rw [if_pos hyP]
      refine jT_pos (by decide) (z8_key230 (len := len) r9 (by omega) s7 r8 x7 (zL_mono v7 (by decide)) c7 rfl (fun hy H' f' => h0 ?_ H' f') (fun hy H' f' o' => h1 _ ?_ H' f' o'))
      · unfold ky_pt
        rw [if_neg (by omega), if_pos ⟨e1, e2⟩, if_neg (fun q => hy q.2.2)]
      · unfold ky_pt
        rw [if_neg (by omega), if_pos ⟨e1, e2⟩, if_pos ⟨hxP, hyP, hy⟩, if_pos e3]
    · rw [if_neg hyP]
      refine jT_neg (by decide) (no ?_ H7 F7)
      unfold ky_pt
      rw [if_neg (by omega), if_pos ⟨e1, e2⟩, if_neg (fun q => hyP q.2.1)]
theorem z8_setKey {a1 len n : Nat} (ha1 : jK H0 a1 = (101, len)) (hlen : len < 2147483648) (hs : jsh H0) (hn : n ≤ len)
    (h0 : ky_pt (jB H0 a1) n = none → ∀ H', jfJ zSk H0 H' → R 0 H') (h1 : ∀ Q, ky_pt (jB H0 a1) n = some Q → ∀ H', jfJ zSk H0 H' → zodds H' 108 Q 8 → R 1 H') : jT (F_8_setKey 50 a1 (Int32.ofNat n) H0) R := by
  have g0 : 0 < n → (jK H0 a1).1 = 101 ∧ jin (0) (jK H0 a1).2 := fun h => by rw [ha1]; exact ⟨rfl, jo_in (n := 0) (by decide) (by show 0 < len; omega)⟩
  have e33 : Int32.ofNat n = (33 : Int32) ↔ n = 33 := by rw [show (33 : Int32) = Int32.ofNat 33 from rfl, jo_eq (by omega) (by omega)]
  have e65 : Int32.ofNat n = (65 : Int32) ↔ n = 65 := by rw [show (65 : Int32) = Int32.ofNat 65 from rfl, jo_eq (by omega) (by omega)]
  have no : ky_pt (jB H0 a1) n = none → jT (jg ((0 : Int32) = 0 ∨ (0 : Int32) = 1) (some ((0 : Int32), H0))) R := fun e => jT_g (by decide) (jT_ret (h0 e H0 jfJ_refl))
  have yes : n = 33 → ((jB H0 a1 0).toNat = 2 ∨ (jB H0 a1 0).toNat = 3) → jT (B_8_setKey_27 50 a1 (Int32.ofNat n) H0) R := fun e1 e2 => by
    unfold B_8_setKey_27 B_8_setKey_32 B_8_setKey_57 B_8_setKey_58
    exact jT_pos (fun q => by have := e65.mp q; omega) (jT_pos (by decide) (z8_key71 ha1 hlen hs jfJ_refl hn (Or.inl ⟨by decide, rfl, e1, e2⟩) h0 h1))
  have rest : (n = 33 → ¬ ((jB H0 a1 0).toNat = 2 ∨ (jB H0 a1 0).toNat = 3)) → jT (B_8_setKey_31 50 a1 (Int32.ofNat n) H0) R := fun hne => by
    unfold B_8_setKey_31 B_8_setKey_32 B_8_setKey_57 B_8_setKey_58
    by_cases h65 : n = 65
    · refine jT_neg (fun q => q (e65.mpr h65)) ?_
      rw [ha1]
      refine jT_g rfl (jT_neg (by show ¬ Int32.ofNat len < Int32.ofNat 65; rw [jo_lt (by omega) (by omega)]; omega) (jT_g ⟨rfl, jo_in (n := 0) (by decide) (by show 0 < len; omega)⟩ ?_))
      by_cases h4 : (jB H0 a1 0).toNat = 4
      · exact jT_neg (fun q => q ((jb_n _ 4 (by decide)).mpr h4)) (jT_neg (fun q => q rfl) (jT_pos (by decide) (z8_key71 ha1 hlen hs jfJ_refl hn (Or.inr ⟨rfl, by decide, h65, h4⟩) h0 h1)))
      · refine jT_pos (fun q => h4 ((jb_n _ 4 (by decide)).mp q)) (jT_neg (fun q => q rfl) (jT_neg (fun q => q rfl) (no ?_)))
        unfold ky_pt
        rw [if_neg (by omega), if_neg (fun q => h4 q.2)]
    · refine jT_pos (fun q => h65 (e65.mp q)) (jT_neg (fun q => q rfl) (jT_neg (fun q => q rfl) (no ?_)))
      unfold ky_pt
      rw [if_neg (fun q => hne q.1 q.2), if_neg (fun q => h65 q.1)]
  unfold F_8_setKey
  by_cases h33 : n = 33
  · refine jT_neg (fun q => q (e33.mpr h33)) ?_
    rw [ha1]
    have g := g0 (by omega)
    rw [ha1] at g
    refine jT_g rfl (jT_neg (by show ¬ Int32.ofNat len < Int32.ofNat 33; rw [jo_lt (by omega) (by omega)]; omega) (jT_g g ?_))
    by_cases h2 : (jB H0 a1 0).toNat = 2
    · exact jT_pos ((jb_n _ 2 (by decide)).mpr h2) (yes h33 (Or.inl h2))
    · refine jT_neg (fun q => h2 ((jb_n _ 2 (by decide)).mp q)) (jT_g g ?_)
      by_cases h3 : (jB H0 a1 0).toNat = 3
      · exact jT_neg (fun q => q ((jb_n _ 3 (by decide)).mpr h3)) (yes h33 (Or.inr h3))
      · exact jT_pos (fun q => h3 ((jb_n _ 3 (by decide)).mp q)) (rest fun _ q => q.elim h2 h3)
  · exact jT_pos (fun q => h33 (e33.mp q)) (rest fun e => absurd e h33)
end KEY
