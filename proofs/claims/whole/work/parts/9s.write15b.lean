/-! What is signed, as the reference writes it: the outputs, the whole. -/
section WR15B
variable {Q : Unit → jH → Prop} {row s len lr la llen inp : Nat} {tb lk L : List UInt8} {y : w_y} {H0 : jH} {kd : Nat}
/-- the bytes of a value, and what is behind them -/
theorem z15_w303 {k261 : Nat → Int32 → Int32 → Int32 → Int32 → jH → Option (Unit × jH)} {a1 a2 a4 : Int32} {i : Nat} (hy : w_ty tb y) (hi : i < y.2.1.length) (hl : L.length + 9 + (y.2.1.getD i (0, 0)).2 ≤ 4000)
    (hk : ∀ H', w_c15 row s len lr la llen inp tb y lk H' → jf15 H0 H' → zW15 H' (L ++ w_sl tb (y.2.1.getD i (0, 0)).1 (9 + (y.2.1.getD i (0, 0)).2)) → jT (k261 427 a1 a2 a4 (Int32.ofNat (i + 1)) H') Q) :
    ∀ (d k fu : Nat) (H : jH), k + d = 8 → d < fu → w_c15 row s len lr la llen inp tb y lk H → jf15 H0 H → zW15 H (L ++ w_sl tb (y.2.1.getD i (0, 0)).1 k) → jT (F_15_write_303 k261 fu 427 a1 a2 a4 (Int32.ofNat i) (Int32.ofNat k) H) Q := by
  obtain ⟨w1, w2, w3, w4⟩ := w_out y tb hy hi
  have l8 : y.2.1.length ≤ 8 := (ztx_spec hy.1).2.1
  have hq : ∀ k, k ≤ 9 → (w_sl tb (y.2.1.getD i (0, 0)).1 k).length = k := fun k hk => w_sl_len (by omega)
  have e_i : Int32.ofNat i + 1 = Int32.ofNat (i + 1) := jo_add (a := i) (b := 1)
  intro d
  induction d with
  | zero =>
    intro k fu H hk8 hfu hc hf hw
    obtain ⟨fu, rfl⟩ : ∃ k, fu = k + 1 := ⟨fu - 1, by omega⟩
    obtain rfl : k = 8 := by omega
    have hcc := hc
    obtain ⟨⟨g1, g2, g3, g4, g5, g6⟩, -, ⟨c1, c2, c3, c4, c5, c6⟩, -, -, n2, -⟩ := hc
    unfold F_15_write_303 B_15_write_303
    simp only [g2, sR_456_14 g1, jo_nat (n := i) (by omega), (n2 i hi).2.2]
    refine jT_pos (by decide) (jT_g (k15 g1) (jT_g (k56 g1) (jT_g (gA (sK_464 g1) (jo_in (by omega) (by omega))) (jT_g (k15 g1) (jT_b (z15_fl1 (n := (y.2.1.getD i (0, 0)).2) hcc rfl (by rw [List.length_append, hq 8 (by omega)]; omega) hw fun H2 h2 f2 z2 => ?_))))))
    have hcc2 := h2
    obtain ⟨⟨i1, i2, i3, i4, i5, i6⟩, -, ⟨j1, j2, j3, j4, j5, j6⟩, -, -, n3, -⟩ := h2
    simp only [i2, j1, sR_456_13 i1, sR_456_14 i1, jo_nat (n := i) (by omega), (n3 i hi).2.2, (n3 i hi).2.1]
    refine jT_g (k15 i1) (jT_g (k56 i1) (jT_g (k15 i1) (jT_g (k56 i1) (jT_g (gA (sK_463 i1) (jo_in (by omega) (by omega))) (jT_g (k15 i1) (jT_g (k56 i1) (jT_g (gA (sK_464 i1) (jo_in (by omega) (by omega))) (jT_g (k15 i1) (jT_b (z15_cpt (p := (y.2.1.getD i (0, 0)).1 + 9) (n := (y.2.1.getD i (0, 0)).2) hcc2 (by rw [Nat.add_assoc s]) rfl (by omega) (by rw [List.length_append, List.length_append, hq 8 (by omega)]; show L.length + 8 + 1 + _ ≤ 4000; omega) z2 fun H3 h3 f3 z3 => ?_))))))))))
    unfold B_15_write_384
    rw [e_i]
    refine jT_l (hk H3 h3 (jf15_trans (jf15_trans hf f2) f3) ?_)
    have e1 : [w_b (y.2.1.getD i (0, 0)).2] = w_sl tb ((y.2.1.getD i (0, 0)).1 + 8) 1 := by
      rw [w_sl_one (by omega), w3, w_b_u]
    rw [e1] at z3
    rw [w_sl_add (a := 9), show (9 : Nat) = 8 + 1 from rfl, w_sl_add (a := 8) (b := 1)]
    simp only [List.append_assoc] at z3 ⊢
    exact z3
  | succ d ih =>
    intro k fu H hk8 hfu hc hf hw
    obtain ⟨fu, rfl⟩ : ∃ k, fu = k + 1 := ⟨fu - 1, by omega⟩
    have hcc := hc
    obtain ⟨⟨g1, g2, g3, g4, g5, g6⟩, -, ⟨c1, c2, c3, c4, c5, c6⟩, -, -, n2, -⟩ := hc
    have e_k : Int32.ofNat k + 1 = Int32.ofNat (k + 1) := jo_add (a := k) (b := 1)
    have e8 : (8 : Int32) * Int32.ofNat k = Int32.ofNat (8 * k) := jo_mul (a := 8) (b := k)
    unfold F_15_write_303 B_15_write_303
    simp only [g2, sR_456_12 g1, jo_nat (n := i) (by omega), (n2 i hi).1]
    refine jT_neg (by rw [show (8 : Int32) = Int32.ofNat 8 from rfl, jo_le (by omega) (by omega)]; omega) (jT_g (k15 g1) (jT_g (k56 g1) (jT_g (gA (sK_462 g1) (jo_in (by omega) (by omega))) (jT_g (k15 g1) (jT_b (z15_fill (n := 1) rfl g1 (by rw [List.length_append, hq k (by omega)]; omega) hw fun H2 s2 f2 z2 => ?_))))))
    rw [e8, w_vbyte (by omega)] at z2
    rw [e_k]
    refine jT_l (ih (k + 1) fu H2 (by omega) (by omega) (w_c15_fr hcc f2) (jf15_trans hf f2) ?_)
    have e2 : jB H row (s + (y.2.1.getD i (0, 0)).1 + k) = tb.getD ((y.2.1.getD i (0, 0)).1 + k) 0 := by
      rw [Nat.add_assoc]
      exact c6 _ _ (getD_of (by omega))
    rw [w_sl_add, w_sl_one (by omega), ← e2, ← List.append_assoc]
    exact z2
/-- all outputs, and the end -/
theorem z15_w261 {n : Nat} (hy : w_ty tb y) (hn : n ≤ y.2.1.length) (hkd : kd < 256) (hL : L.length + w_wi y.2.1 9 + 8 ≤ 4000)
    (hk : ∀ H', w_c15 row s len lr la llen inp tb y lk H' → jf15 H0 H' → zW15 H' (L ++ w_outs tb y.2.1 inp (decide (kd % 32 = 3)) n ++ w_sl tb (tb.length - 4) 4 ++ [w_b kd] ++ List.replicate 3 (w_b 0)) → Q () H') :
    ∀ (d i fu : Nat) (H : jH), i + d = n → d < fu → w_c15 row s len lr la llen inp tb y lk H → jf15 H0 H → zW15 H (L ++ w_outs tb y.2.1 inp (decide (kd % 32 = 3)) i) → jT (F_15_write_261 fu 427 (Int32.ofNat kd) (Int32.ofNat (kd % 32)) (Int32.ofNat n) (Int32.ofNat i) H) Q := by
  have gb : (Int32.ofNat (kd % 32) = 3 ↔ kd % 32 = 3) := jo_eq (a := kd % 32) (b := 3) (by omega) (by omega)
  have l8 : y.2.1.length ≤ 8 := (ztx_spec hy.1).2.1
  have l9 : y.1.length ≤ 8 := (ztx_spec hy.1).1
  have h10 : 10 ≤ y.2.2 := by have := (ztx_spec hy.1).2.2.1; omega
  have hty := hy.2.1
  have lt := hy.2.2
  intro d
  induction d with
  | zero =>
    intro i fu H hi hfu hc hf hw
    obtain ⟨fu, rfl⟩ : ∃ k, fu = k + 1 := ⟨fu - 1, by omega⟩
    obtain rfl : i = n := by omega
    have hcc := hc
    obtain ⟨⟨g1, g2, g3, g4, g5, g6⟩, -, ⟨c1, c2, c3, c4, c5, c6⟩, ⟨d1, d2, d3, d4⟩, -⟩ := hc
    have ho := w_outs_len (inp := inp) (b3 := decide (kd % 32 = 3)) hy i hn
    have ho2 := w_wi_le (l := y.2.1) (k := 9) (i := i)
    have e4 : Int32.ofNat (s + tb.length) - 4 = Int32.ofNat (s + (tb.length - 4)) := (jo_sub (a := s + tb.length) (b := 4) (by omega)).trans (by rw [show s + tb.length - 4 = s + (tb.length - 4) by omega])
    have p4 : (w_sl tb (tb.length - 4) 4).length = 4 := w_sl_len (by omega)
    unfold F_15_write_261 B_15_write_261
    simp only [g2, c1, d2]
    refine jT_pos (by rw [jo_le (by omega) (by omega)]; exact Nat.le_refl _) (jT_g (k15 g1) (jT_g (k56 g1) (jT_g (k15 g1) (jT_g (k56 g1) (jT_g (k15 g1) (jT_b (z15_cpt (p := tb.length - 4) (n := 4) hcc e4 rfl (by omega) (by rw [List.length_append]; omega) hw fun H2 h2 f2 z2 => ?_)))))))
    refine jT_g (k15 h2.1.1) (jT_b (z15_fl1 (n := kd) h2 rfl (by rw [List.length_append, List.length_append, p4]; omega) z2 fun H3 h3 f3 z3 => ?_))
    refine jT_g (k15 h3.1.1) (jT_b (z15_fln (u := 0) (n := 3) h3 rfl rfl (by rw [List.length_append, List.length_append, List.length_append, p4]; show L.length + _ + 4 + 1 + 3 ≤ 4000; omega) z3 fun H4 h4 f4 z4 => jT_ret (hk H4 h4 (jf15_trans (jf15_trans (jf15_trans hf f2) f3) f4) z4)))
  | succ d ih =>
    intro i fu H hi hfu hc hf hw
    obtain ⟨fu, rfl⟩ : ∃ k, fu = k + 1 := ⟨fu - 1, by omega⟩
    have hcc := hc
    obtain ⟨⟨g1, g2, g3, g4, g5, g6⟩, -, -, -, -, -, n3⟩ := hc
    obtain ⟨w1, w2, w3, w4⟩ := w_out y tb hy (i := i) (by omega)
    have ho := w_outs_len (inp := inp) (b3 := decide (kd % 32 = 3)) hy i (by omega)
    have ho2 := w_wi_take (l := y.2.1) (k := 9) (i := i) (by omega)
    have ho3 := w_wi_le (l := y.2.1) (k := 9) (i := i + 1)
    have e_i : Int32.ofNat i + 1 = Int32.ofNat (i + 1) := jo_add (a := i) (b := 1)
    have nxt : ∀ H2, w_c15 row s len lr la llen inp tb y lk H2 → jf15 H H2 → zW15 H2 (L ++ w_outs tb y.2.1 inp (decide (kd % 32 = 3)) i ++ w_mo tb (y.2.1.getD i (0, 0)) (decide (kd % 32 = 3) && decide (i < inp))) → jT (F_15_write_261 fu 427 (Int32.ofNat kd) (Int32.ofNat (kd % 32)) (Int32.ofNat n) (Int32.ofNat (i + 1)) H2) Q := fun H2 h2 f2 z2 =>
      ih (i + 1) fu H2 (by omega) (by omega) h2 (jf15_trans hf f2) (by rw [List.append_assoc] at z2; exact z2)
    have h300 : ¬ (kd % 32 = 3 ∧ i < inp) → jT (B_15_write_300 (F_15_write_261 fu) 427 (Int32.ofNat kd) (Int32.ofNat (kd % 32)) (Int32.ofNat n) (Int32.ofNat i) H) Q := fun hno => by
      have hf2 : (decide (kd % 32 = 3) && decide (i < inp)) = false := by
        by_cases q1 : kd % 32 = 3
        · by_cases q2 : i < inp
          · exact absurd ⟨q1, q2⟩ hno
          · rw [decide_eq_false q2, Bool.and_false]
        · rw [decide_eq_false q1, Bool.false_and]
      unfold B_15_write_300
      refine z15_w303 (L := L ++ w_outs tb y.2.1 inp (decide (kd % 32 = 3)) i) (H0 := H) hy (by omega) (by rw [List.length_append]; omega) (fun H2 h2 f2 z2 => nxt H2 h2 f2 ?_) 8 0 jfuel H rfl (by unfold jfuel; omega) hcc jf15_refl ?_
      · unfold w_mo
        rw [hf2, if_neg (by decide)]
        exact z2
      · show zW15 H (_ ++ [])
        rw [List.append_nil]
        exact hw
    unfold F_15_write_261 B_15_write_261
    rw [g3]
    refine jT_neg (by rw [jo_le (by omega) (by omega)]; omega) ?_
    by_cases c3 : kd % 32 = 3
    · refine jT_neg (fun q => q (gb.mpr c3)) (jT_g (k15 g1) ?_)
      by_cases ci : i < inp
      · refine jT_neg (by rw [jo_le (by omega) (by omega)]; omega) (jT_g (k15 g1) (jT_b (z15_fln (u := 255) (n := 8) hcc rfl rfl (by rw [List.length_append]; omega) hw fun H2 h2 f2 z2 => ?_)))
        refine jT_g (k15 h2.1.1) (jT_b (z15_fl1 (n := 0) h2 rfl (by rw [List.length_append, List.length_append, List.length_replicate]; omega) z2 fun H3 h3 f3 z3 => ?_))
        unfold B_15_write_384
        rw [e_i]
        refine jT_l (nxt H3 h3 (jf15_trans f2 f3) ?_)
        have hd : (decide (kd % 32 = 3) && decide (i < inp)) = true := by
          rw [decide_eq_true c3, decide_eq_true ci]
          rfl
        unfold w_mo
        rw [hd, if_pos rfl, ← List.append_assoc]
        exact z3
      · exact jT_pos (by rw [jo_le (by omega) (by omega)]; omega) (h300 fun q => ci q.2)
    · exact jT_pos (fun q => c3 (gb.mp q)) (h300 fun q => c3 q.1)
theorem jsh_sI427 {H : jH} (hs : jsh H) {v : Int32} : jf15 H (jsI H 427 8 v) := ⟨rfl, rfl, rfl, rfl, rfl, fun _ _ _ => rfl, fun _ _ q => jup_ne q⟩
/-- the whole -/
theorem z15_write (hy : w_ty tb y) (hkd : kd < 256) (h3 : kd % 32 = 3 → inp < y.2.1.length) (hlk : lk.length ≤ 200) (hc : w_c15 row s len lr la llen inp tb y lk H0)
    (hk : ∀ H', w_c15 row s len lr la llen inp tb y lk H' → jf15 H0 H' → zW15 H' (w_msg tb y inp lk kd) → Q () H') : jT (F_15_write 427 (Int32.ofNat kd) H0) Q := by
  have lt := hy.2.2
  have h10 : 10 ≤ y.2.2 := by have := (ztx_spec hy.1).2.2.1; omega
  have hty := hy.2.1
  have l8 : y.2.1.length ≤ 8 := (ztx_spec hy.1).2.1
  have l9 : y.1.length ≤ 8 := (ztx_spec hy.1).1
  have e31 : Int32.ofNat kd &&& 31 = Int32.ofNat (kd % 32) := jo_mask (m := kd) (k := 5) (by decide)
  have hno : w_no kd inp y.2.1.length ≤ y.2.1.length := by
    unfold w_no
    by_cases c2 : kd % 32 = 2
    · rw [if_pos c2]
      exact Nat.zero_le _
    · rw [if_neg c2]
      by_cases c3 : kd % 32 = 3
      · rw [if_pos c3]
        exact h3 c3
      · rw [if_neg c3]
        exact Nat.le_refl _
  have p4 : (w_sl tb 0 4).length = 4 := w_sl_len (by omega)
  have hs := hc.1.1
  have go : ∀ (al : Bool) (s0 : Int32), al = decide (128 ≤ kd) → s0 = (if al = true then 1 else 0) → jT (B_15_write_17 427 (Int32.ofNat kd) (Int32.ofNat (kd % 32)) s0 H0) Q := by
    intro al s0 hal es
    have f0 := jsh_sI427 (v := 0) hs
    have hc1 := w_c15_fr hc f0
    have z0 : zW15 (jsI H0 427 8 0) [] := ⟨jI_sIe, fun i u hi => by rw [List.getElem?_nil] at hi; cases hi⟩
    have hcc1 := hc1
    obtain ⟨⟨g1, g2, g3, g4, g5, g6⟩, -, ⟨c1, c2, c3, c4, c5, c6⟩, ⟨d1, d2, d3, d4⟩, -⟩ := hc1
    unfold B_15_write_17
    refine jT_g (k15 hs) (jT_l ?_)
    simp only [g2, c1, d1]
    generalize jsI H0 427 8 0 = H1 at *
    refine jT_g (k15 g1) (jT_g (k56 g1) (jT_g (k15 g1) (jT_g (k56 g1) (jT_g (k15 g1) (jT_b (z15_cpt (p := 0) (n := 4) hcc1 rfl rfl (by omega) (by show 0 + 4 ≤ 4000; omega) z0 fun H2 h2 f2 z2 => ?_))))))
    have hcc2 := h2
    obtain ⟨⟨i1, i2, i3, i4, i5, i6⟩, -, -, ⟨q1, q2, q3, q4⟩, -⟩ := h2
    have b58 : jT (B_15_write_58 427 (Int32.ofNat kd) (Int32.ofNat (kd % 32)) s0 427 (Int32.ofNat (if 128 ≤ kd then 1 else y.1.length)) H2) Q := by
      unfold B_15_write_58
      refine jT_g (k15 i1) (jT_b (z15_fl1 (n := if 128 ≤ kd then 1 else y.1.length) hcc2 rfl (by rw [List.nil_append, p4]; omega) z2 fun H3 h3 f3 z3 => ?_))
      rw [List.nil_append] at z3
      have m1 : (w_m1 tb y inp lk kd).length = 5 := by
        unfold w_m1
        rw [List.length_append, p4]
        rfl
      refine z15_w65 (L := w_m1 tb y inp lk kd) (H0 := H3) (al := al) es hy (by omega) hlk (fun H4 h4 f4 z4 => ?_) y.1.length 0 jfuel H3 (by omega) (by unfold jfuel; omega) h3 jf15_refl ?_
      · have hlen := w_len (inp := inp) (lk := lk) (al := al) (ba := w_ba kd) (b3 := false) hy (Nat.le_refl y.1.length) (Nat.zero_le _)
        have hwi := ztx_wi hy.1
        have hins := w_ins_len (inp := inp) (lk := lk) (al := al) (ba := w_ba kd) hy y.1.length (Nat.le_refl _)
        have hwl := w_wi_le (l := y.1) (k := 41) (i := y.1.length)
        have hif : (if inp < y.1.length then lk.length else 0) ≤ lk.length := by
          by_cases c : inp < y.1.length
          · rw [if_pos c]
            exact Nat.le_refl _
          · rw [if_neg c]
            exact Nat.zero_le _
        refine z15_w261 (L := w_m1 tb y inp lk kd ++ w_ins tb y.1 inp al (w_ba kd) lk y.1.length ++ [w_b (w_no kd inp y.2.1.length)]) (H0 := H4) hy hno hkd ?_ (fun H5 h5 f5 z5 => hk H5 h5 (jf15_trans (jf15_trans (jf15_trans (jf15_trans f0 f2) f3) f4) f5) ?_) (w_no kd inp y.2.1.length) 0 jfuel H4 (by omega) (by unfold jfuel; omega) h4 jf15_refl ?_
        · rw [List.length_append, List.length_append, m1]
          show 5 + _ + 1 + _ + 8 ≤ 4000
          omega
        · unfold w_msg w_m3 w_m2
          rw [← hal]
          exact z5
        · show zW15 H4 (_ ++ [])
          rw [List.append_nil]
          exact z4
      · show zW15 H3 (_ ++ [])
        rw [List.append_nil]
        exact z3
    by_cases c : al = true
    · have c128 : 128 ≤ kd := of_decide_eq_true (hal.symm.trans c)
      rw [if_pos c128] at b58
      exact jT_neg (by rw [es, if_pos c]; decide) b58
    · have c128 : ¬ 128 ≤ kd := fun q => c (hal.trans (decide_eq_true q))
      rw [if_neg c128] at b58
      rw [i2, q3]
      exact jT_pos (by rw [es, if_neg c]) (jT_g (k15 i1) (jT_g (k56 i1) b58))
  unfold F_15_write
  rw [e31]
  refine jT_l ?_
  by_cases c : kd < 128
  · exact jT_pos (by rw [show (128 : Int32) = Int32.ofNat 128 from rfl, jo_lt (by omega) (by omega)]; exact c) (go false 0 (by rw [decide_eq_false (by omega)]) rfl)
  · exact jT_neg (by rw [show (128 : Int32) = Int32.ofNat 128 from rfl, jo_lt (by omega) (by omega)]; exact c) (go true 1 (by rw [decide_eq_true (by omega)]) rfl)
end WR15B
