/-! What is signed, as the class writes it: the outputs, the whole. -/
section WR7B
variable {Q : Unit → jH → Prop} {o row s len mk lr la llen inp : Nat} {tb nm lk L : List UInt8} {y : w_y} {H0 : jH} {kd : Nat}
theorem z7_w291 {n : Nat} (hy : w_ty tb y) (hn : n ≤ y.2.1.length) (hinp : inp < 8) (hkd : kd < 256) (hL : L.length + w_wi y.2.1 9 + 8 ≤ 2400)
    (hk : ∀ H', w_c7 o row s len mk lr la llen tb nm y lk H' → jfr w_S7 H0 H' → zW7 H' (L ++ w_outs tb y.2.1 inp (decide (kd % 32 = 3)) n ++ w_sl tb (tb.length - 4) 4 ++ [w_b kd] ++ List.replicate 3 (w_b 0)) → Q () H') :
    ∀ (d i fu : Nat) (H : jH), i + d = n → d < fu → w_c7 o row s len mk lr la llen tb nm y lk H → jfr w_S7 H0 H → zW7 H (L ++ w_outs tb y.2.1 inp (decide (kd % 32 = 3)) i) → jT (F_7_write_291 fu 49 o (Int32.ofNat inp) (Int32.ofNat kd) (Int32.ofNat (kd % 32)) (Int32.ofNat n) (Int32.ofNat i) H) Q := by
  have gb : (Int32.ofNat (kd % 32) = 3 ↔ kd % 32 = 3) := jo_eq (a := kd % 32) (b := 3) (by omega) (by omega)
  have l8 : y.2.1.length ≤ 8 := (ztx_spec hy.1).2.1
  have h10 : 10 ≤ y.2.2 := by have := (ztx_spec hy.1).2.2.1; omega
  have hty := hy.2.1
  have lt := hy.2.2
  intro d
  induction d with
  | zero =>
    intro i fu H hi hfu hc hf hw
    obtain ⟨fu, rfl⟩ : ∃ k, fu = k + 1 := ⟨fu - 1, by omega⟩
    obtain rfl : i = n := by omega
    have hcc := hc
    obtain ⟨hs, ⟨⟨a1, a2, a3, a4, a5, a6⟩, ⟨b1, b2, b3, b4, b5, b6⟩, -⟩, -⟩ := hc
    have ho := w_outs_len (inp := inp) (b3 := decide (kd % 32 = 3)) hy i hn
    have ho2 := w_wi_le (l := y.2.1) (k := 9) (i := i)
    have e4 : Int32.ofNat s + Int32.ofNat tb.length - 4 = Int32.ofNat (s + (tb.length - 4)) := by
      rw [jo_add]
      exact (jo_sub (a := s + tb.length) (b := 4) (by omega)).trans (by rw [show s + tb.length - 4 = s + (tb.length - 4) by omega])
    have p4 : (w_sl tb (tb.length - 4) 4).length = 4 := w_sl_len (by omega)
    unfold F_7_write_291 B_7_write_291 B_7_write_372
    simp only [a2, b1, b2, e4]
    refine jT_pos (by rw [jo_le (by omega) (by omega)]; exact Nat.le_refl _) (jT_g a1 (jT_g a1 (jT_g a1 (jT_g (k49 hs) (jT_b (z7_ptt (p := tb.length - 4) (n := 4) hcc rfl rfl (by omega) (by rw [List.length_append]; omega) hw fun H2 h2 f2 z2 => ?_))))))
    refine jT_g (k49 h2.1) (jT_b (z7_fln (u := kd) (n := 1) h2 rfl rfl (by rw [List.length_append, List.length_append, p4]; omega) z2 fun H3 h3 f3 z3 => ?_))
    refine jT_g (k49 h3.1) (jT_b (z7_fln (u := 0) (n := 3) h3 rfl rfl (by rw [List.length_append, List.length_append, List.length_append, p4]; show L.length + _ + 4 + 1 + 3 ≤ 2400; omega) z3 fun H4 h4 f4 z4 => jT_ret (hk H4 h4 (jfr_trans (jfr_trans (jfr_trans hf f2) f3) f4) z4)))
  | succ d ih =>
    intro i fu H hi hfu hc hf hw
    obtain ⟨fu, rfl⟩ : ∃ k, fu = k + 1 := ⟨fu - 1, by omega⟩
    have hcc := hc
    have hx := hc.2.1
    obtain ⟨hs, ⟨⟨a1, a2, a3, a4, a5, a6⟩, ⟨b1, b2, b3, b4, b5, b6⟩, c1, c2, -⟩, -⟩ := hc
    have hil : i < y.2.1.length := by omega
    obtain ⟨w1, w2, w3, w4⟩ := w_out y tb hy hil
    have ho := w_outs_len (inp := inp) (b3 := decide (kd % 32 = 3)) hy i (by omega)
    have ho2 := w_wi_take (l := y.2.1) (k := 9) (i := i) (by omega)
    have ho3 := w_wi_le (l := y.2.1) (k := 9) (i := i + 1)
    have e_i : Int32.ofNat i + 1 = Int32.ofNat (i + 1) := jo_add (a := i) (b := 1)
    have eb6 : (Int32.ofNat (jK H (o + 5)).2) = Int32.ofNat y.2.1.length := by rw [b6]
    have nxt : ∀ H2, w_c7 o row s len mk lr la llen tb nm y lk H2 → jfr w_S7 H H2 → zW7 H2 (L ++ w_outs tb y.2.1 inp (decide (kd % 32 = 3)) i ++ w_mo tb (y.2.1.getD i (0, 0)) (decide (kd % 32 = 3) && decide (i < inp))) → jT (B_7_write_366 (F_7_write_291 fu) 49 o (Int32.ofNat inp) (Int32.ofNat kd) (Int32.ofNat (kd % 32)) (Int32.ofNat n) (Int32.ofNat i) H2) Q := fun H2 h2 f2 z2 => by
      unfold B_7_write_366
      rw [e_i]
      exact jT_l (ih (i + 1) fu H2 (by omega) (by omega) h2 (jfr_trans hf f2) (by rw [List.append_assoc] at z2; exact z2))
    have h338 : ¬ (kd % 32 = 3 ∧ i < inp) → jT (B_7_write_338 (F_7_write_291 fu) 49 o (Int32.ofNat inp) (Int32.ofNat kd) (Int32.ofNat (kd % 32)) (Int32.ofNat n) (Int32.ofNat i) H) Q := fun hno => by
      have hf2 : (decide (kd % 32 = 3) && decide (i < inp)) = false := by
        by_cases q1 : kd % 32 = 3
        · by_cases q2 : i < inp
          · exact absurd ⟨q1, q2⟩ hno
          · rw [decide_eq_false q2, Bool.and_false]
        · rw [decide_eq_false q1, Bool.false_and]
      have e9 : (9 : Int32) + Int32.ofNat (y.2.1.getD i (0, 0)).2 = Int32.ofNat (9 + (y.2.1.getD i (0, 0)).2) := jo_add (a := 9) (b := (y.2.1.getD i (0, 0)).2)
      unfold B_7_write_338
      simp only [b5, a2, z10_outputScript hx hy hil, jb_ok, w_x_so hx hy hil, jo_nat (n := i) (by omega), c2 i hil, e9]
      refine jT_g a1 (jT_g a1 (jT_g (gA b6 (jo_in (by omega) hil)) (jT_g a1 (jT_g a1 (jT_g (k49 hs) (jT_b (z7_ptt (p := (y.2.1.getD i (0, 0)).1) (n := 9 + (y.2.1.getD i (0, 0)).2) hcc rfl rfl (by omega) (by rw [List.length_append]; omega) hw fun H2 h2 f2 z2 => nxt H2 h2 f2 ?_)))))))
      unfold w_mo
      rw [hf2, if_neg (by decide)]
      exact z2
    unfold F_7_write_291 B_7_write_291
    simp only [b5, eb6]
    refine jT_neg (by rw [jo_le (by omega) (by omega)]; omega) (jT_g a1 (jT_g (gT b6) (jT_neg (by rw [jo_le (by omega) (by omega)]; omega) ?_)))
    by_cases c3 : kd % 32 = 3
    · refine jT_neg (fun q => q (gb.mpr c3)) ?_
      by_cases ci : i < inp
      · refine jT_neg (by rw [jo_le (by omega) (by omega)]; omega) (jT_g (k49 hs) (jT_b (z7_fln (u := 255) (n := 8) hcc rfl rfl (by rw [List.length_append]; omega) hw fun H2 h2 f2 z2 => ?_)))
        refine jT_g (k49 h2.1) (jT_b (z7_fln (u := 0) (n := 1) h2 rfl rfl (by rw [List.length_append, List.length_append, List.length_replicate]; omega) z2 fun H3 h3 f3 z3 => nxt H3 h3 (jfr_trans f2 f3) ?_))
        have hd : (decide (kd % 32 = 3) && decide (i < inp)) = true := by
          rw [decide_eq_true c3, decide_eq_true ci]
          rfl
        unfold w_mo
        rw [hd, if_pos rfl, ← List.append_assoc]
        exact z3
      · exact jT_pos (by rw [jo_le (by omega) (by omega)]; omega) (h338 fun q => ci q.2)
    · exact jT_pos (fun q => c3 (gb.mp q)) (h338 fun q => c3 q.1)
theorem w_no_le {kd inp n : Nat} (h : kd % 32 = 3 → inp < n) : w_no kd inp n ≤ n := by
  unfold w_no
  by_cases c2 : kd % 32 = 2
  · rw [if_pos c2]
    exact Nat.zero_le _
  · rw [if_neg c2]
    by_cases c3 : kd % 32 = 3
    · rw [if_pos c3]
      exact h c3
    · rw [if_neg c3]
      exact Nat.le_refl _
/-- nothing is signed if there is no such output -/
def w_one (y : w_y) (inp kd : Nat) : Prop := kd % 32 = 3 ∧ y.2.1.length ≤ inp
theorem z7_write (hy : w_ty tb y) (hkd : kd < 256) (hinp : inp < y.1.length) (hlk : lk.length ≤ 200) (hc : w_c7 o row s len mk lr la llen tb nm y lk H0)
    (hk1 : ∀ H', w_one y inp kd → w_c7 o row s len mk lr la llen tb nm y lk H' → jfr w_S7 H0 H' → zW7 H' [] → Q () H')
    (hk2 : ∀ H', ¬ w_one y inp kd → w_c7 o row s len mk lr la llen tb nm y lk H' → jfr w_S7 H0 H' → zW7 H' (w_msg tb y inp lk kd) → Q () H') : jT (F_7_write 49 o (Int32.ofNat inp) mk (Int32.ofNat la) (Int32.ofNat kd) H0) Q := by
  have lt := hy.2.2
  have h10 : 10 ≤ y.2.2 := by have := (ztx_spec hy.1).2.2.1; omega
  have hty := hy.2.1
  have l8 : y.2.1.length ≤ 8 := (ztx_spec hy.1).2.1
  have l9 : y.1.length ≤ 8 := (ztx_spec hy.1).1
  have gb : (Int32.ofNat (kd % 32) = 2 ↔ kd % 32 = 2) ∧ (Int32.ofNat (kd % 32) = 3 ↔ kd % 32 = 3) := ⟨jo_eq (a := kd % 32) (b := 2) (by omega) (by omega), jo_eq (a := kd % 32) (b := 3) (by omega) (by omega)⟩
  have e31 : Int32.ofNat kd &&& 31 = Int32.ofNat (kd % 32) := jo_mask (m := kd) (k := 5) (by decide)
  have p4 : (w_sl tb 0 4).length = 4 := w_sl_len (by omega)
  have hs := hc.1
  have f0 : jfr w_S7 H0 (jsI H0 49 4 0) := jfr_sI jfr_refl (Or.inl ⟨rfl, rfl⟩)
  have hc1 := w_c7_fr hc (jsh_sI hs (by decide)) f0
  have z0 : zW7 (jsI H0 49 4 0) [] := ⟨jI_sIe, fun i u hi => by rw [List.getElem?_nil] at hi; cases hi⟩
  have go : ∀ (al : Bool) (s0 s1 : Int32), al = decide (128 ≤ kd) → s0 = (if al = true then 1 else 0) → s1 = (if w_ba kd = true then 1 else 0) → jT (B_7_write_39 49 o (Int32.ofNat inp) mk (Int32.ofNat la) (Int32.ofNat kd) (Int32.ofNat (kd % 32)) s0 s1 H0) Q := by
    intro al s0 s1 hal es es1
    unfold B_7_write_39
    refine jT_g (k49 hs) (jT_l ?_)
    generalize jsI H0 49 4 0 = H1 at *
    have hcc1 := hc1
    obtain ⟨hs1, ⟨⟨a1, a2, a3, a4, a5, a6⟩, ⟨b1, b2, b3, b4, b5, b6⟩, -⟩, -⟩ := hc1
    have eb6 : (Int32.ofNat (jK H1 (o + 5)).2) = Int32.ofNat y.2.1.length := by rw [b6]
    have b62 : ¬ w_one y inp kd → jT (B_7_write_62 49 o (Int32.ofNat inp) mk (Int32.ofNat la) (Int32.ofNat kd) (Int32.ofNat (kd % 32)) s0 s1 H1) Q := by
      intro hno
      have h3 : kd % 32 = 3 → inp < y.2.1.length := fun q => by
        by_cases w : inp < y.2.1.length
        · exact w
        · exact absurd ⟨q, by omega⟩ hno
      have hnl := w_no_le h3
      unfold B_7_write_62
      simp only [a2, b1]
      refine jT_g a1 (jT_g a1 (jT_g (k49 hs1) (jT_b (z7_ptt (p := 0) (n := 4) hcc1 rfl rfl (by omega) (by show 0 + 4 ≤ 2400; omega) z0 fun H2 h2 f2 z2 => ?_))))
      have hx2 := h2.2.1
      have b91 : jT (B_7_write_91 49 o (Int32.ofNat inp) mk (Int32.ofNat la) (Int32.ofNat kd) (Int32.ofNat (kd % 32)) s0 s1 49 1 (Int32.ofNat (if 128 ≤ kd then 1 else y.1.length)) H2) Q := by
        unfold B_7_write_91
        refine jT_g (k49 h2.1) (jT_b (z7_fln (u := if 128 ≤ kd then 1 else y.1.length) (n := 1) h2 rfl rfl (by rw [List.nil_append, p4]; omega) z2 fun H3 h3 f3 z3 => ?_))
        rw [List.nil_append] at z3
        have m1 : (w_m1 tb y inp lk kd).length = 5 := by
          unfold w_m1
          rw [List.length_append, p4]
          rfl
        refine z7_w97 (L := w_m1 tb y inp lk kd) (H0 := H3) (al := al) es es1 hy hinp (by omega) hlk (fun H4 h4 f4 z4 => ?_) y.1.length 0 jfuel H3 (by omega) (by unfold jfuel; omega) h3 jfr_refl ?_
        · have hlen := w_len (inp := inp) (lk := lk) (al := al) (ba := w_ba kd) (b3 := false) hy (Nat.le_refl y.1.length) (Nat.zero_le _)
          have hwi := ztx_wi hy.1
          have hins := w_ins_len (inp := inp) (lk := lk) (al := al) (ba := w_ba kd) hy y.1.length (Nat.le_refl _)
          have hwl := w_wi_le (l := y.1) (k := 41) (i := y.1.length)
          have hif : (if inp < y.1.length then lk.length else 0) ≤ lk.length := by
            by_cases c : inp < y.1.length
            · rw [if_pos c]
              exact Nat.le_refl _
            · rw [if_neg c]
              exact Nat.zero_le _
          refine z7_w291 (L := w_m1 tb y inp lk kd ++ w_ins tb y.1 inp al (w_ba kd) lk y.1.length ++ [w_b (w_no kd inp y.2.1.length)]) (H0 := H4) hy hnl (by omega) hkd ?_ (fun H5 h5 f5 z5 => hk2 H5 hno h5 (jfr_trans (jfr_trans (jfr_trans (jfr_trans f0 f2) f3) f4) f5) ?_) (w_no kd inp y.2.1.length) 0 jfuel H4 (by omega) (by unfold jfuel; omega) h4 jfr_refl ?_
          · rw [List.length_append, List.length_append, m1]
            show 5 + _ + 1 + _ + 8 ≤ 2400
            omega
          · unfold w_msg w_m3 w_m2
            rw [← hal]
            exact z5
          · show zW7 H4 (_ ++ [])
            rw [List.append_nil]
            exact z4
        · show zW7 H3 (_ ++ [])
          rw [List.append_nil]
          exact z3
      by_cases c : al = true
      · have c128 : 128 ≤ kd := of_decide_eq_true (hal.symm.trans c)
        rw [if_pos c128] at b91
        exact jT_neg (by rw [es, if_pos c]; decide) b91
      · have c128 : ¬ 128 ≤ kd := fun q => c (hal.trans (decide_eq_true q))
        have eb4 : (Int32.ofNat (jK H2 (o + 4)).2) = Int32.ofNat y.1.length := by rw [hx2.2.1.2.2.2.1]
        rw [if_neg c128] at b91
        rw [hx2.2.1.2.2.1, eb4]
        exact jT_pos (by rw [es, if_neg c]) (jT_g hx2.1.1 (jT_g (gT hx2.2.1.2.2.2.1) b91))
    by_cases c3 : kd % 32 = 3
    · refine jT_neg (fun q => q (gb.2.mpr c3)) ?_
      rw [b5, eb6]
      refine jT_g a1 (jT_g (gT b6) ?_)
      by_cases w : inp < y.2.1.length
      · exact jT_pos (by rw [jo_lt (by omega) (by omega)]; exact w) (b62 fun q => by have := q.2; omega)
      · exact jT_neg (by rw [jo_lt (by omega) (by omega)]; exact w) (jT_ret (hk1 H1 ⟨c3, by omega⟩ hcc1 f0 z0))
    · exact jT_pos (fun q => c3 (gb.2.mp q)) (b62 fun q => c3 q.1)
  have go2 : ∀ (al : Bool) (s0 : Int32), al = decide (128 ≤ kd) → s0 = (if al = true then 1 else 0) → jT (B_7_write_20 49 o (Int32.ofNat inp) mk (Int32.ofNat la) (Int32.ofNat kd) (Int32.ofNat (kd % 32)) s0 H0) Q := by
    intro al s0 hal es
    unfold B_7_write_20 B_7_write_34
    by_cases c2 : kd % 32 = 2
    · exact jT_pos (gb.1.mpr c2) (go al s0 1 hal es (by rw [if_pos (by unfold w_ba; rw [decide_eq_true c2]; rfl)]))
    · refine jT_neg (fun q => c2 (gb.1.mp q)) ?_
      by_cases c3 : kd % 32 = 3
      · exact jT_neg (fun q => q (gb.2.mpr c3)) (go al s0 1 hal es (by rw [if_pos (by unfold w_ba; rw [decide_eq_true c3, Bool.or_true])]))
      · exact jT_pos (fun q => c3 (gb.2.mp q)) (go al s0 0 hal es (by rw [if_neg (by unfold w_ba; rw [decide_eq_false c2, decide_eq_false c3]; decide)]))
  unfold F_7_write
  rw [e31]
  refine jT_l ?_
  by_cases c : kd < 128
  · exact jT_pos (by rw [show (128 : Int32) = Int32.ofNat 128 from rfl, jo_lt (by omega) (by omega)]; exact c) (go2 false 0 (by rw [decide_eq_false (by omega)]) rfl)
  · exact jT_neg (by rw [show (128 : Int32) = Int32.ofNat 128 from rfl, jo_lt (by omega) (by omega)]; exact c) (go2 true 1 (by rw [decide_eq_true (by omega)]) rfl)
end WR7B
