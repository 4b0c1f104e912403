/-! What is signed, as the class writes it. -/
/-- a lock: a maker's row, a place in it, its bytes -/
def w_lk (mk lr la llen : Nat) (lk : List UInt8) (H : jH) : Prop := (jK H mk).1 = 10 ∧ jR H mk 0 = lr ∧ jK H lr = (101, llen) ∧ 1 ≤ la ∧ la + lk.length ≤ llen ∧ llen < 2000000 ∧ zRow H lr la lk ∧ (jB H lr (la - 1)).toNat = lk.length ∧ 422 ≤ mk ∧ 422 ≤ lr
theorem w_lk_jfr {mk lr la llen : Nat} {lk : List UInt8} {S : Nat → Nat → Prop} {H H' : jH} (h : w_lk mk lr la llen lk H) (hf : jfr S H H') (hS : ∀ a j, 422 ≤ a → ¬ S a j) : w_lk mk lr la llen lk H' := by
  obtain ⟨a1, a2, a3, a4, a5, a6, a7, a8, a9, a10⟩ := h
  exact ⟨by rw [jfr_K hf]; exact a1, (jfr_R hf (hS _ _ a9)).trans a2, by rw [jfr_K hf]; exact a3, a4, a5, a6, zRow_eq a7 fun i _ => jfr_B hf (hS _ _ a10), by rw [jfr_B hf (hS _ _ a10)]; exact a8, a9, a10⟩
section WR7
variable {Q : Unit → jH → Prop} {o row s len mk lr la llen inp : Nat} {tb nm lk L : List UInt8} {y : w_y} {H0 : jH} {kd : Nat}
def w_c7 (o row s len mk lr la llen : Nat) (tb nm : List UInt8) (y : w_y) (lk : List UInt8) (H : jH) : Prop := jsh H ∧ w_x o row s len tb y nm H ∧ w_lk mk lr la llen lk H
theorem w_c7_fr {H H' : jH} (h : w_c7 o row s len mk lr la llen tb nm y lk H) (hs : jsh H') (hf : jfr w_S7 H H') : w_c7 o row s len mk lr la llen tb nm y lk H' :=
  ⟨hs, w_x_jfr h.2.1 hf w_S7_513, w_lk_jfr h.2.2 hf w_S7_513⟩
theorem z7_ptt {p n : Nat} {f' n' : Int32} (hc : w_c7 o row s len mk lr la llen tb nm y lk H0) (ef : f' = Int32.ofNat (s + p)) (en : n' = Int32.ofNat n) (hp : p + n ≤ tb.length) (hl : L.length + n ≤ 2400) (hw : zW7 H0 L)
    (hk : ∀ H', w_c7 o row s len mk lr la llen tb nm y lk H' → jfr w_S7 H0 H' → zW7 H' (L ++ w_sl tb p n) → Q () H') : jT (F_7_put 49 row f' n' H0) Q := by
  have hcc := hc
  obtain ⟨hs, ⟨⟨a1, a2, a3, a4, a5, a6⟩, -⟩, -⟩ := hc
  refine z7_put ef en hs a3 a5 (by omega) hl hw fun H' h1 h2 h3 => ?_
  rw [w_sl_cut a6 hp] at h3
  exact hk H' (w_c7_fr hcc h1 h2) h2 h3
theorem z7_fln {v n' : Int32} {u n : Nat} (hc : w_c7 o row s len mk lr la llen tb nm y lk H0) (ev : v = Int32.ofNat u) (en : n' = Int32.ofNat n) (hl : L.length + n ≤ 2400) (hw : zW7 H0 L)
    (hk : ∀ H', w_c7 o row s len mk lr la llen tb nm y lk H' → jfr w_S7 H0 H' → zW7 H' (L ++ List.replicate n (w_b u)) → Q () H') : jT (F_7_fill 49 n' v H0) Q := by
  subst ev
  exact z7_fill en hc.1 hl hw fun H' h1 h2 h3 => hk H' (w_c7_fr hc h1 h2) h2 h3
/-- the sizes that stand before the scripts -/
theorem w_x_si (h : w_x o row s len tb y nm H0) (hy : w_ty tb y) {i : Nat} (hi : i < y.1.length) : F_10_scriptSize o (Int32.ofNat (s + (y.1.getD i (0, 0)).1 + 37)) H0 = some (Int32.ofNat (y.1.getD i (0, 0)).2, H0) := by
  obtain ⟨w1, w2, w3, w4⟩ := w_in y tb hy hi
  obtain ⟨⟨a1, a2, a3, a4, a5, a6⟩, -⟩ := h
  have e : jB H0 row (s + (y.1.getD i (0, 0)).1 + 37 - 1) = tb.getD ((y.1.getD i (0, 0)).1 + 36) 0 := by
    have := a6 ((y.1.getD i (0, 0)).1 + 36) _ (getD_of (by omega))
    rw [show s + (y.1.getD i (0, 0)).1 + 37 - 1 = s + ((y.1.getD i (0, 0)).1 + 36) by omega]
    exact this
  rw [z10_scriptSize a1 a2 a3 a5 (by omega) (by omega), e, ← w3]
theorem w_x_so (h : w_x o row s len tb y nm H0) (hy : w_ty tb y) {i : Nat} (hi : i < y.2.1.length) : F_10_scriptSize o (Int32.ofNat (s + (y.2.1.getD i (0, 0)).1 + 9)) H0 = some (Int32.ofNat (y.2.1.getD i (0, 0)).2, H0) := by
  obtain ⟨w1, w2, w3, w4⟩ := w_out y tb hy hi
  obtain ⟨⟨a1, a2, a3, a4, a5, a6⟩, -⟩ := h
  have e : jB H0 row (s + (y.2.1.getD i (0, 0)).1 + 9 - 1) = tb.getD ((y.2.1.getD i (0, 0)).1 + 8) 0 := by
    have := a6 ((y.2.1.getD i (0, 0)).1 + 8) _ (getD_of (by omega))
    rw [show s + (y.2.1.getD i (0, 0)).1 + 9 - 1 = s + ((y.2.1.getD i (0, 0)).1 + 8) by omega]
    exact this
  rw [z10_scriptSize a1 a2 a3 a5 (by omega) (by omega), e, ← w3]
/-- all inputs, and the outputs' number -/
theorem z7_w97 {al : Bool} {a5 a7 a8 : Int32} (e7 : a7 = if al = true then 1 else 0) (e8 : a8 = if w_ba kd = true then 1 else 0) (hy : w_ty tb y) (hinp : inp < y.1.length) (hL : L.length ≤ 5) (hlk : lk.length ≤ 200)
    (hk : ∀ H', w_c7 o row s len mk lr la llen tb nm y lk H' → jfr w_S7 H0 H' → zW7 H' (L ++ w_ins tb y.1 inp al (w_ba kd) lk y.1.length ++ [w_b (w_no kd inp y.2.1.length)]) → jT (F_7_write_291 jfuel 49 o (Int32.ofNat inp) a5 (Int32.ofNat (kd % 32)) (Int32.ofNat (w_no kd inp y.2.1.length)) 0 H') Q) :
    ∀ (d i fu : Nat) (H : jH), i + d = y.1.length → d < fu → w_c7 o row s len mk lr la llen tb nm y lk H → jfr w_S7 H0 H → zW7 H (L ++ w_ins tb y.1 inp al (w_ba kd) lk i) → jT (F_7_write_97 fu 49 o (Int32.ofNat inp) mk (Int32.ofNat la) a5 (Int32.ofNat (kd % 32)) a7 a8 (Int32.ofNat i) H) Q := by
  have gb : (Int32.ofNat (kd % 32) = 2 ↔ kd % 32 = 2) ∧ (Int32.ofNat (kd % 32) = 3 ↔ kd % 32 = 3) := ⟨jo_eq (a := kd % 32) (b := 2) (by omega) (by omega), jo_eq (a := kd % 32) (b := 3) (by omega) (by omega)⟩
  have l8 : y.1.length ≤ 8 := (ztx_spec hy.1).1
  have l9 : y.2.1.length ≤ 8 := (ztx_spec hy.1).2.1
  have lt := hy.2.2
  intro d
  induction d with
  | zero =>
    intro i fu H hi hfu hc hf hw
    obtain ⟨fu, rfl⟩ : ∃ k, fu = k + 1 := ⟨fu - 1, by omega⟩
    obtain rfl : i = y.1.length := by omega
    have hcc := hc
    obtain ⟨hs, ⟨⟨a1, a2, a3, a4, a5', a6⟩, ⟨b1, b2, b3, b4, b5, b6⟩, -⟩, -⟩ := hc
    have hlen := w_len (inp := inp) (lk := lk) (al := al) (ba := w_ba kd) (b3 := false) hy (Nat.le_refl y.1.length) (Nat.zero_le _)
    have go : ∀ n, n = w_no kd inp y.2.1.length → jT (B_7_write_279 49 o (Int32.ofNat inp) a5 (Int32.ofNat (kd % 32)) (Int32.ofNat n) H) Q := fun n hn => by
      unfold B_7_write_279
      refine jT_g (k49 hs) (jT_b (z7_fln (u := n) (n := 1) hcc rfl rfl (by rw [List.length_append]; omega) hw fun H2 h2 f2 z2 => ?_))
      rw [hn] at z2 ⊢
      exact hk H2 h2 (jfr_trans hf f2) z2
    have eb4 : (Int32.ofNat (jK H (o + 4)).2) = Int32.ofNat y.1.length := by rw [b4]
    have eb6 : (Int32.ofNat (jK H (o + 5)).2) = Int32.ofNat y.2.1.length := by rw [b6]
    unfold F_7_write_97 B_7_write_97
    simp only [b3, b5, eb4, eb6]
    refine jT_g a1 (jT_g (gT b4) (jT_pos (by rw [jo_le (by omega) (by omega)]; exact Nat.le_refl _) ?_))
    by_cases c2 : kd % 32 = 2
    · exact jT_neg (fun q => q (gb.1.mpr c2)) (go 0 (by unfold w_no; rw [if_pos c2]))
    · refine jT_pos (fun q => c2 (gb.1.mp q)) ?_
      by_cases c3 : kd % 32 = 3
      · have e1 : Int32.ofNat inp + 1 = Int32.ofNat (inp + 1) := jo_add (a := inp) (b := 1)
        rw [e1]
        exact jT_neg (fun q => q (gb.2.mpr c3)) (go _ (by unfold w_no; rw [if_neg c2, if_pos c3]))
      · exact jT_pos (fun q => c3 (gb.2.mp q)) (jT_g a1 (jT_g (gT b6) (go _ (by unfold w_no; rw [if_neg c2, if_neg c3]))))
  | succ d ih =>
    intro i fu H hi hfu hc hf hw
    obtain ⟨fu, rfl⟩ : ∃ k, fu = k + 1 := ⟨fu - 1, by omega⟩
    have hil : i < y.1.length := by omega
    have hcc := hc
    have hx := hc.2.1
    obtain ⟨hs, ⟨⟨a1, a2, a3, a4, a5', a6⟩, ⟨b1, b2, b3, b4, b5, b6⟩, c1, -⟩, -⟩ := hc
    have hlen := w_len (inp := inp) (lk := lk) (al := al) (ba := w_ba kd) (b3 := false) hy (i := i) (by omega) (Nat.zero_le _)
    have hlen2 := w_len (inp := inp) (lk := lk) (al := al) (ba := w_ba kd) (b3 := false) hy (i := i + 1) (by omega) (Nat.zero_le _)
    have hsucc : w_ins tb y.1 inp al (w_ba kd) lk (i + 1) = w_ins tb y.1 inp al (w_ba kd) lk i ++ w_mi tb (y.1.getD i (0, 0)) (decide (i = inp)) al (w_ba kd) lk := rfl
    obtain ⟨w1, w2, w3, w4⟩ := w_in y tb hy hil
    have p1 : (w_sl tb (y.1.getD i (0, 0)).1 36).length = 36 := w_sl_len (by omega)
    have p2 : (w_sl tb ((y.1.getD i (0, 0)).1 + 37 + (y.1.getD i (0, 0)).2) 4).length = 4 := w_sl_len (by omega)
    have e_i : Int32.ofNat i + 1 = Int32.ofNat (i + 1) := jo_add (a := i) (b := 1)
    have eqi : (Int32.ofNat i = Int32.ofNat inp) ↔ i = inp := jo_eq (by omega) (by omega)
    have eb4 : (Int32.ofNat (jK H (o + 4)).2) = Int32.ofNat y.1.length := by rw [b4]
    have esq : Int32.ofNat (s + (y.1.getD i (0, 0)).1 + 37) + Int32.ofNat (y.1.getD i (0, 0)).2 = Int32.ofNat (s + ((y.1.getD i (0, 0)).1 + 37 + (y.1.getD i (0, 0)).2)) := by
      rw [jo_add, Nat.add_assoc, Nat.add_assoc, Nat.add_assoc]
    have nxt : ∀ H2, w_c7 o row s len mk lr la llen tb nm y lk H2 → jfr w_S7 H H2 → zW7 H2 (L ++ w_ins tb y.1 inp al (w_ba kd) lk i ++ w_mi tb (y.1.getD i (0, 0)) (decide (i = inp)) al (w_ba kd) lk) → jT (B_7_write_246 (F_7_write_97 fu) 49 o (Int32.ofNat inp) mk (Int32.ofNat la) a5 (Int32.ofNat (kd % 32)) a7 a8 (Int32.ofNat i) H2) Q := fun H2 h2 f2 z2 => by
      unfold B_7_write_246
      rw [e_i]
      exact jT_l (ih (i + 1) fu H2 (by omega) (by omega) h2 (jfr_trans hf f2) (by rw [List.append_assoc] at z2; exact z2))
    unfold F_7_write_97 B_7_write_97
    simp only [b3, eb4, z10_inputScript hx hy hil, jb_ok]
    refine jT_g a1 (jT_g (gT b4) (jT_neg (by rw [jo_le (by omega) (by omega)]; omega) (jT_g a1 ?_)))
    simp only [a2, jo_nat (n := i) (by omega), c1 i hil]
    have bl := hlen2
    rw [hsucc, List.length_append] at bl
    by_cases ci : i = inp
    · have ml : (w_mi tb (y.1.getD i (0, 0)) (decide (i = inp)) al (w_ba kd) lk).length = 41 + lk.length := by
        unfold w_mi
        rw [if_pos (decide_eq_true ci)]
        simp only [List.length_append, p1, p2, List.length_cons, List.length_nil]
        omega
      rw [ml] at bl
      refine jT_neg (fun q => q (eqi.mpr ci)) (jT_g a1 (jT_g a1 (jT_g (gA b4 (jo_in (by omega) hil)) (jT_g (k49 hs) (jT_b (z7_ptt (p := (y.1.getD i (0, 0)).1) (n := 36) hcc rfl rfl (by omega) (by rw [List.length_append]; omega) hw fun H1 h1 f1 z1 => ?_))))))
      have hl1 := h1.2.2
      obtain ⟨g1, g2, g3, g4, g5, g6, g7, g8, g9, g10⟩ := hl1
      have es : ∀ H, w_c7 o row s len mk lr la llen tb nm y lk H → F_10_scriptSize mk (Int32.ofNat la) H = some (Int32.ofNat lk.length, H) := fun H h => by
        obtain ⟨-, -, g1, g2, g3, g4, g5, g6, g7, g8, g9, g10⟩ := h
        rw [z10_scriptSize g1 g2 g3 g6 g4 (by omega), g8]
      refine jT_g g1 ?_
      simp only [es H1 h1, jb_ok]
      refine jT_g (k49 h1.1) (jT_b (z7_fln (u := lk.length) (n := 1) h1 rfl rfl (by rw [List.length_append, List.length_append, p1]; omega) z1 fun H2 h2 f2 z2 => ?_))
      have hl2 := h2.2.2
      obtain ⟨i1, i2, i3, i4, i5, i6, i7, i8, i9, i10⟩ := hl2
      refine jT_g i1 (jT_g i1 ?_)
      simp only [es H2 h2, jb_ok, i2]
      refine jT_g (k49 h2.1) (jT_b (z7_put rfl rfl h2.1 i3 i6 i5 (by rw [List.length_append, List.length_append, List.length_append, p1]; show L.length + _ + 36 + 1 + _ ≤ 2400; omega) z2 fun H3 s3 f3 z3 => ?_))
      have ecut : zcut (jB H2 lr) la lk.length = lk := by
        have := w_sl_cut (tb := lk) (p := 0) (n := lk.length) i7 (by omega)
        rw [Nat.add_zero] at this
        rw [this]
        unfold w_sl
        rw [List.drop_zero, List.take_length]
      rw [ecut] at z3
      have h3 := w_c7_fr h2 s3 f3
      have hx3 := h3.2.1
      refine jT_g hx3.1.1 (jT_g hx3.1.1 ?_)
      simp only [w_x_si hx3 hy hil, jb_ok, hx3.1.2.1, esq]
      refine jT_g (k49 h3.1) (jT_b (z7_ptt (p := (y.1.getD i (0, 0)).1 + 37 + (y.1.getD i (0, 0)).2) (n := 4) h3 rfl rfl (by omega) (by rw [List.length_append, List.length_append, List.length_append, List.length_append, p1]; show L.length + _ + 36 + 1 + _ + 4 ≤ 2400; omega) z3 fun H4 h4 f4 z4 => nxt H4 h4 (jfr_trans (jfr_trans (jfr_trans f1 f2) f3) f4) ?_))
      unfold w_mi
      rw [if_pos (decide_eq_true ci)]
      simp only [← List.append_assoc]
      exact z4
    · refine jT_pos (fun q => ci (eqi.mp q)) ?_
      by_cases ha : al = true
      · refine jT_pos (by rw [e7, if_pos ha]; decide) (nxt H hcc jfr_refl ?_)
        rw [ha, w_mi_none ci, List.append_nil]
        rw [ha] at hw
        exact hw
      · have haf : al = false := by cases al <;> simp_all
        refine jT_neg (by rw [e7, if_neg ha]; decide) (jT_g a1 (jT_g a1 (jT_g (gA b4 (jo_in (by omega) hil)) (jT_g (k49 hs) (jT_b (z7_ptt (p := (y.1.getD i (0, 0)).1) (n := 36) hcc rfl rfl (by omega) (by rw [List.length_append]; omega) hw fun H1 h1 f1 z1 => ?_))))))
        have bl2 : 10 + (w_ins tb y.1 inp al (w_ba kd) lk i).length + 41 ≤ tb.length + lk.length := by
          have ml : (w_mi tb (y.1.getD i (0, 0)) (decide (i = inp)) al (w_ba kd) lk).length = 41 := by
            unfold w_mi
            rw [if_neg (fun q => ci (of_decide_eq_true q)), if_neg ha]
            by_cases hb : w_ba kd = true
            · rw [if_pos hb]
              simp only [List.length_append, p1, List.length_cons, List.length_nil, List.length_replicate]
            · rw [if_neg hb]
              simp only [List.length_append, p1, p2, List.length_cons, List.length_nil]
          rw [ml] at bl
          omega
        refine jT_g (k49 h1.1) (jT_b (z7_fln (u := 0) (n := 1) h1 rfl rfl (by rw [List.length_append, List.length_append, p1]; omega) z1 fun H2 h2 f2 z2 => ?_))
        by_cases hb : w_ba kd = true
        · refine jT_neg (by rw [e8, if_pos hb]; decide) (jT_g (k49 h2.1) (jT_b (z7_fln (u := 0) (n := 4) h2 rfl rfl (by rw [List.length_append, List.length_append, List.length_append, p1]; show L.length + _ + 36 + 1 + 4 ≤ 2400; omega) z2 fun H3 h3 f3 z3 => nxt H3 h3 (jfr_trans (jfr_trans f1 f2) f3) ?_)))
          unfold w_mi
          rw [if_neg (fun q => ci (of_decide_eq_true q)), if_neg ha, if_pos hb]
          simp only [← List.append_assoc]
          exact z3
        · have hx2 := h2.2.1
          refine jT_pos (by rw [e8, if_neg hb]) (jT_g hx2.1.1 (jT_g hx2.1.1 ?_))
          simp only [w_x_si hx2 hy hil, jb_ok, hx2.1.2.1, esq]
          refine jT_g (k49 h2.1) (jT_b (z7_ptt (p := (y.1.getD i (0, 0)).1 + 37 + (y.1.getD i (0, 0)).2) (n := 4) h2 rfl rfl (by omega) (by rw [List.length_append, List.length_append, List.length_append, p1]; show L.length + _ + 36 + 1 + 4 ≤ 2400; omega) z2 fun H3 h3 f3 z3 => nxt H3 h3 (jfr_trans (jfr_trans f1 f2) f3) ?_))
          unfold w_mi
          rw [if_neg (fun q => ci (of_decide_eq_true q)), if_neg ha, if_neg hb]
          simp only [← List.append_assoc]
          exact z3
end WR7
