/-! What is signed, as the reference writes it. -/
theorem gA {H : jH} {r t n : Nat} {ii : Int32} (hk : jK H r = (t, n)) (h : jin ii n) : (jK H r).1 = t ∧ jin ii (jK H r).2 := by
  rw [hk]
  exact ⟨rfl, h⟩
theorem gT {H : jH} {r t n : Nat} (hk : jK H r = (t, n)) : (jK H r).1 = t := by rw [hk]
def w_c15 (row s len lr la llen inp : Nat) (tb : List UInt8) (y : w_y) (lk : List UInt8) (H : jH) : Prop :=
  (jsh H ∧ jR H 427 2 = 456 ∧ jI H 427 3 = Int32.ofNat inp ∧ jR H 427 4 = lr ∧ jI H 427 5 = Int32.ofNat la ∧ jI H 427 6 = Int32.ofNat lk.length) ∧
  (jK H lr = (101, llen) ∧ la + lk.length ≤ llen ∧ llen < 2000000 ∧ zRow H lr la lk ∧ lr ≠ 435) ∧
  (jR H 456 0 = row ∧ jK H row = (101, len) ∧ s + tb.length ≤ len ∧ len < 2000000 ∧ row ≠ 435 ∧ zRow H row s tb) ∧
  (jI H 456 1 = Int32.ofNat s ∧ jI H 456 3 = Int32.ofNat (s + tb.length) ∧ jI H 456 4 = Int32.ofNat y.1.length ∧ jI H 456 5 = Int32.ofNat y.2.1.length) ∧
  (∀ k, k < y.1.length → jI H 457 k = Int32.ofNat (s + (y.1.getD k (0, 0)).1) ∧ jI H 461 k = Int32.ofNat (s + (y.1.getD k (0, 0)).1 + 37 + (y.1.getD k (0, 0)).2)) ∧
  (∀ k, k < y.2.1.length → jL H 462 k = Int64.ofNat (zho (jB H row) (s + (y.2.1.getD k (0, 0)).1 + 8) 8) ∧ jI H 463 k = Int32.ofNat (s + (y.2.1.getD k (0, 0)).1 + 9) ∧ jI H 464 k = Int32.ofNat (y.2.1.getD k (0, 0)).2) ∧ inp < y.1.length
section WR15
variable {Q : Unit → jH → Prop} {row s len lr la llen inp : Nat} {tb lk L : List UInt8} {y : w_y} {H0 : jH} {kd : Nat}
theorem w_c15_fr {H H' : jH} (h : w_c15 row s len lr la llen inp tb y lk H) (hf : jf15 H H') : w_c15 row s len lr la llen inp tb y lk H' := by
  obtain ⟨⟨a1, a2, a3, a4, a5, a6⟩, ⟨b1, b2, b3, b4, b5⟩, ⟨c1, c2, c3, c4, c5, c6⟩, ⟨d1, d2, d3, d4⟩, e1, e2, e3⟩ := h
  have hs := jsh_f15 a1 hf
  obtain ⟨q1, q2, q3, q4, q5, q6, q7⟩ := hf
  have qr : jB H' row = jB H row := funext fun j => q6 row c5 j
  refine ⟨⟨hs, by rw [q4]; exact a2, (q7 _ _ (by omega)).trans a3, by rw [q4]; exact a4, (q7 _ _ (by omega)).trans a5, (q7 _ _ (by omega)).trans a6⟩, ⟨by rw [q1]; exact b1, b2, b3, zRow_eq b4 fun i _ => q6 lr b5 _, b5⟩, ⟨by rw [q4]; exact c1, by rw [q1]; exact c2, c3, c4, c5, zRow_eq c6 fun i _ => q6 row c5 _⟩, ⟨(q7 _ _ (by omega)).trans d1, (q7 _ _ (by omega)).trans d2, (q7 _ _ (by omega)).trans d3, (q7 _ _ (by omega)).trans d4⟩, fun k hk => ?_, fun k hk => ?_, e3⟩
  · exact ⟨(q7 _ _ (by omega)).trans (e1 k hk).1, (q7 _ _ (by omega)).trans (e1 k hk).2⟩
  · rw [q5, qr]
    exact ⟨(e2 k hk).1, (q7 _ _ (by omega)).trans (e2 k hk).2.1, (q7 _ _ (by omega)).trans (e2 k hk).2.2⟩
/-- a cut of the transaction's bytes is copied -/
theorem z15_cpt {p n : Nat} {f' n' : Int32} (hc : w_c15 row s len lr la llen inp tb y lk H0) (ef : f' = Int32.ofNat (s + p)) (en : n' = Int32.ofNat n) (hp : p + n ≤ tb.length) (hl : L.length + n ≤ 4000) (hw : zW15 H0 L)
    (hk : ∀ H', w_c15 row s len lr la llen inp tb y lk H' → jf15 H0 H' → zW15 H' (L ++ w_sl tb p n) → Q () H') : jT (F_15_copy 427 row f' n' H0) Q := by
  have hcc := hc
  obtain ⟨⟨a1, a2, a3, a4, a5, a6⟩, -, ⟨c1, c2, c3, c4, c5, c6⟩, -⟩ := hc
  refine z15_copy ef en a1 c2 (by omega) (by omega) c5 hl hw fun H' h1 h2 h3 => ?_
  rw [w_sl_cut c6 hp] at h3
  exact hk H' (w_c15_fr hcc h2) h2 h3
/-- one byte -/
theorem z15_fl1 {v : Int32} {n : Nat} (hc : w_c15 row s len lr la llen inp tb y lk H0) (ev : v = Int32.ofNat n) (hl : L.length + 1 ≤ 4000) (hw : zW15 H0 L)
    (hk : ∀ H', w_c15 row s len lr la llen inp tb y lk H' → jf15 H0 H' → zW15 H' (L ++ [w_b n]) → Q () H') : jT (F_15_fill 427 v 1 H0) Q := by
  subst ev
  exact z15_fill (n := 1) rfl hc.1.1 hl hw fun H' h1 h2 h3 => hk H' (w_c15_fr hc h2) h2 h3
theorem z15_fln {v n' : Int32} {u n : Nat} (hc : w_c15 row s len lr la llen inp tb y lk H0) (ev : v = Int32.ofNat u) (en : n' = Int32.ofNat n) (hl : L.length + n ≤ 4000) (hw : zW15 H0 L)
    (hk : ∀ H', w_c15 row s len lr la llen inp tb y lk H' → jf15 H0 H' → zW15 H' (L ++ List.replicate n (w_b u)) → Q () H') : jT (F_15_fill 427 v n' H0) Q := by
  subst ev
  exact z15_fill en hc.1.1 hl hw fun H' h1 h2 h3 => hk H' (w_c15_fr hc h2) h2 h3
theorem k56 {H : jH} (hs : jsh H) : (jK H 456).1 = 17 := by rw [sK_456 hs]
/-- one input -/
theorem z15_w93 {k65 : Nat → Int32 → Int32 → Int32 → Int32 → jH → Option (Unit × jH)} {a1 a3 : Int32} {i : Nat} {al : Bool} (hy : w_ty tb y) (hi : i < y.1.length) (hal : i = inp ∨ al = false) (hl : L.length + 41 + (y.1.getD i (0, 0)).2 + lk.length ≤ 4000)
    (hc : w_c15 row s len lr la llen inp tb y lk H0) (hw : zW15 H0 L)
    (hk : ∀ H', w_c15 row s len lr la llen inp tb y lk H' → jf15 H0 H' → zW15 H' (L ++ w_mi tb (y.1.getD i (0, 0)) (decide (i = inp)) al (w_ba kd) lk) → jT (k65 427 a1 (Int32.ofNat (kd % 32)) a3 (Int32.ofNat (i + 1)) H') Q) :
    jT (B_15_write_93 k65 427 a1 (Int32.ofNat (kd % 32)) a3 (Int32.ofNat i) H0) Q := by
  have hcc := hc
  obtain ⟨⟨a1', a2, a3', a4, a5, a6⟩, ⟨b1, b2, b3, b4, b5⟩, ⟨c1, c2, c3, c4, c5, c6⟩, -, e1, e2, e3⟩ := hc
  obtain ⟨w1, w2, w3, w4⟩ := w_in y tb hy hi
  have l8 : y.1.length ≤ 8 := (ztx_spec hy.1).1
  have p1 : (w_sl tb (y.1.getD i (0, 0)).1 36).length = 36 := w_sl_len (by omega)
  have e_i : Int32.ofNat i + 1 = Int32.ofNat (i + 1) := jo_add (a := i) (b := 1)
  have eqi : (Int32.ofNat i = Int32.ofNat inp) ↔ i = inp := jo_eq (by omega) (by omega)
  unfold B_15_write_93
  simp only [a2, c1, sR_456_7 a1', jo_nat (n := i) (by omega), (e1 i hi).1]
  refine jT_g (k15 a1') (jT_g (k56 a1') (jT_g (k15 a1') (jT_g (k56 a1') (jT_g (gA (sK_457 a1') (jo_in (by omega) (by omega))) (jT_g (k15 a1') (jT_b (z15_cpt (p := (y.1.getD i (0, 0)).1) (n := 36) hcc rfl rfl (by omega) (by omega) hw fun H1 h1 f1 z1 => ?_)))))))
  refine jT_g (k15 h1.1.1) ?_
  -- the last piece
  have fin : ∀ (H2 : jH) (M : List UInt8), w_c15 row s len lr la llen inp tb y lk H2 → jf15 H0 H2 → zW15 H2 (L ++ M) → M.length ≤ 37 + lk.length → (M ++ (if i ≠ inp ∧ w_ba kd = true then List.replicate 4 (w_b 0) else w_sl tb ((y.1.getD i (0, 0)).1 + 37 + (y.1.getD i (0, 0)).2) 4) = w_mi tb (y.1.getD i (0, 0)) (decide (i = inp)) al (w_ba kd) lk) → jT (B_15_write_163 k65 427 a1 (Int32.ofNat (kd % 32)) a3 (Int32.ofNat i) H2) Q := by
    intro H2 M hc2 f2 z2 hM hE
    have hcc2 := hc2
    obtain ⟨⟨g1, g2, g3, g4, g5, g6⟩, -, ⟨m1, m2, m3, m4, m5, m6⟩, -, n1, n2, n3⟩ := hc2
    have ql : (L ++ M).length = L.length + M.length := List.length_append
    have gb : (Int32.ofNat (kd % 32) = 2 ↔ kd % 32 = 2) ∧ (Int32.ofNat (kd % 32) = 3 ↔ kd % 32 = 3) := ⟨jo_eq (a := kd % 32) (b := 2) (by omega) (by omega), jo_eq (a := kd % 32) (b := 3) (by omega) (by omega)⟩
    have hcpy : ¬ (i ≠ inp ∧ w_ba kd = true) → jT (B_15_write_191 k65 427 a1 (Int32.ofNat (kd % 32)) a3 (Int32.ofNat i) H2) Q := by
      intro hn
      rw [if_neg hn] at hE
      unfold B_15_write_191 B_15_write_213
      simp only [g2, m1, sR_456_11 g1, jo_nat (n := i) (by omega), (n1 i hi).2]
      refine jT_g (k15 g1) (jT_g (k56 g1) (jT_g (k15 g1) (jT_g (k56 g1) (jT_g (gA (sK_461 g1) (jo_in (by omega) (by omega))) (jT_g (k15 g1) (jT_b (z15_cpt (p := (y.1.getD i (0, 0)).1 + 37 + (y.1.getD i (0, 0)).2) (n := 4) hcc2 (by rw [Nat.add_assoc s, Nat.add_assoc s]) rfl (by omega) (by omega) z2 fun H3 h3 f3 z3 => ?_)))))))
      rw [e_i]
      rw [List.append_assoc, hE] at z3
      exact jT_l (hk H3 h3 (jf15_trans f2 f3) z3)
    have hfil : (i ≠ inp ∧ w_ba kd = true) → jT (B_15_write_182 k65 427 a1 (Int32.ofNat (kd % 32)) a3 (Int32.ofNat i) H2) Q := by
      intro hn
      rw [if_pos hn] at hE
      unfold B_15_write_182 B_15_write_213
      refine jT_g (k15 g1) (jT_b (z15_fln (u := 0) (n := 4) hcc2 rfl rfl (by omega) z2 fun H3 h3 f3 z3 => ?_))
      rw [e_i]
      rw [List.append_assoc, hE] at z3
      exact jT_l (hk H3 h3 (jf15_trans f2 f3) z3)
    unfold B_15_write_163
    rw [g3]
    refine jT_g (k15 g1) ?_
    by_cases ci : i = inp
    · exact jT_pos (eqi.mpr ci) (hcpy fun q => q.1 ci)
    · refine jT_neg (fun q => ci (eqi.mp q)) ?_
      by_cases c2 : kd % 32 = 2
      · exact jT_pos (gb.1.mpr c2) (hfil ⟨ci, by unfold w_ba; rw [decide_eq_true c2]; rfl⟩)
      · refine jT_neg (fun q => c2 (gb.1.mp q)) ?_
        by_cases c3 : kd % 32 = 3
        · exact jT_neg (fun q => q (gb.2.mpr c3)) (hfil ⟨ci, by unfold w_ba; rw [decide_eq_true c3, Bool.or_true]⟩)
        · exact jT_pos (fun q => c3 (gb.2.mp q)) (hcpy fun q => by
            have := q.2
            unfold w_ba at this
            rw [decide_eq_false c2, decide_eq_false c3] at this
            cases this)
  have hcc1 := h1
  obtain ⟨⟨g1, g2, g3, g4, g5, g6⟩, ⟨b1', b2', b3', b4', b5'⟩, -⟩ := h1
  have q1 : (L ++ w_sl tb (y.1.getD i (0, 0)).1 36).length = L.length + 36 := by rw [List.length_append, p1]
  rw [g3]
  by_cases ci : i = inp
  · refine jT_neg (fun q => q (eqi.mpr ci)) (jT_g (k15 g1) ?_)
    unfold B_15_write_134
    rw [g6]
    refine jT_g (k15 g1) (jT_b (z15_fl1 (n := lk.length) hcc1 rfl (by omega) z1 fun H2 h2 f2 z2 => ?_))
    have hcc2 := h2
    obtain ⟨⟨i1, i2, i3, i4, i5, i6⟩, ⟨j1, j2, j3, j4, j5⟩, -⟩ := h2
    simp only [i3, i4, i5, i6]
    refine jT_g (k15 i1) (jT_neg (fun q => q (eqi.mpr ci)) (jT_g (k15 i1) (jT_g (k15 i1) (jT_g (k15 i1) (jT_g (k15 i1) (jT_b (z15_copy rfl rfl i1 j1 (by omega) j2 j5 (by rw [List.length_append, q1]; show L.length + 36 + 1 + _ ≤ 4000; omega) z2 fun H3 s3 f3 z3 => ?_)))))))
    have ecut : zcut (jB H2 lr) la lk.length = lk := by
      refine List.ext_getElem? fun k => ?_
      by_cases hk2 : k < lk.length
      · have h1 : lk[k]? = some lk[k] := List.getElem?_eq_getElem hk2
        have h2 := j4 k _ h1
        unfold zcut
        rw [h1, List.getElem?_map, List.getElem?_range hk2, ← h2]
        rfl
      · rw [List.getElem?_eq_none (by rw [zcut_len]; omega), List.getElem?_eq_none (by omega)]
    rw [ecut, List.append_assoc, List.append_assoc] at z3
    refine fin H3 _ (w_c15_fr hcc2 f3) (jf15_trans (jf15_trans f1 f2) f3) z3 ?_ ?_
    · simp only [List.length_append, p1, List.length_cons, List.length_nil]
      omega
    · unfold w_mi
      rw [if_neg fun q => q.1 ci, if_pos (decide_eq_true ci)]
      simp only [List.append_assoc]
  · refine jT_pos (fun q => ci (eqi.mp q)) ?_
    unfold B_15_write_134
    refine jT_g (k15 g1) (jT_b (z15_fl1 (n := 0) hcc1 rfl (by omega) z1 fun H2 h2 f2 z2 => ?_))
    have hcc2 := h2
    obtain ⟨⟨i1, i2, i3, i4, i5, i6⟩, -⟩ := h2
    rw [i3]
    refine jT_g (k15 i1) (jT_pos (fun q => ci (eqi.mp q)) ?_)
    rw [List.append_assoc] at z2
    refine fin H2 _ hcc2 (jf15_trans f1 f2) z2 ?_ ?_
    · simp only [List.length_append, p1, List.length_cons, List.length_nil]
      omega
    · have haf : al = false := hal.resolve_left ci
      have hd : ¬ (decide (i = inp) = true) := fun q => ci (of_decide_eq_true q)
      unfold w_mi
      by_cases hb : w_ba kd = true
      · rw [if_pos (c := i ≠ inp ∧ w_ba kd = true) ⟨ci, hb⟩, if_neg hd, haf, if_neg (by decide : ¬ (false = true)), if_pos hb]
      · rw [if_neg (c := i ≠ inp ∧ w_ba kd = true) fun q => hb q.2, if_neg hd, haf, if_neg (by decide : ¬ (false = true)), if_neg hb]
theorem w_mi_none {w : Nat × Nat} {i : Nat} {ba : Bool} (h : i ≠ inp) : w_mi tb w (decide (i = inp)) true ba lk = [] := by
  unfold w_mi
  rw [if_neg (fun q => h (of_decide_eq_true q)), if_pos rfl]
/-- all inputs, and the outputs' number -/
theorem z15_w65 {al : Bool} {a3 a1 : Int32} (ea : a3 = if al = true then 1 else 0) (hy : w_ty tb y) (hL : L.length ≤ 5) (hlk : lk.length ≤ 200)
    (hk : ∀ H', w_c15 row s len lr la llen inp tb y lk H' → jf15 H0 H' → zW15 H' (L ++ w_ins tb y.1 inp al (w_ba kd) lk y.1.length ++ [w_b (w_no kd inp y.2.1.length)]) → jT (F_15_write_261 jfuel 427 a1 (Int32.ofNat (kd % 32)) (Int32.ofNat (w_no kd inp y.2.1.length)) 0 H') Q) :
    ∀ (d i fu : Nat) (H : jH), i + d = y.1.length → d < fu → w_c15 row s len lr la llen inp tb y lk H → jf15 H0 H → zW15 H (L ++ w_ins tb y.1 inp al (w_ba kd) lk i) → jT (F_15_write_65 fu 427 a1 (Int32.ofNat (kd % 32)) a3 (Int32.ofNat i) H) Q := by
  have gb : (Int32.ofNat (kd % 32) = 2 ↔ kd % 32 = 2) ∧ (Int32.ofNat (kd % 32) = 3 ↔ kd % 32 = 3) := ⟨jo_eq (a := kd % 32) (b := 2) (by omega) (by omega), jo_eq (a := kd % 32) (b := 3) (by omega) (by omega)⟩
  have l8 : y.1.length ≤ 8 := (ztx_spec hy.1).1
  have lt := hy.2.2
  intro d
  induction d with
  | zero =>
    intro i fu H hi hfu hc hf hw
    obtain ⟨fu, rfl⟩ : ∃ k, fu = k + 1 := ⟨fu - 1, by omega⟩
    obtain rfl : i = y.1.length := by omega
    have hcc := hc
    obtain ⟨⟨g1, g2, g3, g4, g5, g6⟩, -, -, ⟨d1, d2, d3, d4⟩, -⟩ := hc
    have hlen := w_len (inp := inp) (lk := lk) (al := al) (ba := w_ba kd) (b3 := false) hy (Nat.le_refl y.1.length) (Nat.zero_le _)
    have go : ∀ n, n = w_no kd inp y.2.1.length → jT (B_15_write_249 427 a1 (Int32.ofNat (kd % 32)) (Int32.ofNat n) H) Q := fun n hn => by
      unfold B_15_write_249
      refine jT_g (k15 g1) (jT_b (z15_fl1 (n := n) hcc rfl (by rw [List.length_append]; omega) hw fun H2 h2 f2 z2 => ?_))
      rw [hn] at z2 ⊢
      exact hk H2 h2 (jf15_trans hf f2) z2
    unfold F_15_write_65 B_15_write_65
    simp only [g2, g3, d3, d4]
    refine jT_g (k15 g1) (jT_g (k56 g1) (jT_pos (by rw [jo_le (by omega) (by omega)]; exact Nat.le_refl _) ?_))
    by_cases c2 : kd % 32 = 2
    · exact jT_neg (fun q => q (gb.1.mpr c2)) (go 0 (by unfold w_no; rw [if_pos c2]))
    · refine jT_pos (fun q => c2 (gb.1.mp q)) ?_
      by_cases c3 : kd % 32 = 3
      · have e1 : Int32.ofNat inp + 1 = Int32.ofNat (inp + 1) := jo_add (a := inp) (b := 1)
        rw [e1]
        exact jT_neg (fun q => q (gb.2.mpr c3)) (jT_g (k15 g1) (go _ (by unfold w_no; rw [if_neg c2, if_pos c3])))
      · exact jT_pos (fun q => c3 (gb.2.mp q)) (jT_g (k15 g1) (jT_g (k56 g1) (go _ (by unfold w_no; rw [if_neg c2, if_neg c3]))))
  | succ d ih =>
    intro i fu H hi hfu hc hf hw
    obtain ⟨fu, rfl⟩ : ∃ k, fu = k + 1 := ⟨fu - 1, by omega⟩
    have hcc := hc
    obtain ⟨⟨g1, g2, g3, g4, g5, g6⟩, -, -, ⟨d1, d2, d3, d4⟩, -, -, n3⟩ := hc
    have hlen := w_len (inp := inp) (lk := lk) (al := al) (ba := w_ba kd) (b3 := false) hy (i := i) (by omega) (Nat.zero_le _)
    have w4 := (w_in y tb hy (i := i) (by omega)).2.2.2
    have e_i : Int32.ofNat i + 1 = Int32.ofNat (i + 1) := jo_add (a := i) (b := 1)
    have eqi : (Int32.ofNat i = Int32.ofNat inp) ↔ i = inp := jo_eq (by omega) (by omega)
    have h93 : i = inp ∨ al = false → jT (B_15_write_93 (F_15_write_65 fu) 427 a1 (Int32.ofNat (kd % 32)) a3 (Int32.ofNat i) H) Q := fun hal =>
      z15_w93 (al := al) hy (by omega) hal (by rw [List.length_append]; omega) hcc hw fun H2 h2 f2 z2 => ih (i + 1) fu H2 (by omega) (by omega) h2 (jf15_trans hf f2) (by rw [List.append_assoc] at z2; exact z2)
    unfold F_15_write_65 B_15_write_65
    simp only [g2, g3, d3, d4]
    refine jT_g (k15 g1) (jT_g (k56 g1) (jT_neg (by rw [jo_le (by omega) (by omega)]; omega) ?_))
    by_cases ha : al = true
    · refine jT_neg (by rw [ea, if_pos ha]; decide) (jT_g (k15 g1) ?_)
      by_cases ci : i = inp
      · exact jT_pos (eqi.mpr ci) (h93 (Or.inl ci))
      · refine jT_neg (fun q => ci (eqi.mp q)) ?_
        unfold B_15_write_213
        rw [e_i]
        refine jT_l (ih (i + 1) fu H (by omega) (by omega) hcc hf ?_)
        have : w_ins tb y.1 inp al (w_ba kd) lk (i + 1) = w_ins tb y.1 inp al (w_ba kd) lk i := by
          show w_ins tb y.1 inp al (w_ba kd) lk i ++ _ = _
          rw [ha, w_mi_none ci, List.append_nil]
        rw [this]
        exact hw
    · exact jT_pos (by rw [ea, if_neg ha]) (h93 (Or.inr (by cases al <;> simp_all)))
end WR15
