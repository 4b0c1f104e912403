/-! The pool is made anew: the reference. -/
def p_TR : Nat → Nat → Prop := fun a j => p_TC a j ∨ a = 504 ∨ a = 505 ∨ b_FN a j
section RN18
variable {α : Type} {bs : List b_k} {tip old f : Nat} {ps0 : List p_e} {Hs : jH} {Q : α → jH → Prop}
/-- what stays while they come -/
def p_rn (bs : List b_k) (tip : Nat) (ps0 : List p_e) (H : jH) : Prop :=
  jsh H ∧ b_T bs H ∧ b_D bs H ∧ jI H 421 13 = Int32.ofNat tip ∧ b_KC bs tip H ∧ w_p13 H ∧ ∀ (k : Nat) (e : p_e), ps0[k]? = some e → zRow H 504 (2000 * k) e.1.2.1 ∧ jI H 505 k = Int32.ofNat e.1.2.1.length
theorem p_rn_fr {T : Nat → Nat → Prop} {H H' : jH} (h : p_rn bs tip ps0 H) (hs : jsh H') (hC : b_KC bs tip H') (hp : w_p13 H') (hf : jfr T H H') (hT : ∀ a j, T a j → p_TC a j ∨ b_S18 a j) : p_rn bs tip ps0 H' := by
  obtain ⟨-, h1, h2, h3, -, -, h6⟩ := h
  have u : ∀ a j, T a j → (423 ≤ a ∧ a ≤ 444) ∨ (456 ≤ a ∧ a ≤ 473) ∨ a = 481 ∨ (496 ≤ a ∧ a ≤ 503) ∨ a = 507 ∨ (a = 421 ∧ (j = 14 ∨ j = 36 ∨ (57 ≤ j ∧ j ≤ 60))) := fun a j w => by
    rcases hT a j w with q | q
    · unfold p_TC at q
      omega
    · unfold b_S18 at q
      omega
  exact ⟨hs, b_T_fr h1 hf fun a j w => by have := u a j w; omega, b_D_fr h2 hf fun a j w => by have := u a j w; omega, (jfr_I hf fun w => by have := u _ _ w; omega).trans h3, hC, hp, fun k e hk => ⟨zRow_eq (h6 k e hk).1 fun i _ => jfr_B hf fun w => by have := u _ _ w; omega, (jfr_I hf fun w => by have := u _ _ w; omega).trans (h6 k e hk).2⟩⟩
def p_TS : Nat → Nat → Prop := fun a j => p_TC a j ∨ b_S18 a j
/-- one comes -/
theorem y18_rc {k : Int32 → jH → Option (α × jH)} {ps : List p_e} {x : b_t} {row s len : Nat} {H : jH} (hr : p_row row) (hw : b_wf bs) (htl : tip < bs.length) (hri : b_right bs tip) (hcv : p_cvn (b_co bs tip (b_ht bs tip)).1) (hN : p_rn bs tip ps0 H) (hp : p_all ps) (hB : p_PB ps H) (hx : p_tok x) (hkr : jK H row = (101, len)) (hlen : len < 2000000) (hz : zRow H row s x.2.1) (hse : s + x.2.1.length ≤ len)
    (hk : ∀ H', p_rn bs tip ps0 H' → jfr p_TC H H' → p_PB (p_off (Int32.ofNat (b_ht bs tip + 1)) (b_co bs tip (b_ht bs tip)).1 ps x false).2 H' → ∀ v, jT (k v H') Q) : jT (jb (F_18_comes 421 row (Int32.ofNat s) (Int32.ofNat x.2.1.length) 0 H) k) Q := by
  obtain ⟨hs, hT, hD, h13, hC, hp13, h6⟩ := id hN
  have ex : ((b_hs x.2.1, x.2.1, x.2.2) : b_t) = x := by
    rw [← hx.2.1]
  refine y18_comes (sent := false) hr hs hw hT hD htl h13 hri hC hp13 hp.1 hp.2.1 hp.2.2.1 hcv hB hx.1 hkr hlen hz hse fun H' s' f' C' p' B' n' => ?_
  rw [ex] at B' ⊢
  have f'' : jfr p_TC H H' := jfr_mono f' fun a j w => by
    rcases w with w | w
    · exact w
    · exact absurd rfl w.1
  exact hk H' (p_rn_fr hN s' C' p' f'' fun a j w => Or.inl w) f'' B' _
theorem y18_194 {R : Unit → jH → Prop} {P : List p_e} (h0 : p_all ps0) (hw : b_wf bs) (htl : tip < bs.length) (hri : b_right bs tip) (hcv : p_cvn (b_co bs tip (b_ht bs tip)).1) (hk : ∀ H', p_rn bs tip ps0 H' → jfr p_TS Hs H' → p_PB P H' → R () H') :
    ∀ (d i fu : Nat) (ps : List p_e) (H : jH), i + d = ps0.length → d < fu → p_rn bs tip ps0 H → jfr p_TS Hs H → p_all ps → p_PB ps H → p_ren (Int32.ofNat (b_ht bs tip + 1)) (b_co bs tip (b_ht bs tip)).1 ((ps0.drop i).map fun e => e.1) ps = P → jT (F_18_renew_194 fu 421 (Int32.ofNat ps0.length) (Int32.ofNat i) H) R := by
  have l40 := h0.2.1
  have k18 : ∀ {H}, jsh H → (jK H 421).1 = 18 := fun hs => gT (sK_421 hs)
  intro d
  induction d with
  | zero =>
    intro i fu ps H hl hfu hN hf hp hB hP
    obtain ⟨fu, rfl⟩ : ∃ k, fu = k + 1 := ⟨fu - 1, by omega⟩
    rw [List.drop_eq_nil_of_le (by omega)] at hP
    have hP' : ps = P := hP
    unfold F_18_renew_194 B_18_renew_194
    exact jT_pos (by rw [jo_le (by omega) (by omega)]; omega) (jT_ret (hk H hN hf (hP' ▸ hB)))
  | succ d ih =>
    intro i fu ps H hl hfu hN hf hp hB hP
    obtain ⟨fu, rfl⟩ : ∃ k, fu = k + 1 := ⟨fu - 1, by omega⟩
    have hi : i < ps0.length := by omega
    have hg := List.getElem?_eq_getElem hi
    have hs := hN.1
    obtain ⟨z1, z2⟩ := hN.2.2.2.2.2.2 i _ hg
    have hty : p_tok (ps0[i]).1 := ⟨(h0.1.2.1 i _ hg).1, h0.2.2.2 i _ hg⟩
    have l2 := hty.1.2.2
    have e1 : Int32.ofNat i + 1 = Int32.ofNat (i + 1) := jo_add (a := i) (b := 1)
    rw [List.drop_eq_getElem_cons hi, List.map_cons, p_ren] at hP
    unfold F_18_renew_194 B_18_renew_194
    rw [sR_421_46 hs, sR_421_45 hs, jo_nat (n := i) (by omega), z2, e1, show (2000 : Int32) * Int32.ofNat i = Int32.ofNat (2000 * i) from jo_mul (a := 2000) (b := i)]
    refine jT_neg (by rw [jo_le (by omega) (by omega)]; omega) (jT_g (k18 hs) (jT_g (k18 hs) (jT_g (gA (sK_505 hs) (jo_in (by omega) (by omega))) (jT_g (k18 hs) ?_))))
    refine y18_rc (x := (ps0[i]).1) (len := 84000) (Or.inr (Or.inl rfl)) hw htl hri hcv hN hp hB hty (sK_504 hs) (by decide) z1 (by omega) fun H1 N1 f1 B1 v => ?_
    exact jT_l (ih (i + 1) fu _ H1 (by omega) (by omega) N1 (jfr_trans hf (jfr_mono f1 fun a j w => Or.inl w)) (p_off_all hp hty) B1 hP)
theorem y18_137 {R : Unit → jH → Prop} {k108 : Nat → Int32 → Int32 → Int32 → jH → Option (Unit × jH)} {P : List p_e} {w1 w2 : Int32} {b h : Nat} (hw : b_wf bs) (hb : p_bok bs) (htl : tip < bs.length) (hri : b_right bs tip) (hcv : p_cvn (b_co bs tip (b_ht bs tip)).1) (hbl : b < bs.length) (hb1 : 1 ≤ b)
    (hk : ∀ H' ps', p_rn bs tip ps0 H' → jfr p_TS Hs H' → p_all ps' → p_PB ps' H' → ps' = P → jT (k108 421 w1 w2 (Int32.ofNat (h + 1)) H') R) :
    ∀ (d j fu : Nat) (ps : List p_e) (H : jH), j + d = (b_tx bs b).length → d < fu → p_rn bs tip ps0 H → jfr p_TS Hs H → p_all ps → p_PB ps H → jI H 421 14 = Int32.ofNat (b_tx bs b).length → (∀ t, t ≤ (b_tx bs b).length → jI H 481 t = Int32.ofNat (2000 * b + 81 + b_tot ((b_tx bs b).take t))) → p_ren (Int32.ofNat (b_ht bs tip + 1)) (b_co bs tip (b_ht bs tip)).1 ((b_tx bs b).drop j) ps = P → jT (F_18_renew_137 k108 fu 421 w1 w2 (Int32.ofNat h) (Int32.ofNat j) H) R := by
  have k18 : ∀ {H}, jsh H → (jK H 421).1 = 18 := fun hs => gT (sK_421 hs)
  have hlay := (hw.2.2.2.2 _ hb1 hbl).2.2.1
  have l12 := hlay.2.2.1
  have l1999 := hlay.2.1
  have l300 := hw.2.1
  intro d
  induction d with
  | zero =>
    intro j fu ps H hl hfu hN hf hp hB h14 h81 hP
    obtain ⟨fu, rfl⟩ : ∃ k, fu = k + 1 := ⟨fu - 1, by omega⟩
    have hs := hN.1
    have e1 : Int32.ofNat h + 1 = Int32.ofNat (h + 1) := jo_add (a := h) (b := 1)
    rw [List.drop_eq_nil_of_le (by omega)] at hP
    unfold F_18_renew_137 B_18_renew_137
    rw [h14, e1]
    exact jT_g (k18 hs) (jT_pos (by rw [jo_le (by omega) (by omega)]; omega) (jT_l (hk H ps hN hf hp hB hP)))
  | succ d ih =>
    intro j fu ps H hl hfu hN hf hp hB h14 h81 hP
    obtain ⟨fu, rfl⟩ : ∃ k, fu = k + 1 := ⟨fu - 1, by omega⟩
    have hs := hN.1
    have hj : j < (b_tx bs b).length := by omega
    have hg := List.getElem?_eq_getElem hj
    have htk := hb _ hbl _ (List.getElem_mem hj)
    have l2 := htk.1.2.2
    have e1 : Int32.ofNat j + 1 = Int32.ofNat (j + 1) := jo_add (a := j) (b := 1)
    have hz := b_lay_row hlay (hN.2.2.1 b hbl).1 hg
    have htk1 := b_tot_take hg
    have hll := b_lay_len hlay
    have hle := b_tot_le (txs := b_tx bs b) (i := j + 1)
    have esub : Int32.ofNat (2000 * b + 81 + b_tot ((b_tx bs b).take (j + 1))) - Int32.ofNat (2000 * b + 81 + b_tot ((b_tx bs b).take j)) = Int32.ofNat ((b_tx bs b)[j]).2.1.length := by
      rw [htk1, jo_sub (by omega)]
      congr 1
      omega
    rw [List.drop_eq_getElem_cons hj, p_ren] at hP
    unfold F_18_renew_137 B_18_renew_137
    rw [h14, sR_421_15 hs, sR_421_6 hs, e1, jo_nat (n := j) (by omega), jo_nat (n := j + 1) (by omega), h81 j (by omega), h81 (j + 1) (by omega), esub]
    refine jT_g (k18 hs) (jT_neg (by rw [jo_le (by omega) (by omega)]; omega) (jT_g (k18 hs) (jT_g (k18 hs) (jT_g (gA (sK_481 hs) (jo_in (by omega) (by omega))) (jT_g (k18 hs) (jT_g (gA (sK_481 hs) (jo_in (by omega) (by omega))) (jT_g (k18 hs) (jT_g (gA (sK_481 hs) (jo_in (by omega) (by omega))) (jT_g (k18 hs) ?_)))))))))
    refine y18_rc (x := (b_tx bs b)[j]) (len := 600000) (Or.inl rfl) hw htl hri hcv hN hp hB htk (sK_474 hs) (by decide) hz (by omega) fun H1 N1 f1 B1 v => ?_
    exact jT_l (ih (j + 1) fu _ H1 (by omega) (by omega) N1 (jfr_trans hf (jfr_mono f1 fun a j w => Or.inl w)) (p_off_all hp htk) B1 ((jfr_I f1 (by unfold p_TC; omega)).trans h14) (fun t ht => (jfr_I f1 (by unfold p_TC; omega)).trans (h81 t ht)) hP)
theorem y18_108 {R : Unit → jH → Prop} {P : List p_e} (h0 : p_all ps0) (hw : b_wf bs) (hb : p_bok bs) (ho : old < bs.length) (hof : f ≤ b_ht bs old) (htl : tip < bs.length) (hri : b_right bs tip) (hcv : p_cvn (b_co bs tip (b_ht bs tip)).1) (hk : ∀ H', p_rn bs tip ps0 H' → jfr p_TS Hs H' → p_PB P H' → R () H') :
    ∀ (d h fu : Nat) (ps : List p_e) (H : jH), h + d = b_ht bs old + 1 → f + 1 ≤ h → d < fu → p_rn bs tip ps0 H → jfr p_TS Hs H → p_all ps → p_PB ps H → p_ren (Int32.ofNat (b_ht bs tip + 1)) (b_co bs tip (b_ht bs tip)).1 (p_lf bs old h d ++ ps0.map fun e => e.1) ps = P → jT (F_18_renew_108 fu 421 (Int32.ofNat old) (Int32.ofNat ps0.length) (Int32.ofNat h) H) R := by
  have l40 := h0.2.1
  have l3 := b_ht_300 hw ho
  have l300 := hw.2.1
  have k18 : ∀ {H}, jsh H → (jK H 421).1 = 18 := fun hs => gT (sK_421 hs)
  intro d
  induction d with
  | zero =>
    intro h fu ps H hl hfh hfu hN hf hp hB hP
    obtain ⟨fu, rfl⟩ : ∃ k, fu = k + 1 := ⟨fu - 1, by omega⟩
    have hs := hN.1
    unfold F_18_renew_108 B_18_renew_108
    rw [b_height hw hs hN.2.1 ho]
    refine jT_g (k18 hs) ?_
    rw [jb_ok]
    refine jT_pos (by rw [jo_lt (by omega) (by omega)]; omega) ?_
    exact y18_194 (Hs := Hs) h0 hw htl hri hcv hk ps0.length 0 jfuel ps H (Nat.zero_add _) (by unfold jfuel; omega) hN hf hp hB hP
  | succ d ih =>
    intro h fu ps H hl hfh hfu hN hf hp hB hP
    obtain ⟨fu, rfl⟩ : ∃ k, fu = k + 1 := ⟨fu - 1, by omega⟩
    have hs := hN.1
    have hat := b_at_ok hw ho (show h ≤ b_ht bs old by omega)
    have lt := hat.2.2
    have h1 := b_ht_pos hw lt (by rw [hat.2.1]; omega)
    have hwk := hw.2.2.2.2 _ h1 lt
    have lpos : 1 ≤ (b_tx bs (b_at bs old h)).length := by
      cases hq : b_tx bs (b_at bs old h) with
      | nil => exact absurd hq hwk.2.2.2.2
      | cons a b => exact Nat.succ_le_succ (Nat.zero_le _)
    rw [p_lf, List.append_assoc, p_ren_app] at hP
    unfold F_18_renew_108 B_18_renew_108
    rw [b_height hw hs hN.2.1 ho]
    refine jT_g (k18 hs) ?_
    rw [jb_ok, sR_421_3 hs, b_below hw hs hN.2.1 ho (show h ≤ b_ht bs old by omega)]
    refine jT_neg (by rw [jo_lt (by omega) (by omega)]; omega) (jT_g (k18 hs) (jT_g (gT (sK_445 hs)) ?_))
    rw [jb_ok]
    refine jT_g (k18 hs) ?_
    refine b_openBlock (b := b_at bs old h) hs hwk.2.2.1 (b_toks_ty hwk.2.2.2.1) (hN.2.2.1 _ lt).1 (by omega) (by omega) (hN.2.2.1 _ lt).2.1 fun H1 s1 f1 v14 v81 => ?_
    have C1 : b_KC bs tip H1 := p_KC_TC hN.2.2.2.2.1 f1 fun a j w => by unfold b_S18 at w; omega
    have N1 := p_rn_fr hN s1 C1 (w_p13_T hN.2.2.2.2.2.1 f1 fun a j w => by unfold b_S18 at w; omega) f1 fun a j w => Or.inr w
    have B1 := p_PB_fr hB f1 fun a j w => by unfold b_S18 at w; omega
    refine y18_137 (Hs := Hs) (ps0 := ps0) (b := b_at bs old h) (h := h) hw hb htl hri hcv lt h1 (fun H' ps' hN' hf' hp' hB' hP' => ?_) ((b_tx bs (b_at bs old h)).length - 1) 1 jfuel ps H1 (by omega) (by have := hwk.2.2.1.2.2.1; unfold jfuel; omega) N1 (jfr_trans hf (jfr_mono f1 fun a j w => Or.inr w)) hp B1 v14 v81 rfl
    refine ih (h + 1) fu ps' H' (by omega) (by omega) (by omega) hN' hf' hp' hB' ?_
    rw [hP']
    exact hP
theorem y18_renew {k : Unit → jH → Option (α × jH)} {c : Nat} (h0 : p_all ps0) (hs0 : jsh Hs) (hw : b_wf bs) (hb : p_bok bs) (hT0 : b_T bs Hs) (hD0 : b_D bs Hs) (htl : tip < bs.length) (ho : old < bs.length) (hf : b_isf bs tip old f) (h13 : jI Hs 421 13 = Int32.ofNat tip) (hri : b_right bs tip) (hC0 : b_KC bs c Hs) (hp0 : w_p13 Hs) (hcv : p_cvn (b_co bs tip (b_ht bs tip)).1) (hB0 : p_PB ps0 Hs)
    (hk : ∀ H', jsh H' → jfr p_TR Hs H' → b_KC bs tip H' → w_p13 H' → p_PB (p_anew (Int32.ofNat (b_ht bs tip + 1)) (b_co bs tip (b_ht bs tip)).1 bs old f ps0) H' → jT (k () H') Q) : jT (jb (F_18_renew 421 (Int32.ofNat old) Hs) k) Q := by
  have l40 := h0.2.1
  have l300 := hw.2.1
  have l3 := b_ht_300 hw ho
  have k18 : ∀ {H}, jsh H → (jK H 421).1 = 18 := fun hs => gT (sK_421 hs)
  have k16 : ∀ {H}, jsh H → (jK H 445).1 = 16 := fun hs => gT (sK_445 hs)
  have loop : ∀ (d i fu : Nat) (H : jH), i + d = ps0.length → d < fu → jsh H → jfr (fun a _ => a = 504 ∨ a = 505) Hs H → (∀ (k : Nat) (e : p_e), k < i → ps0[k]? = some e → zRow H 504 (2000 * k) e.1.2.1 ∧ jI H 505 k = Int32.ofNat e.1.2.1.length) → jT (F_18_renew_7 fu 421 (Int32.ofNat old) (Int32.ofNat ps0.length) (Int32.ofNat i) H) (fun v h => jT (k v h) Q) := by
    intro d
    induction d with
    | zero =>
      intro i fu H hl hfu hs hfr hv
      obtain ⟨fu, rfl⟩ : ∃ k, fu = k + 1 := ⟨fu - 1, by omega⟩
      unfold F_18_renew_7 B_18_renew_7
      refine jT_pos (by rw [jo_le (by omega) (by omega)]; omega) (jT_g (k18 hs) (jT_l ?_))
      have s1 : jsh (jsI H 421 36 0) := jsh_sI hs (by decide)
      have f1 : jfr (fun a j => a = 504 ∨ a = 505 ∨ (a = 421 ∧ j = 36)) Hs (jsI H 421 36 0) := jfr_sI (jfr_mono hfr fun a j w => by omega) (Or.inr (Or.inr ⟨rfl, rfl⟩))
      have g1 : jfr (fun a j => a = 421 ∧ j = 36) H (jsI H 421 36 0) := jfr_sI jfr_refl ⟨rfl, rfl⟩
      have v36 : jI (jsI H 421 36 0) 421 36 = 0 := jI_sIe
      generalize jsI H 421 36 0 = H1 at *
      have T1 : b_T bs H1 := b_T_fr hT0 f1 fun a j w => by omega
      have D1 : b_D bs H1 := b_D_fr hD0 f1 fun a j w => by omega
      have e13 : jI H1 421 13 = Int32.ofNat tip := (jfr_I f1 (by omega)).trans h13
      have C1 : b_KC bs c H1 := p_KC_TC hC0 f1 fun a j w => by omega
      rw [e13]
      refine jT_g (k18 s1) (jT_g (k18 s1) ?_)
      refine b_need hw s1 T1 D1 htl hri C1 fun H2 s2 f2 C2 => ?_
      have T2 : b_T bs H2 := b_T_fr T1 f2 fun a j w => by unfold b_FN at w; omega
      have D2 : b_D bs H2 := b_D_fr D1 f2 fun a j w => by unfold b_FN at w; omega
      have e132 : jI H2 421 13 = Int32.ofNat tip := (jfr_I f2 (by unfold b_FN; omega)).trans e13
      have p2 : w_p13 H2 := w_p13_T (w_p13_T hp0 f1 fun a j w => by omega) f2 fun a j w => by unfold b_FN at w; omega
      have hof := hf.2.1
      have hat := b_at_ok hw ho hof
      have efk := b_fork hw s2 T2 ho htl (b_isf_s hf)
      have eh := b_height hw s2 T2 (k := b_at bs old f) hat.2.2
      rw [hat.2.1] at eh
      have e1 : Int32.ofNat f + 1 = Int32.ofNat (f + 1) := jo_add (a := f) (b := 1)
      rw [sR_421_3 s2, e132, efk]
      refine jT_g (k18 s2) (jT_g (k18 s2) (jT_g (k16 s2) ?_))
      rw [jb_ok, eh]
      refine jT_g (k18 s2) ?_
      rw [jb_ok, e1]
      have N2 : p_rn bs tip ps0 H2 := ⟨s2, T2, D2, e132, C2, p2, fun k e hk2 => by
        have hkl := (List.getElem?_eq_some_iff.mp hk2).1
        obtain ⟨q1, q2⟩ := hv k e (by omega) hk2
        exact ⟨zRow_eq q1 fun i _ => (jfr_B f2 (by unfold b_FN; omega)).trans (jfr_B g1 (by omega)), (jfr_I f2 (by unfold b_FN; omega)).trans ((jfr_I g1 (by omega)).trans q2)⟩⟩
      have F2 : jfr p_TR Hs H2 := jfr_trans (jfr_mono f1 fun a j w => by unfold p_TR p_TC; omega) (jfr_mono f2 fun a j w => Or.inr (Or.inr (Or.inr w)))
      refine jT_l ?_
      exact y18_108 (R := fun v h => jT (k v h) Q) (Hs := H2) (f := f) (P := p_anew (Int32.ofNat (b_ht bs tip + 1)) (b_co bs tip (b_ht bs tip)).1 bs old f ps0) h0 hw hb ho hof htl hri hcv (fun H' N' f' B' => hk H' N'.1 (jfr_trans F2 (jfr_mono f' fun a j w => by
        rcases w with w | w
        · exact Or.inl w
        · exact Or.inr (Or.inr (Or.inr (by unfold b_S18 at w; unfold b_FN; omega))))) N'.2.2.2.2.1 N'.2.2.2.2.2.1 B') (b_ht bs old - f) (f + 1) jfuel [] H2 (by omega) (Nat.le_refl _) (by unfold jfuel; omega) N2 jfr_refl p_all_nil ⟨(jfr_I f2 (by unfold b_FN; omega)).trans v36, fun k e hk2 => by cases hk2⟩ rfl
    | succ d ih =>
      intro i fu H hl hfu hs hfr hv
      obtain ⟨fu, rfl⟩ : ∃ k, fu = k + 1 := ⟨fu - 1, by omega⟩
      have hi : i < ps0.length := by omega
      have hg := List.getElem?_eq_getElem hi
      have l2 := (h0.1.2.1 i _ hg).1.2.2
      have B := p_PB_fr hB0 hfr fun a j w => by omega
      obtain ⟨⟨z1, z2, -, -⟩, -⟩ := B.2 i _ hg
      unfold F_18_renew_7 B_18_renew_7
      refine jT_neg (by rw [jo_le (by omega) (by omega)]; omega) ?_
      refine y_copy (F := fun fu2 j H => F_18_renew_15 (F_18_renew_7 fu) fu2 421 (Int32.ofNat old) (Int32.ofNat ps0.length) (Int32.ofNat i) j H) (dst := 504) (src := 496) (d0 := 2000 * i) (s0 := 2000 * i) (m := (ps0[i]).1.2.1.length) hs (by decide) (fun fu2 j H1 hj s1 f1 => ?_) (fun fu2 H1 s1 f1 v1 => ?_) jfuel (by unfold jfuel; omega)
      · have e1 : Int32.ofNat j + 1 = Int32.ofNat (j + 1) := jo_add (a := j) (b := 1)
        have e2 : jI H1 497 i = Int32.ofNat (ps0[i]).1.2.1.length := (jfr_I f1 (by unfold b_Tc; omega)).trans z2
        show B_18_renew_15 (F_18_renew_7 fu) (F_18_renew_15 (F_18_renew_7 fu) fu2) 421 (Int32.ofNat old) (Int32.ofNat ps0.length) (Int32.ofNat i) (Int32.ofNat j) H1 = _
        unfold B_18_renew_15
        rw [jg_t (k18 s1), sR_421_38 s1, jg_t (gA (sK_497 s1) (jo_in (by omega) (by omega))), jo_nat (n := i) (by omega), e2, if_neg (by rw [jo_le (by omega) (by omega)]; omega), jg_t (k18 s1), jg_t (k18 s1), sR_421_37 s1, sR_421_45 s1, p_e2k, jg_t (gA (sK_496 s1) (jo_in (by omega) (by omega))), jg_t (gA (sK_504 s1) (jo_in (by omega) (by omega))), jo_nat (n := 2000 * i + j) (by omega), jbu_b, e1]
        rfl
      · have e2 : jI H1 497 i = Int32.ofNat (ps0[i]).1.2.1.length := (jfr_I f1 (by unfold b_Tc; omega)).trans z2
        have e1 : Int32.ofNat i + 1 = Int32.ofNat (i + 1) := jo_add (a := i) (b := 1)
        show jT (B_18_renew_15 (F_18_renew_7 fu) (F_18_renew_15 (F_18_renew_7 fu) fu2) 421 (Int32.ofNat old) (Int32.ofNat ps0.length) (Int32.ofNat i) (Int32.ofNat (ps0[i]).1.2.1.length) H1) _
        unfold B_18_renew_15
        rw [sR_421_38 s1, sR_421_46 s1, jo_nat (n := i) (by omega), e2, e1]
        refine jT_g (k18 s1) (jT_g (gA (sK_497 s1) (jo_in (by omega) (by omega))) (jT_pos (by rw [jo_le (by omega) (by omega)]; exact Nat.le_refl _) (jT_g (k18 s1) (jT_g (k18 s1) (jT_g (gA (sK_497 s1) (jo_in (by omega) (by omega))) (jT_g (gIw (sK_505 s1) (by decide) (jo_in (by omega) (by omega))) (jT_l (jT_l ?_))))))))
        have f1' : jfr (fun a j => (a = 504 ∧ 2000 * i ≤ j ∧ j < 2000 * i + 2000) ∨ (a = 505 ∧ j = i)) H (jsI H1 505 i (Int32.ofNat (ps0[i]).1.2.1.length)) := jfr_sI (jfr_mono f1 fun a j w => by unfold b_Tc at w; omega) (Or.inr ⟨rfl, rfl⟩)
        have g1 : jfr (fun a _ => a = 505) H1 (jsI H1 505 i (Int32.ofNat (ps0[i]).1.2.1.length)) := jfr_sI jfr_refl rfl
        refine ih (i + 1) fu _ (by omega) (by omega) (jsh_sI s1 (by decide)) (jfr_trans hfr (jfr_mono f1' fun a j w => by omega)) fun k e hk1 hk2 => ?_
        by_cases c : k = i
        · rw [c, hg] at hk2
          rw [← Option.some.inj hk2, c]
          exact ⟨fun q u hq => (jfr_B g1 (by omega)).trans ((v1 q (List.getElem?_eq_some_iff.mp hq).1).trans (z1 q u hq)), jI_sIe⟩
        · obtain ⟨q1, q2⟩ := hv k e (by omega) hk2
          have le := (h0.1.2.1 k e hk2).1.2.2
          exact ⟨zRow_eq q1 fun q hq => jfr_B f1' (by omega), (jfr_I f1' (by omega)).trans q2⟩
  unfold F_18_renew
  rw [hB0.1]
  exact jT_b (jT_g (k18 hs0) (jT_l (loop ps0.length 0 jfuel Hs (Nat.zero_add _) (by unfold jfuel; omega) hs0 jfr_refl fun k e hk1 => absurd hk1 (Nat.not_lt_zero k))))
end RN18
