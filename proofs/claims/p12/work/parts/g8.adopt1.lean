/-! The class looks for its tip when one block more is known. -/
/-- the first that is wrong above the fork -/
def b_fst (bs : List b_k) (n f g : Nat) : Prop := f < g ∧ g ≤ b_ht bs n ∧ (b_v bs (b_at bs n g)).1 ≠ 0 ∧ ∀ h, f < h → h < g → (b_v bs (b_at bs n h)).1 = 0
noncomputable def b_cod (bs : List b_k) (n g : Nat) : Int32 := if g = b_ht bs n then (b_v bs n).1 else 22
/-- what comes of looking for the tip anew: the tip, who is bad, the code -/
def b_cho (bs : List b_k) (W : Nat → Nat) (bad : Nat → Bool) (tip n : Nat) (tip' : Nat) (bad' : Nat → Bool) (code : Int32) : Prop :=
  (W n ≤ W tip ∧ tip' = tip ∧ bad' = bad ∧ code = 0) ∨
  (W tip < W n ∧ ∃ f, b_isf bs n tip f ∧ (((∀ h, f < h → h ≤ b_ht bs n → (b_v bs (b_at bs n h)).1 = 0) ∧ tip' = n ∧ bad' = bad ∧ code = 0) ∨ (∃ g, b_fst bs n f g ∧ tip' = tip ∧ bad' = b_bad' bs bad (b_at bs n g) ∧ code = b_cod bs n g)))
/-- what is wrong above the fork isn't in the tip's chain -/
theorem b_fst_tip {bs : List b_k} {n tip f g : Nat} (hw : b_wf bs) (hn : n < bs.length) (hf : b_isf bs n tip f) (h : b_fst bs n f g) : ¬ b_on bs (b_at bs n g) tip := by
  rintro ⟨h1, h2⟩
  rw [(b_at_ok hw hn h.2.1).2.1] at h1 h2
  exact hf.2.2.2 g h.1 h.2.1 h1 h2.symm
theorem b_right_new {bs : List b_k} {n tip f : Nat} (hw : b_wf bs) (hn : n < bs.length) (ht : tip < bs.length) (hr : b_right bs tip) (hf : b_isf bs n tip f) (h : ∀ h, f < h → h ≤ b_ht bs n → (b_v bs (b_at bs n h)).1 = 0) : b_right bs n := fun g g1 g2 => by
  by_cases c : g ≤ f
  · rw [b_isf_lo hw hn ht hf g c]
    exact hr g g1 (by have := hf.2.1; omega)
  · exact h g (by omega) g2
/-- what the class's machine wants -/
def b_MZ (H : jH) : Prop := (∃ st sd, w_M st sd H) ∧ zBase H
theorem b_MZ_fr {T : Nat → Nat → Prop} {H H1 : jH} (h : b_MZ H) (hs : jsh H1) (hf : jfr T H H1) (hT : ∀ a j, T a j → a < 50 ∨ 390 ≤ a) : b_MZ H1 := by
  obtain ⟨⟨st, sd, m⟩, z⟩ := h
  exact ⟨⟨st, sd, w_M_q m hs hf fun a j w => by have := hT a j w; omega⟩, zBase_T z hf fun a j w => by have := hT a j w; omega⟩
def b_FD (os : List Nat) : Nat → Nat → Prop := fun a j => (43 ≤ a ∧ a ≤ 397) ∨ (a = 398 ∧ (j = 5 ∨ j = 6 ∨ j = 10)) ∨ (400 ≤ a ∧ a ≤ 402) ∨ (j = 7 ∧ ∃ i, i < os.length ∧ a = b_o os i)
section AD1
variable {α : Type} {nb tip n : Nat} {bs : List b_k} {os : List Nat} {Hs : jH} {bad : Nat → Bool} {W : Nat → Nat}
/-- the blocks above the fork are judged -/
theorem z1_adopt115 {Q : Int32 → jH → Prop} {k50 : Nat → Nat → Int32 → Int32 → Int32 → jH → Option (Int32 × jH)} {a4 : Int32} {f : Nat} (hw : b_wf bs) (hB : b_BC nb bs os Hs) (hn : n < bs.length) (h401 : ∀ h, f < h → h ≤ b_ht bs n → jR Hs 401 h = b_o os (b_at bs n h)) (hfn : f ≤ b_ht bs n)
    (hk1 : ∀ H', jsh H' → jfr b_FJ Hs H' → b_MZ H' → (∀ h, f < h → h ≤ b_ht bs n → (b_v bs (b_at bs n h)).1 = 0) → b_KA (b_co bs n (b_ht bs n)).1 (b_co bs n (b_ht bs n)).2 H' → jT (B_1_adopt_156 k50 398 (b_o os n) 0 1 a4 (b_o os n) (Int32.ofNat f) 0 (Int32.ofNat (b_ht bs n)) H') Q)
    (hk0 : ∀ g H', jsh H' → jfr b_FJ Hs H' → b_MZ H' → b_fst bs n f g → jT (B_1_adopt_156 k50 398 (b_o os n) 0 1 a4 (b_o os n) (Int32.ofNat f) (b_v bs (b_at bs n g)).1 (Int32.ofNat g) H') Q) :
    ∀ (d h fu : Nat) (H : jH), h + d = b_ht bs n → f ≤ h → d + 1 < fu → jsh H → jfr b_FJ Hs H → b_MZ H → (∀ i, f < i → i ≤ h → (b_v bs (b_at bs n i)).1 = 0) → b_KA (b_co bs n h).1 (b_co bs n h).2 H → jT (F_1_adopt_115 k50 fu 398 (b_o os n) 0 1 a4 (b_o os n) (Int32.ofNat f) 0 (Int32.ofNat h) H) Q := by
  have l300 := hw.2.1
  have hn3 := b_ht_300 hw hn
  intro d
  induction d with
  | zero =>
    intro h fu H hd hfh hfu hs hf hM hv hK
    obtain ⟨fu, rfl⟩ : ∃ k, fu = k + 1 := ⟨fu - 1, by omega⟩
    obtain rfl : h = b_ht bs n := by omega
    have hB1 : b_BC nb bs os H := b_BC_fr hB hf fun a j w => by unfold b_FJ at w; omega
    obtain ⟨-, m2⟩ := hB1.2.2.2.2 _ hn
    unfold F_1_adopt_115 B_1_adopt_115
    rw [show jI H (b_o os n) 6 = Int32.ofNat (b_ht bs n) from m2.1.2.2.2.1]
    exact jT_neg (fun w => w rfl) (jT_g m2.1.1 (jT_pos (by rw [jo_le (by omega) (by omega)]; exact Nat.le_refl _) (hk1 H hs hf hM hv hK)))
  | succ d ih =>
    intro h fu H hd hfh hfu hs hf hM hv hK
    obtain ⟨fu, rfl⟩ : ∃ k, fu = k + 1 := ⟨fu - 1, by omega⟩
    have hB1 : b_BC nb bs os H := b_BC_fr hB hf fun a j w => by unfold b_FJ at w; omega
    obtain ⟨-, m2⟩ := hB1.2.2.2.2 _ hn
    obtain ⟨q1, q2, q3⟩ := b_at_ok hw hn (h := h + 1) (by omega)
    have hk1' := b_ht_pos hw q3 (by omega)
    obtain ⟨-, -, play, ptok, pne⟩ := hw.2.2.2.2 _ hk1' q3
    obtain ⟨m3, m4, m5⟩ := b_bx_bt hs (hB1.2.2.2.2 _ q3).2
    have m3' : b_bt (b_o os (b_at bs n (h + 1))) (h + 1) (b_tx bs (b_at bs n (h + 1))) H := by
      have e : (b_g bs (b_at bs n (h + 1))).2.2.2.1 = h + 1 := q2
      rw [e] at m3
      exact m3
    have e1 : Int32.ofNat h + 1 = Int32.ofNat (h + 1) := jo_add (a := h) (b := 1)
    have e401 : jR H 401 (h + 1) = b_o os (b_at bs n (h + 1)) := (jfr_R hf (by unfold b_FJ; omega)).trans (h401 _ (by omega) (by omega))
    have ev : (b_v bs (b_at bs n (h + 1))) = b_all (h + 1) (b_tx bs (b_at bs n (h + 1))) (b_co bs n h).1 (b_co bs n h).2 := b_v_at hw hn (by omega) (by omega)
    unfold F_1_adopt_115 B_1_adopt_115
    rw [show jI H (b_o os n) 6 = Int32.ofNat (b_ht bs n) from m2.1.2.2.2.1, e1, sR_398_1 hs, sR_398_2 hs, sR_398_8 hs]
    refine jT_neg (fun w => w rfl) (jT_g m2.1.1 (jT_neg (by rw [jo_le (by omega) (by omega)]; omega) (jT_l ?_)))
    rw [jo_nat (n := h + 1) (by omega), e401]
    refine (jT_g (gT (sK_398 hs)) (jT_g (gT (sK_398 hs)) (jT_g (gA (sK_401 hs) (jo_in (by omega) (by show _ < 300; omega))) (jT_g (gT (sK_398 hs)) (jT_g (gT (sK_392 hs)) ?_)))))
    refine z2_judge m3' (by omega) m4 m5 play.2.2.1 pne ptok hs hM.1 hM.2 hK fun H2 s2 f2 M2 z2 h0 => ?_
    rw [← ev] at h0 ⊢
    have f2' := jfr_trans hf f2
    by_cases c : (b_v bs (b_at bs n (h + 1))).1 = 0
    · have hco : ((b_v bs (b_at bs n (h + 1))).2.1, (b_v bs (b_at bs n (h + 1))).2.2.1) = b_co bs n (h + 1) := by
        rw [ev]
        rw [ev] at c
        exact (b_all_app ptok hK.1.2.1 hK.2.2.2 c).2
      have K2 := h0 c
      have g1 : (b_v bs (b_at bs n (h + 1))).2.1 = (b_co bs n (h + 1)).1 := congrArg Prod.fst hco
      have g2 : (b_v bs (b_at bs n (h + 1))).2.2.1 = (b_co bs n (h + 1)).2 := congrArg Prod.snd hco
      rw [g1, g2] at K2
      rw [c]
      refine ih (h + 1) fu H2 (by omega) (by omega) (by omega) s2 f2' ⟨M2, z2⟩ (fun i h1 h2 => ?_) K2
      by_cases ci : i = h + 1
      · rw [ci]
        exact c
      · exact hv i h1 (by omega)
    · obtain ⟨fu, rfl⟩ : ∃ k, fu = k + 1 := ⟨fu - 1, by omega⟩
      unfold F_1_adopt_115 B_1_adopt_115
      exact jT_pos c (hk0 (h + 1) H2 s2 f2' ⟨M2, z2⟩ ⟨by omega, by omega, c, fun i h1 h2 => hv i h1 (by omega)⟩)
/-- all that the class's chain is between calls -/
def b_CS (nb : Nat) (bs : List b_k) (os : List Nat) (W : Nat → Nat) (bad : Nat → Bool) (tip : Nat) (H : jH) : Prop :=
  b_wf bs ∧ b_BC nb bs os H ∧ b_LN bs os tip H ∧ b_wk W os bs.length H ∧ b_bd os bs.length bad H ∧ b_right bs tip ∧ b_clo bs bad ∧ jI H 398 5 = Int32.ofNat (b_cnt bad bs.length) ∧ b_KA (b_co bs tip (b_ht bs tip)).1 (b_co bs tip (b_ht bs tip)).2 H ∧ b_MZ H
theorem z1_adopt50 {Q : α → jH → Prop} {k : Int32 → jH → Option (α × jH)} (hs : jsh Hs) (hC : b_CS nb bs os W bad tip Hs) (hn : n + 1 = bs.length) (htn : tip < n) (hmx : b_max W bad tip n) (hbn : bad n = false) (hb0 : bad 0 = false) (h10 : jI Hs 398 10 = 0)
    (hk : ∀ tip' bad' code f H', b_cho bs W bad tip n tip' bad' code → jsh H' → jfr (b_FD os) Hs H' → b_CS nb bs os W bad' tip' H' → (tip' ≠ tip → b_isf bs n tip f ∧ b_LF bs os tip f H') → jT (k code H') Q) : jT (jb (F_1_adopt_50 jfuel 398 (b_o os n) 0 0 0 Hs) k) Q := by
  obtain ⟨hw, hB, hL, hW, hbd, hr, hclo, hcnt, hK, hM⟩ := hC
  have l300 := hw.2.1
  have hnl : n < bs.length := by omega
  have htl : tip < bs.length := by omega
  have hn3 := b_ht_300 hw hnl
  have ht3 := b_ht_300 hw htl
  have k1 : ∀ {H}, jsh H → (jK H 398).1 = 1 := fun hs => gT (sK_398 hs)
  have hpos := (b_o_pos hs hB hnl).1
  have hpost := (b_o_pos hs hB htl).1
  refine jT_b ?_
  obtain ⟨fu, efu⟩ : ∃ fu, jfuel = fu + 2 := ⟨4294967294, rfl⟩
  rw [efu]
  unfold F_1_adopt_50 B_1_adopt_50
  rw [z1_best hw hs hB hL hW hbd, jb_ok, hL.2.1]
  by_cases cW : W tip < W n
  · -- the new one has the most work
    have eb : b_bst W bad tip bs.length = n := by
      rw [← hn]
      exact b_bst_new hmx hbn cW hmx.1 hmx.2.1
    rw [eb]
    obtain ⟨f, hf⟩ := b_isf_ex hw hnl htl
    have hne : b_o os n ≠ b_o os tip := fun w => by
      have := b_o_inj hB hnl htl w
      omega
    refine jT_neg (by decide) (jT_g (k1 hs) (jT_g (k1 hs) (jT_g ⟨Or.inr (by unfold jF0; omega), Or.inr (by unfold jF0; omega)⟩ (jT_pos hne (jT_g (k1 hs) (z1_layWay hw hs hB hL hnl hf fun H1 s1 f1 r1 => ?_))))))
    have nB1 : ∀ a j, b_T401 a j → a < 398 ∨ (a = 398 ∧ j ≠ 4) ∨ (399 < a ∧ a < 409) ∨ (413 < a ∧ a < 422) := fun a j w => by unfold b_T401 at w; omega
    have B1 := b_BC_fr hB f1 nB1
    have L1 : b_LN bs os tip H1 := b_LN_fr hL f1 fun a j w => by unfold b_T401 at w; omega
    have M1 : b_MZ H1 := b_MZ_fr hM s1 f1 fun a j w => by unfold b_T401 at w; omega
    have K1 := b_KA_fr hK f1 fun a j w => by unfold b_T401 at w; omega
    have f1' : jfr (b_FD os) Hs H1 := jfr_mono f1 fun a j w => by unfold b_T401 at w; unfold b_FD; omega
    have e10 : jI H1 398 10 = 0 := (jfr_I f1 (by unfold b_T401; omega)).trans h10
    have hft : f ≤ b_ht bs tip := hf.2.1
    -- from the fork on
    have go : ∀ H2, jsh H2 → jfr (fun a _ => 392 ≤ a ∧ a ≤ 397) H1 H2 → b_KA (b_co bs tip f).1 (b_co bs tip f).2 H2 → jT (B_1_adopt_106 (F_1_adopt_50 (fu + 1)) 398 (b_o os n) 0 0 (b_o os n) (Int32.ofNat f) H2) (fun x h => jT (k x h) Q) := by
      intro H2 s2 f2 K2
      have B2 : b_BC nb bs os H2 := b_BC_fr B1 f2 fun a j w => by omega
      have L2 : b_LN bs os tip H2 := b_LN_fr L1 f2 fun a j w => by omega
      have M2 : b_MZ H2 := b_MZ_fr M1 s2 f2 fun a j w => by omega
      have f2' : jfr (b_FD os) Hs H2 := jfr_trans f1' (jfr_mono f2 fun a j w => by unfold b_FD; omega)
      have K2' : b_KA (b_co bs n f).1 (b_co bs n f).2 H2 := by
        rw [b_co_eq (k := n) (k' := tip) fun g g1 g2 => b_isf_lo hw hnl htl hf g g1]
        exact K2
      have r2 : ∀ h, f < h → h ≤ b_ht bs n → jR H2 401 h = b_o os (b_at bs n h) := fun h h1 h2 => (jfr_R f2 (by omega)).trans (r1 h h1 h2)
      unfold B_1_adopt_106
      refine z1_adopt115 (Hs := H2) hw B2 hnl r2 hf.1 (fun H3 s3 f3 M3 hv K3 => ?_) (fun g H3 s3 f3 M3 hg => ?_) (b_ht bs n - f) f jfuel H2 (by have := hf.1; omega) (Nat.le_refl _) (by unfold jfuel; omega) s2 jfr_refl M2 (fun i h1 h2 => absurd h1 (by omega)) K2'
      · -- its chain is right
        have B3 : b_BC nb bs os H3 := b_BC_fr B2 f3 fun a j w => by unfold b_FJ at w; omega
        have L3 : b_LN bs os tip H3 := b_LN_fr L2 f3 fun a j w => by unfold b_FJ at w; omega
        unfold B_1_adopt_156
        refine jT_neg (fun w => w rfl) (jT_g (k1 s3) (z1_move hw s3 B3 L3 hnl hf ?_ (fun h h1 h2 => (jfr_R f3 (by unfold b_FJ; omega)).trans (r2 h h1 h2)) fun H4 s4 f4 L4 F4 => ?_))
        · exact (jfr_I f3 (by unfold b_FJ; omega)).trans ((jfr_I f2 (by omega)).trans e10)
        · have f4' : jfr (b_FD os) Hs H4 := jfr_trans f2' (jfr_trans (jfr_mono f3 fun a j w => by unfold b_FJ at w; unfold b_FD; omega) (jfr_mono f4 fun a j w => by unfold b_FM at w; unfold b_FD; omega))
          have B4 : b_BC nb bs os H4 := b_BC_fr B3 f4 fun a j w => by unfold b_FM at w; omega
          have kp : jkp nb Hs H4 := jkp_trans (jkp_lo f1 fun a j w => by unfold b_T401 at w; omega) (jkp_trans (jkp_lo f2 fun a j w => by omega) (jkp_trans (jkp_lo f3 fun a j w => by unfold b_FJ at w; omega) (jkp_lo f4 fun a j w => by unfold b_FM at w; omega)))
          have fl : ∀ i, i < bs.length → jI H4 (b_o os i) 7 = jI Hs (b_o os i) 7 := fun i hi => by
            have := (b_o_pos hs hB hi).1
            rw [jfr_I f4 (by unfold b_FM; omega), jfr_I f3 (by unfold b_FJ; omega), jfr_I f2 (by omega), jfr_I f1 (by unfold b_T401; omega)]
          have c5 : jI H4 398 5 = jI Hs 398 5 := by
            rw [jfr_I f4 (by unfold b_FM; omega), jfr_I f3 (by unfold b_FJ; omega), jfr_I f2 (by omega), jfr_I f1 (by unfold b_T401; omega)]
          refine jT_ret (hk n bad 0 f H4 (Or.inr ⟨cW, f, hf, Or.inl ⟨hv, rfl, rfl, rfl⟩⟩) s4 f4' ⟨hw, B4, L4, b_wk_kp hW hB kp, fun i hi => (fl i hi).trans (hbd i hi), b_right_new hw hnl htl hr hf hv, hclo, c5.trans hcnt, b_KA_fr K3 f4 fun a j w => by unfold b_FM at w; omega, b_MZ_fr M3 s4 f4 fun a j w => by unfold b_FM at w; omega⟩ fun _ => ⟨hf, F4⟩)
      · -- the first that is wrong
        have B3 : b_BC nb bs os H3 := b_BC_fr B2 f3 fun a j w => by unfold b_FJ at w; omega
        have L3 : b_LN bs os tip H3 := b_LN_fr L2 f3 fun a j w => by unfold b_FJ at w; omega
        have f3' : jfr (b_FD os) Hs H3 := jfr_trans f2' (jfr_mono f3 fun a j w => by unfold b_FJ at w; unfold b_FD; omega)
        obtain ⟨g1, g2, g3, g4⟩ := hg
        obtain ⟨q1, q2, q3⟩ := b_at_ok hw hnl g2
        have hc1 := b_ht_pos hw q3 (by omega)
        have e401 : jR H3 401 g = b_o os (b_at bs n g) := (jfr_R f3 (by unfold b_FJ; omega)).trans (r2 g g1 g2)
        have kp3 : jkp nb Hs H3 := jkp_trans (jkp_lo f1 fun a j w => by unfold b_T401 at w; omega) (jkp_trans (jkp_lo f2 fun a j w => by omega) (jkp_lo f3 fun a j w => by unfold b_FJ at w; omega))
        have fl : ∀ i, i < bs.length → jI H3 (b_o os i) 7 = jI Hs (b_o os i) 7 := fun i hi => by
          have := (b_o_pos hs hB hi).1
          rw [jfr_I f3 (by unfold b_FJ; omega), jfr_I f2 (by omega), jfr_I f1 (by unfold b_T401; omega)]
        have bd3 : b_bd os bs.length bad H3 := fun i hi => (fl i hi).trans (hbd i hi)
        have hposg := (b_o_pos s3 B3 q3).1
        have W3 : b_wk W os bs.length H3 := b_wk_kp hW hB kp3
        -- it is condemned, and the tip stays
        have rest : ∀ code, code = b_cod bs n g → jT (B_1_adopt_189 (F_1_adopt_50 (fu + 1)) 398 (b_o os n) 1 0 (Int32.ofNat g) code H3) (fun x h => jT (k x h) Q) := by
          intro code ecode
          unfold B_1_adopt_189
          rw [sR_398_8 s3, jo_nat (n := g) (by omega), e401]
          refine jT_g (k1 s3) (jT_g (gA (sK_401 s3) (jo_in (by omega) (by show _ < 300; omega))) (jT_g (k1 s3) (z1_condemn hw s3 B3 bd3 hclo q3 hc1 fun H4 s4 f4 B4 bd4 c4 => jT_l ?_)))
          have o400 : ∀ a j, b_FC7 os a j → (a = 398 ∧ j = 5) ∨ (j = 7 ∧ 410 ≤ a) := fun a j w => by
            rcases w with w | ⟨w1, i, hi, w2⟩
            · exact Or.inl w
            · have := (b_o_pos s3 B3 (i := i) (by rw [← hB.1]; exact hi)).1
              exact Or.inr ⟨w1, by omega⟩
          have L4 : b_LN bs os tip H4 := b_LN_fr L3 f4 fun a j w => by have := o400 a j w; omega
          have kp4 : jkp nb H3 H4 := jkp_fr f4 fun a j ha w => by
            rcases w with w | ⟨w1, i, hi, w2⟩
            · unfold b_dy at ha
              omega
            · rw [w2]
              exact ⟨(b_o_pos s3 B3 (i := i) (by rw [← hB.1]; exact hi)).2, w1⟩
          have W4 : b_wk W os bs.length H4 := b_wk_kp W3 B3 kp4
          have f4' : jfr (b_FD os) Hs H4 := jfr_trans f3' (jfr_mono f4 fun a j w => by
            rcases w with w | w
            · unfold b_FD; omega
            · exact Or.inr (Or.inr (Or.inr w)))
          have htb : b_bad' bs bad (b_at bs n g) tip = false := by
            cases hb : b_bad' bs bad (b_at bs n g) tip with
            | false => rfl
            | true =>
              rcases b_bad'_t.mp hb with w | w
              · rw [hmx.2.1] at w
                cases w
              · exact absurd w (b_fst_tip hw hnl hf ⟨g1, g2, g3, g4⟩)
          have hmono : ∀ j, b_bad' bs bad (b_at bs n g) j = false → bad j = false := fun j hj => by
            cases hb : bad j with
            | false => rfl
            | true =>
              have := b_bad'_t (bs := bs) (c := b_at bs n g) (j := j) |>.mpr (Or.inl hb)
              rw [hj] at this
              cases this
          have hnb : b_bad' bs bad (b_at bs n g) n = true := b_bad'_t.mpr (Or.inr ⟨by rw [q2]; exact g2, by rw [q2]⟩)
          have mx4 : b_max W (b_bad' bs bad (b_at bs n g)) tip bs.length := by
            rw [← hn]
            exact b_max_add (b_max_bad hmx htb hmono) fun w => by rw [hnb] at w; cases w
          have e01 : (0 : Int32) + 1 = 1 := rfl
          have B4t := (B4.2.2.2.2 tip htl).2
          have ht6 : jI H4 (b_o os tip) 6 = Int32.ofNat (b_ht bs tip) := B4t.1.2.2.2.1
          rw [e01]
          unfold F_1_adopt_50 B_1_adopt_50
          rw [z1_best hw s4 B4 L4 W4 bd4, jb_ok, b_bst_tip mx4, L4.2.1]
          refine jT_neg (by decide) (jT_g (k1 s4) (jT_g (k1 s4) (jT_g ⟨Or.inr (by unfold jF0; omega), Or.inr (by unfold jF0; omega)⟩ (jT_neg (fun w => w rfl) ?_))))
          unfold B_1_adopt_207 B_1_adopt_222
          rw [L4.2.1, ht6]
          refine jT_neg (by decide) (jT_g (k1 s4) (jT_g B4t.1.1 (jT_g (k1 s4) (z1_replay hw s4 B4 L4 (Nat.le_refl _) hr fun H5 s5 f5 K5 => ?_))))
          have kp5 : jkp nb H4 H5 := jkp_lo f5 fun a j w => by unfold b_FA at w; omega
          have M5 : b_MZ H5 := by
            refine b_MZ_fr ?_ s5 f5 fun a j w => by unfold b_FA at w; omega
            exact b_MZ_fr M3 s4 f4 fun a j w => by have := o400 a j w; omega
          have clo5 : b_clo bs (b_bad' bs bad (b_at bs n g)) := fun i h1 h2 h3 => by
            rcases b_bad'_t.mp h3 with w | w
            · exact b_bad'_t.mpr (Or.inl (hclo i h1 h2 w))
            · exact b_bad'_t.mpr (Or.inr ((b_on_pa hw h2 h1).mpr (Or.inr w)))
          refine jT_ret (hk tip _ code f H5 (Or.inr ⟨cW, f, hf, Or.inr ⟨g, ⟨g1, g2, g3, g4⟩, rfl, rfl, ecode⟩⟩) s5 (jfr_trans f4' (jfr_mono f5 fun a j w => by unfold b_FA at w; unfold b_FD; omega)) ⟨hw, b_BC_fr B4 f5 fun a j w => by unfold b_FA at w; omega, b_LN_fr L4 f5 fun a j w => by unfold b_FA at w; omega, b_wk_kp W4 B4 kp5, fun i hi => (jfr_I f5 (by have := (b_o_pos s4 B4 hi).1; unfold b_FA; omega)).trans (bd4 i hi), hr, clo5, (jfr_I f5 (by unfold b_FA; omega)).trans c4, K5, M5⟩ fun w => absurd rfl w)
        unfold B_1_adopt_156
        rw [sR_398_8 s3, jo_nat (n := g) (by omega), e401]
        refine jT_pos g3 (jT_g (k1 s3) (jT_g (gA (sK_401 s3) (jo_in (by omega) (by show _ < 300; omega))) (jT_g ⟨Or.inr (by unfold jF0; omega), Or.inr (by unfold jF0; omega)⟩ ?_)))
        by_cases cg : g = b_ht bs n
        · have eg : b_at bs n g = n := by rw [cg, b_at_self]
          refine jT_neg (fun w => w (by rw [eg])) (rest _ ?_)
          unfold b_cod
          rw [if_pos cg, eg]
        · refine jT_pos (fun w => ?_) (rest 22 ?_)
          · have := b_o_inj B3 q3 hnl w
            rw [this] at q2
            exact cg q2.symm
          · unfold b_cod
            rw [if_neg cg]
    refine jT_neg (fun w => w rfl) (jT_g (k1 s1) ?_)
    have B1t := (B1.2.2.2.2 tip htl).2
    rw [L1.2.1, show jI H1 (b_o os tip) 6 = Int32.ofNat (b_ht bs tip) from B1t.1.2.2.2.1]
    refine jT_g B1t.1.1 ?_
    by_cases ct : b_ht bs tip ≤ f
    · have ef : f = b_ht bs tip := by omega
      refine jT_pos (by rw [jo_le (by omega) (by omega)]; exact ct) (go H1 s1 jfr_refl ?_)
      rw [ef]
      exact K1
    · refine jT_neg (by rw [jo_le (by omega) (by omega)]; exact ct) ?_
      unfold B_1_adopt_100
      exact jT_g (k1 s1) (z1_replay hw s1 B1 L1 hft hr fun H2 s2 f2 K2 => go H2 s2 f2 K2)
  · -- the tip stays
    have mx : b_max W bad tip bs.length := by
      rw [← hn]
      exact b_max_add hmx fun _ => by omega
    rw [b_bst_tip mx]
    unfold B_1_adopt_207 B_1_adopt_222
    exact jT_neg (by decide) (jT_g (k1 hs) (jT_g (k1 hs) (jT_g ⟨Or.inr (by unfold jF0; omega), Or.inr (by unfold jF0; omega)⟩ (jT_neg (fun w => w rfl) (jT_pos rfl (jT_ret (hk tip bad 0 0 Hs (Or.inl ⟨by omega, rfl, rfl, rfl⟩) hs jfr_refl ⟨hw, hB, hL, hW, hbd, hr, hclo, hcnt, hK, hM⟩ fun w => absurd rfl w)))))))
end AD1
