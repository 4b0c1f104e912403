/-! The reference looks for its tip when one block more is known. -/
theorem b_isf_s {bs : List b_k} {x y f : Nat} (h : b_isf bs x y f) : b_isf bs y x f := ⟨h.2.1, h.1, h.2.2.1.symm, fun g g1 g2 g3 e => h.2.2.2 g g1 g3 g2 e.symm⟩
theorem b_seq_pos {h : Nat} : ∀ {r : List b_t} {rt : Bool} {S : b_st}, (b_seq h rt r S).1 = 0 ∨ ¬ (b_seq h rt r S).1 ≤ 0
  | [], _, _ => Or.inl rfl
  | x :: r, rt, S => by
    unfold b_seq
    by_cases c : (b_one h rt x S).1 = 0
    · rw [if_pos c]
      exact b_seq_pos
    · rw [if_neg c]
      refine Or.inr ?_
      have mk : ∀ d m, b_mk S.1 x d m = 0 ∨ ¬ b_mk S.1 x d m ≤ 0 := fun d m => by
        unfold b_mk
        by_cases c1 : ∃ j, j < x.2.2.2.1.length ∧ w_fd S.1 x.1 j 0 ≠ none
        · rw [b_pos c1]
          exact Or.inr (by decide)
        · rw [b_neg c1]
          unfold w_mk37
          split
          · exact Or.inr (by decide)
          · split
            · exact Or.inl rfl
            · exact Or.inr (by decide)
      unfold b_one at c ⊢
      by_cases c1 : rt = true
      · rw [if_pos c1] at c ⊢
        by_cases c2 : b_mk S.1 x 0 S.2.1 = 0
        · rw [if_pos c2] at c
          exact absurd rfl c
        · rw [if_neg c2]
          exact (mk _ _).resolve_left c2
      · rw [if_neg c1] at c ⊢
        by_cases c2 : b_jd (Int32.ofNat h) S.1 x.2.1 x.2.2 = 0
        · rw [if_pos c2] at c ⊢
          cases hs : b_scr S.1 x.2.1 x.2.2 S.2.2.2 with
          | none => exact show ¬ (34 : Int32) ≤ 0 by decide
          | some l =>
            rw [hs] at c
            show ¬ (if b_mk S.1 x x.2.2.1.length S.2.1 = 0 then ((0 : Int32), b_nxt h rt x S l) else (b_mk S.1 x x.2.2.1.length S.2.1, S)).1 ≤ 0
            have c' : ¬ (if b_mk S.1 x x.2.2.1.length S.2.1 = 0 then ((0 : Int32), b_nxt h rt x S l) else (b_mk S.1 x x.2.2.1.length S.2.1, S)).1 = 0 := c
            by_cases c3 : b_mk S.1 x x.2.2.1.length S.2.1 = 0
            · rw [if_pos c3] at c'
              exact absurd rfl c'
            · rw [if_neg c3]
              exact (mk _ _).resolve_left c3
        · rw [if_neg c2]
          show ¬ b_jd (Int32.ofNat h) S.1 x.2.1 x.2.2 ≤ 0
          unfold b_jd at c2 ⊢
          by_cases d1 : ∃ i, i < x.2.2.1.length ∧ w_cf S.1 x.2.1 x.2.2 i = none
          · rw [b_pos d1]
            decide
          · rw [b_neg d1] at c2 ⊢
            by_cases d2 : ∃ i c, i < x.2.2.1.length ∧ w_cf S.1 x.2.1 x.2.2 i = some c ∧ w_unr (Int32.ofNat h) c
            · rw [b_pos d2]
              decide
            · rw [b_neg d2] at c2 ⊢
              by_cases d3 : w_sum x.2.1 x.2.2 ≤ w_tot S.1 x.2.1 x.2.2 x.2.2.1.length
              · rw [b_pos d3] at c2
                exact absurd rfl c2
              · rw [b_neg d3]
                decide
theorem b_all_pos {h : Nat} {txs : List b_t} {cs : List w_cn} {m : Nat} : (b_all h txs cs m).1 = 0 ∨ ¬ (b_all h txs cs m).1 ≤ 0 := by
  unfold b_all
  by_cases c : (b_seq h true txs (cs, m, 0, 24)).1 = 0
  · rw [if_pos c]
    split
    · exact Or.inl rfl
    · exact Or.inr (show ¬ (35 : Int32) ≤ 0 by decide)
  · rw [if_neg c]
    exact b_seq_pos
/-- all that the reference's chain is between calls -/
def b_RS (bs : List b_k) (W : Nat → Nat) (bad : Nat → Bool) (tip : Nat) (H : jH) : Prop :=
  b_wf bs ∧ b_T bs H ∧ b_D bs H ∧ b_sm W bs.length H ∧ b_fl16 bs.length bad H ∧ tip < bs.length ∧ jI H 421 13 = Int32.ofNat tip ∧ b_right bs tip ∧ (∀ k, k < bs.length → jI H 477 k = 1 → b_right bs k) ∧ (∀ k, bs.length ≤ k → k < 300 → jI H 477 k = 0 ∧ jI H 478 k = 0) ∧ (∃ c, b_KC bs c H) ∧ w_p13 H
def b_FE : Nat → Nat → Prop := fun a j => b_FL a j ∨ a = 477 ∨ a = 478 ∨ a = 450 ∨ (a = 421 ∧ j = 13)
section CHO
variable {α : Type} {tip n : Nat} {bs : List b_k} {Hs : jH} {bad : Nat → Bool} {W : Nat → Nat}
theorem b_right_self {k : Nat} (h : b_right bs k) (hk : 1 ≤ b_ht bs k) : (b_v bs k).1 = 0 := by
  have := h (b_ht bs k) hk (Nat.le_refl _)
  rwa [b_at_self] at this
theorem b_choose {Q : α → jH → Prop} {k : Unit → jH → Option (α × jH)} (hs : jsh Hs) (hw : b_wf bs) (hT : b_T bs Hs) (hD : b_D bs Hs) (hS : b_sm W bs.length Hs) (hfl : b_fl16 bs.length bad Hs) (h13 : jI Hs 421 13 = Int32.ofNat tip) (hr : b_right bs tip) (h477 : ∀ k, k < bs.length → jI Hs 477 k = 1 → b_right bs k) (h478 : jI Hs 478 n = 0)
    (hlo : ∀ k, bs.length ≤ k → k < 300 → jI Hs 477 k = 0 ∧ jI Hs 478 k = 0) (hKC : ∃ c, b_KC bs c Hs) (hp : w_p13 Hs) (hn : n + 1 = bs.length) (htn : tip < n) (hmx : b_max W bad tip n) (hbn : bad n = false) (hb0 : bad 0 = false) (hclo : b_clo bs bad)
    (hk : ∀ tip' bad' code H', b_cho bs W bad tip n tip' bad' code → jsh H' → jfr b_FE Hs H' → b_RS bs W bad' tip' H' → (bad' n = true → (jI H' 478 n = 0 ∧ code = 22) ∨ (jI H' 478 n = code ∧ ¬ code ≤ 0)) → (bad' n = false → code = 0) → jT (k () H') Q) : jT (jb (F_18_choose 421 Hs) k) Q := by
  have l300 := hw.2.1
  have hnl : n < bs.length := by omega
  have htl : tip < bs.length := by omega
  have hn3 := b_ht_300 hw hnl
  have ht3 := b_ht_300 hw htl
  have k18 : ∀ {H}, jsh H → (jK H 421).1 = 18 := fun hs => gT (sK_421 hs)
  have k16 : ∀ {H}, jsh H → (jK H 445).1 = 16 := fun hs => gT (sK_445 hs)
  have nT : ∀ a j, b_FE a j → (a < 445 ∨ 450 ≤ a) ∨ (a = 445 ∧ j ≠ 1) := fun a j w => by unfold b_FE b_FL at w; omega
  have nD : ∀ a j, b_FE a j → a ≠ 474 ∧ a ≠ 475 ∧ a ≠ 476 ∧ a ≠ 479 := fun a j w => by unfold b_FE b_FL at w; omega
  have n451 : ∀ j, ¬ b_FE 451 j := fun j w => by unfold b_FE b_FL at w; omega
  unfold F_18_choose
  rw [sR_421_3 hs, b_tip16 hw hs hT hS hfl, h13]
  refine jT_b (jT_g (k18 hs) (jT_l (jT_g (k18 hs) (jT_g (k16 hs) ?_))))
  rw [jb_ok]
  obtain ⟨fu, efu⟩ : ∃ fu, jfuel = fu + 2 := ⟨4294967294, rfl⟩
  rw [efu]
  unfold F_18_choose_13 B_18_choose_13
  by_cases cW : W tip < W n
  · have eb : b_bst W bad 0 bs.length = n := by
      rw [← hn]
      exact b_bst_new hmx hbn cW (by omega) hb0
    rw [eb]
    obtain ⟨f, hf⟩ := b_isf_ex hw hnl htl
    obtain ⟨f1, f2, f3, f4⟩ := hf
    have hfs := b_isf_s ⟨f1, f2, f3, f4⟩
    obtain ⟨q1, q2, q3⟩ := b_at_ok hw htl f2
    have ef1 : Int32.ofNat f + 1 = Int32.ofNat (f + 1) := jo_add (a := f) (b := 1)
    rw [sR_421_3 hs, b_fork hw hs hT htl hnl hfs, jb_ok, b_height hw hs hT q3, jb_ok, q2, ef1]
    refine jT_neg (fun w => absurd ((jo_eq (by omega) (by omega)).mp w) (by omega)) (jT_g (k18 hs) (jT_g (k16 hs) (jT_g (k18 hs) (jT_l ?_))))
    -- the loop over the heights
    have loop : ∀ (d h fu2 : Nat) (H : jH), h + d = b_ht bs n → f ≤ h → d + 1 < fu2 → jsh H → jfr b_FE Hs H → w_p13 H → (∃ c, b_KC bs c H) → (∀ k, k < bs.length → jI H 477 k = 1 → b_right bs k) → (∀ k, bs.length ≤ k → k < 300 → jI H 477 k = 0 ∧ jI H 478 k = 0) → jI H 478 n = 0 → jI H 421 13 = Int32.ofNat tip → b_fl16 bs.length bad H → (∀ i, f < i → i ≤ h → (b_v bs (b_at bs n i)).1 = 0) → jT (F_18_choose_37 (F_18_choose_13 (fu + 1)) fu2 421 (Int32.ofNat tip) (Int32.ofNat n) (-1) (Int32.ofNat (h + 1)) H) (fun x h => jT (k x h) Q) := by
      intro d
      induction d with
      | zero =>
        intro h fu2 H hd hfh hfu hs1 hfr hp1 hC1 h1 h2 h3 h4 h5 hv
        obtain ⟨fu2, rfl⟩ : ∃ k, fu2 = k + 1 := ⟨fu2 - 1, by omega⟩
        have hT1 := b_T_fr hT hfr nT
        have hD1 := b_D_fr hD hfr nD
        have hS1 := b_sm_fr hS hfr n451
        have ehn : h = b_ht bs n := by omega
        have s2 : jsh (jsI H 421 13 (Int32.ofNat n)) := jsh_sI hs1 (by decide)
        have g2 : jfr (fun a j => a = 421 ∧ j = 13) H (jsI H 421 13 (Int32.ofNat n)) := jfr_sI jfr_refl ⟨rfl, rfl⟩
        have g2' : jfr b_FE Hs (jsI H 421 13 (Int32.ofNat n)) := jfr_trans hfr (jfr_mono g2 fun a j w => Or.inr (Or.inr (Or.inr (Or.inr w))))
        have hv' : ∀ i, f < i → i ≤ b_ht bs n → (b_v bs (b_at bs n i)).1 = 0 := fun i i1 i2 => hv i i1 (by omega)
        have hrn := b_right_new hw hnl htl hr ⟨f1, f2, f3, f4⟩ hv'
        obtain ⟨c, hC1⟩ := hC1
        unfold F_18_choose_37 B_18_choose_37 B_18_choose_120
        rw [b_height hw hs1 hT1 hnl, jb_ok]
        refine jT_g (k18 hs1) (jT_pos (by rw [jo_lt (by omega) (by omega)]; omega) (jT_neg (by decide) (jT_g (k18 hs1) (jT_l (jT_ret (hk n bad 0 _ (Or.inr ⟨cW, f, ⟨f1, f2, f3, f4⟩, Or.inl ⟨hv', rfl, rfl, rfl⟩⟩) s2 g2' ⟨hw, b_T_fr hT g2' nT, b_D_fr hD g2' nD, b_sm_fr hS g2' n451, fun i hi => (jfr_I g2 fun w => by omega).trans (h5 i hi), hnl, jI_sIe, hrn, fun i hi w => h1 i hi ((jfr_I g2 fun w => by omega).symm.trans w), fun i hi hi2 => ⟨(jfr_I g2 fun w => by omega).trans (h2 i hi hi2).1, (jfr_I g2 fun w => by omega).trans (h2 i hi hi2).2⟩, ⟨c, (jfr_I g2 fun w => by omega).trans hC1.1, hC1.2.1, hC1.2.2.1, b_KB_fr hC1.2.2.2 g2 fun a j w => by omega⟩, w_p13_T hp1 g2 fun a j w => by omega⟩ (fun w => by rw [hbn] at w; cases w) fun _ => rfl))))))
      | succ d ih =>
        intro h fu2 H hd hfh hfu hs1 hfr hp1 hC1 h1 h2 h3 h4 h5 hv
        obtain ⟨fu2, rfl⟩ : ∃ k, fu2 = k + 1 := ⟨fu2 - 1, by omega⟩
        have hT1 := b_T_fr hT hfr nT
        have hD1 := b_D_fr hD hfr nD
        obtain ⟨p1, p2, p3⟩ := b_at_ok hw hnl (h := h + 1) (by omega)
        have hk1 := b_ht_pos hw p3 (by omega)
        obtain ⟨r1, r2, -⟩ := hw.2.2.2.2 _ hk1 p3
        have e1 : Int32.ofNat (h + 1) + 1 = Int32.ofNat (h + 1 + 1) := jo_add (a := h + 1) (b := 1)
        obtain ⟨y, ey⟩ : ∃ y, y = b_at bs n (h + 1) := ⟨_, rfl⟩
        rw [← ey] at p1 p2 p3 hk1 r1 r2
        have epa : b_pa bs y = b_at bs n h := by
          have g1 : b_at bs (b_at bs n (h + 1)) h = b_at bs n h := b_at_at hw hnl (by omega) (by omega)
          rw [← ey, b_at_pa hw p3 hk1 (by omega)] at g1
          rw [← g1, show h = b_ht bs (b_pa bs y) by omega, b_at_self]
        have hpr : b_right bs (b_pa bs y) := by
          rw [epa]
          intro i i1 i2
          rw [(b_at_ok hw hnl (show h ≤ b_ht bs n by omega)).2.1] at i2
          rw [b_at_at hw hnl (by omega) i2]
          by_cases ci : i ≤ f
          · rw [b_isf_lo hw hnl htl ⟨f1, f2, f3, f4⟩ i ci]
            exact hr i i1 (by omega)
          · exact hv i (by omega) i2
        unfold F_18_choose_37 B_18_choose_37
        rw [b_height hw hs1 hT1 hnl, jb_ok, sR_421_3 hs1, b_below hw hs1 hT1 hnl (by omega), jb_ok, ← ey, sR_421_9 hs1, sR_421_10 hs1, jo_nat (n := y) (by omega)]
        refine jT_g (k18 hs1) (jT_neg (by rw [jo_lt (by omega) (by omega)]; omega) (jT_neg (by decide) (jT_g (k18 hs1) (jT_g (k16 hs1) (jT_g (k18 hs1) (jT_g (gA (sK_477 hs1) (jo_in (by omega) (by show _ < 300; omega))) ?_))))))
        by_cases c1 : jI H 477 y = 1
        · have hv0 := b_right_self (h1 y p3 c1) (by omega)
          unfold B_18_choose_114
          rw [e1]
          refine jT_neg (fun w => w c1) (jT_l (ih (h + 1) fu2 H (by omega) (by omega) (by omega) hs1 hfr hp1 hC1 h1 h2 h3 h4 h5 fun i i1 i2 => ?_))
          by_cases ci : i = h + 1
          · rw [ci, ← ey]
            exact hv0
          · exact hv i i1 (by omega)
        · obtain ⟨c, hC1⟩ := hC1
          refine jT_pos c1 (jT_g (k18 hs1) (jT_g (k18 hs1) (b_look hw hs1 hT1 hD1 p3 hk1 hpr hC1 hp1 fun H2 s2 fr2 p2' C2 => ?_)))
          have x1 : ∀ j, jI H2 477 j = jI H 477 j := fun j => jfr_I fr2 fun w => by unfold b_FL at w; omega
          have x2 : ∀ j, jI H2 478 j = jI H 478 j := fun j => jfr_I fr2 fun w => by unfold b_FL at w; omega
          have x3 : ∀ j, jI H2 450 j = jI H 450 j := fun j => jfr_I fr2 fun w => by unfold b_FL at w; omega
          have x4 : jI H2 421 13 = Int32.ofNat tip := (jfr_I fr2 fun w => by unfold b_FL at w; omega).trans h4
          refine jT_g (by rw [sK_478 s2]; exact ⟨rfl, by decide, jo_in (by omega) (by show _ < 300; omega)⟩) (jT_l ?_)
          have s3 : jsh (jsI H2 478 y (b_v bs y).1) := jsh_sI s2 (by decide)
          have fr3 : jfr (fun a _ => a = 478) H2 (jsI H2 478 y (b_v bs y).1) := jfr_sI jfr_refl rfl
          have v3 : jI (jsI H2 478 y (b_v bs y).1) 478 y = (b_v bs y).1 := jI_sIe
          have w3 : ∀ j, j ≠ y → jI (jsI H2 478 y (b_v bs y).1) 478 j = jI H 478 j := fun j hj => (jI_sIn hj).trans (x2 j)
          generalize jsI H2 478 y (b_v bs y).1 = H3 at s3 fr3 v3 w3
          have fr3' : jfr b_FE Hs H3 := jfr_trans hfr (jfr_trans (jfr_mono fr2 fun a j w => Or.inl w) (jfr_mono fr3 fun a j w => Or.inr (Or.inr (Or.inl w))))
          have C3 : b_KC bs (if (b_v bs y).1 = 0 then y else b_pa bs y) H3 := ⟨(jfr_I fr3 fun w => by omega).trans C2.1, C2.2.1, C2.2.2.1, b_KB_fr C2.2.2.2 fr3 fun a j w => by omega⟩
          have p3' : w_p13 H3 := w_p13_T p2' fr3 fun a j w => by omega
          have y1 : ∀ j, jI H3 477 j = jI H 477 j := fun j => (jfr_I fr3 fun w => by omega).trans (x1 j)
          have y3 : ∀ j, jI H3 450 j = jI H 450 j := fun j => (jfr_I fr3 fun w => by omega).trans (x3 j)
          have y4 : jI H3 421 13 = Int32.ofNat tip := (jfr_I fr3 fun w => by omega).trans x4
          rw [sR_421_10 s3, v3]
          refine jT_g (k18 s3) (jT_g (gA (sK_478 s3) (jo_in (by omega) (by show _ < 300; omega))) ?_)
          by_cases c0 : (b_v bs y).1 = 0
          · -- it is right
            rw [if_pos c0] at C3
            rw [sR_421_9 s3]
            refine jT_neg (fun w => w c0) (jT_g (k18 s3) (jT_g (by rw [sK_477 s3]; exact ⟨rfl, by decide, jo_in (by omega) (by show _ < 300; omega)⟩) (jT_l ?_)))
            have s4 : jsh (jsI H3 477 y 1) := jsh_sI s3 (by decide)
            have fr4 : jfr (fun a _ => a = 477) H3 (jsI H3 477 y 1) := jfr_sI jfr_refl rfl
            unfold B_18_choose_114
            rw [e1]
            refine jT_l (ih (h + 1) fu2 _ (by omega) (by omega) (by omega) s4 (jfr_trans fr3' (jfr_mono fr4 fun a j w => Or.inr (Or.inl w))) (w_p13_T p3' fr4 fun a j w => by omega) ⟨y, (jfr_I fr4 fun w => by omega).trans C3.1, C3.2.1, C3.2.2.1, b_KB_fr C3.2.2.2 fr4 fun a j w => by omega⟩ (fun j hj w => ?_) (fun j hj hj2 => ⟨?_, ?_⟩) ?_ ((jfr_I fr4 fun w => by omega).trans y4) (fun i hi => (jfr_I fr4 fun w => by omega).trans ((y3 i).trans (h5 i hi))) fun i i1 i2 => ?_)
            · by_cases cj : j = y
              · rw [cj]
                exact C3.2.2.1
              · exact h1 j hj ((y1 j).symm.trans ((jI_sIn cj).symm.trans w))
            · exact (jI_sIn (by omega)).trans ((y1 j).trans (h2 j hj hj2).1)
            · exact (jfr_I fr4 fun w => by omega).trans ((w3 j (by omega)).trans (h2 j hj hj2).2)
            · refine (jfr_I fr4 fun w => by omega).trans ?_
              by_cases cy : n = y
              · rw [cy, v3]
                exact c0
              · exact (w3 n cy).trans h3
            · by_cases ci : i = h + 1
              · rw [ci, ← ey]
                exact c0
              · exact hv i i1 (by omega)
          · -- it is wrong
            rw [if_neg c0] at C3
            have hT3 := b_T_fr hT fr3' nT
            have hS3 := b_sm_fr hS fr3' n451
            have hbad : bad y = false := by
              cases hb : bad y with
              | false => rfl
              | true =>
                -- then the new one would be bad
                have up : ∀ (e i : Nat), i + e = b_ht bs n → b_ht bs y ≤ i → bad (b_at bs n i) = true → False := by
                  intro e
                  induction e with
                  | zero =>
                    intro i hi _ hbi
                    rw [show i = b_ht bs n by omega, b_at_self, hbn] at hbi
                    cases hbi
                  | succ e ihe =>
                    intro i hi hyi hbi
                    refine ihe (i + 1) (by omega) (by omega) ?_
                    obtain ⟨z1, z2, z3⟩ := b_at_ok hw hnl (h := i + 1) (by omega)
                    have z4 := b_ht_pos hw z3 (by omega)
                    refine hclo _ z4 z3 ?_
                    have g1 : b_at bs (b_at bs n (i + 1)) i = b_at bs n i := b_at_at hw hnl (by omega) (by omega)
                    obtain ⟨w1, w2, -⟩ := hw.2.2.2.2 _ z4 z3
                    rw [b_at_pa hw z3 z4 (by omega)] at g1
                    have sf : b_at bs (b_pa bs (b_at bs n (i + 1))) (b_ht bs (b_pa bs (b_at bs n (i + 1)))) = b_pa bs (b_at bs n (i + 1)) := b_at_self
                    rw [show b_ht bs (b_pa bs (b_at bs n (i + 1))) = i by omega] at sf
                    rw [← sf, g1]
                    exact hbi
                exact (up (b_ht bs n - (h + 1)) (h + 1) (by omega) (by omega) (by rw [← ey]; exact hb)).elim
            have fl3 : b_fl16 bs.length bad H3 := fun i hi => (y3 i).trans (h5 i hi)
            have hg : b_fst bs n f (h + 1) := ⟨by omega, by omega, by rw [← ey]; exact c0, fun i i1 i2 => hv i i1 (by omega)⟩
            obtain ⟨fu2, rfl⟩ : ∃ k, fu2 = k + 1 := ⟨fu2 - 1, by omega⟩
            have spoil : jT (B_18_choose_120 (F_18_choose_13 (fu + 1)) 421 (Int32.ofNat tip) (Int32.ofNat n) (Int32.ofNat y) H3) (fun x h => jT (k x h) Q) := by
              unfold B_18_choose_120
              rw [sR_421_3 s3]
              refine jT_pos (by show Int32.ofNat 0 ≤ _; rw [jo_le (by decide) (by omega)]; exact Nat.zero_le _) (jT_g (k18 s3) (jT_g (k16 s3) (b_spoil16 hw s3 hT3 fl3 p3 hk1 hbad fun v H4 s4 fr4 fl4 => jT_g (k18 s4) ?_)))
              have hT4 : b_T bs H4 := b_T_fr hT3 fr4 fun a j w => by unfold b_T450 at w; omega
              have hS4 : b_sm W bs.length H4 := b_sm_fr hS3 fr4 fun j w => by unfold b_T450 at w; omega
              have fr4' : jfr b_FE Hs H4 := jfr_trans fr3' (jfr_mono fr4 fun a j w => Or.inr (Or.inr (Or.inr (Or.inl w))))
              have htb : b_bad' bs bad y tip = false := by
                cases hb : b_bad' bs bad y tip with
                | false => rfl
                | true =>
                  rcases b_bad'_t.mp hb with w | w
                  · rw [hmx.2.1] at w
                    cases w
                  · rw [ey] at w
                    exact absurd w (b_fst_tip hw hnl ⟨f1, f2, f3, f4⟩ hg)
              have hb0' : b_bad' bs bad y 0 = false := by
                cases hb : b_bad' bs bad y 0 with
                | false => rfl
                | true =>
                  rcases b_bad'_t.mp hb with w | w
                  · rw [hb0] at w
                    cases w
                  · have := b_on_0 hw p3 w
                    omega
              have hmono : ∀ j, b_bad' bs bad y j = false → bad j = false := fun j hj => by
                cases hb : bad j with
                | false => rfl
                | true =>
                  have := b_bad'_t (bs := bs) (c := y) (j := j) |>.mpr (Or.inl hb)
                  rw [hj] at this
                  cases this
              have hnb : b_bad' bs bad y n = true := b_bad'_t.mpr (Or.inr ⟨by rw [p2]; omega, by rw [p2, ey]⟩)
              have mx4 : b_max W (b_bad' bs bad y) tip bs.length := by
                rw [← hn]
                exact b_max_add (b_max_bad hmx htb hmono) fun w => by rw [hnb] at w; cases w
              rw [sR_421_3 s4, b_tip16 hw s4 hT4 hS4 fl4, jb_ok, b_bst_0 mx4 hb0']
              refine jT_g (k16 s4) ?_
              unfold F_18_choose_13 B_18_choose_13
              have hcod : b_cod bs n (h + 1) = if y = n then (b_v bs y).1 else 22 := by
                unfold b_cod
                by_cases ch : h + 1 = b_ht bs n
                · have eyn : y = n := by rw [ey, ch, b_at_self]
                  rw [if_pos ch, if_pos eyn, eyn]
                · rw [if_neg ch, if_neg]
                  intro w
                  rw [w] at p2
                  omega
              have hvy : ¬ (b_v bs y).1 ≤ 0 := (b_all_pos).resolve_left c0
              have g478 : ∀ j, jI H4 478 j = jI H3 478 j := fun j => jfr_I fr4 fun w => by unfold b_T450 at w; omega
              have q478 : (jI H4 478 n = 0 ∧ b_cod bs n (h + 1) = 22) ∨ (jI H4 478 n = b_cod bs n (h + 1) ∧ ¬ b_cod bs n (h + 1) ≤ 0) := by
                rw [hcod, g478]
                by_cases cy : y = n
                · rw [if_pos cy, ← cy, v3]
                  exact Or.inr ⟨rfl, hvy⟩
                · rw [if_neg cy]
                  exact Or.inl ⟨(w3 n fun w => cy w.symm).trans h3, rfl⟩
              refine jT_pos rfl (jT_ret (hk tip (b_bad' bs bad y) (b_cod bs n (h + 1)) H4 (Or.inr ⟨cW, f, ⟨f1, f2, f3, f4⟩, Or.inr ⟨h + 1, hg, rfl, by rw [ey], rfl⟩⟩) s4 fr4' ⟨hw, hT4, b_D_fr hD fr4' nD, hS4, fl4, htl, (jfr_I fr4 fun w => by unfold b_T450 at w; omega).trans y4, hr, fun j hj w => ?_, fun j hj hj2 => ⟨?_, ?_⟩, ⟨b_pa bs y, (jfr_I fr4 fun w => by unfold b_T450 at w; omega).trans C3.1, C3.2.1, C3.2.2.1, b_KB_fr C3.2.2.2 fr4 fun a j w => by unfold b_T450 at w; omega⟩, w_p13_T p3' fr4 fun a j w => by unfold b_T450 at w; omega⟩ (fun _ => ?_) fun w => by rw [hnb] at w; cases w))
              · exact h1 j hj ((y1 j).symm.trans ((jfr_I fr4 fun w => by unfold b_T450 at w; omega).symm.trans w))
              · exact (jfr_I fr4 fun w => by unfold b_T450 at w; omega).trans ((y1 j).trans (h2 j hj hj2).1)
              · exact (jfr_I fr4 fun w => by unfold b_T450 at w; omega).trans ((w3 j (by omega)).trans (h2 j hj hj2).2)
              · exact q478
            unfold B_18_choose_114
            rw [e1]
            refine jT_pos c0 (jT_l ?_)
            unfold F_18_choose_37 B_18_choose_37
            rw [b_height hw s3 hT3 hnl, jb_ok]
            refine jT_g (k18 s3) (jT_if (fun _ => spoil) fun _ => jT_pos (by show Int32.ofNat 0 ≤ _; rw [jo_le (by decide) (by omega)]; exact Nat.zero_le _) spoil)
    exact loop (b_ht bs n - f) f jfuel Hs (by omega) (Nat.le_refl _) (by unfold jfuel; omega) hs jfr_refl hp hKC h477 hlo h478 h13 hfl fun i i1 i2 => absurd i1 (by omega)
  · have mx : b_max W bad tip bs.length := by
      rw [← hn]
      exact b_max_add hmx fun _ => by omega
    rw [b_bst_0 mx hb0]
    exact jT_pos rfl (jT_ret (hk tip bad 0 Hs (Or.inl ⟨by omega, rfl, rfl, rfl⟩) hs jfr_refl ⟨hw, hT, hD, hS, hfl, htl, h13, hr, h477, hlo, hKC, hp⟩ (fun w => by rw [hbn] at w; cases w) fun _ => rfl))
end CHO
