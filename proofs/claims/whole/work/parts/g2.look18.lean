/-! The reference keeps its coins beside, and takes them back. -/
/-- coins as they stand in rows from r1 on (names, index, worth, height, root, lock's place and size) -/
def b_row7 (r : Nat) (cs : List w_cn) (H : jH) : Prop := ∀ k c, cs[k]? = some c → w_cok c ∧ zRow H r (32 * k) c.1 ∧ jL H (r + 1) k = Int64.ofNat c.2.1 ∧ jL H (r + 2) k = w_cv c ∧ jI H (r + 3) k = Int32.ofNat c.2.2.2.2 ∧ jI H (r + 4) k = w_rt c.2.2.1 c.2.2.2.1 ∧ jI H (r + 6) k = Int32.ofNat (w_ck c).length ∧ ∃ la llen, jI H (r + 5) k = Int32.ofNat la ∧ w_lq la llen (w_ck c) H
theorem b_row7_CB {cs : List w_cn} {H : jH} : w_CB cs H ↔ jI H 421 17 = Int32.ofNat cs.length ∧ cs.length ≤ 1500 ∧ b_row7 482 cs H := Iff.rfl
theorem w_lr_fr {T : Nat → Nat → Prop} {H H' : jH} {la llen : Nat} {l : List UInt8} (h : w_lr 474 la llen l H) (hf : jfr T H H') (hT : ∀ j, ¬ T 474 j) : w_lr 474 la llen l H' := by
  obtain ⟨b1, b2, b3, b4, b5, b6⟩ := h
  exact ⟨(jfr_K hf 474).trans b1, b2, b3, zRow_eq b4 fun i _ => jfr_B hf (hT _), b5, b6⟩
theorem w_lq_fr {T : Nat → Nat → Prop} {H H' : jH} {la llen : Nat} {l : List UInt8} (h : w_lq la llen l H) (hf : jfr T H H') (hT : ∀ j, ¬ T 474 j) (hT1 : ¬ T 445 1) : w_lq la llen l H' :=
  ⟨w_lr_fr h.1 hf hT, by rw [jfr_I hf hT1]; exact h.2⟩
theorem b_row7_fr {r : Nat} {cs : List w_cn} {T : Nat → Nat → Prop} {H H' : jH} (h : b_row7 r cs H) (hf : jfr T H H') (h474 : ∀ j, ¬ T 474 j ∧ ¬ T 445 1) (hT : ∀ a j, r ≤ a → a ≤ r + 6 → ¬ T a j) : b_row7 r cs H' := fun k c hk => by
  obtain ⟨a1, a2, a3, a4, a5, a6, a7, la, llen, a8, a9⟩ := h k c hk
  exact ⟨a1, zRow_eq a2 fun i _ => jfr_B hf (hT r _ (by omega) (by omega)), (jfr_L hf (hT _ _ (by omega) (by omega))).trans a3, (jfr_L hf (hT _ _ (by omega) (by omega))).trans a4, (jfr_I hf (hT _ _ (by omega) (by omega))).trans a5, (jfr_I hf (hT _ _ (by omega) (by omega))).trans a6, (jfr_I hf (hT _ _ (by omega) (by omega))).trans a7, la, llen, (jfr_I hf (hT _ _ (by omega) (by omega))).trans a8, w_lq_fr a9 hf (fun j => (h474 j).1) (h474 0).2⟩
/-- what one of the copies has written so far -/
def b_cpd (r q : Nat) (Hs H : jH) (i : Nat) : Prop := ∀ k, k < i → jL H (q + 1) k = jL Hs (r + 1) k ∧ jL H (q + 2) k = jL Hs (r + 2) k ∧ jI H (q + 3) k = jI Hs (r + 3) k ∧ jI H (q + 4) k = jI Hs (r + 4) k &&& 1 ∧ jI H (q + 5) k = jI Hs (r + 5) k ∧ jI H (q + 6) k = jI Hs (r + 6) k
def b_Sq (q : Nat) : Nat → Nat → Prop := fun a _ => q ≤ a ∧ a ≤ q + 6
theorem b_row7_cp {r q : Nat} {cs : List w_cn} {Hs H : jH} (h : b_row7 r cs Hs) (hf : jfr (b_Sq q) Hs H) (hq : 474 < q) (hB : ∀ i, i < 32 * cs.length → jB H q i = jB Hs r i) (hc : b_cpd r q Hs H cs.length) : b_row7 q cs H := fun k c hk => by
  obtain ⟨a1, a2, a3, a4, a5, a6, a7, la, llen, a8, a9⟩ := h k c hk
  have hl := (List.getElem?_eq_some_iff.mp hk).1
  obtain ⟨c1, c2, c3, c4, c5, c6⟩ := hc k hl
  refine ⟨a1, fun i u hi => ?_, c1.trans a3, c2.trans a4, c3.trans a5, c4.trans (by rw [a6, w_rt_1]), c6.trans a7, la, llen, c5.trans a8, w_lq_fr a9 hf (fun j w => by unfold b_Sq at w; omega) (by unfold b_Sq; omega)⟩
  have h32 : c.1.length = 32 := a1.1
  have := (List.getElem?_eq_some_iff.mp hi).1
  rw [hB _ (by omega)]
  exact a2 i u hi
section CPY
variable {Q : Unit → jH → Prop} {n : Nat} {Hs : jH}
theorem b_keep49 (hn : n ≤ 1500) (hk : ∀ H', jsh H' → jfr (b_Sq 489) Hs H' → (∀ i, i < 32 * n → jB H' 489 i = jB Hs 482 i) → b_cpd 482 489 Hs H' n → Q () H') :
    ∀ (d i fu : Nat) (H : jH), i + d = n → d < fu → jsh H → jfr (b_Sq 489) Hs H → jI H 421 17 = Int32.ofNat n → (∀ i, i < 32 * n → jB H 489 i = jB Hs 482 i) → b_cpd 482 489 Hs H i → jT (F_18_keep_49 fu 421 (Int32.ofNat i) H) Q := by
  intro d
  induction d with
  | zero =>
    intro i fu H hi hfu hs hf h17 hB hc
    obtain ⟨fu, rfl⟩ : ∃ k, fu = k + 1 := ⟨fu - 1, by omega⟩
    obtain rfl : i = n := by omega
    unfold F_18_keep_49 B_18_keep_49
    rw [h17]
    exact jT_g (gT (sK_421 hs)) (jT_pos (by rw [jo_le (by omega) (by omega)]; exact Nat.le_refl _) (jT_ret (hk H hs hf hB hc)))
  | succ d ih =>
    intro i fu H hi hfu hs hf h17 hB hc
    obtain ⟨fu, rfl⟩ : ∃ k, fu = k + 1 := ⟨fu - 1, by omega⟩
    have e1 : Int32.ofNat i + 1 = Int32.ofNat (i + 1) := jo_add (a := i) (b := 1)
    have g : jin (Int32.ofNat i) 1700 := jo_in (by omega) (by omega)
    have n0 : ∀ a j, 482 ≤ a → a ≤ 482 + 6 → ¬ b_Sq 489 a j := fun a j q1 q2 w => by unfold b_Sq at w; omega
    have u1 : jL H (482 + 1) i = jL Hs (482 + 1) i := jfr_L hf (n0 _ _ (by omega) (by omega))
    have u2 : jL H (482 + 2) i = jL Hs (482 + 2) i := jfr_L hf (n0 _ _ (by omega) (by omega))
    have u3 : jI H (482 + 3) i = jI Hs (482 + 3) i := jfr_I hf (n0 _ _ (by omega) (by omega))
    have u4 : jI H (482 + 4) i = jI Hs (482 + 4) i := jfr_I hf (n0 _ _ (by omega) (by omega))
    have u5 : jI H (482 + 5) i = jI Hs (482 + 5) i := jfr_I hf (n0 _ _ (by omega) (by omega))
    have u6 : jI H (482 + 6) i = jI Hs (482 + 6) i := jfr_I hf (n0 _ _ (by omega) (by omega))
    unfold F_18_keep_49 B_18_keep_49
    rw [h17, e1, jo_nat (n := i) (by omega)]
    refine jT_g (gT (sK_421 hs)) (jT_neg (by rw [jo_le (by omega) (by omega)]; omega) ?_)
    rw [sR_421_21 hs, sR_421_30 hs, sK_483 hs, sK_490 hs]
    refine jT_g (gT (sK_421 hs)) (jT_g (gT (sK_421 hs)) (jT_g ⟨rfl, g⟩ (jT_g ⟨rfl, g⟩ (jT_l ?_))))
    obtain ⟨H1, eH1⟩ : ∃ h, h = jsL H 490 i (jL H 483 i) := ⟨_, rfl⟩
    rw [← eH1]
    have s1 : jsh H1 := by rw [eH1]; exact jsh_sL hs
    rw [sR_421_22 s1, sR_421_31 s1, sK_484 s1, sK_491 s1]
    refine jT_g (gT (sK_421 s1)) (jT_g (gT (sK_421 s1)) (jT_g ⟨rfl, g⟩ (jT_g ⟨rfl, g⟩ (jT_l ?_))))
    obtain ⟨H2, eH2⟩ : ∃ h, h = jsL H1 491 i (jL H1 484 i) := ⟨_, rfl⟩
    rw [← eH2]
    have s2 : jsh H2 := by rw [eH2]; exact jsh_sL s1
    rw [sR_421_23 s2, sR_421_32 s2, sK_485 s2, sK_492 s2]
    refine jT_g (gT (sK_421 s2)) (jT_g (gT (sK_421 s2)) (jT_g ⟨rfl, g⟩ (jT_g ⟨rfl, by decide, g⟩ (jT_l ?_))))
    obtain ⟨H3, eH3⟩ : ∃ h, h = jsI H2 492 i (jI H2 485 i) := ⟨_, rfl⟩
    rw [← eH3]
    have s3 : jsh H3 := by rw [eH3]; exact jsh_sI s2 (by decide)
    rw [sR_421_24 s3, sR_421_33 s3, sK_486 s3, sK_493 s3]
    refine jT_g (gT (sK_421 s3)) (jT_g (gT (sK_421 s3)) (jT_g ⟨rfl, g⟩ (jT_g ⟨rfl, g⟩ (jT_l ?_))))
    obtain ⟨H4, eH4⟩ : ∃ h, h = jsI H3 493 i (jI H3 486 i &&& 1) := ⟨_, rfl⟩
    rw [← eH4]
    have s4 : jsh H4 := by rw [eH4]; exact jsh_sI s3 (by decide)
    rw [sR_421_25 s4, sR_421_34 s4, sK_487 s4, sK_494 s4]
    refine jT_g (gT (sK_421 s4)) (jT_g (gT (sK_421 s4)) (jT_g ⟨rfl, g⟩ (jT_g ⟨rfl, by decide, g⟩ (jT_l ?_))))
    obtain ⟨H5, eH5⟩ : ∃ h, h = jsI H4 494 i (jI H4 487 i) := ⟨_, rfl⟩
    rw [← eH5]
    have s5 : jsh H5 := by rw [eH5]; exact jsh_sI s4 (by decide)
    rw [sR_421_26 s5, sR_421_35 s5, sK_488 s5, sK_495 s5]
    refine jT_g (gT (sK_421 s5)) (jT_g (gT (sK_421 s5)) (jT_g ⟨rfl, g⟩ (jT_g ⟨rfl, by decide, g⟩ (jT_l ?_))))
    obtain ⟨H6, eH6⟩ : ∃ h, h = jsI H5 495 i (jI H5 488 i) := ⟨_, rfl⟩
    rw [← eH6]
    have s6 : jsh H6 := by rw [eH6]; exact jsh_sI s5 (by decide)
    refine jT_l ?_
    have fr : jfr (b_Sq 489) H H6 := by
      rw [eH6, eH5, eH4, eH3, eH2, eH1]
      exact jfr_sI (jfr_sI (jfr_sI (jfr_sI (jfr_sL (jfr_sL jfr_refl (by unfold b_Sq; omega)) (by unfold b_Sq; omega)) (by unfold b_Sq; omega)) (by unfold b_Sq; omega)) (by unfold b_Sq; omega)) (by unfold b_Sq; omega)
    have eB : jB H6 = jB H := by rw [eH6, eH5, eH4, eH3, eH2, eH1]; rfl
    have w1 : ∀ j, jL H6 490 j = if j = i then jL Hs (482 + 1) i else jL H 490 j := fun j => by
      have z6 : jL H6 490 j = jL H5 490 j := by rw [eH6]; rfl
      have z5 : jL H5 490 j = jL H4 490 j := by rw [eH5]; rfl
      have z4 : jL H4 490 j = jL H3 490 j := by rw [eH4]; rfl
      have z3 : jL H3 490 j = jL H2 490 j := by rw [eH3]; rfl
      have z2 : jL H2 490 j = jL H1 490 j := by rw [eH2]; exact jL_sLz (by decide)
      rw [z6, z5, z4, z3, z2]
      rw [eH1]
      have v : jL H 483 i = jL Hs (482 + 1) i := by
        exact u1
      rw [v]
      by_cases c : j = i
      · rw [if_pos c, c]
        exact jL_sLe
      · rw [if_neg c]
        have c1 : jL (jsL H 490 i (jL Hs (482 + 1) i)) 490 j = jL H 490 j := jup_i c
        rw [c1]
    have w2 : ∀ j, jL H6 491 j = if j = i then jL Hs (482 + 2) i else jL H 491 j := fun j => by
      have z6 : jL H6 491 j = jL H5 491 j := by rw [eH6]; rfl
      have z5 : jL H5 491 j = jL H4 491 j := by rw [eH5]; rfl
      have z4 : jL H4 491 j = jL H3 491 j := by rw [eH4]; rfl
      have z3 : jL H3 491 j = jL H2 491 j := by rw [eH3]; rfl
      rw [z6, z5, z4, z3]
      rw [eH2]
      have v : jL H1 484 i = jL Hs (482 + 2) i := by
        have y1 : jL H1 484 i = jL H 484 i := by rw [eH1]; exact jL_sLz (by decide)
        rw [y1]
        exact u2
      rw [v]
      by_cases c : j = i
      · rw [if_pos c, c]
        exact jL_sLe
      · rw [if_neg c]
        have c1 : jL (jsL H1 491 i (jL Hs (482 + 2) i)) 491 j = jL H1 491 j := jup_i c
        rw [c1]
        have x1 : jL H1 491 j = jL H 491 j := by rw [eH1]; exact jL_sLz (by decide)
        rw [x1]
    have w3 : ∀ j, jI H6 492 j = if j = i then jI Hs (482 + 3) i else jI H 492 j := fun j => by
      have z6 : jI H6 492 j = jI H5 492 j := by rw [eH6]; exact jI_sIa (by decide)
      have z5 : jI H5 492 j = jI H4 492 j := by rw [eH5]; exact jI_sIa (by decide)
      have z4 : jI H4 492 j = jI H3 492 j := by rw [eH4]; exact jI_sIa (by decide)
      rw [z6, z5, z4]
      rw [eH3]
      have v : jI H2 485 i = jI Hs (482 + 3) i := by
        have y2 : jI H2 485 i = jI H1 485 i := by rw [eH2]; rfl
        have y1 : jI H1 485 i = jI H 485 i := by rw [eH1]; rfl
        rw [y2, y1]
        exact u3
      rw [v]
      by_cases c : j = i
      · rw [if_pos c, c]
        exact jI_sIe
      · rw [if_neg c]
        have c1 : jI (jsI H2 492 i (jI Hs (482 + 3) i)) 492 j = jI H2 492 j := jI_sIn c
        rw [c1]
        have x2 : jI H2 492 j = jI H1 492 j := by rw [eH2]; rfl
        have x1 : jI H1 492 j = jI H 492 j := by rw [eH1]; rfl
        rw [x2, x1]
    have w4 : ∀ j, jI H6 493 j = if j = i then jI Hs (482 + 4) i &&& 1 else jI H 493 j := fun j => by
      have z6 : jI H6 493 j = jI H5 493 j := by rw [eH6]; exact jI_sIa (by decide)
      have z5 : jI H5 493 j = jI H4 493 j := by rw [eH5]; exact jI_sIa (by decide)
      rw [z6, z5]
      rw [eH4]
      have v : jI H3 486 i = jI Hs (482 + 4) i := by
        have y3 : jI H3 486 i = jI H2 486 i := by rw [eH3]; exact jI_sIa (by decide)
        have y2 : jI H2 486 i = jI H1 486 i := by rw [eH2]; rfl
        have y1 : jI H1 486 i = jI H 486 i := by rw [eH1]; rfl
        rw [y3, y2, y1]
        exact u4
      rw [v]
      by_cases c : j = i
      · rw [if_pos c, c]
        exact jI_sIe
      · rw [if_neg c]
        have c1 : jI (jsI H3 493 i (jI Hs (482 + 4) i &&& 1)) 493 j = jI H3 493 j := jI_sIn c
        rw [c1]
        have x3 : jI H3 493 j = jI H2 493 j := by rw [eH3]; exact jI_sIa (by decide)
        have x2 : jI H2 493 j = jI H1 493 j := by rw [eH2]; rfl
        have x1 : jI H1 493 j = jI H 493 j := by rw [eH1]; rfl
        rw [x3, x2, x1]
    have w5 : ∀ j, jI H6 494 j = if j = i then jI Hs (482 + 5) i else jI H 494 j := fun j => by
      have z6 : jI H6 494 j = jI H5 494 j := by rw [eH6]; exact jI_sIa (by decide)
      rw [z6]
      rw [eH5]
      have v : jI H4 487 i = jI Hs (482 + 5) i := by
        have y4 : jI H4 487 i = jI H3 487 i := by rw [eH4]; exact jI_sIa (by decide)
        have y3 : jI H3 487 i = jI H2 487 i := by rw [eH3]; exact jI_sIa (by decide)
        have y2 : jI H2 487 i = jI H1 487 i := by rw [eH2]; rfl
        have y1 : jI H1 487 i = jI H 487 i := by rw [eH1]; rfl
        rw [y4, y3, y2, y1]
        exact u5
      rw [v]
      by_cases c : j = i
      · rw [if_pos c, c]
        exact jI_sIe
      · rw [if_neg c]
        have c1 : jI (jsI H4 494 i (jI Hs (482 + 5) i)) 494 j = jI H4 494 j := jI_sIn c
        rw [c1]
        have x4 : jI H4 494 j = jI H3 494 j := by rw [eH4]; exact jI_sIa (by decide)
        have x3 : jI H3 494 j = jI H2 494 j := by rw [eH3]; exact jI_sIa (by decide)
        have x2 : jI H2 494 j = jI H1 494 j := by rw [eH2]; rfl
        have x1 : jI H1 494 j = jI H 494 j := by rw [eH1]; rfl
        rw [x4, x3, x2, x1]
    have w6 : ∀ j, jI H6 495 j = if j = i then jI Hs (482 + 6) i else jI H 495 j := fun j => by
      rw [eH6]
      have v : jI H5 488 i = jI Hs (482 + 6) i := by
        have y5 : jI H5 488 i = jI H4 488 i := by rw [eH5]; exact jI_sIa (by decide)
        have y4 : jI H4 488 i = jI H3 488 i := by rw [eH4]; exact jI_sIa (by decide)
        have y3 : jI H3 488 i = jI H2 488 i := by rw [eH3]; exact jI_sIa (by decide)
        have y2 : jI H2 488 i = jI H1 488 i := by rw [eH2]; rfl
        have y1 : jI H1 488 i = jI H 488 i := by rw [eH1]; rfl
        rw [y5, y4, y3, y2, y1]
        exact u6
      rw [v]
      by_cases c : j = i
      · rw [if_pos c, c]
        exact jI_sIe
      · rw [if_neg c]
        have c1 : jI (jsI H5 495 i (jI Hs (482 + 6) i)) 495 j = jI H5 495 j := jI_sIn c
        rw [c1]
        have x5 : jI H5 495 j = jI H4 495 j := by rw [eH5]; exact jI_sIa (by decide)
        have x4 : jI H4 495 j = jI H3 495 j := by rw [eH4]; exact jI_sIa (by decide)
        have x3 : jI H3 495 j = jI H2 495 j := by rw [eH3]; exact jI_sIa (by decide)
        have x2 : jI H2 495 j = jI H1 495 j := by rw [eH2]; rfl
        have x1 : jI H1 495 j = jI H 495 j := by rw [eH1]; rfl
        rw [x5, x4, x3, x2, x1]
    refine ih (i + 1) fu H6 (by omega) (by omega) s6 (jfr_trans hf fr) ((jfr_I fr (by unfold b_Sq; omega)).trans h17) (fun j hj => by rw [eB]; exact hB j hj) fun k hk2 => ?_
    show jL H6 490 k = _ ∧ jL H6 491 k = _ ∧ jI H6 492 k = _ ∧ jI H6 493 k = _ ∧ jI H6 494 k = _ ∧ jI H6 495 k = _
    rw [w1, w2, w3, w4, w5, w6]
    by_cases c : k = i
    · rw [if_pos c, if_pos c, if_pos c, if_pos c, if_pos c, if_pos c, c]
      exact ⟨rfl, rfl, rfl, rfl, rfl, rfl⟩
    · rw [if_neg c, if_neg c, if_neg c, if_neg c, if_neg c, if_neg c]
      exact hc k (by omega)
theorem b_keep18 (hn : n ≤ 1500) (hsS : jsh Hs) (h17 : jI Hs 421 17 = Int32.ofNat n) (hk : ∀ H', jsh H' → jfr (b_Sq 489) Hs H' → (∀ i, i < 32 * n → jB H' 489 i = jB Hs 482 i) → b_cpd 482 489 Hs H' n → Q () H') :
    ∀ (d i fu : Nat) (H : jH), i + d = 32 * n → d < fu → jsh H → jfr (b_Sq 489) Hs H → (∀ j, j < i → jB H 489 j = jB Hs 482 j) → jT (F_18_keep_18 fu 421 (Int32.ofNat i) H) Q := by
  intro d
  have e32 : (32 : Int32) * Int32.ofNat n = Int32.ofNat (32 * n) := jo_mul (a := 32) (b := n)
  induction d with
  | zero =>
    intro i fu H hi hfu hs hf hB
    obtain ⟨fu, rfl⟩ : ∃ k, fu = k + 1 := ⟨fu - 1, by omega⟩
    obtain rfl : i = 32 * n := by omega
    have g17 : jI H 421 17 = Int32.ofNat n := (jfr_I hf (by unfold b_Sq; omega)).trans h17
    unfold F_18_keep_18 B_18_keep_18
    rw [g17, e32]
    exact jT_g (gT (sK_421 hs)) (jT_pos (by rw [jo_le (by omega) (by omega)]; exact Nat.le_refl _) (b_keep49 hn hk n 0 jfuel H (Nat.zero_add _) (by unfold jfuel; omega) hs hf g17 hB fun k hk2 => absurd hk2 (Nat.not_lt_zero k)))
  | succ d ih =>
    intro i fu H hi hfu hs hf hB
    obtain ⟨fu, rfl⟩ : ∃ k, fu = k + 1 := ⟨fu - 1, by omega⟩
    have e1 : Int32.ofNat i + 1 = Int32.ofNat (i + 1) := jo_add (a := i) (b := 1)
    have g17 : jI H 421 17 = Int32.ofNat n := (jfr_I hf (by unfold b_Sq; omega)).trans h17
    have g : jin (Int32.ofNat i) 54400 := jo_in (by omega) (by omega)
    have ev : jB H 482 i = jB Hs 482 i := jfr_B hf (by unfold b_Sq; omega)
    unfold F_18_keep_18 B_18_keep_18
    rw [g17, e32, sR_421_20 hs, sR_421_29 hs, sK_482 hs, sK_489 hs, e1, jo_nat (n := i) (by omega), jbu_jbs, ev]
    refine jT_g (gT (sK_421 hs)) (jT_neg (by rw [jo_le (by omega) (by omega)]; omega) (jT_g (gT (sK_421 hs)) (jT_g (gT (sK_421 hs)) (jT_g ⟨rfl, g⟩ (jT_g ⟨rfl, g⟩ (jT_l (jT_l ?_)))))))
    refine ih (i + 1) fu _ (by omega) (by omega) (jsh_sB hs) (jfr_sB hf (by unfold b_Sq; omega)) fun j hj => ?_
    by_cases c : j = i
    · rw [c]
      exact jB_sBe
    · rw [jB_sBn c]
      exact hB j (by omega)
theorem b_back49 (hn : n ≤ 1500) (hk : ∀ H', jsh H' → jfr (b_Sq 482) Hs H' → (∀ i, i < 32 * n → jB H' 482 i = jB Hs 489 i) → b_cpd 489 482 Hs H' n → Q () H') :
    ∀ (d i fu : Nat) (H : jH), i + d = n → d < fu → jsh H → jfr (b_Sq 482) Hs H → jI H 421 17 = Int32.ofNat n → (∀ i, i < 32 * n → jB H 482 i = jB Hs 489 i) → b_cpd 489 482 Hs H i → jT (F_18_back_49 fu 421 (Int32.ofNat i) H) Q := by
  intro d
  induction d with
  | zero =>
    intro i fu H hi hfu hs hf h17 hB hc
    obtain ⟨fu, rfl⟩ : ∃ k, fu = k + 1 := ⟨fu - 1, by omega⟩
    obtain rfl : i = n := by omega
    unfold F_18_back_49 B_18_back_49
    rw [h17]
    exact jT_g (gT (sK_421 hs)) (jT_pos (by rw [jo_le (by omega) (by omega)]; exact Nat.le_refl _) (jT_ret (hk H hs hf hB hc)))
  | succ d ih =>
    intro i fu H hi hfu hs hf h17 hB hc
    obtain ⟨fu, rfl⟩ : ∃ k, fu = k + 1 := ⟨fu - 1, by omega⟩
    have e1 : Int32.ofNat i + 1 = Int32.ofNat (i + 1) := jo_add (a := i) (b := 1)
    have g : jin (Int32.ofNat i) 1700 := jo_in (by omega) (by omega)
    have n0 : ∀ a j, 489 ≤ a → a ≤ 489 + 6 → ¬ b_Sq 482 a j := fun a j q1 q2 w => by unfold b_Sq at w; omega
    have u1 : jL H (489 + 1) i = jL Hs (489 + 1) i := jfr_L hf (n0 _ _ (by omega) (by omega))
    have u2 : jL H (489 + 2) i = jL Hs (489 + 2) i := jfr_L hf (n0 _ _ (by omega) (by omega))
    have u3 : jI H (489 + 3) i = jI Hs (489 + 3) i := jfr_I hf (n0 _ _ (by omega) (by omega))
    have u4 : jI H (489 + 4) i = jI Hs (489 + 4) i := jfr_I hf (n0 _ _ (by omega) (by omega))
    have u5 : jI H (489 + 5) i = jI Hs (489 + 5) i := jfr_I hf (n0 _ _ (by omega) (by omega))
    have u6 : jI H (489 + 6) i = jI Hs (489 + 6) i := jfr_I hf (n0 _ _ (by omega) (by omega))
    unfold F_18_back_49 B_18_back_49
    rw [h17, e1, jo_nat (n := i) (by omega)]
    refine jT_g (gT (sK_421 hs)) (jT_neg (by rw [jo_le (by omega) (by omega)]; omega) ?_)
    rw [sR_421_30 hs, sR_421_21 hs, sK_490 hs, sK_483 hs]
    refine jT_g (gT (sK_421 hs)) (jT_g (gT (sK_421 hs)) (jT_g ⟨rfl, g⟩ (jT_g ⟨rfl, g⟩ (jT_l ?_))))
    obtain ⟨H1, eH1⟩ : ∃ h, h = jsL H 483 i (jL H 490 i) := ⟨_, rfl⟩
    rw [← eH1]
    have s1 : jsh H1 := by rw [eH1]; exact jsh_sL hs
    rw [sR_421_31 s1, sR_421_22 s1, sK_491 s1, sK_484 s1]
    refine jT_g (gT (sK_421 s1)) (jT_g (gT (sK_421 s1)) (jT_g ⟨rfl, g⟩ (jT_g ⟨rfl, g⟩ (jT_l ?_))))
    obtain ⟨H2, eH2⟩ : ∃ h, h = jsL H1 484 i (jL H1 491 i) := ⟨_, rfl⟩
    rw [← eH2]
    have s2 : jsh H2 := by rw [eH2]; exact jsh_sL s1
    rw [sR_421_32 s2, sR_421_23 s2, sK_492 s2, sK_485 s2]
    refine jT_g (gT (sK_421 s2)) (jT_g (gT (sK_421 s2)) (jT_g ⟨rfl, g⟩ (jT_g ⟨rfl, by decide, g⟩ (jT_l ?_))))
    obtain ⟨H3, eH3⟩ : ∃ h, h = jsI H2 485 i (jI H2 492 i) := ⟨_, rfl⟩
    rw [← eH3]
    have s3 : jsh H3 := by rw [eH3]; exact jsh_sI s2 (by decide)
    rw [sR_421_33 s3, sR_421_24 s3, sK_493 s3, sK_486 s3]
    refine jT_g (gT (sK_421 s3)) (jT_g (gT (sK_421 s3)) (jT_g ⟨rfl, g⟩ (jT_g ⟨rfl, g⟩ (jT_l ?_))))
    obtain ⟨H4, eH4⟩ : ∃ h, h = jsI H3 486 i (jI H3 493 i &&& 1) := ⟨_, rfl⟩
    rw [← eH4]
    have s4 : jsh H4 := by rw [eH4]; exact jsh_sI s3 (by decide)
    rw [sR_421_34 s4, sR_421_25 s4, sK_494 s4, sK_487 s4]
    refine jT_g (gT (sK_421 s4)) (jT_g (gT (sK_421 s4)) (jT_g ⟨rfl, g⟩ (jT_g ⟨rfl, by decide, g⟩ (jT_l ?_))))
    obtain ⟨H5, eH5⟩ : ∃ h, h = jsI H4 487 i (jI H4 494 i) := ⟨_, rfl⟩
    rw [← eH5]
    have s5 : jsh H5 := by rw [eH5]; exact jsh_sI s4 (by decide)
    rw [sR_421_35 s5, sR_421_26 s5, sK_495 s5, sK_488 s5]
    refine jT_g (gT (sK_421 s5)) (jT_g (gT (sK_421 s5)) (jT_g ⟨rfl, g⟩ (jT_g ⟨rfl, by decide, g⟩ (jT_l ?_))))
    obtain ⟨H6, eH6⟩ : ∃ h, h = jsI H5 488 i (jI H5 495 i) := ⟨_, rfl⟩
    rw [← eH6]
    have s6 : jsh H6 := by rw [eH6]; exact jsh_sI s5 (by decide)
    refine jT_l ?_
    have fr : jfr (b_Sq 482) H H6 := by
      rw [eH6, eH5, eH4, eH3, eH2, eH1]
      exact jfr_sI (jfr_sI (jfr_sI (jfr_sI (jfr_sL (jfr_sL jfr_refl (by unfold b_Sq; omega)) (by unfold b_Sq; omega)) (by unfold b_Sq; omega)) (by unfold b_Sq; omega)) (by unfold b_Sq; omega)) (by unfold b_Sq; omega)
    have eB : jB H6 = jB H := by rw [eH6, eH5, eH4, eH3, eH2, eH1]; rfl
    have w1 : ∀ j, jL H6 483 j = if j = i then jL Hs (489 + 1) i else jL H 483 j := fun j => by
      have z6 : jL H6 483 j = jL H5 483 j := by rw [eH6]; rfl
      have z5 : jL H5 483 j = jL H4 483 j := by rw [eH5]; rfl
      have z4 : jL H4 483 j = jL H3 483 j := by rw [eH4]; rfl
      have z3 : jL H3 483 j = jL H2 483 j := by rw [eH3]; rfl
      have z2 : jL H2 483 j = jL H1 483 j := by rw [eH2]; exact jL_sLz (by decide)
      rw [z6, z5, z4, z3, z2]
      rw [eH1]
      have v : jL H 490 i = jL Hs (489 + 1) i := by
        exact u1
      rw [v]
      by_cases c : j = i
      · rw [if_pos c, c]
        exact jL_sLe
      · rw [if_neg c]
        have c1 : jL (jsL H 483 i (jL Hs (489 + 1) i)) 483 j = jL H 483 j := jup_i c
        rw [c1]
    have w2 : ∀ j, jL H6 484 j = if j = i then jL Hs (489 + 2) i else jL H 484 j := fun j => by
      have z6 : jL H6 484 j = jL H5 484 j := by rw [eH6]; rfl
      have z5 : jL H5 484 j = jL H4 484 j := by rw [eH5]; rfl
      have z4 : jL H4 484 j = jL H3 484 j := by rw [eH4]; rfl
      have z3 : jL H3 484 j = jL H2 484 j := by rw [eH3]; rfl
      rw [z6, z5, z4, z3]
      rw [eH2]
      have v : jL H1 491 i = jL Hs (489 + 2) i := by
        have y1 : jL H1 491 i = jL H 491 i := by rw [eH1]; exact jL_sLz (by decide)
        rw [y1]
        exact u2
      rw [v]
      by_cases c : j = i
      · rw [if_pos c, c]
        exact jL_sLe
      · rw [if_neg c]
        have c1 : jL (jsL H1 484 i (jL Hs (489 + 2) i)) 484 j = jL H1 484 j := jup_i c
        rw [c1]
        have x1 : jL H1 484 j = jL H 484 j := by rw [eH1]; exact jL_sLz (by decide)
        rw [x1]
    have w3 : ∀ j, jI H6 485 j = if j = i then jI Hs (489 + 3) i else jI H 485 j := fun j => by
      have z6 : jI H6 485 j = jI H5 485 j := by rw [eH6]; exact jI_sIa (by decide)
      have z5 : jI H5 485 j = jI H4 485 j := by rw [eH5]; exact jI_sIa (by decide)
      have z4 : jI H4 485 j = jI H3 485 j := by rw [eH4]; exact jI_sIa (by decide)
      rw [z6, z5, z4]
      rw [eH3]
      have v : jI H2 492 i = jI Hs (489 + 3) i := by
        have y2 : jI H2 492 i = jI H1 492 i := by rw [eH2]; rfl
        have y1 : jI H1 492 i = jI H 492 i := by rw [eH1]; rfl
        rw [y2, y1]
        exact u3
      rw [v]
      by_cases c : j = i
      · rw [if_pos c, c]
        exact jI_sIe
      · rw [if_neg c]
        have c1 : jI (jsI H2 485 i (jI Hs (489 + 3) i)) 485 j = jI H2 485 j := jI_sIn c
        rw [c1]
        have x2 : jI H2 485 j = jI H1 485 j := by rw [eH2]; rfl
        have x1 : jI H1 485 j = jI H 485 j := by rw [eH1]; rfl
        rw [x2, x1]
    have w4 : ∀ j, jI H6 486 j = if j = i then jI Hs (489 + 4) i &&& 1 else jI H 486 j := fun j => by
      have z6 : jI H6 486 j = jI H5 486 j := by rw [eH6]; exact jI_sIa (by decide)
      have z5 : jI H5 486 j = jI H4 486 j := by rw [eH5]; exact jI_sIa (by decide)
      rw [z6, z5]
      rw [eH4]
      have v : jI H3 493 i = jI Hs (489 + 4) i := by
        have y3 : jI H3 493 i = jI H2 493 i := by rw [eH3]; exact jI_sIa (by decide)
        have y2 : jI H2 493 i = jI H1 493 i := by rw [eH2]; rfl
        have y1 : jI H1 493 i = jI H 493 i := by rw [eH1]; rfl
        rw [y3, y2, y1]
        exact u4
      rw [v]
      by_cases c : j = i
      · rw [if_pos c, c]
        exact jI_sIe
      · rw [if_neg c]
        have c1 : jI (jsI H3 486 i (jI Hs (489 + 4) i &&& 1)) 486 j = jI H3 486 j := jI_sIn c
        rw [c1]
        have x3 : jI H3 486 j = jI H2 486 j := by rw [eH3]; exact jI_sIa (by decide)
        have x2 : jI H2 486 j = jI H1 486 j := by rw [eH2]; rfl
        have x1 : jI H1 486 j = jI H 486 j := by rw [eH1]; rfl
        rw [x3, x2, x1]
    have w5 : ∀ j, jI H6 487 j = if j = i then jI Hs (489 + 5) i else jI H 487 j := fun j => by
      have z6 : jI H6 487 j = jI H5 487 j := by rw [eH6]; exact jI_sIa (by decide)
      rw [z6]
      rw [eH5]
      have v : jI H4 494 i = jI Hs (489 + 5) i := by
        have y4 : jI H4 494 i = jI H3 494 i := by rw [eH4]; exact jI_sIa (by decide)
        have y3 : jI H3 494 i = jI H2 494 i := by rw [eH3]; exact jI_sIa (by decide)
        have y2 : jI H2 494 i = jI H1 494 i := by rw [eH2]; rfl
        have y1 : jI H1 494 i = jI H 494 i := by rw [eH1]; rfl
        rw [y4, y3, y2, y1]
        exact u5
      rw [v]
      by_cases c : j = i
      · rw [if_pos c, c]
        exact jI_sIe
      · rw [if_neg c]
        have c1 : jI (jsI H4 487 i (jI Hs (489 + 5) i)) 487 j = jI H4 487 j := jI_sIn c
        rw [c1]
        have x4 : jI H4 487 j = jI H3 487 j := by rw [eH4]; exact jI_sIa (by decide)
        have x3 : jI H3 487 j = jI H2 487 j := by rw [eH3]; exact jI_sIa (by decide)
        have x2 : jI H2 487 j = jI H1 487 j := by rw [eH2]; rfl
        have x1 : jI H1 487 j = jI H 487 j := by rw [eH1]; rfl
        rw [x4, x3, x2, x1]
    have w6 : ∀ j, jI H6 488 j = if j = i then jI Hs (489 + 6) i else jI H 488 j := fun j => by
      rw [eH6]
      have v : jI H5 495 i = jI Hs (489 + 6) i := by
        have y5 : jI H5 495 i = jI H4 495 i := by rw [eH5]; exact jI_sIa (by decide)
        have y4 : jI H4 495 i = jI H3 495 i := by rw [eH4]; exact jI_sIa (by decide)
        have y3 : jI H3 495 i = jI H2 495 i := by rw [eH3]; exact jI_sIa (by decide)
        have y2 : jI H2 495 i = jI H1 495 i := by rw [eH2]; rfl
        have y1 : jI H1 495 i = jI H 495 i := by rw [eH1]; rfl
        rw [y5, y4, y3, y2, y1]
        exact u6
      rw [v]
      by_cases c : j = i
      · rw [if_pos c, c]
        exact jI_sIe
      · rw [if_neg c]
        have c1 : jI (jsI H5 488 i (jI Hs (489 + 6) i)) 488 j = jI H5 488 j := jI_sIn c
        rw [c1]
        have x5 : jI H5 488 j = jI H4 488 j := by rw [eH5]; exact jI_sIa (by decide)
        have x4 : jI H4 488 j = jI H3 488 j := by rw [eH4]; exact jI_sIa (by decide)
        have x3 : jI H3 488 j = jI H2 488 j := by rw [eH3]; exact jI_sIa (by decide)
        have x2 : jI H2 488 j = jI H1 488 j := by rw [eH2]; rfl
        have x1 : jI H1 488 j = jI H 488 j := by rw [eH1]; rfl
        rw [x5, x4, x3, x2, x1]
    refine ih (i + 1) fu H6 (by omega) (by omega) s6 (jfr_trans hf fr) ((jfr_I fr (by unfold b_Sq; omega)).trans h17) (fun j hj => by rw [eB]; exact hB j hj) fun k hk2 => ?_
    show jL H6 483 k = _ ∧ jL H6 484 k = _ ∧ jI H6 485 k = _ ∧ jI H6 486 k = _ ∧ jI H6 487 k = _ ∧ jI H6 488 k = _
    rw [w1, w2, w3, w4, w5, w6]
    by_cases c : k = i
    · rw [if_pos c, if_pos c, if_pos c, if_pos c, if_pos c, if_pos c, c]
      exact ⟨rfl, rfl, rfl, rfl, rfl, rfl⟩
    · rw [if_neg c, if_neg c, if_neg c, if_neg c, if_neg c, if_neg c]
      exact hc k (by omega)
theorem b_back18 (hn : n ≤ 1500) (hsS : jsh Hs) (h17 : jI Hs 421 17 = Int32.ofNat n) (hk : ∀ H', jsh H' → jfr (b_Sq 482) Hs H' → (∀ i, i < 32 * n → jB H' 482 i = jB Hs 489 i) → b_cpd 489 482 Hs H' n → Q () H') :
    ∀ (d i fu : Nat) (H : jH), i + d = 32 * n → d < fu → jsh H → jfr (b_Sq 482) Hs H → (∀ j, j < i → jB H 482 j = jB Hs 489 j) → jT (F_18_back_18 fu 421 (Int32.ofNat i) H) Q := by
  intro d
  have e32 : (32 : Int32) * Int32.ofNat n = Int32.ofNat (32 * n) := jo_mul (a := 32) (b := n)
  induction d with
  | zero =>
    intro i fu H hi hfu hs hf hB
    obtain ⟨fu, rfl⟩ : ∃ k, fu = k + 1 := ⟨fu - 1, by omega⟩
    obtain rfl : i = 32 * n := by omega
    have g17 : jI H 421 17 = Int32.ofNat n := (jfr_I hf (by unfold b_Sq; omega)).trans h17
    unfold F_18_back_18 B_18_back_18
    rw [g17, e32]
    exact jT_g (gT (sK_421 hs)) (jT_pos (by rw [jo_le (by omega) (by omega)]; exact Nat.le_refl _) (b_back49 hn hk n 0 jfuel H (Nat.zero_add _) (by unfold jfuel; omega) hs hf g17 hB fun k hk2 => absurd hk2 (Nat.not_lt_zero k)))
  | succ d ih =>
    intro i fu H hi hfu hs hf hB
    obtain ⟨fu, rfl⟩ : ∃ k, fu = k + 1 := ⟨fu - 1, by omega⟩
    have e1 : Int32.ofNat i + 1 = Int32.ofNat (i + 1) := jo_add (a := i) (b := 1)
    have g17 : jI H 421 17 = Int32.ofNat n := (jfr_I hf (by unfold b_Sq; omega)).trans h17
    have g : jin (Int32.ofNat i) 54400 := jo_in (by omega) (by omega)
    have ev : jB H 489 i = jB Hs 489 i := jfr_B hf (by unfold b_Sq; omega)
    unfold F_18_back_18 B_18_back_18
    rw [g17, e32, sR_421_29 hs, sR_421_20 hs, sK_489 hs, sK_482 hs, e1, jo_nat (n := i) (by omega), jbu_jbs, ev]
    refine jT_g (gT (sK_421 hs)) (jT_neg (by rw [jo_le (by omega) (by omega)]; omega) (jT_g (gT (sK_421 hs)) (jT_g (gT (sK_421 hs)) (jT_g ⟨rfl, g⟩ (jT_g ⟨rfl, g⟩ (jT_l (jT_l ?_)))))))
    refine ih (i + 1) fu _ (by omega) (by omega) (jsh_sB hs) (jfr_sB hf (by unfold b_Sq; omega)) fun j hj => ?_
    by_cases c : j = i
    · rw [c]
      exact jB_sBe
    · rw [jB_sBn c]
      exact hB j (by omega)
end CPY
def b_FK : Nat → Nat → Prop := fun a j => (489 ≤ a ∧ a ≤ 495) ∨ (a = 421 ∧ (j = 27 ∨ j = 28))
def b_FB : Nat → Nat → Prop := fun a j => (482 ≤ a ∧ a ≤ 488) ∨ (a = 421 ∧ (j = 17 ∨ j = 18))
/-- the coins that are kept beside -/
def b_KK (cs : List w_cn) (m : Nat) (H : jH) : Prop := jI H 421 27 = Int32.ofNat cs.length ∧ cs.length ≤ 1500 ∧ b_row7 489 cs H ∧ jI H 421 28 = Int32.ofNat m ∧ m ≤ 3000
section LK18
variable {α : Type} {cs : List w_cn} {m : Nat} {Hs : jH} {Q : α → jH → Prop}
theorem b_keep {k : Unit → jH → Option (α × jH)} (hs : jsh Hs) (hK : b_KB cs m Hs) (hk : ∀ H', jsh H' → jfr b_FK Hs H' → b_KK cs m H' → jT (k () H') Q) : jT (jb (F_18_keep 421 Hs) k) Q := by
  obtain ⟨⟨k1, k2, k3⟩, k4, k5⟩ := hK
  have s1 : jsh (jsI Hs 421 27 (Int32.ofNat cs.length)) := jsh_sI hs (by decide)
  have s2 : jsh (jsI (jsI Hs 421 27 (Int32.ofNat cs.length)) 421 28 (Int32.ofNat m)) := jsh_sI s1 (by decide)
  have f2 : jfr (fun a j => a = 421 ∧ (j = 27 ∨ j = 28)) Hs (jsI (jsI Hs 421 27 (Int32.ofNat cs.length)) 421 28 (Int32.ofNat m)) := jfr_sI (jfr_sI jfr_refl ⟨rfl, Or.inl rfl⟩) ⟨rfl, Or.inr rfl⟩
  have v27 : jI (jsI (jsI Hs 421 27 (Int32.ofNat cs.length)) 421 28 (Int32.ofNat m)) 421 27 = Int32.ofNat cs.length := (jI_sIn (by decide)).trans jI_sIe
  have v28 : jI (jsI (jsI Hs 421 27 (Int32.ofNat cs.length)) 421 28 (Int32.ofNat m)) 421 28 = Int32.ofNat m := jI_sIe
  have e18 : jI (jsI Hs 421 27 (Int32.ofNat cs.length)) 421 18 = Int32.ofNat m := (jI_sIn (by decide)).trans k4
  have g17 : jI (jsI (jsI Hs 421 27 (Int32.ofNat cs.length)) 421 28 (Int32.ofNat m)) 421 17 = Int32.ofNat cs.length := (jI_sIn (by decide)).trans ((jI_sIn (by decide)).trans k1)
  unfold F_18_keep
  refine jT_b (jT_g (gT (sK_421 hs)) (jT_g (gT (sK_421 hs)) ?_))
  rw [k1]
  refine jT_l (jT_g (gT (sK_421 s1)) (jT_g (gT (sK_421 s1)) ?_))
  rw [e18]
  refine jT_l ?_
  have k3' : b_row7 482 cs (jsI (jsI Hs 421 27 (Int32.ofNat cs.length)) 421 28 (Int32.ofNat m)) := b_row7_fr k3 f2 (fun j => by omega) fun a j q1 q2 w => by omega
  generalize jsI (jsI Hs 421 27 (Int32.ofNat cs.length)) 421 28 (Int32.ofNat m) = H2 at s2 f2 v27 v28 k3' g17
  refine b_keep18 (Q := fun v H => jT (k v H) Q) (n := cs.length) (Hs := H2) k2 s2 g17 (fun H' g1 g2 g3 g4 => hk H' g1 (jfr_trans (jfr_mono f2 fun a j w => by unfold b_FK; omega) (jfr_mono g2 fun a j w => by unfold b_Sq at w; unfold b_FK; omega)) ⟨(jfr_I g2 fun w => by unfold b_Sq at w; omega).trans v27, k2, b_row7_cp k3' g2 (by decide) g3 g4, (jfr_I g2 fun w => by unfold b_Sq at w; omega).trans v28, k5⟩) (32 * cs.length) 0 jfuel H2 (Nat.zero_add _) (by unfold jfuel; omega) s2 jfr_refl fun j hj => absurd hj (Nat.not_lt_zero j)
theorem b_back {k : Unit → jH → Option (α × jH)} (hs : jsh Hs) (hK : b_KK cs m Hs) (hk : ∀ H', jsh H' → jfr b_FB Hs H' → b_KB cs m H' → jT (k () H') Q) : jT (jb (F_18_back 421 Hs) k) Q := by
  obtain ⟨k1, k2, k3, k4, k5⟩ := hK
  have s1 : jsh (jsI Hs 421 17 (Int32.ofNat cs.length)) := jsh_sI hs (by decide)
  have s2 : jsh (jsI (jsI Hs 421 17 (Int32.ofNat cs.length)) 421 18 (Int32.ofNat m)) := jsh_sI s1 (by decide)
  have f2 : jfr (fun a j => a = 421 ∧ (j = 17 ∨ j = 18)) Hs (jsI (jsI Hs 421 17 (Int32.ofNat cs.length)) 421 18 (Int32.ofNat m)) := jfr_sI (jfr_sI jfr_refl ⟨rfl, Or.inl rfl⟩) ⟨rfl, Or.inr rfl⟩
  have v27 : jI (jsI (jsI Hs 421 17 (Int32.ofNat cs.length)) 421 18 (Int32.ofNat m)) 421 17 = Int32.ofNat cs.length := (jI_sIn (by decide)).trans jI_sIe
  have v28 : jI (jsI (jsI Hs 421 17 (Int32.ofNat cs.length)) 421 18 (Int32.ofNat m)) 421 18 = Int32.ofNat m := jI_sIe
  have e18 : jI (jsI Hs 421 17 (Int32.ofNat cs.length)) 421 28 = Int32.ofNat m := (jI_sIn (by decide)).trans k4
  unfold F_18_back
  refine jT_b (jT_g (gT (sK_421 hs)) (jT_g (gT (sK_421 hs)) ?_))
  rw [k1]
  refine jT_l (jT_g (gT (sK_421 s1)) (jT_g (gT (sK_421 s1)) ?_))
  rw [e18]
  refine jT_l ?_
  have k3' : b_row7 489 cs (jsI (jsI Hs 421 17 (Int32.ofNat cs.length)) 421 18 (Int32.ofNat m)) := b_row7_fr k3 f2 (fun j => by omega) fun a j q1 q2 w => by omega
  generalize jsI (jsI Hs 421 17 (Int32.ofNat cs.length)) 421 18 (Int32.ofNat m) = H2 at s2 f2 v27 v28 k3'
  refine b_back18 (Q := fun v H => jT (k v H) Q) (n := cs.length) (Hs := H2) k2 s2 v27 (fun H' g1 g2 g3 g4 => hk H' g1 (jfr_trans (jfr_mono f2 fun a j w => by unfold b_FB; omega) (jfr_mono g2 fun a j w => by unfold b_Sq at w; unfold b_FB; omega)) ⟨⟨(jfr_I g2 fun w => by unfold b_Sq at w; omega).trans v27, k2, b_row7_cp k3' g2 (by decide) g3 g4⟩, (jfr_I g2 fun w => by unfold b_Sq at w; omega).trans v28, k5⟩) (32 * cs.length) 0 jfuel H2 (Nat.zero_add _) (by unfold jfuel; omega) s2 jfr_refl fun j hj => absurd hj (Nat.not_lt_zero j)
def b_FL : Nat → Nat → Prop := fun a j => (423 ≤ a ∧ a ≤ 444) ∨ (456 ≤ a ∧ a ≤ 464) ∨ a = 481 ∨ (a = 421 ∧ ((14 ≤ j ∧ j ≤ 19) ∨ j = 27 ∨ j = 28)) ∨ (482 ≤ a ∧ a ≤ 495) ∨ a = 507
/-- what is wrong with a block in its chain, all below it being right -/
theorem b_look {bs : List b_k} {b c : Nat} {k : Int32 → jH → Option (α × jH)} (hw : b_wf bs) (hs : jsh Hs) (hT : b_T bs Hs) (hD : b_D bs Hs) (hb : b < bs.length) (hb1 : 1 ≤ b) (hr : b_right bs (b_pa bs b)) (hC : b_KC bs c Hs) (hp : w_p13 Hs)
    (hk : ∀ H', jsh H' → jfr b_FL Hs H' → w_p13 H' → b_KC bs (if (b_v bs b).1 = 0 then b else b_pa bs b) H' → jT (k (b_v bs b).1 H') Q) : jT (jb (F_18_look 421 (Int32.ofNat b) Hs) k) Q := by
  obtain ⟨p1, p2, play, ptok, pne⟩ := hw.2.2.2.2 b hb1 hb
  have l300 := hw.2.1
  have hh := b_ht_300 hw hb
  unfold F_18_look
  rw [b_parent hw hs hT hb hb1, jb_ok]
  refine jT_b (jT_g (gT (sK_421 hs)) (jT_g (gT (sK_421 hs)) (b_need hw hs hT hD (by omega) hr hC fun H1 s1 f1 C1 => jT_g (gT (sK_421 s1)) (b_keep s1 C1.2.2.2 fun H2 s2 f2 K2 => jT_g (gT (sK_421 s2)) ?_))))
  have f2' : jfr b_FL Hs H2 := jfr_trans (jfr_mono f1 fun a j w => by unfold b_FN at w; unfold b_FL; omega) (jfr_mono f2 fun a j w => by unfold b_FK at w; unfold b_FL; omega)
  have hT2 : b_T bs H2 := b_T_fr hT f2' fun a j w => by unfold b_FL at w; omega
  have hD2 : b_D bs H2 := b_D_fr hD f2' fun a j w => by unfold b_FL at w; omega
  have hp2 : w_p13 H2 := w_p13_T (w_p13_T hp f1 fun a j w => by unfold b_FN at w; omega) f2 fun a j w => by unfold b_FK at w; omega
  have KB2 := b_KB_fr C1.2.2.2 f2 fun a j w => by unfold b_FK at w; omega
  have e16 : jI H2 421 16 = Int32.ofNat (b_pa bs b) := (jfr_I f2 fun w => by unfold b_FK at w; omega).trans C1.1
  have eht : b_ht bs b - 1 = b_ht bs (b_pa bs b) := by omega
  have eco : b_co bs b (b_ht bs b - 1) = b_co bs (b_pa bs b) (b_ht bs (b_pa bs b)) := by
    rw [eht]
    exact b_co_eq fun g g1 g2 => b_at_pa hw hb hb1 g1
  have ev : b_v bs b = b_all (b_ht bs b) (b_tx bs b) (b_co bs (b_pa bs b) (b_ht bs (b_pa bs b))).1 (b_co bs (b_pa bs b) (b_ht bs (b_pa bs b))).2 := by
    unfold b_v
    rw [eco]
  refine b_faultOf (b_RB_of hw hT2 hD2 hb hb1) hh l300 hb1 hb hT2.1 (b_toks_ty ptok) pne ptok s2 hp2 KB2 fun H3 s3 f3 p3 h0 => ?_
  rw [← ev] at h0 ⊢
  have f3' : jfr b_FL Hs H3 := jfr_trans f2' (jfr_mono f3 fun a j w => by unfold b_FR at w; unfold b_FL; omega)
  by_cases c0 : (b_v bs b).1 = 0
  · have s4 : jsh (jsI H3 421 16 (Int32.ofNat b)) := jsh_sI s3 (by decide)
    have f4 : jfr (fun a j => a = 421 ∧ j = 16) H3 (jsI H3 421 16 (Int32.ofNat b)) := jfr_sI jfr_refl ⟨rfl, rfl⟩
    have hrb := b_right_pa hw hb hb1 hr c0
    have K3 := h0 c0
    have hk' := hk (jsI H3 421 16 (Int32.ofNat b)) s4 (jfr_trans f3' (jfr_mono f4 fun a j w => by unfold b_FL; omega)) (w_p13_T p3 f4 fun a j w => by omega)
    rw [if_pos c0] at hk'
    have e1 := congrArg Prod.fst (b_v_co hw hb hb1 hrb)
    have e2 := congrArg Prod.snd (b_v_co hw hb hb1 hrb)
    refine jT_neg (fun w => w c0) (jT_g (gT (sK_421 s3)) (jT_l ?_))
    unfold B_18_look_35
    refine jT_ret (hk' ⟨jI_sIe, hb, hrb, ?_⟩)
    rw [← e1, ← e2]
    exact b_KB_fr K3 f4 fun a j w => by omega
  · refine jT_pos c0 (jT_g (gT (sK_421 s3)) ?_)
    refine b_back s3 (cs := (b_co bs (b_pa bs b) (b_ht bs (b_pa bs b))).1) (m := (b_co bs (b_pa bs b) (b_ht bs (b_pa bs b))).2) ?_ fun H4 s4 f4 K4 => ?_
    · obtain ⟨g1, g2, g3, g4, g5⟩ := K2
      exact ⟨(jfr_I f3 fun w => by unfold b_FR at w; omega).trans g1, g2, b_row7_fr g3 f3 (fun j => by unfold b_FR; omega) fun a j q1 q2 w => by unfold b_FR at w; omega, (jfr_I f3 fun w => by unfold b_FR at w; omega).trans g4, g5⟩
    · have hk' := hk H4 s4 (jfr_trans f3' (jfr_mono f4 fun a j w => by unfold b_FB at w; unfold b_FL; omega)) (w_p13_T p3 f4 fun a j w => by unfold b_FB at w; omega)
      rw [if_neg c0] at hk'
      unfold B_18_look_35
      exact jT_ret (hk' ⟨(jfr_I f4 fun w => by unfold b_FB at w; omega).trans ((jfr_I f3 fun w => by unfold b_FR at w; omega).trans e16), by omega, hr, K4⟩)
end LK18
