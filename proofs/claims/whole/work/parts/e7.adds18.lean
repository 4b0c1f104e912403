/-! Coins: the reference adds those that a transaction makes. -/
section AD18
variable {s len h : Nat} {tb nm : List UInt8} {y : w_y} {Hs : jH} {a2 : Int32} {Q : Unit → jH → Prop}
theorem z18_adds (hy : w_ty tb y) (ert : a2 = w_rt tb y) (h32 : nm.length = 32) (hlm : s + tb.length ≤ 2000 * (jI Hs 445 1).toNatClampNeg) : ∀ (d j fu : Nat) (cs : List w_cn) (H : jH), j + d = y.2.1.length → d < fu → cs.length + d ≤ 1500 → jsh H → jfr w_Tq Hs H → w_rx 474 s len tb y H → zRow H 507 0 nm → w_CB cs H →
    (∀ H', jsh H' → jfr w_Tq Hs H' → w_CB (w_ads nm tb y h d j cs) H' → jI H' 421 18 = jI H 421 18 → Q () H') → jT (F_18_apply_58 fu 421 (Int32.ofNat h) a2 (Int32.ofNat j) H) Q := by
  have l8 : y.2.1.length ≤ 8 := (ztx_spec hy.1).2.1
  have k2 : ∀ {H}, jsh H → (jK H 421).1 = 18 := fun hs => gT (sK_421 hs)
  have k17 : ∀ {H}, jsh H → (jK H 456).1 = 17 := fun hs => gT (sK_456 hs)
  intro d
  induction d with
  | zero =>
    intro j fu cs H hj hfu hl hs hf hx hn hCB hk
    obtain ⟨fu, rfl⟩ : ∃ k, fu = k + 1 := ⟨fu - 1, by omega⟩
    unfold F_18_apply_58 B_18_apply_58
    rw [sR_421_4 hs, hx.2.1.2.2.2]
    exact jT_g (k2 hs) (jT_g (k17 hs) (jT_pos (by rw [jo_le (by omega) (by omega)]; omega) (jT_ret (hk H hs hf hCB rfl))))
  | succ d ih =>
    intro j fu cs H0 hj hfu hl hs0 hf0 hx0 hn0 hCB hk
    obtain ⟨fu, rfl⟩ : ∃ k, fu = k + 1 := ⟨fu - 1, by omega⟩
    have hjj : j < y.2.1.length := by omega
    have e1' : Int32.ofNat j + 1 = Int32.ofNat (j + 1) := jo_add (a := j) (b := 1)
    have en1 : Int32.ofNat cs.length + 1 = Int32.ofNat (cs.length + 1) := jo_add (a := cs.length) (b := 1)
    obtain ⟨m1, m2, m3, m4⟩ := w_out y tb hy hjj
    have t2000 := hy.2.2
    obtain ⟨h17, hcn, hrows⟩ := hCB
    unfold F_18_apply_58 B_18_apply_58
    rw [sR_421_4 hs0, hx0.2.1.2.2.2]
    refine jT_g (k2 hs0) (jT_g (k17 hs0) (jT_neg (by rw [jo_le (by omega) (by omega)]; omega) ?_))
    have e32 : ∀ a b : Nat, (32 : Int32) * Int32.ofNat a + Int32.ofNat b = Int32.ofNat (32 * a + b) := fun a b => by rw [show (32 : Int32) = Int32.ofNat 32 from rfl, jo_mul, jo_add]
    have loop : ∀ (dd p fu2 : Nat) (H : jH), p + dd = 32 → dd < fu2 → jsh H → jfr (fun a q => a = 482 ∧ 32 * cs.length ≤ q ∧ q < 32 * cs.length + 32) H0 H → (∀ q, q < p → jB H 482 (32 * cs.length + q) = nm.getD q 0) → jT (F_18_apply_72 (F_18_apply_58 fu) fu2 421 (Int32.ofNat h) a2 (Int32.ofNat j) (Int32.ofNat p) H) Q := by
      intro dd
      induction dd with
      | succ dd ihd =>
        intro p fu2 H hp hfu2 hs hf hd
        obtain ⟨fu2, rfl⟩ : ∃ k, fu2 = k + 1 := ⟨fu2 - 1, by omega⟩
        have e17 : jI H 421 17 = Int32.ofNat cs.length := (jfr_I hf (by omega)).trans h17
        have e1 : Int32.ofNat p + 1 = Int32.ofNat (p + 1) := jo_add (a := p) (b := 1)
        have ev : jB H 507 p = nm.getD p 0 := by
          have := hn0 p _ (getD_of (by omega))
          rw [Nat.zero_add] at this
          exact (jfr_B hf (by omega)).trans this
        unfold F_18_apply_72 B_18_apply_72
        rw [e17, sR_421_20 hs, sR_421_49 hs, e32, jo_nat (n := p) (by omega), jo_nat (n := 32 * cs.length + p) (by omega), ev, jbu_jbs, e1]
        refine jT_neg (by rw [show (32 : Int32) = Int32.ofNat 32 from rfl, jo_le (by decide) (by omega)]; omega) (jT_g (k2 hs) (jT_g (k2 hs) (jT_g (k2 hs) (jT_g (gA (sK_507 hs) (jo_in (by omega) (by omega))) (jT_g (gA (sK_482 hs) (jo_in (by omega) (by omega))) (jT_l (jT_l (ihd (p + 1) fu2 _ (by omega) (by omega) (jsh_sB hs) (jfr_sB hf ⟨rfl, by omega, by omega⟩) fun q hq => ?_))))))))
        by_cases c : q = p
        · rw [c, jB_sBe]
        · rw [jB_sBn (by omega)]
          exact hd q (by omega)
      | zero =>
        intro p fu2 H hp hfu2 s3 hf hd
        obtain ⟨fu2, rfl⟩ : ∃ k, fu2 = k + 1 := ⟨fu2 - 1, by omega⟩
        obtain rfl : p = 32 := by omega
        have fA : jfr w_Tq H0 H := jfr_mono hf fun a q w => Or.inr (by omega)
        have hx := w_rx_q hx0 fA (by decide)
        have e17 : jI H 421 17 = Int32.ofNat cs.length := (jfr_I hf (by omega)).trans h17
        have hB : ∀ q, q < 32 → jB H 482 (32 * cs.length + q) = nm.getD q 0 := hd
        have hBo : ∀ q, q < 32 * cs.length → jB H 482 q = jB H0 482 q := fun q hq => jfr_B hf (by omega)
        have X1 : jL H 462 j = w_cv (nm, j, tb, y, h) := by
          have := (hx.2.2.2 j hjj).1
          rw [Nat.add_assoc, w_zho hx.1.2.2.2.2.2 (by omega) (by omega)] at this
          exact this
        have X2 : jI H 463 j = Int32.ofNat (s + (y.2.1.getD j (0, 0)).1 + 9) := (hx.2.2.2 j hjj).2.1
        have X3 : jI H 464 j = Int32.ofNat (y.2.1.getD j (0, 0)).2 := (hx.2.2.2 j hjj).2.2
        unfold F_18_apply_72 B_18_apply_72
        refine jT_pos (by decide) ?_
        have U4830 : ∀ p, jL H 483 p = jL H0 483 p := fun p => jfr_L hf (by omega)
        have U4840 : ∀ p, jL H 484 p = jL H0 484 p := fun p => jfr_L hf (by omega)
        have U4850 : ∀ p, jI H 485 p = jI H0 485 p := fun p => jfr_I hf (by omega)
        have U4860 : ∀ p, jI H 486 p = jI H0 486 p := fun p => jfr_I hf (by omega)
        have U4870 : ∀ p, jI H 487 p = jI H0 487 p := fun p => jfr_I hf (by omega)
        have U4880 : ∀ p, jI H 488 p = jI H0 488 p := fun p => jfr_I hf (by omega)
        have B0 : ∀ p, jB H 482 p = jB H 482 p := fun _ => rfl
        have Y10 : jL H 462 j = w_cv (nm, j, tb, y, h) := X1
        have Y20 : jI H 463 j = _ := X2
        have Y30 : jI H 464 j = _ := X3
        have c0 : jI H 421 18 = jI H0 421 18 := jfr_I hf (by omega)
        simp only [e17, sR_421_21 s3, jo_nat (n := cs.length) (by omega), lo_of (u := j) (by omega)]
        refine jT_g (k2 s3) (jT_g (k2 s3) (jT_g (gA (sK_483 s3) (jo_in (by omega) (by omega))) (jT_l ?_)))
        have sG1 : jsh (jsL H 483 cs.length (Int64.ofNat j)) := jsh_sL s3
        have fG1 : jfr w_Tq H0 (jsL H 483 cs.length (Int64.ofNat j)) := jfr_sL fA (Or.inr ⟨by decide, by decide⟩)
        have cG1 : jI (jsL H 483 cs.length (Int64.ofNat j)) 421 17 = Int32.ofNat cs.length := e17
        have dG1 : jI (jsL H 483 cs.length (Int64.ofNat j)) 421 18 = jI H0 421 18 := c0
        have BG1 : ∀ p, jB (jsL H 483 cs.length (Int64.ofNat j)) 482 p = jB H 482 p := B0
        have Y1G1 : jL (jsL H 483 cs.length (Int64.ofNat j)) 462 j = w_cv (nm, j, tb, y, h) := (jL_sLz (by decide)).trans Y10
        have Y2G1 : jI (jsL H 483 cs.length (Int64.ofNat j)) 463 j = Int32.ofNat (s + (y.2.1.getD j (0, 0)).1 + 9) := Y20
        have Y3G1 : jI (jsL H 483 cs.length (Int64.ofNat j)) 464 j = Int32.ofNat (y.2.1.getD j (0, 0)).2 := Y30
        have U483G1 : ∀ p, jL (jsL H 483 cs.length (Int64.ofNat j)) 483 p = if p = cs.length then (Int64.ofNat j) else jL H0 483 p := fun p => by
          by_cases q : p = cs.length
          · rw [q, if_pos rfl, jL_sLe]
          · rw [if_neg q, jL_sLn q, U4830]
        have U484G1 : ∀ p, jL (jsL H 483 cs.length (Int64.ofNat j)) 484 p = jL H0 484 p := fun p => (jL_sLz (by decide)).trans (U4840 p)
        have U485G1 : ∀ p, jI (jsL H 483 cs.length (Int64.ofNat j)) 485 p = jI H0 485 p := fun p => U4850 p
        have U486G1 : ∀ p, jI (jsL H 483 cs.length (Int64.ofNat j)) 486 p = jI H0 486 p := fun p => U4860 p
        have U487G1 : ∀ p, jI (jsL H 483 cs.length (Int64.ofNat j)) 487 p = jI H0 487 p := fun p => U4870 p
        have U488G1 : ∀ p, jI (jsL H 483 cs.length (Int64.ofNat j)) 488 p = jI H0 488 p := fun p => U4880 p
        generalize jsL H 483 cs.length (Int64.ofNat j) = G1 at *
        simp only [cG1, sR_421_22 sG1, sR_421_4 sG1, sR_456_12 sG1, jo_nat (n := j) (by omega), jo_nat (n := cs.length) (by omega), Y1G1]
        refine jT_g (k2 sG1) (jT_g (k2 sG1) (jT_g (k2 sG1) (jT_g (k17 sG1) (jT_g (gA (sK_462 sG1) (jo_in (by omega) (by omega))) (jT_g (gA (sK_484 sG1) (jo_in (by omega) (by omega))) (jT_l ?_))))))
        have sG2 : jsh (jsL G1 484 cs.length (w_cv (nm, j, tb, y, h))) := jsh_sL sG1
        have fG2 : jfr w_Tq H0 (jsL G1 484 cs.length (w_cv (nm, j, tb, y, h))) := jfr_sL fG1 (Or.inr ⟨by decide, by decide⟩)
        have cG2 : jI (jsL G1 484 cs.length (w_cv (nm, j, tb, y, h))) 421 17 = Int32.ofNat cs.length := cG1
        have dG2 : jI (jsL G1 484 cs.length (w_cv (nm, j, tb, y, h))) 421 18 = jI H0 421 18 := dG1
        have BG2 : ∀ p, jB (jsL G1 484 cs.length (w_cv (nm, j, tb, y, h))) 482 p = jB H 482 p := BG1
        have Y1G2 : jL (jsL G1 484 cs.length (w_cv (nm, j, tb, y, h))) 462 j = w_cv (nm, j, tb, y, h) := (jL_sLz (by decide)).trans Y1G1
        have Y2G2 : jI (jsL G1 484 cs.length (w_cv (nm, j, tb, y, h))) 463 j = Int32.ofNat (s + (y.2.1.getD j (0, 0)).1 + 9) := Y2G1
        have Y3G2 : jI (jsL G1 484 cs.length (w_cv (nm, j, tb, y, h))) 464 j = Int32.ofNat (y.2.1.getD j (0, 0)).2 := Y3G1
        have U483G2 : ∀ p, jL (jsL G1 484 cs.length (w_cv (nm, j, tb, y, h))) 483 p = if p = cs.length then (Int64.ofNat j) else jL H0 483 p := fun p => (jL_sLz (by decide)).trans (U483G1 p)
        have U484G2 : ∀ p, jL (jsL G1 484 cs.length (w_cv (nm, j, tb, y, h))) 484 p = if p = cs.length then (w_cv (nm, j, tb, y, h)) else jL H0 484 p := fun p => by
          by_cases q : p = cs.length
          · rw [q, if_pos rfl, jL_sLe]
          · rw [if_neg q, jL_sLn q, U484G1]
        have U485G2 : ∀ p, jI (jsL G1 484 cs.length (w_cv (nm, j, tb, y, h))) 485 p = jI H0 485 p := fun p => U485G1 p
        have U486G2 : ∀ p, jI (jsL G1 484 cs.length (w_cv (nm, j, tb, y, h))) 486 p = jI H0 486 p := fun p => U486G1 p
        have U487G2 : ∀ p, jI (jsL G1 484 cs.length (w_cv (nm, j, tb, y, h))) 487 p = jI H0 487 p := fun p => U487G1 p
        have U488G2 : ∀ p, jI (jsL G1 484 cs.length (w_cv (nm, j, tb, y, h))) 488 p = jI H0 488 p := fun p => U488G1 p
        generalize jsL G1 484 cs.length (w_cv (nm, j, tb, y, h)) = G2 at *
        simp only [cG2, sR_421_23 sG2, jo_nat (n := cs.length) (by omega)]
        refine jT_g (k2 sG2) (jT_g (k2 sG2) (jT_g (gIw (sK_485 sG2) (by decide) (jo_in (by omega) (by omega))) (jT_l ?_)))
        have sG3 : jsh (jsI G2 485 cs.length (Int32.ofNat h)) := jsh_sI sG2 (by decide)
        have fG3 : jfr w_Tq H0 (jsI G2 485 cs.length (Int32.ofNat h)) := jfr_sI fG2 (Or.inr ⟨by decide, by decide⟩)
        have cG3 : jI (jsI G2 485 cs.length (Int32.ofNat h)) 421 17 = Int32.ofNat cs.length := (jI_sIa (by decide)).trans cG2
        have dG3 : jI (jsI G2 485 cs.length (Int32.ofNat h)) 421 18 = jI H0 421 18 := (jI_sIa (by decide)).trans dG2
        have BG3 : ∀ p, jB (jsI G2 485 cs.length (Int32.ofNat h)) 482 p = jB H 482 p := BG2
        have Y1G3 : jL (jsI G2 485 cs.length (Int32.ofNat h)) 462 j = w_cv (nm, j, tb, y, h) := Y1G2
        have Y2G3 : jI (jsI G2 485 cs.length (Int32.ofNat h)) 463 j = Int32.ofNat (s + (y.2.1.getD j (0, 0)).1 + 9) := (jI_sIa (by decide)).trans Y2G2
        have Y3G3 : jI (jsI G2 485 cs.length (Int32.ofNat h)) 464 j = Int32.ofNat (y.2.1.getD j (0, 0)).2 := (jI_sIa (by decide)).trans Y3G2
        have U483G3 : ∀ p, jL (jsI G2 485 cs.length (Int32.ofNat h)) 483 p = if p = cs.length then (Int64.ofNat j) else jL H0 483 p := fun p => U483G2 p
        have U484G3 : ∀ p, jL (jsI G2 485 cs.length (Int32.ofNat h)) 484 p = if p = cs.length then (w_cv (nm, j, tb, y, h)) else jL H0 484 p := fun p => U484G2 p
        have U485G3 : ∀ p, jI (jsI G2 485 cs.length (Int32.ofNat h)) 485 p = if p = cs.length then (Int32.ofNat h) else jI H0 485 p := fun p => by
          by_cases q : p = cs.length
          · rw [q, if_pos rfl, jI_sIe]
          · rw [if_neg q, jI_sIn q, U485G2]
        have U486G3 : ∀ p, jI (jsI G2 485 cs.length (Int32.ofNat h)) 486 p = jI H0 486 p := fun p => (jI_sIa (by decide)).trans (U486G2 p)
        have U487G3 : ∀ p, jI (jsI G2 485 cs.length (Int32.ofNat h)) 487 p = jI H0 487 p := fun p => (jI_sIa (by decide)).trans (U487G2 p)
        have U488G3 : ∀ p, jI (jsI G2 485 cs.length (Int32.ofNat h)) 488 p = jI H0 488 p := fun p => (jI_sIa (by decide)).trans (U488G2 p)
        generalize jsI G2 485 cs.length (Int32.ofNat h) = G3 at *
        simp only [cG3, sR_421_24 sG3, jo_nat (n := cs.length) (by omega)]
        refine jT_g (k2 sG3) (jT_g (k2 sG3) (jT_g (gA (sK_486 sG3) (jo_in (by omega) (by omega))) (jT_l ?_)))
        have sG4 : jsh (jsI G3 486 cs.length (a2 &&& 1)) := jsh_sI sG3 (by decide)
        have fG4 : jfr w_Tq H0 (jsI G3 486 cs.length (a2 &&& 1)) := jfr_sI fG3 (Or.inr ⟨by decide, by decide⟩)
        have cG4 : jI (jsI G3 486 cs.length (a2 &&& 1)) 421 17 = Int32.ofNat cs.length := (jI_sIa (by decide)).trans cG3
        have dG4 : jI (jsI G3 486 cs.length (a2 &&& 1)) 421 18 = jI H0 421 18 := (jI_sIa (by decide)).trans dG3
        have BG4 : ∀ p, jB (jsI G3 486 cs.length (a2 &&& 1)) 482 p = jB H 482 p := BG3
        have Y1G4 : jL (jsI G3 486 cs.length (a2 &&& 1)) 462 j = w_cv (nm, j, tb, y, h) := Y1G3
        have Y2G4 : jI (jsI G3 486 cs.length (a2 &&& 1)) 463 j = Int32.ofNat (s + (y.2.1.getD j (0, 0)).1 + 9) := (jI_sIa (by decide)).trans Y2G3
        have Y3G4 : jI (jsI G3 486 cs.length (a2 &&& 1)) 464 j = Int32.ofNat (y.2.1.getD j (0, 0)).2 := (jI_sIa (by decide)).trans Y3G3
        have U483G4 : ∀ p, jL (jsI G3 486 cs.length (a2 &&& 1)) 483 p = if p = cs.length then (Int64.ofNat j) else jL H0 483 p := fun p => U483G3 p
        have U484G4 : ∀ p, jL (jsI G3 486 cs.length (a2 &&& 1)) 484 p = if p = cs.length then (w_cv (nm, j, tb, y, h)) else jL H0 484 p := fun p => U484G3 p
        have U485G4 : ∀ p, jI (jsI G3 486 cs.length (a2 &&& 1)) 485 p = if p = cs.length then (Int32.ofNat h) else jI H0 485 p := fun p => (jI_sIa (by decide)).trans (U485G3 p)
        have U486G4 : ∀ p, jI (jsI G3 486 cs.length (a2 &&& 1)) 486 p = if p = cs.length then (a2 &&& 1) else jI H0 486 p := fun p => by
          by_cases q : p = cs.length
          · rw [q, if_pos rfl, jI_sIe]
          · rw [if_neg q, jI_sIn q, U486G3]
        have U487G4 : ∀ p, jI (jsI G3 486 cs.length (a2 &&& 1)) 487 p = jI H0 487 p := fun p => (jI_sIa (by decide)).trans (U487G3 p)
        have U488G4 : ∀ p, jI (jsI G3 486 cs.length (a2 &&& 1)) 488 p = jI H0 488 p := fun p => (jI_sIa (by decide)).trans (U488G3 p)
        generalize jsI G3 486 cs.length (a2 &&& 1) = G4 at *
        simp only [cG4, sR_421_25 sG4, sR_421_4 sG4, sR_456_13 sG4, jo_nat (n := j) (by omega), jo_nat (n := cs.length) (by omega), Y2G4]
        refine jT_g (k2 sG4) (jT_g (k2 sG4) (jT_g (k2 sG4) (jT_g (k17 sG4) (jT_g (gA (sK_463 sG4) (jo_in (by omega) (by omega))) (jT_g (gIw (sK_487 sG4) (by decide) (jo_in (by omega) (by omega))) (jT_l ?_))))))
        have sG5 : jsh (jsI G4 487 cs.length (Int32.ofNat (s + (y.2.1.getD j (0, 0)).1 + 9))) := jsh_sI sG4 (by decide)
        have fG5 : jfr w_Tq H0 (jsI G4 487 cs.length (Int32.ofNat (s + (y.2.1.getD j (0, 0)).1 + 9))) := jfr_sI fG4 (Or.inr ⟨by decide, by decide⟩)
        have cG5 : jI (jsI G4 487 cs.length (Int32.ofNat (s + (y.2.1.getD j (0, 0)).1 + 9))) 421 17 = Int32.ofNat cs.length := (jI_sIa (by decide)).trans cG4
        have dG5 : jI (jsI G4 487 cs.length (Int32.ofNat (s + (y.2.1.getD j (0, 0)).1 + 9))) 421 18 = jI H0 421 18 := (jI_sIa (by decide)).trans dG4
        have BG5 : ∀ p, jB (jsI G4 487 cs.length (Int32.ofNat (s + (y.2.1.getD j (0, 0)).1 + 9))) 482 p = jB H 482 p := BG4
        have Y1G5 : jL (jsI G4 487 cs.length (Int32.ofNat (s + (y.2.1.getD j (0, 0)).1 + 9))) 462 j = w_cv (nm, j, tb, y, h) := Y1G4
        have Y2G5 : jI (jsI G4 487 cs.length (Int32.ofNat (s + (y.2.1.getD j (0, 0)).1 + 9))) 463 j = Int32.ofNat (s + (y.2.1.getD j (0, 0)).1 + 9) := (jI_sIa (by decide)).trans Y2G4
        have Y3G5 : jI (jsI G4 487 cs.length (Int32.ofNat (s + (y.2.1.getD j (0, 0)).1 + 9))) 464 j = Int32.ofNat (y.2.1.getD j (0, 0)).2 := (jI_sIa (by decide)).trans Y3G4
        have U483G5 : ∀ p, jL (jsI G4 487 cs.length (Int32.ofNat (s + (y.2.1.getD j (0, 0)).1 + 9))) 483 p = if p = cs.length then (Int64.ofNat j) else jL H0 483 p := fun p => U483G4 p
        have U484G5 : ∀ p, jL (jsI G4 487 cs.length (Int32.ofNat (s + (y.2.1.getD j (0, 0)).1 + 9))) 484 p = if p = cs.length then (w_cv (nm, j, tb, y, h)) else jL H0 484 p := fun p => U484G4 p
        have U485G5 : ∀ p, jI (jsI G4 487 cs.length (Int32.ofNat (s + (y.2.1.getD j (0, 0)).1 + 9))) 485 p = if p = cs.length then (Int32.ofNat h) else jI H0 485 p := fun p => (jI_sIa (by decide)).trans (U485G4 p)
        have U486G5 : ∀ p, jI (jsI G4 487 cs.length (Int32.ofNat (s + (y.2.1.getD j (0, 0)).1 + 9))) 486 p = if p = cs.length then (a2 &&& 1) else jI H0 486 p := fun p => (jI_sIa (by decide)).trans (U486G4 p)
        have U487G5 : ∀ p, jI (jsI G4 487 cs.length (Int32.ofNat (s + (y.2.1.getD j (0, 0)).1 + 9))) 487 p = if p = cs.length then (Int32.ofNat (s + (y.2.1.getD j (0, 0)).1 + 9)) else jI H0 487 p := fun p => by
          by_cases q : p = cs.length
          · rw [q, if_pos rfl, jI_sIe]
          · rw [if_neg q, jI_sIn q, U487G4]
        have U488G5 : ∀ p, jI (jsI G4 487 cs.length (Int32.ofNat (s + (y.2.1.getD j (0, 0)).1 + 9))) 488 p = jI H0 488 p := fun p => (jI_sIa (by decide)).trans (U488G4 p)
        generalize jsI G4 487 cs.length (Int32.ofNat (s + (y.2.1.getD j (0, 0)).1 + 9)) = G5 at *
        simp only [cG5, sR_421_26 sG5, sR_421_4 sG5, sR_456_14 sG5, jo_nat (n := j) (by omega), jo_nat (n := cs.length) (by omega), Y3G5]
        refine jT_g (k2 sG5) (jT_g (k2 sG5) (jT_g (k2 sG5) (jT_g (k17 sG5) (jT_g (gA (sK_464 sG5) (jo_in (by omega) (by omega))) (jT_g (gIw (sK_488 sG5) (by decide) (jo_in (by omega) (by omega))) (jT_l ?_))))))
        have sG6 : jsh (jsI G5 488 cs.length (Int32.ofNat (y.2.1.getD j (0, 0)).2)) := jsh_sI sG5 (by decide)
        have fG6 : jfr w_Tq H0 (jsI G5 488 cs.length (Int32.ofNat (y.2.1.getD j (0, 0)).2)) := jfr_sI fG5 (Or.inr ⟨by decide, by decide⟩)
        have cG6 : jI (jsI G5 488 cs.length (Int32.ofNat (y.2.1.getD j (0, 0)).2)) 421 17 = Int32.ofNat cs.length := (jI_sIa (by decide)).trans cG5
        have dG6 : jI (jsI G5 488 cs.length (Int32.ofNat (y.2.1.getD j (0, 0)).2)) 421 18 = jI H0 421 18 := (jI_sIa (by decide)).trans dG5
        have BG6 : ∀ p, jB (jsI G5 488 cs.length (Int32.ofNat (y.2.1.getD j (0, 0)).2)) 482 p = jB H 482 p := BG5
        have Y1G6 : jL (jsI G5 488 cs.length (Int32.ofNat (y.2.1.getD j (0, 0)).2)) 462 j = w_cv (nm, j, tb, y, h) := Y1G5
        have Y2G6 : jI (jsI G5 488 cs.length (Int32.ofNat (y.2.1.getD j (0, 0)).2)) 463 j = Int32.ofNat (s + (y.2.1.getD j (0, 0)).1 + 9) := (jI_sIa (by decide)).trans Y2G5
        have Y3G6 : jI (jsI G5 488 cs.length (Int32.ofNat (y.2.1.getD j (0, 0)).2)) 464 j = Int32.ofNat (y.2.1.getD j (0, 0)).2 := (jI_sIa (by decide)).trans Y3G5
        have U483G6 : ∀ p, jL (jsI G5 488 cs.length (Int32.ofNat (y.2.1.getD j (0, 0)).2)) 483 p = if p = cs.length then (Int64.ofNat j) else jL H0 483 p := fun p => U483G5 p
        have U484G6 : ∀ p, jL (jsI G5 488 cs.length (Int32.ofNat (y.2.1.getD j (0, 0)).2)) 484 p = if p = cs.length then (w_cv (nm, j, tb, y, h)) else jL H0 484 p := fun p => U484G5 p
        have U485G6 : ∀ p, jI (jsI G5 488 cs.length (Int32.ofNat (y.2.1.getD j (0, 0)).2)) 485 p = if p = cs.length then (Int32.ofNat h) else jI H0 485 p := fun p => (jI_sIa (by decide)).trans (U485G5 p)
        have U486G6 : ∀ p, jI (jsI G5 488 cs.length (Int32.ofNat (y.2.1.getD j (0, 0)).2)) 486 p = if p = cs.length then (a2 &&& 1) else jI H0 486 p := fun p => (jI_sIa (by decide)).trans (U486G5 p)
        have U487G6 : ∀ p, jI (jsI G5 488 cs.length (Int32.ofNat (y.2.1.getD j (0, 0)).2)) 487 p = if p = cs.length then (Int32.ofNat (s + (y.2.1.getD j (0, 0)).1 + 9)) else jI H0 487 p := fun p => (jI_sIa (by decide)).trans (U487G5 p)
        have U488G6 : ∀ p, jI (jsI G5 488 cs.length (Int32.ofNat (y.2.1.getD j (0, 0)).2)) 488 p = if p = cs.length then (Int32.ofNat (y.2.1.getD j (0, 0)).2) else jI H0 488 p := fun p => by
          by_cases q : p = cs.length
          · rw [q, if_pos rfl, jI_sIe]
          · rw [if_neg q, jI_sIn q, U488G5]
        generalize jsI G5 488 cs.length (Int32.ofNat (y.2.1.getD j (0, 0)).2) = G6 at *
        rw [cG6, en1]
        have s7 : jsh (jsI G6 421 17 (Int32.ofNat (cs.length + 1))) := jsh_sI sG6 (by decide)
        have f7 : jfr w_Tq H0 (jsI G6 421 17 (Int32.ofNat (cs.length + 1))) := jfr_sI fG6 (Or.inl ⟨rfl, Or.inl rfl⟩)
        refine jT_g (k2 sG6) (jT_g (k2 sG6) (jT_l (jT_l ?_)))
        rw [e1']
        have ll : (cs ++ [(nm, j, tb, y, h)]).length = cs.length + 1 := List.length_append
        have lr : ∀ la llen l, w_lq la llen l H0 → w_lq la llen l (jsI G6 421 17 (Int32.ofNat (cs.length + 1))) := fun la llen l ⟨⟨r1, r2, r3, r4, r5, r6⟩, r7⟩ => ⟨⟨(jfr_K f7 474).trans r1, r2, r3, zRow_eq r4 fun p _ => jfr_B f7 (by unfold w_Tq; omega), r5, r6⟩, by rw [jfr_I f7 (by unfold w_Tq; omega)]; exact r7⟩
        refine ih (j + 1) fu (cs ++ [(nm, j, tb, y, h)]) _ (by omega) (by omega) (by omega) s7 (jfr_trans hf0 f7) (w_rx_q hx0 f7 (by decide)) (zRow_eq hn0 fun p _ => jfr_B f7 (by unfold w_Tq; omega)) ⟨by rw [ll]; exact jI_sIe, by omega, fun k c hk2 => ?_⟩ fun H' t1 t2 t3 t4 => hk H' t1 t2 t3 (t4.trans ((jI_sIn (by decide)).trans dG6))
        have V485 := (jI_sIa (H := G6) (a := 421) (i := 17) (v := Int32.ofNat (cs.length + 1)) (b := 485) (j := k) (by decide)).trans (U485G6 k)
        have V486 := (jI_sIa (H := G6) (a := 421) (i := 17) (v := Int32.ofNat (cs.length + 1)) (b := 486) (j := k) (by decide)).trans (U486G6 k)
        have V487 := (jI_sIa (H := G6) (a := 421) (i := 17) (v := Int32.ofNat (cs.length + 1)) (b := 487) (j := k) (by decide)).trans (U487G6 k)
        have V488 := (jI_sIa (H := G6) (a := 421) (i := 17) (v := Int32.ofNat (cs.length + 1)) (b := 488) (j := k) (by decide)).trans (U488G6 k)
        have V483 : jL (jsI G6 421 17 (Int32.ofNat (cs.length + 1))) 483 k = _ := U483G6 k
        have V484 : jL (jsI G6 421 17 (Int32.ofNat (cs.length + 1))) 484 k = _ := U484G6 k
        rw [V483, V484, V485, V486, V487, V488]
        have VB : ∀ p, jB (jsI G6 421 17 (Int32.ofNat (cs.length + 1))) 482 p = jB H 482 p := BG6
        by_cases q : k < cs.length
        · rw [List.getElem?_append_left q] at hk2
          obtain ⟨t1, t2, t3, t4, t5, t6, t7, la, llen, t8, t9⟩ := hrows k c hk2
          rw [if_neg (by omega), if_neg (by omega), if_neg (by omega), if_neg (by omega), if_neg (by omega), if_neg (by omega)]
          refine ⟨t1, fun p u hp => ?_, t3, t4, t5, t6, t7, la, llen, t8, lr _ _ _ t9⟩
          obtain ⟨hpl, -⟩ := List.getElem?_eq_some_iff.mp hp
          rw [t1.1] at hpl
          rw [VB, hBo _ (by omega)]
          exact t2 p u hp
        · obtain ⟨hkl, -⟩ := List.getElem?_eq_some_iff.mp hk2
          rw [ll] at hkl
          obtain rfl : k = cs.length := by omega
          rw [List.getElem?_append_right (Nat.le_refl _), Nat.sub_self] at hk2
          have hc : (nm, j, tb, y, h) = c := Option.some.inj hk2
          subst hc
          rw [if_pos rfl, if_pos rfl, if_pos rfl, if_pos rfl, if_pos rfl, if_pos rfl]
          have ew : w_ck (nm, j, tb, y, h) = w_sl tb ((y.2.1.getD j (0, 0)).1 + 9) (y.2.1.getD j (0, 0)).2 := rfl
          have ckl : (w_ck (nm, j, tb, y, h)).length = (y.2.1.getD j (0, 0)).2 := by
            rw [ew]
            exact w_sl_len (by omega)
          obtain ⟨⟨c1, c2, c3, c4, c5, c6⟩, -⟩ := hx0
          refine ⟨⟨h32, hy, hjj⟩, fun p u hp => ?_, rfl, rfl, rfl, by rw [ert]; exact w_rt_1, by rw [ckl], s + (y.2.1.getD j (0, 0)).1 + 9, len, rfl, lr _ _ _ ⟨⟨c2, by rw [ckl]; omega, c4, by rw [ew]; exact w_sl_row c6 (by omega), by decide, by omega⟩, by rw [ckl, jfr_I hf0 (by unfold w_Tq; omega)]; omega⟩⟩
          obtain ⟨hpl, -⟩ := List.getElem?_eq_some_iff.mp hp
          have hpl' : p < 32 := by have : p < nm.length := hpl; omega
          rw [VB, hB p hpl']
          have hp' : nm[p]? = some u := hp
          rw [List.getD_eq_getElem?_getD, hp']
          rfl
    exact loop 32 0 jfuel H0 rfl (by unfold jfuel; omega) hs0 jfr_refl fun q hq => absurd hq (Nat.not_lt_zero q)
end AD18
