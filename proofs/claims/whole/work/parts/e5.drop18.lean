/-! Coins: the reference drops one. -/
def w_Tq : Nat → Nat → Prop := fun a j => (a = 421 ∧ (j = 17 ∨ j = 18)) ∨ (482 ≤ a ∧ a ≤ 488)
theorem w_rt_1 {tb : List UInt8} {y : w_y} : w_rt tb y &&& 1 = w_rt tb y := by
  unfold w_rt zany
  split <;> decide
theorem jbu_jbs (u : UInt8) : jbu (jbs u) = u := jb_u8 (fun u => jbu (jbs u) = u) (by decide +kernel) u
theorem jL_sLz {H : jH} {a i b j : Nat} {v : Int64} (h : b ≠ a) : jL (jsL H a i v) b j = jL H b j := if_neg fun q => h q.1
section DR18
variable {cs : List w_cn} {Hs : jH} {α : Type} {Q : α → jH → Prop}
theorem w_drop18 {k : Unit → jH → Option (α × jH)} {i m : Nat} {c : w_cn} (hs : jsh Hs) (hCB : w_CB cs Hs) (h18 : jI Hs 421 18 = Int32.ofNat m) (hc : cs[i]? = some c) (hk : ∀ H', jsh H' → jfr w_Tq Hs H' → w_CB (w_dc cs i) H' → jI H' 421 18 = Int32.ofNat (m + 1) → jT (k () H') Q) : jT (jb (F_18_dropCoin 421 (Int32.ofNat i) Hs) k) Q := by
  obtain ⟨h17, hcn, hrows⟩ := hCB
  obtain ⟨hil, -⟩ := List.getElem?_eq_some_iff.mp hc
  have k2 : ∀ {H}, jsh H → (jK H 421).1 = 18 := fun hs => gT (sK_421 hs)
  have s1 : jsh (jsI Hs 421 17 (Int32.ofNat (cs.length - 1))) := jsh_sI hs (by decide)
  have e18 : jI (jsI Hs 421 17 (Int32.ofNat (cs.length - 1))) 421 18 = Int32.ofNat m := (jI_sIn (by decide)).trans h18
  unfold F_18_dropCoin
  rw [h17, w_sub1 (by omega)]
  refine jT_b (jT_g (k2 hs) (jT_g (k2 hs) (jT_l ?_)))
  rw [e18, show Int32.ofNat m + 1 = Int32.ofNat (m + 1) from jo_add (a := m) (b := 1)]
  have s2 : jsh (jsI (jsI Hs 421 17 (Int32.ofNat (cs.length - 1))) 421 18 (Int32.ofNat (m + 1))) := jsh_sI s1 (by decide)
  have f2 : jfr w_Tq Hs (jsI (jsI Hs 421 17 (Int32.ofNat (cs.length - 1))) 421 18 (Int32.ofNat (m + 1))) := jfr_sI (jfr_sI jfr_refl (Or.inl ⟨rfl, Or.inl rfl⟩)) (Or.inl ⟨rfl, Or.inr rfl⟩)
  have g2 : jfr (fun a _ => a = 421) Hs (jsI (jsI Hs 421 17 (Int32.ofNat (cs.length - 1))) 421 18 (Int32.ofNat (m + 1))) := jfr_sI (jfr_sI jfr_refl rfl) rfl
  have v17 : jI (jsI (jsI Hs 421 17 (Int32.ofNat (cs.length - 1))) 421 18 (Int32.ofNat (m + 1))) 421 17 = Int32.ofNat (cs.length - 1) := (jI_sIn (by decide)).trans jI_sIe
  have v18 : jI (jsI (jsI Hs 421 17 (Int32.ofNat (cs.length - 1))) 421 18 (Int32.ofNat (m + 1))) 421 18 = Int32.ofNat (m + 1) := jI_sIe
  refine jT_g (k2 s1) (jT_g (k2 s1) (jT_l ?_))
  generalize jsI (jsI Hs 421 17 (Int32.ofNat (cs.length - 1))) 421 18 (Int32.ofNat (m + 1)) = H2 at *
  have e32 : ∀ a b : Nat, (32 : Int32) * Int32.ofNat a + Int32.ofNat b = Int32.ofNat (32 * a + b) := fun a b => by rw [show (32 : Int32) = Int32.ofNat 32 from rfl, jo_mul, jo_add]
  have loop : ∀ (d j fu : Nat) (H : jH), j + d = 32 → d < fu → jsh H → jfr (fun a p => a = 482 ∧ 32 * i ≤ p ∧ p < 32 * i + 32) H2 H → (∀ p, p < j → jB H 482 (32 * i + p) = jB H2 482 (32 * (cs.length - 1) + p)) → (∀ p, j ≤ p → p < 32 → jB H 482 (32 * (cs.length - 1) + p) = jB H2 482 (32 * (cs.length - 1) + p)) → jT (F_18_dropCoin_22 fu 421 (Int32.ofNat i) (Int32.ofNat j) H) (fun x h => jT (k x h) Q) := by
    intro d
    induction d with
    | succ d ih =>
      intro j fu H hj hfu hs3 hf hd hd2
      obtain ⟨fu, rfl⟩ : ∃ k, fu = k + 1 := ⟨fu - 1, by omega⟩
      have e17 : jI H 421 17 = Int32.ofNat (cs.length - 1) := (jfr_I hf (by omega)).trans v17
      have e1 : Int32.ofNat j + 1 = Int32.ofNat (j + 1) := jo_add (a := j) (b := 1)
      unfold F_18_dropCoin_22 B_18_dropCoin_22
      rw [e17, sR_421_20 hs3, e32, e32, jo_nat (n := 32 * (cs.length - 1) + j) (by omega), jo_nat (n := 32 * i + j) (by omega), jbu_jbs, e1]
      refine jT_neg (by rw [show (32 : Int32) = Int32.ofNat 32 from rfl, jo_le (by decide) (by omega)]; omega) (jT_g (k2 hs3) (jT_g (k2 hs3) (jT_g (k2 hs3) (jT_g (gA (sK_482 hs3) (jo_in (by omega) (by omega))) (jT_g (gA (sK_482 hs3) (jo_in (by omega) (by omega))) (jT_l (jT_l (ih (j + 1) fu _ (by omega) (by omega) (jsh_sB hs3) (jfr_sB hf ⟨rfl, by omega, by omega⟩) (fun p hp => ?_) fun p hp hp2 => ?_))))))))
      · by_cases q : p = j
        · rw [q, jB_sBe]
          exact hd2 j (Nat.le_refl j) (by omega)
        · rw [jB_sBn (by omega)]
          exact hd p (by omega)
      · by_cases q : 32 * (cs.length - 1) + p = 32 * i + j
        · omega
        · rw [jB_sBn q]
          exact hd2 p (by omega) hp2
    | zero =>
      intro j fu H hj hfu s3 hf hd _
      obtain ⟨fu, rfl⟩ : ∃ k, fu = k + 1 := ⟨fu - 1, by omega⟩
      obtain rfl : j = 32 := by omega
      have fA : jfr w_Tq Hs H := jfr_trans f2 (jfr_mono hf fun a p q => Or.inr (by omega))
      have e17 : jI H 421 17 = Int32.ofNat (cs.length - 1) := (jfr_I hf (by omega)).trans v17
      have e18' : jI H 421 18 = Int32.ofNat (m + 1) := (jfr_I hf (by omega)).trans v18
      -- as it stood before
      have hB : ∀ p, p < 32 → jB H 482 (32 * i + p) = jB Hs 482 (32 * (cs.length - 1) + p) := fun p hp => (hd p hp).trans (jfr_B g2 (by decide))
      have hBo : ∀ p, ¬ (32 * i ≤ p ∧ p < 32 * i + 32) → jB H 482 p = jB Hs 482 p := fun p hp => (jfr_B hf fun q => hp q.2).trans (jfr_B g2 (by decide))
      have gg : jfr (fun a _ => a = 421 ∨ a = 482) Hs H := jfr_trans (jfr_mono g2 fun _ _ q => Or.inl q) (jfr_mono hf fun _ _ q => Or.inr q.1)
      unfold F_18_dropCoin_22 B_18_dropCoin_22
      refine jT_pos (by decide) ?_
      have U4830 : ∀ p, jL H 483 p = jL Hs 483 p := fun p => jfr_L gg (by decide)
      have U4840 : ∀ p, jL H 484 p = jL Hs 484 p := fun p => jfr_L gg (by decide)
      have U4850 : ∀ p, jI H 485 p = jI Hs 485 p := fun p => jfr_I gg (by decide)
      have U4860 : ∀ p, jI H 486 p = jI Hs 486 p := fun p => jfr_I gg (by decide)
      have U4870 : ∀ p, jI H 487 p = jI Hs 487 p := fun p => jfr_I gg (by decide)
      have U4880 : ∀ p, jI H 488 p = jI Hs 488 p := fun p => jfr_I gg (by decide)
      have B0 : ∀ p, jB H 482 p = jB H 482 p := fun _ => rfl
      rw [e17, sR_421_21 s3, jo_nat (n := cs.length - 1) (by omega), jo_nat (n := i) (by omega)]
      refine jT_g (k2 s3) (jT_g (k2 s3) (jT_g (k2 s3) (jT_g (gA (sK_483 s3) (jo_in (by omega) (by omega))) (jT_g (gA (sK_483 s3) (jo_in (by omega) (by omega))) (jT_l ?_)))))
      have sG1 : jsh (jsL H 483 i (jL H 483 (cs.length - 1))) := jsh_sL s3
      have fG1 : jfr w_Tq Hs (jsL H 483 i (jL H 483 (cs.length - 1))) := jfr_sL fA (Or.inr ⟨by decide, by decide⟩)
      have cG1 : jI (jsL H 483 i (jL H 483 (cs.length - 1))) 421 17 = Int32.ofNat (cs.length - 1) := e17
      have dG1 : jI (jsL H 483 i (jL H 483 (cs.length - 1))) 421 18 = Int32.ofNat (m + 1) := e18'
      have BG1 : ∀ p, jB (jsL H 483 i (jL H 483 (cs.length - 1))) 482 p = jB H 482 p := B0
      have U483G1 : ∀ p, jL (jsL H 483 i (jL H 483 (cs.length - 1))) 483 p = if p = i then jL Hs 483 (cs.length - 1) else jL Hs 483 p := fun p => by
        by_cases q : p = i
        · rw [q, if_pos rfl, jL_sLe, U4830]
        · rw [if_neg q, jL_sLn q, U4830]
      have U484G1 : ∀ p, jL (jsL H 483 i (jL H 483 (cs.length - 1))) 484 p = jL Hs 484 p := fun p => (jL_sLz (by decide)).trans (U4840 p)
      have U485G1 : ∀ p, jI (jsL H 483 i (jL H 483 (cs.length - 1))) 485 p = jI Hs 485 p := fun p => U4850 p
      have U486G1 : ∀ p, jI (jsL H 483 i (jL H 483 (cs.length - 1))) 486 p = jI Hs 486 p := fun p => U4860 p
      have U487G1 : ∀ p, jI (jsL H 483 i (jL H 483 (cs.length - 1))) 487 p = jI Hs 487 p := fun p => U4870 p
      have U488G1 : ∀ p, jI (jsL H 483 i (jL H 483 (cs.length - 1))) 488 p = jI Hs 488 p := fun p => U4880 p
      generalize jsL H 483 i (jL H 483 (cs.length - 1)) = G1 at *
      rw [cG1, sR_421_22 sG1, jo_nat (n := cs.length - 1) (by omega)]
      refine jT_g (k2 sG1) (jT_g (k2 sG1) (jT_g (k2 sG1) (jT_g (gA (sK_484 sG1) (jo_in (by omega) (by omega))) (jT_g (gA (sK_484 sG1) (jo_in (by omega) (by omega))) (jT_l ?_)))))
      have sG2 : jsh (jsL G1 484 i (jL G1 484 (cs.length - 1))) := jsh_sL sG1
      have fG2 : jfr w_Tq Hs (jsL G1 484 i (jL G1 484 (cs.length - 1))) := jfr_sL fG1 (Or.inr ⟨by decide, by decide⟩)
      have cG2 : jI (jsL G1 484 i (jL G1 484 (cs.length - 1))) 421 17 = Int32.ofNat (cs.length - 1) := cG1
      have dG2 : jI (jsL G1 484 i (jL G1 484 (cs.length - 1))) 421 18 = Int32.ofNat (m + 1) := dG1
      have BG2 : ∀ p, jB (jsL G1 484 i (jL G1 484 (cs.length - 1))) 482 p = jB H 482 p := BG1
      have U483G2 : ∀ p, jL (jsL G1 484 i (jL G1 484 (cs.length - 1))) 483 p = if p = i then jL Hs 483 (cs.length - 1) else jL Hs 483 p := fun p => (jL_sLz (by decide)).trans (U483G1 p)
      have U484G2 : ∀ p, jL (jsL G1 484 i (jL G1 484 (cs.length - 1))) 484 p = if p = i then jL Hs 484 (cs.length - 1) else jL Hs 484 p := fun p => by
        by_cases q : p = i
        · rw [q, if_pos rfl, jL_sLe, U484G1]
        · rw [if_neg q, jL_sLn q, U484G1]
      have U485G2 : ∀ p, jI (jsL G1 484 i (jL G1 484 (cs.length - 1))) 485 p = jI Hs 485 p := fun p => U485G1 p
      have U486G2 : ∀ p, jI (jsL G1 484 i (jL G1 484 (cs.length - 1))) 486 p = jI Hs 486 p := fun p => U486G1 p
      have U487G2 : ∀ p, jI (jsL G1 484 i (jL G1 484 (cs.length - 1))) 487 p = jI Hs 487 p := fun p => U487G1 p
      have U488G2 : ∀ p, jI (jsL G1 484 i (jL G1 484 (cs.length - 1))) 488 p = jI Hs 488 p := fun p => U488G1 p
      generalize jsL G1 484 i (jL G1 484 (cs.length - 1)) = G2 at *
      rw [cG2, sR_421_23 sG2, jo_nat (n := cs.length - 1) (by omega)]
      refine jT_g (k2 sG2) (jT_g (k2 sG2) (jT_g (k2 sG2) (jT_g (gA (sK_485 sG2) (jo_in (by omega) (by omega))) (jT_g (gIw (sK_485 sG2) (by decide) (jo_in (by omega) (by omega))) (jT_l ?_)))))
      have sG3 : jsh (jsI G2 485 i (jI G2 485 (cs.length - 1))) := jsh_sI sG2 (by decide)
      have fG3 : jfr w_Tq Hs (jsI G2 485 i (jI G2 485 (cs.length - 1))) := jfr_sI fG2 (Or.inr ⟨by decide, by decide⟩)
      have cG3 : jI (jsI G2 485 i (jI G2 485 (cs.length - 1))) 421 17 = Int32.ofNat (cs.length - 1) := (jI_sIa (by decide)).trans cG2
      have dG3 : jI (jsI G2 485 i (jI G2 485 (cs.length - 1))) 421 18 = Int32.ofNat (m + 1) := (jI_sIa (by decide)).trans dG2
      have BG3 : ∀ p, jB (jsI G2 485 i (jI G2 485 (cs.length - 1))) 482 p = jB H 482 p := BG2
      have U483G3 : ∀ p, jL (jsI G2 485 i (jI G2 485 (cs.length - 1))) 483 p = if p = i then jL Hs 483 (cs.length - 1) else jL Hs 483 p := fun p => U483G2 p
      have U484G3 : ∀ p, jL (jsI G2 485 i (jI G2 485 (cs.length - 1))) 484 p = if p = i then jL Hs 484 (cs.length - 1) else jL Hs 484 p := fun p => U484G2 p
      have U485G3 : ∀ p, jI (jsI G2 485 i (jI G2 485 (cs.length - 1))) 485 p = if p = i then jI Hs 485 (cs.length - 1) else jI Hs 485 p := fun p => by
        by_cases q : p = i
        · rw [q, if_pos rfl, jI_sIe, U485G2]
        · rw [if_neg q, jI_sIn q, U485G2]
      have U486G3 : ∀ p, jI (jsI G2 485 i (jI G2 485 (cs.length - 1))) 486 p = jI Hs 486 p := fun p => (jI_sIa (by decide)).trans (U486G2 p)
      have U487G3 : ∀ p, jI (jsI G2 485 i (jI G2 485 (cs.length - 1))) 487 p = jI Hs 487 p := fun p => (jI_sIa (by decide)).trans (U487G2 p)
      have U488G3 : ∀ p, jI (jsI G2 485 i (jI G2 485 (cs.length - 1))) 488 p = jI Hs 488 p := fun p => (jI_sIa (by decide)).trans (U488G2 p)
      generalize jsI G2 485 i (jI G2 485 (cs.length - 1)) = G3 at *
      rw [cG3, sR_421_24 sG3, jo_nat (n := cs.length - 1) (by omega)]
      refine jT_g (k2 sG3) (jT_g (k2 sG3) (jT_g (k2 sG3) (jT_g (gA (sK_486 sG3) (jo_in (by omega) (by omega))) (jT_g (gA (sK_486 sG3) (jo_in (by omega) (by omega))) (jT_l ?_)))))
      have sG4 : jsh (jsI G3 486 i (jI G3 486 (cs.length - 1) &&& 1)) := jsh_sI sG3 (by decide)
      have fG4 : jfr w_Tq Hs (jsI G3 486 i (jI G3 486 (cs.length - 1) &&& 1)) := jfr_sI fG3 (Or.inr ⟨by decide, by decide⟩)
      have cG4 : jI (jsI G3 486 i (jI G3 486 (cs.length - 1) &&& 1)) 421 17 = Int32.ofNat (cs.length - 1) := (jI_sIa (by decide)).trans cG3
      have dG4 : jI (jsI G3 486 i (jI G3 486 (cs.length - 1) &&& 1)) 421 18 = Int32.ofNat (m + 1) := (jI_sIa (by decide)).trans dG3
      have BG4 : ∀ p, jB (jsI G3 486 i (jI G3 486 (cs.length - 1) &&& 1)) 482 p = jB H 482 p := BG3
      have U483G4 : ∀ p, jL (jsI G3 486 i (jI G3 486 (cs.length - 1) &&& 1)) 483 p = if p = i then jL Hs 483 (cs.length - 1) else jL Hs 483 p := fun p => U483G3 p
      have U484G4 : ∀ p, jL (jsI G3 486 i (jI G3 486 (cs.length - 1) &&& 1)) 484 p = if p = i then jL Hs 484 (cs.length - 1) else jL Hs 484 p := fun p => U484G3 p
      have U485G4 : ∀ p, jI (jsI G3 486 i (jI G3 486 (cs.length - 1) &&& 1)) 485 p = if p = i then jI Hs 485 (cs.length - 1) else jI Hs 485 p := fun p => (jI_sIa (by decide)).trans (U485G3 p)
      have U486G4 : ∀ p, jI (jsI G3 486 i (jI G3 486 (cs.length - 1) &&& 1)) 486 p = if p = i then jI Hs 486 (cs.length - 1) &&& 1 else jI Hs 486 p := fun p => by
        by_cases q : p = i
        · rw [q, if_pos rfl, jI_sIe, U486G3]
        · rw [if_neg q, jI_sIn q, U486G3]
      have U487G4 : ∀ p, jI (jsI G3 486 i (jI G3 486 (cs.length - 1) &&& 1)) 487 p = jI Hs 487 p := fun p => (jI_sIa (by decide)).trans (U487G3 p)
      have U488G4 : ∀ p, jI (jsI G3 486 i (jI G3 486 (cs.length - 1) &&& 1)) 488 p = jI Hs 488 p := fun p => (jI_sIa (by decide)).trans (U488G3 p)
      generalize jsI G3 486 i (jI G3 486 (cs.length - 1) &&& 1) = G4 at *
      rw [cG4, sR_421_25 sG4, jo_nat (n := cs.length - 1) (by omega)]
      refine jT_g (k2 sG4) (jT_g (k2 sG4) (jT_g (k2 sG4) (jT_g (gA (sK_487 sG4) (jo_in (by omega) (by omega))) (jT_g (gIw (sK_487 sG4) (by decide) (jo_in (by omega) (by omega))) (jT_l ?_)))))
      have sG5 : jsh (jsI G4 487 i (jI G4 487 (cs.length - 1))) := jsh_sI sG4 (by decide)
      have fG5 : jfr w_Tq Hs (jsI G4 487 i (jI G4 487 (cs.length - 1))) := jfr_sI fG4 (Or.inr ⟨by decide, by decide⟩)
      have cG5 : jI (jsI G4 487 i (jI G4 487 (cs.length - 1))) 421 17 = Int32.ofNat (cs.length - 1) := (jI_sIa (by decide)).trans cG4
      have dG5 : jI (jsI G4 487 i (jI G4 487 (cs.length - 1))) 421 18 = Int32.ofNat (m + 1) := (jI_sIa (by decide)).trans dG4
      have BG5 : ∀ p, jB (jsI G4 487 i (jI G4 487 (cs.length - 1))) 482 p = jB H 482 p := BG4
      have U483G5 : ∀ p, jL (jsI G4 487 i (jI G4 487 (cs.length - 1))) 483 p = if p = i then jL Hs 483 (cs.length - 1) else jL Hs 483 p := fun p => U483G4 p
      have U484G5 : ∀ p, jL (jsI G4 487 i (jI G4 487 (cs.length - 1))) 484 p = if p = i then jL Hs 484 (cs.length - 1) else jL Hs 484 p := fun p => U484G4 p
      have U485G5 : ∀ p, jI (jsI G4 487 i (jI G4 487 (cs.length - 1))) 485 p = if p = i then jI Hs 485 (cs.length - 1) else jI Hs 485 p := fun p => (jI_sIa (by decide)).trans (U485G4 p)
      have U486G5 : ∀ p, jI (jsI G4 487 i (jI G4 487 (cs.length - 1))) 486 p = if p = i then jI Hs 486 (cs.length - 1) &&& 1 else jI Hs 486 p := fun p => (jI_sIa (by decide)).trans (U486G4 p)
      have U487G5 : ∀ p, jI (jsI G4 487 i (jI G4 487 (cs.length - 1))) 487 p = if p = i then jI Hs 487 (cs.length - 1) else jI Hs 487 p := fun p => by
        by_cases q : p = i
        · rw [q, if_pos rfl, jI_sIe, U487G4]
        · rw [if_neg q, jI_sIn q, U487G4]
      have U488G5 : ∀ p, jI (jsI G4 487 i (jI G4 487 (cs.length - 1))) 488 p = jI Hs 488 p := fun p => (jI_sIa (by decide)).trans (U488G4 p)
      generalize jsI G4 487 i (jI G4 487 (cs.length - 1)) = G5 at *
      rw [cG5, sR_421_26 sG5, jo_nat (n := cs.length - 1) (by omega)]
      refine jT_g (k2 sG5) (jT_g (k2 sG5) (jT_g (k2 sG5) (jT_g (gA (sK_488 sG5) (jo_in (by omega) (by omega))) (jT_g (gIw (sK_488 sG5) (by decide) (jo_in (by omega) (by omega))) (jT_l ?_)))))
      have sG6 : jsh (jsI G5 488 i (jI G5 488 (cs.length - 1))) := jsh_sI sG5 (by decide)
      have fG6 : jfr w_Tq Hs (jsI G5 488 i (jI G5 488 (cs.length - 1))) := jfr_sI fG5 (Or.inr ⟨by decide, by decide⟩)
      have cG6 : jI (jsI G5 488 i (jI G5 488 (cs.length - 1))) 421 17 = Int32.ofNat (cs.length - 1) := (jI_sIa (by decide)).trans cG5
      have dG6 : jI (jsI G5 488 i (jI G5 488 (cs.length - 1))) 421 18 = Int32.ofNat (m + 1) := (jI_sIa (by decide)).trans dG5
      have BG6 : ∀ p, jB (jsI G5 488 i (jI G5 488 (cs.length - 1))) 482 p = jB H 482 p := BG5
      have U483G6 : ∀ p, jL (jsI G5 488 i (jI G5 488 (cs.length - 1))) 483 p = if p = i then jL Hs 483 (cs.length - 1) else jL Hs 483 p := fun p => U483G5 p
      have U484G6 : ∀ p, jL (jsI G5 488 i (jI G5 488 (cs.length - 1))) 484 p = if p = i then jL Hs 484 (cs.length - 1) else jL Hs 484 p := fun p => U484G5 p
      have U485G6 : ∀ p, jI (jsI G5 488 i (jI G5 488 (cs.length - 1))) 485 p = if p = i then jI Hs 485 (cs.length - 1) else jI Hs 485 p := fun p => (jI_sIa (by decide)).trans (U485G5 p)
      have U486G6 : ∀ p, jI (jsI G5 488 i (jI G5 488 (cs.length - 1))) 486 p = if p = i then jI Hs 486 (cs.length - 1) &&& 1 else jI Hs 486 p := fun p => (jI_sIa (by decide)).trans (U486G5 p)
      have U487G6 : ∀ p, jI (jsI G5 488 i (jI G5 488 (cs.length - 1))) 487 p = if p = i then jI Hs 487 (cs.length - 1) else jI Hs 487 p := fun p => (jI_sIa (by decide)).trans (U487G5 p)
      have U488G6 : ∀ p, jI (jsI G5 488 i (jI G5 488 (cs.length - 1))) 488 p = if p = i then jI Hs 488 (cs.length - 1) else jI Hs 488 p := fun p => by
        by_cases q : p = i
        · rw [q, if_pos rfl, jI_sIe, U488G5]
        · rw [if_neg q, jI_sIn q, U488G5]
      generalize jsI G5 488 i (jI G5 488 (cs.length - 1)) = G6 at *
      have hpos : 0 < cs.length := by omega
      obtain ⟨ol, l1, l2, l3, l4, l5, l6, lla, lln, l7, l8⟩ := hrows _ _ (w_last_c hpos)
      have lr : ∀ la llen l, w_lq la llen l Hs → w_lq la llen l G6 := fun la llen l ⟨⟨r1, r2, r3, r4, r5, r6⟩, r7⟩ => ⟨⟨(jfr_K fG6 474).trans r1, r2, r3, zRow_eq r4 fun p _ => jfr_B fG6 (by unfold w_Tq; omega), r5, r6⟩, by rw [jfr_I fG6 (by unfold w_Tq; omega)]; exact r7⟩
      refine jT_ret (hk G6 sG6 fG6 ⟨by rw [w_dc_len]; exact cG6, by rw [w_dc_len]; omega, fun j c' hj => ?_⟩ dG6)
      obtain ⟨hjl, -⟩ := List.getElem?_eq_some_iff.mp hj
      rw [w_dc_len] at hjl
      rw [w_dc_at hjl] at hj
      rw [U483G6, U484G6, U485G6, U486G6, U487G6, U488G6]
      by_cases q : j = i
      · rw [if_pos q, if_pos q, if_pos q, if_pos q, if_pos q, if_pos q]
        rw [if_pos q.symm] at hj
        rw [← Option.some.inj hj, l5, w_rt_1]
        refine ⟨ol, fun p u hp => ?_, l2, l3, l4, rfl, l6, lla, lln, l7, lr _ _ _ l8⟩
        obtain ⟨hpl, -⟩ := List.getElem?_eq_some_iff.mp hp
        rw [ol.1] at hpl
        rw [BG6, q, hB p hpl]
        exact l1 p u hp
      · rw [if_neg q, if_neg q, if_neg q, if_neg q, if_neg q, if_neg q]
        rw [if_neg fun w => q w.symm] at hj
        obtain ⟨t1, t2, t3, t4, t5, t6, t7, la, llen, t8, t9⟩ := hrows j c' hj
        refine ⟨t1, fun p u hp => ?_, t3, t4, t5, t6, t7, la, llen, t8, lr _ _ _ t9⟩
        obtain ⟨hpl, -⟩ := List.getElem?_eq_some_iff.mp hp
        rw [t1.1] at hpl
        rw [BG6, hBo _ (by omega)]
        exact t2 p u hp
  exact loop 32 0 jfuel H2 rfl (by unfold jfuel; omega) s2 jfr_refl (fun p hp => absurd hp (Nat.not_lt_zero p)) fun _ _ _ => rfl
end DR18
