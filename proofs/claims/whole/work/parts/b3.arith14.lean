/-! The reference's scripts: alike, numbers of one and of two. -/
theorem w_en_t : ztrue (w_en 1) = true ∧ ztrue (w_en 0) = false := by decide +kernel
theorem w_dr_snoc {st : w_R} {it : List UInt8} : w_dr (st ++ [it]) 1 = st := by
  unfold w_dr
  rw [List.length_append]
  show (st ++ [it]).take (st.length + 1 - 1) = st
  rw [Nat.add_sub_cancel, List.take_left]
theorem w_tp_snoc {st : w_R} {it : List UInt8} : w_tp (st ++ [it]) 1 = it := by
  unfold w_tp
  rw [List.length_append, List.getD_eq_getElem?_getD, List.getElem?_append_right (by show st.length ≤ st.length + 1 - 1; omega), show st.length + [it].length - 1 - st.length = 0 by show st.length + 1 - 1 - st.length = 0; omega]
  rfl
section AR14
variable {scr : List UInt8} {S : w_S4} {lf : Nat} {H0 H : jH} {α : Type} {Q : α → jH → Prop} {c : Nat}
theorem z14_isSame {r q : Nat} {r' q' : Int32} {A B : List UInt8} (hs : jsh H) (er : r' = Int32.ofNat r) (eq : q' = Int32.ofNat q) (hr : r < 140) (hq : q < 140) (ra : w_row H r A) (rb : w_row H q B) : F_14_isSame 437 r' q' H = some ((if A = B then 1 else 0), H) := by
  subst er
  subst eq
  obtain ⟨a1, a2, a3⟩ := ra
  obtain ⟨b1, b2, b3⟩ := rb
  have em : ∀ m j : Nat, (120 : Int32) * Int32.ofNat m + Int32.ofNat j = Int32.ofNat (120 * m + j) := fun m j => by rw [show (120 : Int32) = Int32.ofNat 120 from rfl, jo_mul, jo_add]
  have loop : ∀ (d i fu : Nat) (s : Bool), i + d = A.length → d < fu → (s = true ↔ A.length = B.length ∧ ∀ j, j < i → A[j]? = B[j]?) → F_14_isSame_24 fu 437 (Int32.ofNat r) (Int32.ofNat q) (if s = true then 1 else 0) (Int32.ofNat i) H = some ((if A = B then 1 else 0), H) := by
    intro d
    induction d with
    | zero =>
      intro i fu s hi hfu hsx
      obtain ⟨fu, rfl⟩ : ∃ k, fu = k + 1 := ⟨fu - 1, by omega⟩
      have e : s = true ↔ A = B := by
        rw [hsx]
        refine ⟨fun w => List.ext_getElem? fun j => ?_, fun w => by rw [w]; exact ⟨rfl, fun _ _ => rfl⟩⟩
        by_cases cj : j < i
        · exact w.2 j cj
        · rw [List.getElem?_eq_none (by omega), List.getElem?_eq_none (by omega)]
      unfold F_14_isSame_24 B_14_isSame_24
      rw [jg_t (k14 hs), sR_437_1 hs, jg_t (gA (sK_439 hs) (jo_in (by omega) hr)), jo_nat (n := r) (by omega), a2, if_pos (by rw [jo_le (by omega) (by omega)]; omega), jg_t (by cases s <;> simp)]
      by_cases c0 : A = B
      · rw [if_pos c0, if_pos (e.mpr c0)]
      · rw [if_neg c0, if_neg (fun w => c0 (e.mp w))]
    | succ d ih =>
      intro i fu s hi hfu hsx
      obtain ⟨fu, rfl⟩ : ∃ k, fu = k + 1 := ⟨fu - 1, by omega⟩
      have e1 : Int32.ofNat i + 1 = Int32.ofNat (i + 1) := jo_add (a := i) (b := 1)
      have hst : ∀ s' : Bool, (s' = true ↔ s = true ∧ A[i]? = B[i]?) → F_14_isSame_24 fu 437 (Int32.ofNat r) (Int32.ofNat q) (if s' = true then 1 else 0) (Int32.ofNat (i + 1)) H = some ((if A = B then 1 else 0), H) := fun s' hs' => by
        refine ih (i + 1) fu s' (by omega) (by omega) ?_
        rw [hs', hsx]
        refine ⟨fun w => ⟨w.1.1, fun j hj => ?_⟩, fun w => ⟨⟨w.1, fun j hj => w.2 j (by omega)⟩, w.2 i (by omega)⟩⟩
        by_cases cj : j = i
        · rw [cj]
          exact w.2
        · exact w.1.2 j (by omega)
      unfold F_14_isSame_24 B_14_isSame_24 B_14_isSame_70 B_14_isSame_71
      rw [jg_t (k14 hs), sR_437_1 hs, jg_t (gA (sK_439 hs) (jo_in (by omega) hr)), jo_nat (n := r) (by omega), a2, if_neg (by rw [jo_le (by omega) (by omega)]; omega), e1]
      cases s with
      | false =>
        rw [if_pos (by decide)]
        exact hst false (by simp)
      | true =>
        have hAB := (hsx.mp rfl).1
        have eA : jI H 438 (120 * r + i) = Int32.ofNat (A.getD i 0).toNat := a3 i _ (getD_of (by omega))
        have eB : jI H 438 (120 * q + i) = Int32.ofNat (B.getD i 0).toNat := b3 i _ (getD_of (by omega))
        rw [if_neg (by decide), jg_t (k14 hs), sR_437_0 hs, em, em, jg_t (gA (sK_438 hs) (jo_in (by omega) (by omega))), jg_t (k14 hs), jg_t (gA (sK_438 hs) (jo_in (by omega) (by omega))), jo_nat (n := 120 * r + i) (by omega), jo_nat (n := 120 * q + i) (by omega), eA, eB]
        by_cases c0 : A.getD i 0 = B.getD i 0
        · rw [if_neg (fun w => w (by rw [c0]))]
          refine hst true ?_
          rw [getD_of (l := A) (by omega), getD_of (l := B) (by omega), c0]
          simp
        · rw [if_pos (fun w => c0 (jo_u8.mp w))]
          refine hst false ?_
          rw [getD_of (l := A) (by omega), getD_of (l := B) (by omega)]
          simp only [Bool.false_eq_true, false_iff]
          exact fun w => c0 (Option.some.inj w.2)
  unfold F_14_isSame B_14_isSame_20
  rw [jg_t (k14 hs), sR_437_1 hs, jg_t (gA (sK_439 hs) (jo_in (by omega) hr)), jg_t (k14 hs), jg_t (gA (sK_439 hs) (jo_in (by omega) hq)), jo_nat (n := r) (by omega), jo_nat (n := q) (by omega), a2, b2]
  by_cases c0 : A.length = B.length
  · rw [if_neg (fun w => w (by rw [c0]))]
    exact loop A.length 0 jfuel true (by omega) (by unfold jfuel; omega) ⟨fun _ => ⟨c0, fun j hj => absurd hj (Nat.not_lt_zero j)⟩, fun _ => rfl⟩
  · rw [if_pos (fun w => c0 ((jo_eq (by omega) (by omega)).mp w))]
    exact loop A.length 0 jfuel false (by omega) (by unfold jfuel; omega) ⟨fun w => by simp at w, fun w => absurd w.1 c0⟩
theorem w_sub2 {n : Nat} (h : 2 ≤ n) : Int32.ofNat n - 2 = Int32.ofNat (n - 2) := jo_sub (a := n) (b := 2) h
theorem w_cmp14 {k : Unit → jH → Option (α × jH)} {x : Int32} (hc : c = 135 ∨ c = 136) (ex : x = if c = 136 then 1 else 0) (h : w_Z scr S lf H0 H) (hl : S.1.length ≤ 60) (hk1 : ∀ st' sd' H', w_cmp c S.1 S.2.1 = some (st', sd') → w_Z scr (st', sd', S.2.2) lf H0 H' → jT (k () H') Q) (hk0 : ∀ H', w_cmp c S.1 S.2.1 = none → w_Yf H0 H' → jT (k () H') Q) : jT (jb (F_14_equal 437 x H) k) Q := by
  unfold F_14_equal B_14_equal_47
  refine jT_b (jT_g (w_Zk h) (w_has14 (n := 2) h rfl (by decide) (fun hl2 => ?_) fun hl2 H' hy => jT_neg (fun q => q rfl) (jT_ret (hk0 H' (by unfold w_cmp; rw [if_pos (Or.inr hl2)]) hy))))
  refine jT_pos (by decide) (jT_g (w_Zk h) ?_)
  rw [z14_top (k := 0) (k' := 0) h rfl (by omega), jb_ok]
  refine jT_g (w_Zk h) ?_
  rw [z14_top (k := 1) (k' := 1) h rfl (by omega), jb_ok]
  refine jT_g (w_Zk h) ?_
  rw [z14_isSame h.1.1 rfl rfl (by omega) (by omega) (w_rowA h (w_tp0 (k := 0) (by omega))) (w_rowA h (w_tp0 (k := 1) (by omega))), jb_ok, h.2.1.1, w_sub2 hl2]
  have h' := w_Z_take (n := S.1.length - 2) h (by omega)
  refine jT_g (w_Zk h) (jT_g (w_Zk h) (jT_l ?_))
  generalize jsI H 437 2 (Int32.ofNat (S.1.length - 2)) = H1 at *
  have ecmp : w_cmp c S.1 S.2.1 = if c = 135 then some (w_dr S.1 2 ++ [w_en (if w_tp S.1 1 = w_tp S.1 2 then 1 else 0)], S.2.1) else if w_tp S.1 1 = w_tp S.1 2 then some (w_dr S.1 2, S.2.1) else none := by
    unfold w_cmp
    rw [if_neg (by omega)]
  refine jT_g (w_Zk h') (w_truth14 (P := w_tp S.1 1 = w_tp S.1 2) rfl h' (by show (S.1.take (S.1.length - 2)).length < 66; rw [List.length_take]; omega) fun H2 h2 => ?_)
  by_cases c5 : c = 135
  · refine jT_pos (by rw [ex, if_neg (by omega)]) (jT_ret (hk1 _ _ H2 (by rw [ecmp, if_pos c5]; rfl) h2))
  · rw [if_neg c5] at ecmp
    refine jT_neg (by rw [ex, if_pos (by omega)]; decide) (jT_g (w_Zk h2) (w_must14 h2 (fun _ t H3 h3 => ?_) fun t H3 hy => ?_))
    · have e1 : w_tp (S.1.take (S.1.length - 2) ++ [w_en (if w_tp S.1 1 = w_tp S.1 2 then 1 else 0)]) 1 = _ := w_tp_snoc
      have t' : ztrue (w_tp (S.1.take (S.1.length - 2) ++ [w_en (if w_tp S.1 1 = w_tp S.1 2 then 1 else 0)]) 1) = true := t
      rw [e1] at t'
      have h3' : w_Z scr (w_dr (S.1.take (S.1.length - 2) ++ [w_en (if w_tp S.1 1 = w_tp S.1 2 then 1 else 0)]) 1, S.2) lf H0 H3 := h3
      rw [w_dr_snoc] at h3'
      by_cases p : w_tp S.1 1 = w_tp S.1 2
      · exact jT_ret (hk1 _ _ H3 (by rw [ecmp, if_pos p]; rfl) h3')
      · rw [if_neg p, w_en_t.2] at t'
        cases t'
    · by_cases p : w_tp S.1 1 = w_tp S.1 2
      · exfalso
        refine t ⟨by show 1 ≤ (S.1.take (S.1.length - 2) ++ [_]).length; rw [List.length_append]; exact Nat.le_add_left 1 _, ?_⟩
        show ztrue (w_tp (S.1.take (S.1.length - 2) ++ [w_en (if w_tp S.1 1 = w_tp S.1 2 then 1 else 0)]) 1) = true
        rw [w_tp_snoc, if_pos p]
        exact w_en_t.1
      · exact jT_ret (hk0 H3 (by rw [ecmp, if_neg p]) hy)
theorem w_o1_14 {a : Int64} (hc : c = 139 ∨ c = 140 ∨ c = 143 ∨ c = 144 ∨ c = 145 ∨ c = 146) : (if ¬ Int32.ofNat c = 139 then (if ¬ Int32.ofNat c = 140 then (if ¬ Int32.ofNat c = 143 then (if ¬ Int32.ofNat c = 144 then (if ¬ a = 0 then (if ¬ Int32.ofNat c = 145 then (if ¬ (0 : Int32) = 0 then (0 : Int64) else 1) else (if ¬ (0 : Int32) = 1 then (0 : Int64) else 1)) else (if ¬ Int32.ofNat c = 145 then (if ¬ (1 : Int32) = 0 then (0 : Int64) else 1) else (if ¬ (1 : Int32) = 1 then (0 : Int64) else 1))) else (if 0 ≤ a then a else -a)) else -a) else a - 1) else a + 1) = w_o1 c a := by
  have ha : (if 0 ≤ a then a else -a) = jabsL a := by
    unfold jabsL
    by_cases p : 0 < a
    · rw [if_pos p, if_pos (Int64.le_of_lt p)]
    · rw [if_neg p]
      by_cases q : 0 ≤ a
      · rw [if_pos q]
        have : a = 0 := by
          rw [Int64.lt_iff_toInt_lt] at p
          rw [Int64.le_iff_toInt_le] at q
          refine Int64.toInt_inj.mp ?_
          have e0 : (0 : Int64).toInt = 0 := rfl
          omega
        rw [this]
        rfl
      · rw [if_neg q]
  rw [ha]
  unfold w_o1
  rcases hc with rfl | rfl | rfl | rfl | rfl | rfl
  · rfl
  · rfl
  · rfl
  · rfl
  · by_cases z : a = 0
    · rw [z]
      rfl
    · simp [z]
  · by_cases z : a = 0
    · rw [z]
      rfl
    · simp [z]
theorem w_one14 {k : Unit → jH → Option (α × jH)} (hc : c = 139 ∨ c = 140 ∨ c = 143 ∨ c = 144 ∨ c = 145 ∨ c = 146) (h : w_Z scr S lf H0 H) (hl : S.1.length ≤ 60) (hk1 : ∀ st' sd' H', w_cal c S.1 S.2.1 = some (st', sd') → w_Z scr (st', sd', S.2.2) lf H0 H' → jT (k () H') Q) (hk0 : ∀ H', w_cal c S.1 S.2.1 = none → w_Yf H0 H' → jT (k () H') Q) : jT (jb (F_14_numberOfOne 437 (Int32.ofNat c) H) k) Q := by
  have hnc : w_nc c = 1 := by unfold w_nc; rw [if_pos (by omega)]
  have hcb : w_cbad c = false := by
    unfold w_cbad
    simp only [Bool.or_eq_false_iff, decide_eq_false_iff_not, Bool.and_eq_false_iff]
    omega
  unfold F_14_numberOfOne
  refine jT_b (jT_g (w_Zk h) (w_reads14 (n := 0) h rfl (by decide) (fun q1 q2 H1 h1 e11 => ?_) fun q H1 hy => ?_))
  rotate_left
  · refine jT_neg (fun w => w rfl) (jT_ret (hk0 H1 ?_ hy))
    unfold w_cal
    rw [if_pos]
    rw [hnc]
    by_cases p : S.1.length < 1
    · exact Or.inr (Or.inl p)
    · refine Or.inr (Or.inr ?_)
      rw [← Bool.not_eq_true, w_sh_t]
      exact fun w => q ⟨by omega, w 1 (Nat.le_refl 1) (Nat.le_refl 1)⟩
  have q1' : 1 ≤ S.1.length := q1
  have ess : w_sh S.1 1 = true := w_sh_t.mpr fun j j1 j2 => by
    obtain rfl : j = 1 := by omega
    exact q2
  have ecal : w_cal c S.1 S.2.1 = some (w_dr S.1 1 ++ [w_en (w_o1 c (zno (w_tp S.1 1)))], S.2.1) := by
    unfold w_cal
    rw [hnc, if_neg, if_pos rfl]
    intro q
    rcases q with q | q | q
    · rw [hcb] at q
      cases q
    · omega
    · rw [ess] at q
      cases q
  have h' := w_Z_take (n := S.1.length - 1) h1 (by omega)
  have e12 : jL (jsI H1 437 2 (Int32.ofNat (S.1.length - 1))) 437 11 = zno (w_tp S.1 1) := e11
  rw [h1.2.1.1, w_sub1 q1']
  refine jT_pos (by decide) (jT_g (w_Zk h1) (jT_g (w_Zk h1) (jT_l ?_)))
  generalize jsI H1 437 2 (Int32.ofNat (S.1.length - 1)) = H2 at *
  rw [e12]
  refine jT_g (w_Zk h') (jT_l ?_)
  have sm : w_sm (zno (w_tp S.1 1)) := zno_abs q2
  have hab := w_o1_abs (c := c) sm
  rw [← w_o1_14 hc] at hab ecal
  generalize zno (w_tp S.1 1) = a at *
  have go : ∀ y : Int64, y.toInt.natAbs < 1099511627776 → w_cal c S.1 S.2.1 = some (w_dr S.1 1 ++ [w_en y], S.2.1) → jT (B_14_numberOfOne_116 437 y H2) (fun x h => jT (k x h) Q) := fun y hy he => by
    unfold B_14_numberOfOne_116
    refine jT_g (w_Zk h') (w_num14 hy h' (by show (S.1.take (S.1.length - 1)).length < 66; rw [List.length_take]; omega) fun H3 h3 => jT_ret (hk1 _ _ H3 he h3))
  unfold B_14_numberOfOne_96 B_14_numberOfOne_108
  by_cases p1 : ¬ Int32.ofNat c = 139
  · rw [if_pos p1] at hab ecal
    refine jT_pos p1 ?_
    by_cases p2 : ¬ Int32.ofNat c = 140
    · rw [if_pos p2] at hab ecal
      refine jT_pos p2 ?_
      by_cases p3 : ¬ Int32.ofNat c = 143
      · rw [if_pos p3] at hab ecal
        refine jT_pos p3 ?_
        by_cases p4 : ¬ Int32.ofNat c = 144
        · rw [if_pos p4] at hab ecal
          refine jT_pos p4 ?_
          by_cases p5 : ¬ a = 0
          · rw [if_pos p5] at hab ecal
            refine jT_pos p5 ?_
            by_cases p6 : ¬ Int32.ofNat c = 145
            · rw [if_pos p6] at hab ecal
              exact jT_pos p6 (jT_neg (by decide) (go 1 hab ecal))
            · rw [if_neg p6] at hab ecal
              exact jT_neg p6 (jT_pos (by decide) (go 0 hab ecal))
          · rw [if_neg p5] at hab ecal
            refine jT_neg p5 ?_
            by_cases p6 : ¬ Int32.ofNat c = 145
            · rw [if_pos p6] at hab ecal
              exact jT_pos p6 (jT_pos (by decide) (go 0 hab ecal))
            · rw [if_neg p6] at hab ecal
              exact jT_neg p6 (jT_neg (by decide) (go 1 hab ecal))
        · rw [if_neg p4] at hab ecal
          refine jT_neg p4 ?_
          by_cases p5 : 0 ≤ a
          · rw [if_pos p5] at hab ecal
            exact jT_pos p5 (go _ hab ecal)
          · rw [if_neg p5] at hab ecal
            exact jT_neg p5 (go _ hab ecal)
      · rw [if_neg p3] at hab ecal
        exact jT_neg p3 (go _ hab ecal)
    · rw [if_neg p2] at hab ecal
      exact jT_neg p2 (go _ hab ecal)
  · rw [if_neg p1] at hab ecal
    exact jT_neg p1 (go _ hab ecal)
theorem w_two14 {k : Unit → jH → Option (α × jH)} (hc : c = 147 ∨ c = 148 ∨ (154 ≤ c ∧ c ≤ 165)) (h : w_Z scr S lf H0 H) (hl : S.1.length ≤ 60) (hk1 : ∀ st' sd' H', w_cal c S.1 S.2.1 = some (st', sd') → w_Z scr (st', sd', S.2.2) lf H0 H' → jT (k () H') Q) (hk0 : ∀ H', w_cal c S.1 S.2.1 = none → w_Yf H0 H' → jT (k () H') Q) : jT (jb (F_14_numberOfTwo 437 (Int32.ofNat c) H) k) Q := by
  have e165 : (Int32.ofNat c = 165 ↔ c = 165) := jo_eq (a := c) (b := 165) (by omega) (by decide)
  have hn2 : 2 ≤ w_nc c := by
    unfold w_nc
    rw [if_neg (by omega)]
    split <;> omega
  have hn3 : w_nc c = if c = 165 then 3 else 2 := by unfold w_nc; rw [if_neg (by omega)]
  have bad : ∀ n, 1 ≤ n → n ≤ w_nc c → ¬ (n ≤ S.1.length ∧ (w_tp S.1 n).length ≤ 4) → w_cal c S.1 S.2.1 = none := fun n n1 nn q => by
    unfold w_cal
    rw [if_pos]
    by_cases p : S.1.length < w_nc c
    · exact Or.inr (Or.inl p)
    · refine Or.inr (Or.inr ?_)
      rw [← Bool.not_eq_true, w_sh_t]
      exact fun w => q ⟨by omega, w n n1 nn⟩
  have hcb : w_cbad c = false := by
    unfold w_cbad
    simp only [Bool.or_eq_false_iff, decide_eq_false_iff_not, Bool.and_eq_false_iff]
    omega
  unfold F_14_numberOfTwo
  refine jT_b (jT_g (w_Zk h) (w_reads14 (n := 0) h rfl (by decide) (fun q1 q2 H1 h1 e11 => ?_) fun q H1 hy => jT_neg (fun w => w rfl) (jT_ret (hk0 H1 (bad 1 (Nat.le_refl 1) (by omega) q) hy))))
  refine jT_pos (by decide) (jT_g (w_Zk h1) (jT_l (jT_g (w_Zk h1) (w_reads14 (n := 1) h1 rfl (by decide) (fun q3 q4 H2 h2 e22 => ?_) fun q H2 hy => jT_neg (fun w => w rfl) (jT_ret (hk0 H2 (bad 2 (by decide) hn2 q) hy))))))
  rw [e11, e22]
  have q1' : 1 ≤ S.1.length := q1
  have q3' : 2 ≤ S.1.length := q3
  have s1 : w_sm (zno (w_tp S.1 1)) := zno_abs q2
  have s2 : w_sm (zno (w_tp S.1 2)) := zno_abs q4
  refine jT_pos (by decide) (jT_g (w_Zk h2) (jT_l ?_))
  by_cases c5 : c = 165
  · -- three
    have hn : w_nc c = 3 := by rw [hn3, if_pos c5]
    refine jT_neg (fun w => w (e165.mpr c5)) (jT_g (w_Zk h2) (w_reads14 (n := 2) h2 rfl (by decide) (fun q5 q6 H3 h3 e33 => ?_) fun q H3 hy => ?_))
    rotate_left
    · unfold B_14_numberOfTwo_82
      exact jT_pos rfl (jT_ret (hk0 H3 (bad 3 (by decide) (by omega) q) hy))
    have q5' : 3 ≤ S.1.length := q5
    have ess : w_sh S.1 3 = true := w_sh_t.mpr fun j j1 j2 => by
      have : j = 1 ∨ j = 2 ∨ j = 3 := by omega
      rcases this with rfl | rfl | rfl
      · exact q2
      · exact q4
      · exact q6
    have ecal : w_cal c S.1 S.2.1 = some (w_dr S.1 3 ++ [w_en (if zno (w_tp S.1 3) < zno (w_tp S.1 2) ∨ zno (w_tp S.1 1) ≤ zno (w_tp S.1 3) then 0 else 1)], S.2.1) := by
      unfold w_cal
      rw [hn, if_neg, if_neg (by decide), if_pos rfl]
      rw [hcb, ess]
      simp
      omega
    have h' := w_Z_take (n := S.1.length - 3) h3 (by omega)
    have e34 : jL (jsI H3 437 2 (Int32.ofNat (S.1.length - 3))) 437 11 = zno (w_tp S.1 3) := e33
    have es3 : Int32.ofNat S.1.length - 3 = Int32.ofNat (S.1.length - 3) := jo_sub (a := S.1.length) (b := 3) q5'
    rw [h3.2.1.1, es3]
    refine jT_neg (by decide) (jT_g (w_Zk h3) (jT_g (w_Zk h3) (jT_l ?_)))
    generalize jsI H3 437 2 (Int32.ofNat (S.1.length - 3)) = H4 at *
    rw [e34]
    have go : ∀ y : Int32, y = (if ¬ (zno (w_tp S.1 3) < zno (w_tp S.1 2) ∨ zno (w_tp S.1 1) ≤ zno (w_tp S.1 3)) then 1 else 0) → jT (B_14_numberOfTwo_79 437 y H4) (fun x h => jT (k x h) Q) := fun y hy => by
      unfold B_14_numberOfTwo_79 B_14_numberOfTwo_82
      refine jT_g (w_Zk h') (w_truth14 (P := ¬ (zno (w_tp S.1 3) < zno (w_tp S.1 2) ∨ zno (w_tp S.1 1) ≤ zno (w_tp S.1 3))) hy h' (by show (S.1.take (S.1.length - 3)).length < 66; rw [List.length_take]; omega) fun H5 h5 => jT_ret (hk1 _ _ H5 ?_ h5))
      rw [ecal, ite_not]
      rfl
    unfold B_14_numberOfTwo_78
    refine jT_g (w_Zk h') ?_
    by_cases p : zno (w_tp S.1 3) < zno (w_tp S.1 2)
    · exact jT_pos p (go 0 (by rw [if_neg (fun w => w (Or.inl p))]))
    · refine jT_neg p (jT_g (w_Zk h') ?_)
      by_cases q : zno (w_tp S.1 1) ≤ zno (w_tp S.1 3)
      · exact jT_pos q (go 0 (by rw [if_neg (fun w => w (Or.inr q))]))
      · exact jT_neg q (go 1 (by rw [if_pos (fun w => w.elim p q)]))
  -- two
  have hn : w_nc c = 2 := by rw [hn3, if_neg c5]
  have ess : w_sh S.1 2 = true := w_sh_t.mpr fun j j1 j2 => by
    have : j = 1 ∨ j = 2 := by omega
    rcases this with rfl | rfl
    · exact q2
    · exact q4
  have ecal : w_cal c S.1 S.2.1 = if c = 157 then (if zno (w_tp S.1 2) = zno (w_tp S.1 1) then some (w_dr S.1 2, S.2.1) else none) else some (w_dr S.1 2 ++ [w_en (w_o2 c (zno (w_tp S.1 2)) (zno (w_tp S.1 1)))], S.2.1) := by
    unfold w_cal
    rw [hn, if_neg, if_neg (by decide), if_neg (by decide)]
    rw [hcb, ess]
    simp
    omega
  have h' := w_Z_take (n := S.1.length - 2) h2 (by omega)
  have hlt : (S.1.take (S.1.length - 2)).length < 66 := by rw [List.length_take]; omega
  rw [h2.2.1.1, w_sub2 q3']
  refine jT_pos (fun w => c5 (e165.mp w)) (jT_g (w_Zk h2) (jT_g (w_Zk h2) (jT_l ?_)))
  generalize jsI H2 437 2 (Int32.ofNat (S.1.length - 2)) = H4 at *
  have hab := w_o2_abs (c := c) s2 s1
  generalize zno (w_tp S.1 1) = b at *
  generalize zno (w_tp S.1 2) = a at *
  clear e11 e22 bad h1 h2 hn3 ess
  have k4 := w_Zk h'
  have fin : c ≠ 157 → ∀ y H5, y = w_o2 c a b → w_Z scr (S.1.take (S.1.length - 2) ++ [w_en y], S.2) lf H0 H5 → jT (k () H5) Q := fun h7 y H5 ey h5 => hk1 _ _ H5 (by rw [ecal, if_neg h7, ← ey]; rfl) h5
  have tr : ∀ (P : Prop) [Decidable P] (y : Int32) (kk : Unit → jH → Option (Unit × jH)), y = (if P then 1 else 0) → (∀ H5, w_Z scr (S.1.take (S.1.length - 2) ++ [w_en (if P then 1 else 0)], S.2) lf H0 H5 → jT (kk () H5) (fun x h => jT (k x h) Q)) → jT (jg ((jK H4 437).1 = 14) (jb (F_14_pushTruth 437 y H4) kk)) (fun x h => jT (k x h) Q) := fun P _ y kk ey hh => jT_g k4 (w_truth14 (P := P) ey h' hlt hh)
  have nm : ∀ (y : Int64) (kk : Unit → jH → Option (Unit × jH)), y.toInt.natAbs < 1099511627776 → (∀ H5, w_Z scr (S.1.take (S.1.length - 2) ++ [w_en y], S.2) lf H0 H5 → jT (kk () H5) (fun x h => jT (k x h) Q)) → jT (jg ((jK H4 437).1 = 14) (jb (F_14_pushNumber 437 y H4) kk)) (fun x h => jT (k x h) Q) := fun y kk hy hh => jT_g k4 (w_num14 hy h' hlt hh)
  have hcc : c = 147 ∨ c = 148 ∨ c = 154 ∨ c = 155 ∨ c = 156 ∨ c = 157 ∨ c = 158 ∨ c = 159 ∨ c = 160 ∨ c = 161 ∨ c = 162 ∨ c = 163 ∨ c = 164 := by omega
  rcases hcc with rfl | rfl | rfl | rfl | rfl | rfl | rfl | rfl | rfl | rfl | rfl | rfl | rfl
  · exact jT_pos rfl (nm _ _ hab fun H5 h5 => jT_ret (fin (by decide) _ H5 rfl h5))
  · exact jT_neg (by decide) (jT_pos rfl (nm _ _ hab fun H5 h5 => jT_ret (fin (by decide) _ H5 rfl h5)))
  · iterate 7 refine jT_neg (by decide) ?_
    refine jT_pos rfl ?_
    unfold B_14_numberOfTwo_216 B_14_numberOfTwo_217 B_14_numberOfTwo_422
    have eo : w_o2 154 a b = if ¬ (a = 0 ∨ b = 0) then 1 else 0 := by rw [ite_not]; rfl
    by_cases p : a = 0
    · exact jT_pos p (tr (¬ (a = 0 ∨ b = 0)) 0 _ (by rw [if_neg (fun w => w (Or.inl p))]) fun H5 h5 => jT_ret (fin (by decide) _ H5 eo.symm h5))
    · refine jT_neg p ?_
      by_cases q : b = 0
      · exact jT_pos q (tr (¬ (a = 0 ∨ b = 0)) 0 _ (by rw [if_neg (fun w => w (Or.inr q))]) fun H5 h5 => jT_ret (fin (by decide) _ H5 eo.symm h5))
      · exact jT_neg q (tr (¬ (a = 0 ∨ b = 0)) 1 _ (by rw [if_pos (fun w => w.elim p q)]) fun H5 h5 => jT_ret (fin (by decide) _ H5 eo.symm h5))
  · iterate 8 refine jT_neg (by decide) ?_
    refine jT_pos rfl ?_
    unfold B_14_numberOfTwo_237 B_14_numberOfTwo_242 B_14_numberOfTwo_422
    have eo : w_o2 155 a b = if ¬ (a = 0 ∧ b = 0) then 1 else 0 := by rw [ite_not]; rfl
    by_cases p : a = 0
    · refine jT_neg (fun w => w p) ?_
      by_cases q : b = 0
      · exact jT_pos q (tr (¬ (a = 0 ∧ b = 0)) 0 _ (by rw [if_neg (fun w => w ⟨p, q⟩)]) fun H5 h5 => jT_ret (fin (by decide) _ H5 eo.symm h5))
      · exact jT_neg q (tr (¬ (a = 0 ∧ b = 0)) 1 _ (by rw [if_pos (fun w => q w.2)]) fun H5 h5 => jT_ret (fin (by decide) _ H5 eo.symm h5))
    · exact jT_pos p (tr (¬ (a = 0 ∧ b = 0)) 1 _ (by rw [if_pos (fun w => p w.1)]) fun H5 h5 => jT_ret (fin (by decide) _ H5 eo.symm h5))
  · iterate 9 refine jT_neg (by decide) ?_
    refine jT_pos rfl ?_
    unfold B_14_numberOfTwo_261 B_14_numberOfTwo_422
    have eo : w_o2 156 a b = if a = b then 1 else 0 := rfl
    by_cases p : a = b
    · exact jT_neg (fun w => w p) (tr (a = b) 1 _ (by rw [if_pos p]) fun H5 h5 => jT_ret (fin (by decide) _ H5 eo.symm h5))
    · exact jT_pos p (tr (a = b) 0 _ (by rw [if_neg p]) fun H5 h5 => jT_ret (fin (by decide) _ H5 eo.symm h5))
  · iterate 10 refine jT_neg (by decide) ?_
    refine jT_pos rfl ?_
    unfold B_14_numberOfTwo_280 B_14_numberOfTwo_422
    rw [if_pos rfl] at ecal
    by_cases p : a = b
    · rw [if_pos p] at ecal
      refine jT_neg (fun w => w p) (tr (a = b) 1 _ (by rw [if_pos p]) fun H5 h5 => jT_g (w_Zk h5) (w_must14 h5 (fun _ t H6 h6 => ?_) fun t H6 hy => ?_))
      · have h6' : w_Z scr (w_dr (S.1.take (S.1.length - 2) ++ [w_en (if a = b then 1 else 0)]) 1, S.2) lf H0 H6 := h6
        rw [w_dr_snoc] at h6'
        exact jT_ret (hk1 _ _ H6 ecal h6')
      · exfalso
        refine t ⟨by show 1 ≤ (S.1.take (S.1.length - 2) ++ [_]).length; rw [List.length_append]; exact Nat.le_add_left 1 _, ?_⟩
        show ztrue (w_tp (S.1.take (S.1.length - 2) ++ [w_en (if a = b then 1 else 0)]) 1) = true
        rw [w_tp_snoc, if_pos p]
        exact w_en_t.1
    · rw [if_neg p] at ecal
      refine jT_pos p (tr (a = b) 0 _ (by rw [if_neg p]) fun H5 h5 => jT_g (w_Zk h5) (w_must14 h5 (fun _ t H6 h6 => ?_) fun t H6 hy => jT_ret (hk0 H6 ecal hy)))
      have t' : ztrue (w_tp (S.1.take (S.1.length - 2) ++ [w_en (if a = b then 1 else 0)]) 1) = true := t
      rw [w_tp_snoc, if_neg p, w_en_t.2] at t'
      cases t'
  · iterate 11 refine jT_neg (by decide) ?_
    refine jT_pos rfl ?_
    unfold B_14_numberOfTwo_303 B_14_numberOfTwo_422
    have eo : w_o2 158 a b = if ¬ a = b then 1 else 0 := by rw [ite_not]; rfl
    by_cases p : a = b
    · exact jT_pos p (tr (¬ a = b) 0 _ (by rw [if_neg (fun w => w p)]) fun H5 h5 => jT_ret (fin (by decide) _ H5 eo.symm h5))
    · exact jT_neg p (tr (¬ a = b) 1 _ (by rw [if_pos p]) fun H5 h5 => jT_ret (fin (by decide) _ H5 eo.symm h5))
  · iterate 12 refine jT_neg (by decide) ?_
    refine jT_pos rfl ?_
    unfold B_14_numberOfTwo_322 B_14_numberOfTwo_422
    have eo : w_o2 159 a b = if ¬ b ≤ a then 1 else 0 := by rw [ite_not]; rfl
    by_cases p : b ≤ a
    · exact jT_pos p (tr (¬ b ≤ a) 0 _ (by rw [if_neg (fun w => w p)]) fun H5 h5 => jT_ret (fin (by decide) _ H5 eo.symm h5))
    · exact jT_neg p (tr (¬ b ≤ a) 1 _ (by rw [if_pos p]) fun H5 h5 => jT_ret (fin (by decide) _ H5 eo.symm h5))
  · iterate 13 refine jT_neg (by decide) ?_
    refine jT_pos rfl ?_
    unfold B_14_numberOfTwo_341 B_14_numberOfTwo_422
    have eo : w_o2 160 a b = if ¬ a ≤ b then 1 else 0 := by rw [ite_not]; rfl
    by_cases p : a ≤ b
    · exact jT_pos p (tr (¬ a ≤ b) 0 _ (by rw [if_neg (fun w => w p)]) fun H5 h5 => jT_ret (fin (by decide) _ H5 eo.symm h5))
    · exact jT_neg p (tr (¬ a ≤ b) 1 _ (by rw [if_pos p]) fun H5 h5 => jT_ret (fin (by decide) _ H5 eo.symm h5))
  · iterate 14 refine jT_neg (by decide) ?_
    refine jT_pos rfl ?_
    unfold B_14_numberOfTwo_360 B_14_numberOfTwo_422
    have eo : w_o2 161 a b = if ¬ b < a then 1 else 0 := by rw [ite_not]; rfl
    by_cases p : b < a
    · exact jT_pos p (tr (¬ b < a) 0 _ (by rw [if_neg (fun w => w p)]) fun H5 h5 => jT_ret (fin (by decide) _ H5 eo.symm h5))
    · exact jT_neg p (tr (¬ b < a) 1 _ (by rw [if_pos p]) fun H5 h5 => jT_ret (fin (by decide) _ H5 eo.symm h5))
  · iterate 15 refine jT_neg (by decide) ?_
    refine jT_pos rfl ?_
    unfold B_14_numberOfTwo_379 B_14_numberOfTwo_422
    have eo : w_o2 162 a b = if ¬ a < b then 1 else 0 := by rw [ite_not]; rfl
    by_cases p : a < b
    · exact jT_pos p (tr (¬ a < b) 0 _ (by rw [if_neg (fun w => w p)]) fun H5 h5 => jT_ret (fin (by decide) _ H5 eo.symm h5))
    · exact jT_neg p (tr (¬ a < b) 1 _ (by rw [if_pos p]) fun H5 h5 => jT_ret (fin (by decide) _ H5 eo.symm h5))
  · iterate 16 refine jT_neg (by decide) ?_
    refine jT_pos rfl ?_
    unfold B_14_numberOfTwo_399 B_14_numberOfTwo_422
    have eo : w_o2 163 a b = if b ≤ a then b else a := by
      show jminL a b = _
      unfold jminL
      by_cases p : b < a
      · rw [if_pos p, if_pos (Int64.le_of_lt p)]
      · rw [if_neg p]
        by_cases q : b ≤ a
        · rw [if_pos q]
          rw [Int64.lt_iff_toInt_lt] at p
          rw [Int64.le_iff_toInt_le] at q
          exact Int64.toInt_inj.mp (by omega)
        · rw [if_neg q]
    rw [eo] at hab
    by_cases p : b ≤ a
    · rw [if_pos p] at hab eo
      exact jT_pos p (nm _ _ hab fun H5 h5 => jT_ret (fin (by decide) _ H5 eo.symm h5))
    · rw [if_neg p] at hab eo
      exact jT_neg p (nm _ _ hab fun H5 h5 => jT_ret (fin (by decide) _ H5 eo.symm h5))
  · iterate 17 refine jT_neg (by decide) ?_
    unfold B_14_numberOfTwo_419 B_14_numberOfTwo_422
    have eo : w_o2 164 a b = if a ≤ b then b else a := by
      show jmaxL a b = _
      unfold jmaxL
      by_cases p : b < a
      · rw [if_pos p, if_neg (fun q => by rw [Int64.lt_iff_toInt_lt] at p; rw [Int64.le_iff_toInt_le] at q; omega)]
      · rw [if_neg p, if_pos (by rw [Int64.lt_iff_toInt_lt] at p; rw [Int64.le_iff_toInt_le]; omega)]
    rw [eo] at hab
    by_cases p : a ≤ b
    · rw [if_pos p] at hab eo
      exact jT_pos p (nm _ _ hab fun H5 h5 => jT_ret (fin (by decide) _ H5 eo.symm h5))
    · rw [if_neg p] at hab eo
      exact jT_neg p (nm _ _ hab fun H5 h5 => jT_ret (fin (by decide) _ H5 eo.symm h5))
end AR14
