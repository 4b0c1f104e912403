/-! The class's machine: small, arrange, compare. -/
theorem lo_i {n : Nat} (h : n < 2147483648) : (Int64.ofNat n).toInt = n := Int64.toInt_ofNat_of_lt (by omega)
theorem lo_ia {n : Nat} (h : n < 2147483648) : (Int64.ofNat n).toInt.natAbs < 1099511627776 := by rw [lo_i h]; omega
theorem zno_abs {it : List UInt8} (h : it.length ≤ 4) : (zno it).toInt.natAbs < 4294967296 := by
  have h1 := zlo_lt it it.length
  have h2 : (256 : Nat) ^ it.length ≤ 256 ^ 4 := Nat.pow_le_pow_right (by decide) h
  have h3 : (256 : Nat) ^ 4 = 4294967296 := by decide +kernel
  have h4 : zlo it it.length < 4294967296 := by omega
  unfold zno
  generalize zlo it it.length = m at *
  have e : (Int64.ofNat m).toInt = m := Int64.toInt_ofNat_of_lt (by omega)
  have e2 : (-Int64.ofNat m).toInt = -m := Int64.toInt_neg_ofNat_of_le (by omega)
  split
  · rw [e]
    omega
  · rw [e2]
    omega
/-- a number that is a place -/
theorem lo_ix {v : Int64} {n : Nat} (hn : n < 2147483648) (h0 : 0 ≤ v.toInt) (h1 : v.toInt < n) : Int64.toInt32 v = Int32.ofNat v.toInt.toNat := by
  obtain ⟨m, hm⟩ : ∃ m : Nat, v.toInt = m := ⟨v.toInt.toNat, by omega⟩
  have e : v = Int64.ofNat m := lo_pos hm
  have e2 : v.toInt.toNat = m := by omega
  rw [e2, e, lw_i32, Nat.mod_eq_of_lt (by omega)]
def w_small (c : Nat) (st sd : w_R) : Option (w_R × w_R) :=
  if c = 79 then some (st ++ [w_en (-1)], sd) else if 81 ≤ c ∧ c ≤ 96 then some (st ++ [w_en (Int64.ofNat (c - 80))], sd) else if c = 97 then some (st, sd) else none
/-- the place that a number names, if it does -/
def w_ix (it : List UInt8) (n : Nat) : Option Nat := if it.length ≤ 4 ∧ 0 ≤ (zno it).toInt ∧ (zno it).toInt < n then some (zno it).toInt.toNat else none
def w_arr (c : Nat) (st sd : w_R) : Option (w_R × w_R) :=
  if c = 115 ∧ 1 ≤ st.length then some (if ztrue (w_tp st 1) = true then st ++ [w_tp st 1] else st, sd)
  else if c = 116 then some (st ++ [w_en (Int64.ofNat st.length)], sd)
  else if (c = 121 ∨ c = 122) ∧ 1 ≤ st.length then
    match w_ix (w_tp st 1) (st.length - 1) with
    | none => none
    | some m => some (if c = 121 then w_dr st 1 ++ [w_tp (w_dr st 1) (m + 1)] else w_lift (w_dr st 1) (st.length - 2 - m) [], sd)
  else if c = 130 ∧ 1 ≤ st.length then some (st ++ [w_en (Int64.ofNat (w_tp st 1).length)], sd)
  else none
def w_cmp (c : Nat) (st sd : w_R) : Option (w_R × w_R) :=
  if c < 135 ∨ st.length < 2 then none else if c = 135 then some (w_dr st 2 ++ [w_en (if w_tp st 1 = w_tp st 2 then 1 else 0)], sd) else if w_tp st 1 = w_tp st 2 then some (w_dr st 2, sd) else none
section ARR
variable {st sd : w_R} {v : Int32} {H0 H : jH} {Q : Unit → jH → Prop} {c : Nat}
theorem z4_small (hc : c < 256) (h : w_N st sd 0 H0 H) (hb : st.length + sd.length ≤ 60) (hk1 : ∀ st' sd' H', w_small c st sd = some (st', sd') → w_N st' sd' 0 H0 H' → Q () H') (hk0 : ∀ a b H', w_small c st sd = none → w_N a b 2 H0 H' → Q () H') : jT (F_4_small 170 (Int32.ofNat c) H) Q := by
  have e79 : (Int32.ofNat c = 79 ↔ c = 79) := jo_eq (a := c) (b := 79) (by omega) (by decide)
  have e97 : (Int32.ofNat c = 97 ↔ c = 97) := jo_eq (a := c) (b := 97) (by omega) (by decide)
  have rest : ¬ c = 79 → ¬ (81 ≤ c ∧ c ≤ 96) → jT (B_4_small_46 170 (Int32.ofNat c) H) Q := fun n1 n2 => by
    unfold B_4_small_46 B_4_small_57
    by_cases c7 : c = 97
    · exact jT_pos (e97.mpr c7) (jT_ret (hk1 _ _ H (by unfold w_small; rw [if_neg n1, if_neg n2, if_pos c7]) h))
    · exact jT_neg (fun q => c7 (e97.mp q)) (jT_g (w_N_k h) (jT_l (jT_ret (hk0 _ _ _ (by unfold w_small; rw [if_neg n1, if_neg n2, if_neg c7]) (w_st h)))))
  unfold F_4_small
  rw [(w_N_h h).2.2.1]
  by_cases c9 : c = 79
  · refine jT_neg (fun q => q (e79.mpr c9)) (jT_g (w_N_k h) (jT_g (w_N_k1 h) (w_pnA h (by decide) (by omega) fun H' h' => ?_)))
    unfold B_4_small_57
    exact jT_ret (hk1 _ _ H' (by unfold w_small; rw [if_pos c9]) h')
  · refine jT_pos (fun q => c9 (e79.mp q)) ?_
    by_cases c1 : c < 81
    · exact jT_pos (by rw [show (81 : Int32) = Int32.ofNat 81 from rfl, jo_lt (by omega) (by omega)]; exact c1) (rest c9 (by omega))
    · refine jT_neg (by rw [show (81 : Int32) = Int32.ofNat 81 from rfl, jo_lt (by omega) (by omega)]; exact c1) ?_
      by_cases c2 : 96 < c
      · exact jT_pos (by rw [show (96 : Int32) = Int32.ofNat 96 from rfl, jo_lt (by omega) (by omega)]; exact c2) (rest c9 (by omega))
      · have es : Int32.ofNat c - 80 = Int32.ofNat (c - 80) := jo_sub (a := c) (b := 80) (by omega)
        rw [es, lo_of (by omega)]
        refine jT_neg (by rw [show (96 : Int32) = Int32.ofNat 96 from rfl, jo_lt (by omega) (by omega)]; exact c2) (jT_g (w_N_k h) (jT_g (w_N_k1 h) (w_pnA h (lo_ia (by omega)) (by omega) fun H' h' => ?_)))
        unfold B_4_small_57
        exact jT_ret (hk1 _ _ H' (by unfold w_small; rw [if_neg c9, if_pos ⟨by omega, by omega⟩]) h')
theorem z4_arr236 (h : w_N st sd v H0 H) (hk : ∀ H', w_N st sd 2 H0 H' → Q () H') : jT (B_4_arrange_236 170 H) Q := by
  unfold B_4_arrange_236 B_4_arrange_241
  exact jT_g (w_N_k h) (jT_l (jT_ret (hk _ (w_st h))))
theorem z4_arr131 (h : w_N st sd v H0 H) (hk : ∀ H', w_N st sd 2 H0 H' → Q () H') : jT (B_4_arrange_131 170 H) Q := by
  unfold B_4_arrange_131 B_4_arrange_190 B_4_arrange_241
  exact jT_g (w_N_k h) (jT_l (jT_ret (hk _ (w_st h))))
theorem w_len_i (h : w_N st sd v H0 H) {k : Nat} (h1 : 1 ≤ k) (h2 : k ≤ st.length) : jI H 243 (st.length - k) = Int32.ofNat (w_tp st k).length ∧ (w_tp st k).length ≤ 120 := by
  have := h.1.2.1.2.2.2.2 _ _ (w_tp_at h1 h2)
  exact ⟨this.2.1, this.1⟩
theorem z4_arrange (hc : c < 256) (h : w_N st sd 0 H0 H) (hb : st.length + sd.length ≤ 60) (hk1 : ∀ st' sd' H', w_arr c st sd = some (st', sd') → w_N st' sd' 0 H0 H' → Q () H') (hk0 : ∀ a b H', w_arr c st sd = none → w_N a b 2 H0 H' → Q () H') : jT (F_4_arrange 170 (Int32.ofNat c) H) Q := by
  have ec : ∀ k, k < 256 → (Int32.ofNat c = Int32.ofNat k ↔ c = k) := fun k hk => jo_eq (by omega) (by omega)
  have e115 : (Int32.ofNat c = 115 ↔ c = 115) := ec 115 (by decide)
  have e116 : (Int32.ofNat c = 116 ↔ c = 116) := ec 116 (by decide)
  have e121 : (Int32.ofNat c = 121 ↔ c = 121) := ec 121 (by decide)
  have e122 : (Int32.ofNat c = 122 ↔ c = 122) := ec 122 (by decide)
  have e130 : (Int32.ofNat c = 130 ↔ c = 130) := ec 130 (by decide)
  -- the last road
  have g193 : ∀ u H1, w_N st sd u H0 H1 → (u = 0 ∨ st.length < 1) → ¬ (c = 115 ∧ 1 ≤ st.length) → ¬ c = 116 → ¬ (c = 130 ∧ (c = 121 ∨ c = 122)) → (((c = 121 ∨ c = 122) ∧ 1 ≤ st.length) → w_ix (w_tp st 1) (st.length - 1) = none) → jT (B_4_arrange_193 170 (Int32.ofNat c) H1) Q := by
    intro u H1 h1 hu n1 n2 n3 n4
    have bad : ¬ (c = 130 ∧ 1 ≤ st.length) → w_arr c st sd = none := fun n5 => by
      unfold w_arr
      rw [if_neg n1, if_neg n2]
      by_cases q : (c = 121 ∨ c = 122) ∧ 1 ≤ st.length
      · rw [if_pos q, n4 q]
      · rw [if_neg q, if_neg n5]
    unfold B_4_arrange_193
    by_cases c0 : c = 130
    · refine jT_neg (fun q => q (e130.mpr c0)) (jT_g (w_N_k h1) (w_has (n := 1) h1 rfl (by decide) (fun hl => ?_) fun hl H2 h2 => ?_))
      · have hu0 : u = 0 := hu.resolve_right (by omega)
        rw [hu0] at h1
        have em : Int32.ofNat st.length - 1 = Int32.ofNat (st.length - 1) := jo_sub (a := st.length) (b := 1) hl
        obtain ⟨q1, q2⟩ := w_len_i h1 (Nat.le_refl 1) hl
        refine jT_neg (by decide) ?_
        simp only [(w_N_h h1).1, (w_N_h h1).2.2.1, sR_171_1 (w_N_s h1), em, jo_nat (n := st.length - 1) (show st.length - 1 < 2147483648 by have := h1.1.2.1.1; omega), q1, lo_of (show (w_tp st 1).length < 2147483648 by omega)]
        refine jT_g (w_N_k h1) (jT_g (w_N_k h1) (jT_g (w_N_k1 h1) (jT_g (w_N_k h1) (jT_g (w_N_k1 h1) (jT_g (gA (sK_243 (w_N_s h1)) (jo_in (by omega) (by omega))) (jT_g (w_N_k1 h1) (w_pnA h1 (lo_ia (by omega)) (by omega) fun H2 h2 => ?_)))))))
        unfold B_4_arrange_241
        refine jT_ret (hk1 _ _ H2 ?_ h2)
        unfold w_arr
        rw [if_neg n1, if_neg n2, if_neg (by omega), if_pos ⟨c0, hl⟩]
      · exact jT_pos rfl (z4_arr236 h2 fun H3 h3 => hk0 _ _ H3 (bad (by omega)) h3)
    · exact jT_pos (fun q => c0 (e130.mp q)) (z4_arr236 h1 fun H3 h3 => hk0 _ _ H3 (bad fun q => c0 q.1) h3)
  have g48 : ∀ u H1, w_N st sd u H0 H1 → (u = 0 ∨ (c = 115 ∧ st.length < 1)) → ¬ (c = 115 ∧ 1 ≤ st.length) → jT (B_4_arrange_48 170 (Int32.ofNat c) H1) Q := by
    intro u H1 h1 hu n1
    unfold B_4_arrange_48
    have hl70 := h1.1.2.1.1
    by_cases c6 : c = 116
    · have hu0 : u = 0 := hu.resolve_right (by omega)
      rw [hu0] at h1
      simp only [(w_N_h h1).1, (w_N_h h1).2.2.1, lo_of (show st.length < 2147483648 by omega)]
      refine jT_neg (fun q => q (e116.mpr c6)) (jT_g (w_N_k h1) (jT_g (w_N_k h1) (jT_g (w_N_k1 h1) (jT_g (w_N_k1 h1) (w_pnA h1 (lo_ia (by omega)) (by omega) fun H2 h2 => ?_)))))
      unfold B_4_arrange_241
      refine jT_ret (hk1 _ _ H2 ?_ h2)
      unfold w_arr
      rw [if_neg n1, if_pos c6]
    · refine jT_pos (fun q => c6 (e116.mp q)) ?_
      have g84 : (c = 121 ∨ c = 122) → jT (B_4_arrange_84 170 (Int32.ofNat c) H1) Q := by
        intro cc
        have hu0 : u = 0 := hu.resolve_right (by omega)
        rw [hu0] at h1
        unfold B_4_arrange_84
        simp only [(w_N_h h1).2.2.1]
        refine jT_g (w_N_k h1) (jT_g (w_N_k1 h1) (w_isN (n := 1) h1 rfl (Nat.le_refl 1) (by decide) (fun hl h4 => ?_) fun hno => ?_))
        rotate_left
        · refine jT_pos rfl (g193 0 H1 h1 (Or.inl rfl) n1 c6 (by omega) fun q => ?_)
          unfold w_ix
          rw [if_neg fun w => hno ⟨q.2, w.1⟩]
        refine jT_neg (by decide) (jT_g (w_N_k h1) ?_)
        simp only [(w_N_h h1).2.2.1]
        refine jT_g (w_N_k1 h1) (w_numA (n := 1) h1 rfl (Nat.le_refl 1) hl h4 (jT_g (w_N_k h1) ?_))
        simp only [(w_N_h h1).2.2.1]
        refine jT_g (w_N_k1 h1) (w_drA (n := 1) h1 rfl hl fun H2 h2 => ?_)
        have e0 : (0 : Int64).toInt = 0 := rfl
        have ab := zno_abs h4
        have l1 : (w_dr st 1).length = st.length - 1 := w_dr_len
        have arr0 : ∀ o, w_ix (w_tp st 1) (st.length - 1) = o → w_arr c st sd = match o with | none => none | some m => some (if c = 121 then w_dr st 1 ++ [w_tp (w_dr st 1) (m + 1)] else w_lift (w_dr st 1) (st.length - 2 - m) [], sd) := fun o ho => by
          unfold w_arr
          rw [if_neg n1, if_neg c6, if_pos ⟨cc, hl⟩, ho]
        by_cases p0 : zno (w_tp st 1) < 0
        · refine jT_pos p0 (z4_arr131 h2 fun H3 h3 => hk0 _ _ H3 (arr0 none ?_) h3)
          rw [Int64.lt_iff_toInt_lt, e0] at p0
          unfold w_ix
          rw [if_neg fun q => by omega]
        · refine jT_neg p0 (jT_g (w_N_k h2) ?_)
          rw [Int64.lt_iff_toInt_lt, e0] at p0
          simp only [(w_N_h h2).2.2.1, (w_N_h h2).1, l1, lo_of (show st.length - 1 < 2147483648 by omega)]
          refine jT_g (w_N_k1 h2) ?_
          by_cases p1 : (zno (w_tp st 1)).toInt < (st.length - 1 : Nat)
          · have eix : w_ix (w_tp st 1) (st.length - 1) = some (zno (w_tp st 1)).toInt.toNat := by
              unfold w_ix
              rw [if_pos ⟨h4, by omega, p1⟩]
            have e32 := lo_ix (n := st.length - 1) (by omega) (by omega) p1
            generalize hm : (zno (w_tp st 1)).toInt.toNat = m at *
            have hml : m < st.length - 1 := by omega
            have em : Int32.ofNat (st.length - 1) - 1 - Int32.ofNat m = Int32.ofNat (st.length - 2 - m) := by
              rw [show (1 : Int32) = Int32.ofNat 1 from rfl, jo_sub (by omega), jo_sub (by omega), show st.length - 1 - 1 - m = st.length - 2 - m by omega]
            rw [e32, em]
            refine jT_pos (by rw [Int64.lt_iff_toInt_lt, lo_i (by omega)]; exact p1) ?_
            by_cases c1 : c = 121
            · refine jT_neg (fun q => q (e121.mpr c1)) (jT_g (w_N_k h2) (jT_g (w_N_k h2) (jT_g (w_N_k h2) (jT_g (w_N_k1 h2) (jT_g (w_N_k1 h2) (w_cpA (it := w_tp (w_dr st 1) (m + 1)) h2 rfl (by omega) ?_ fun H3 h3 => ?_))))))
              · have := w_tp_at (st := w_dr st 1) (k := m + 1) (by omega) (by omega)
                rw [l1, show st.length - 1 - (m + 1) = st.length - 2 - m by omega] at this
                exact this
              · unfold B_4_arrange_190 B_4_arrange_241
                refine jT_ret (hk1 _ _ H3 ((arr0 _ eix).trans ?_) h3)
                show some (if c = 121 then _ else _, sd) = _
                rw [if_pos c1]
            · refine jT_pos (fun q => c1 (e121.mp q)) (jT_g (w_N_k h2) (jT_g (w_N_k h2) (jT_g (w_N_k1 h2) (jT_g (w_N_k1 h2) (w_liA (i := st.length - 2 - m) h2 rfl (by omega) fun H3 h3 => ?_)))))
              unfold B_4_arrange_190 B_4_arrange_241
              refine jT_ret (hk1 _ _ H3 ((arr0 _ eix).trans ?_) h3)
              show some (if c = 121 then _ else _, sd) = _
              rw [if_neg c1]
          · refine jT_neg (by rw [Int64.lt_iff_toInt_lt, lo_i (by omega)]; exact p1) (z4_arr131 h2 fun H3 h3 => hk0 _ _ H3 (arr0 none ?_) h3)
            unfold w_ix
            rw [if_neg fun q => p1 q.2.2]
      by_cases c1 : c = 121
      · exact jT_pos (e121.mpr c1) (g84 (Or.inl c1))
      · refine jT_neg (fun q => c1 (e121.mp q)) ?_
        by_cases c2 : c = 122
        · exact jT_neg (fun q => q (e122.mpr c2)) (g84 (Or.inr c2))
        · exact jT_pos (fun q => c2 (e122.mp q)) (g193 u H1 h1 (hu.imp_right fun q => q.2) n1 c6 (by omega) fun q => by omega)
  unfold F_4_arrange
  by_cases c5 : c = 115
  · refine jT_neg (fun q => q (e115.mpr c5)) (jT_g (w_N_k h) (w_has (n := 1) h rfl (by decide) (fun hl => ?_) fun hl H' h' => ?_))
    · have em : Int32.ofNat st.length - 1 = Int32.ofNat (st.length - 1) := jo_sub (a := st.length) (b := 1) hl
      refine jT_neg (by decide) ?_
      simp only [(w_N_h h).2.2.1]
      refine jT_g (w_N_k h) (jT_g (w_N_k1 h) (w_isT h hl ?_))
      by_cases t : ztrue (w_tp st 1) = true
      · rw [if_pos t]
        simp only [(w_N_h h).1, (w_N_h h).2.2.1, em]
        refine jT_neg (by decide) (jT_g (w_N_k h) (jT_g (w_N_k h) (jT_g (w_N_k h) (jT_g (w_N_k1 h) (jT_g (w_N_k1 h) (w_cpA h rfl (by omega) (w_tp_at (Nat.le_refl 1) hl) fun H' h' => ?_))))))
        unfold B_4_arrange_241
        refine jT_ret (hk1 _ _ H' ?_ h')
        unfold w_arr
        rw [if_pos ⟨c5, hl⟩, if_pos t]
      · rw [if_neg t]
        unfold B_4_arrange_241
        refine jT_pos rfl (jT_ret (hk1 _ _ H ?_ h))
        unfold w_arr
        rw [if_pos ⟨c5, hl⟩, if_neg t]
    · exact jT_pos rfl (g48 2 H' h' (Or.inr ⟨c5, hl⟩) (by omega))
  · exact jT_pos (fun q => c5 (e115.mp q)) (g48 0 H h (Or.inl rfl) fun q => c5 q.1)
theorem z4_compare (hc : c < 256) (h136 : c ≤ 136) (h : w_N st sd 0 H0 H) (hb : st.length + sd.length ≤ 60) (hk1 : ∀ st' sd' H', w_cmp c st sd = some (st', sd') → w_N st' sd' 0 H0 H' → Q () H') (hk0 : ∀ a b H', w_cmp c st sd = none → w_N a b 2 H0 H' → Q () H') : jT (F_4_compare 170 (Int32.ofNat c) H) Q := by
  have e135 : (Int32.ofNat c = 135 ↔ c = 135) := jo_eq (a := c) (b := 135) (by omega) (by decide)
  have b15 : ∀ u H1, w_N st sd u H0 H1 → w_cmp c st sd = none → jT (B_4_compare_15 170 H1) Q := fun u H1 h1 hn => by
    unfold B_4_compare_15
    exact jT_g (w_N_k h1) (jT_l (jT_ret (hk0 _ _ _ hn (w_st h1))))
  unfold F_4_compare
  by_cases c5 : c < 135
  · exact jT_pos (by rw [show (135 : Int32) = Int32.ofNat 135 from rfl, jo_lt (by omega) (by omega)]; exact c5) (b15 0 H h (by unfold w_cmp; rw [if_pos (Or.inl c5)]))
  · refine jT_neg (by rw [show (135 : Int32) = Int32.ofNat 135 from rfl, jo_lt (by omega) (by omega)]; exact c5) (jT_g (w_N_k h) (w_has (n := 2) h rfl (by decide) (fun hl => ?_) fun hl H' h' => ?_))
    rotate_left
    · exact jT_neg (fun q => q rfl) (b15 2 H' h' (by unfold w_cmp; rw [if_pos (Or.inr hl)]))
    refine jT_pos (by decide) ?_
    simp only [(w_N_h h).2.2.1]
    have et := z9_isTopTwice h.1.1 zS171 h.1.2.1 hl
    refine jT_g (w_N_k h) (jT_g (w_N_k1 h) ?_)
    rw [et, jb_ok]
    simp only [(w_N_h h).2.2.1]
    refine jT_g (w_N_k h) (jT_g (w_N_k1 h) (w_drA (n := 2) h rfl hl fun H2 h2 => ?_))
    have l2 : (w_dr st 2).length = st.length - 2 := w_dr_len
    have ecmp : w_cmp c st sd = if c = 135 then some (w_dr st 2 ++ [w_en (if w_tp st 1 = w_tp st 2 then 1 else 0)], sd) else if w_tp st 1 = w_tp st 2 then some (w_dr st 2, sd) else none := by
      unfold w_cmp
      rw [if_neg (by omega)]
    have g57 : ∀ x : Int64, x.toInt.natAbs < 1099511627776 → x = (if w_tp st 1 = w_tp st 2 then 1 else 0) → c = 135 → jT (B_4_compare_57 171 x H2) Q := fun x hx ex hc5 => by
      unfold B_4_compare_57 B_4_compare_72
      refine jT_g (w_N_k1 h2) (w_pnA h2 hx (by omega) fun H3 h3 => jT_ret (hk1 _ _ H3 ?_ h3))
      rw [ecmp, if_pos hc5, ← ex]
    have etp : (st.getD (st.length - 1) [] = st.getD (st.length - 2) []) = (w_tp st 1 = w_tp st 2) := rfl
    simp only [etp, (w_N_h h2).2.2.1]
    by_cases c0 : c = 135
    · refine jT_neg (fun q => q (e135.mpr c0)) (jT_g (w_N_k h2) ?_)
      by_cases t : w_tp st 1 = w_tp st 2
      · exact jT_neg (by rw [if_pos t]; decide) (g57 1 (by decide) (by rw [if_pos t]) c0)
      · exact jT_pos (by rw [if_neg t]) (g57 0 (by decide) (by rw [if_neg t]) c0)
    · refine jT_pos (fun q => c0 (e135.mp q)) ?_
      by_cases t : w_tp st 1 = w_tp st 2
      · refine jT_pos (by rw [if_pos t]; decide) ?_
        unfold B_4_compare_72
        exact jT_ret (hk1 _ _ H2 (by rw [ecmp, if_neg c0, if_pos t]) h2)
      · refine jT_neg (by rw [if_neg t]; decide) (jT_g (w_N_k h2) (jT_l ?_))
        unfold B_4_compare_72
        exact jT_ret (hk0 _ _ _ (by rw [ecmp, if_neg c0, if_neg t]) (w_st h2))
end ARR
