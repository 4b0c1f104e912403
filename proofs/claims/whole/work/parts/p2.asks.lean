/-! Questions to both programs. -/
section ASKS
variable {nb : Nat} {os : List Nat} {S : s_S} {tp kn : List UInt8} {ki : Int32} {H : jH}
theorem s_need (hs : jsh H) (hR : s_ref S tp kn ki H) : jT (F_18_need 421 (jI H 421 13) H) (fun _ h => jsh h ∧ jfr s_T18 H h ∧ s_ref S tp kn ki h ∧ b_KC S.1 S.2.2.2.1 h) := by
  obtain ⟨hw, hT, hD, -, -, htl, h13, hri, -, -, ⟨c, hC⟩, hp13⟩ := hR.1
  rw [h13]
  by_cases cc : c = S.2.2.2.1
  · rw [z18_need_here hs (by rw [hC.1, cc])]
    exact jT_ret ⟨hs, jfr_refl, hR, cc ▸ hC⟩
  · have := b_need (k := fun _ h => some ((), h)) (Q := fun (_ : Unit) h => jsh h ∧ jfr s_T18 H h ∧ s_ref S tp kn ki h ∧ b_KC S.1 S.2.2.2.1 h) hw hs hT hD htl hri hC fun H1 s1 f1 C1 => by
      have u1 : ∀ a j, b_FN a j → (456 ≤ a ∧ a ≤ 464) ∨ a = 481 ∨ (482 ≤ a ∧ a ≤ 488) ∨ a = 507 ∨ (a = 421 ∧ (j = 14 ∨ j = 16 ∨ j = 17 ∨ j = 18)) := fun a j w => by unfold b_FN at w; omega
      exact jT_ret ⟨s1, jfr_mono f1 fun a j w => (by have := u1 a j w; show 421 ≤ a ∧ a ≤ 512; omega : s_T18 a j), s_ref_ps (ps := S.2.2.2.2.1) hR f1 (fun a j w => by have := u1 a j w; omega) ⟨_, C1⟩ (w_p13_T hp13 f1 fun a j w => by have := u1 a j w; omega) (p_PB_fr hR.2.2.1 f1 fun a j w => by have := u1 a j w; omega), C1⟩
    exact jT_imp (jT_bu this) fun x h q => by
      obtain ⟨⟨r, h'⟩, he, hq⟩ := q
      cases he
      exact hq
theorem zsL_eq {f g : Nat → Int64} : ∀ {n : Nat}, (∀ k, k < n → f k = g k) → zsL f n = zsL g n
  | 0, _ => rfl
  | n + 1, h => by
    show zsL f n + f n = zsL g n + g n
    rw [zsL_eq fun k hk => h k (by omega), h n (by omega)]
theorem c_fees (hI : s_I H) : s_two (F_11_fees 32) (F_18_fees 421) H := by
  obtain ⟨S, tp, kn, ki, nb, os, hP, hC, hR⟩ := hI
  have hs := hC.1
  have l40 := hP.2.2.2.2.2.2.2.1.2.1
  have e : F_11_fees 32 H = some (zsL (jL H 416) S.2.2.2.2.1.length, H) := jT_det (by
    unfold F_11_fees
    rw [sR_32_13 hs]
    exact jT_g (gT (sK_32 hs)) (jT_g (gT (sK_414 hs)) (jT_b (z6_gain hs (by omega) hC.2.2.1.1 (jT_ret ⟨rfl, rfl⟩)))))
  refine s_ask hP hC e (z18_fees hs (by omega) hR.2.2.1.1 ⟨zsL_eq fun k hk => ?_, hs, jfr_refl, hR⟩)
  have g := p_g_at hk
  exact ((hR.2.2.1.2 k _ g).1.2.2.2).trans (hC.2.2.1.2 k _ g).2.symm
theorem zsL_sum {f : Nat → Int64} {cs : List w_cn} : ∀ {n : Nat}, n ≤ cs.length → (∀ k c, cs[k]? = some c → f k = w_cv c) → zsL f n = w_sumc (cs.take n)
  | 0, _, _ => rfl
  | n + 1, hn, h => by
    have hl : n < cs.length := hn
    have e1 := h n _ (List.getElem?_eq_getElem hl)
    show zsL f n + f n = _
    rw [List.take_add_one, List.getElem?_eq_getElem hl, w_sumc_app, zsL_sum (by omega) h, e1]
    show _ = w_sumc (cs.take n) + (w_cv cs[n] + 0)
    grind
theorem c_total (hI : s_I H) : s_two (F_11_total 32) (F_18_total 421) H := by
  obtain ⟨S, tp, kn, ki, nb, os, hP, hC, hR⟩ := hI
  have hs := hC.1
  have k18 : ∀ {H}, jsh H → (jK H 421).1 = 18 := fun hs => gT (sK_421 hs)
  have e : F_11_total 32 H = some (w_sumc (b_co S.1 S.2.2.2.1 (b_ht S.1 S.2.2.2.1)).1, H) := jT_det (by
    unfold F_11_total
    rw [sR_32_11 hs]
    exact jT_g (gT (sK_32 hs)) (jT_g (gT (sK_392 hs)) (jT_ret ⟨hC.2.1.2.2.2.2.2.2.2.2.1.2.1, rfl⟩)))
  refine s_ask hP hC e ?_
  unfold F_18_total
  refine jT_g (k18 hs) (jT_g (k18 hs) (jT_bi (s_need hs hR) fun _ H1 q => ?_))
  obtain ⟨s1, f1, R1, C1⟩ := q
  have CB := C1.2.2.2.1
  refine z18_total_12 (c := (b_co S.1 S.2.2.2.1 (b_ht S.1 S.2.2.2.1)).1.length) s1 (by have := CB.2.1; omega) CB.1 ⟨?_, s1, f1, R1⟩
  rw [zsL_sum (Nat.le_refl _) fun k c hc => (CB.2.2 k c hc).2.2.2.1, List.take_of_length_le (Nat.le_refl _)]
theorem zcb_cnt {f : Nat → Int32} {bad : Nat → Bool} : ∀ {n : Nat}, n ≤ 300 → (∀ k, k < n → f k = if bad k = true then 1 else 0) → zcb f n = Int32.ofNat (b_cnt bad n)
  | 0, _, _ => rfl
  | n + 1, hn, h => by
    have e1 := h n (by omega)
    show zcb f n + (if f n = 0 then 0 else 1) = Int32.ofNat (b_cnt bad n + if bad n = true then 1 else 0)
    rw [zcb_cnt (by omega) fun k hk => h k (by omega), e1]
    cases bad n with
    | true => exact jo_add (b := 1)
    | false => exact jo_add (b := 0)
theorem c_count {w : Int32} (hI : s_I H) : s_two (F_11_count 32 w) (F_18_count 421 w) H := by
  obtain ⟨S, tp, kn, ki, nb, os, hP, hC, hR⟩ := hI
  have hs := hC.1
  obtain ⟨t1, t2, t3, t4⟩ := s_tip11 hC
  have k18 : ∀ {H}, jsh H → (jK H 421).1 = 18 := fun hs => gT (sK_421 hs)
  have k11 : (jK H 32).1 = 11 := gT (sK_32 hs)
  have k398 : (jK H (jR H 32 12)).1 = 1 := by rw [sR_32_12 hs, sK_398 hs]
  have l300 := hC.2.1.1.2.1
  have htl := hR.1.2.2.2.2.2.1
  have e : F_11_count 32 w H = some ((if w = 0 then Int32.ofNat S.1.length else if w = 1 then Int32.ofNat (b_ht S.1 S.2.2.2.1) else if w = 2 then Int32.ofNat (b_co S.1 S.2.2.2.1 (b_ht S.1 S.2.2.2.1)).1.length else if w = 3 then Int32.ofNat S.2.2.2.2.1.length else if w = 4 then Int32.ofNat tp.length else if w = 5 then Int32.ofNat (b_cnt S.2.2.1 S.1.length) else -1), H) := jT_det (by
    unfold F_11_count
    by_cases w0 : w = 0
    · rw [if_pos w0, if_pos w0]
      refine jT_g k11 (jT_g k398 (jT_ret ⟨?_, rfl⟩))
      rw [sR_32_12 hs]
      exact hC.2.1.2.1.2.2.2.1
    rw [if_neg w0, if_neg w0]
    by_cases w1 : w = 1
    · rw [if_pos w1, if_pos w1]
      refine jT_g k11 (jT_g k398 (jT_g (by rw [sR_32_12 hs, t1]; exact t2) (jT_ret ⟨?_, rfl⟩)))
      rw [sR_32_12 hs, t1]
      exact t3
    rw [if_neg w1, if_neg w1]
    by_cases w2 : w = 2
    · rw [if_pos w2, if_pos w2, sR_32_11 hs]
      exact jT_g k11 (jT_g (gT (sK_392 hs)) (jT_ret ⟨hC.2.1.2.2.2.2.2.2.2.2.1.1.1, rfl⟩))
    rw [if_neg w2, if_neg w2]
    by_cases w3 : w = 3
    · rw [if_pos w3, if_pos w3, sR_32_13 hs]
      exact jT_g k11 (jT_g (gT (sK_414 hs)) (jT_ret ⟨hC.2.2.1.1, rfl⟩))
    rw [if_neg w3, if_neg w3]
    by_cases w4 : w = 4
    · rw [if_pos w4, if_pos w4]
      exact jT_g k11 (jT_ret ⟨hC.2.2.2.2.2.1.1, rfl⟩)
    rw [if_neg w4, if_neg w4]
    by_cases w5 : w = 5
    · rw [if_pos w5, if_pos w5]
      refine jT_g k11 (jT_g k398 (jT_ret ⟨?_, rfl⟩))
      rw [sR_32_12 hs]
      exact hC.2.1.2.2.2.2.2.2.2.1
    rw [if_neg w5, if_neg w5]
    exact jT_ret ⟨rfl, rfl⟩)
  refine s_ask hP hC e ?_
  refine z18_count (m := S.1.length) hs l300 hR.1.2.1.1 (P := fun h => jsh h ∧ jfr s_T18 H h ∧ s_ref S tp kn ki h ∧ b_KC S.1 S.2.2.2.1 h) (s_need hs hR) fun H1 q => ?_
  obtain ⟨s1, f1, R1, C1⟩ := q
  have T1 := R1.1.2.1
  by_cases w0 : w = 0
  · rw [if_pos w0, if_pos w0]
    unfold F_16_size
    rw [sR_421_3 s1]
    exact jT_g (k18 s1) (jT_g (gT (sK_445 s1)) (jT_b (jT_g (gT (sK_445 s1)) (jT_ret (jT_ret ⟨T1.1, s1, f1, R1⟩)))))
  rw [if_neg w0, if_neg w0]
  by_cases w1 : w = 1
  · rw [if_pos w1, if_pos w1, R1.1.2.2.2.2.2.2.1]
    exact jT_g (k18 s1) (jT_g (k18 s1) (jT_b (z18_height s1 l300 htl T1.1 (jT_ret ⟨(T1.2 _ htl).2.1, s1, f1, R1⟩))))
  rw [if_neg w1, if_neg w1]
  by_cases w2 : w = 2
  · rw [if_pos w2, if_pos w2]
    exact jT_g (k18 s1) (jT_ret ⟨C1.2.2.2.1.1, s1, f1, R1⟩)
  rw [if_neg w2, if_neg w2]
  by_cases w3 : w = 3
  · rw [if_pos w3, if_pos w3]
    exact jT_g (k18 s1) (jT_ret ⟨R1.2.2.1.1, s1, f1, R1⟩)
  rw [if_neg w3, if_neg w3]
  by_cases w4 : w = 4
  · rw [if_pos w4, if_pos w4]
    exact jT_g (k18 s1) (jT_ret ⟨R1.2.2.2.2.1.1, s1, f1, R1⟩)
  rw [if_neg w4, if_neg w4]
  by_cases w5 : w = 5
  · rw [if_pos w5, if_pos w5]
    exact jT_ret ⟨zcb_cnt l300 fun k hk => hR.1.2.2.2.2.1 k hk, s1, f1, R1⟩
  rw [if_neg w5, if_neg w5]
  exact jT_ret ⟨rfl, s1, f1, R1⟩
theorem i32_nat (p : Int32) : ∃ ix, ix < 4294967296 ∧ p = Int32.ofNat ix := by
  refine ⟨p.toBitVec.toNat, p.toBitVec.isLt, Int32.toBitVec_inj.mp ?_⟩
  rw [Int32.toBitVec_ofNat', BitVec.ofNat_toNat, BitVec.setWidth_eq]
theorem w_fd_big {nm : List UInt8} {ix : Nat} {cs : List w_cn} (h : ∀ (k : Nat) (c : w_cn), cs[k]? = some c → c.2.1 ≠ ix) : w_fd cs nm ix 0 = none := by
  cases e : w_fd cs nm ix 0 with
  | none => rfl
  | some k =>
    obtain ⟨c, h1, -, h3⟩ := w_fd_at e
    exact absurd h3 (h _ c h1)
/-- an index below nothing is no coin's -/
theorem z18_coin_neg {cs : List w_cn} {r : Nat} {p : Int32} {v : Int64} (hs : jsh H) (h : w_CB cs H) (hv : v < 0) : F_18_coin 421 r p v H = some (-1, H) := by
  obtain ⟨h1, h2, h3⟩ := h
  have k2 : (jK H 421).1 = 18 := gT (sK_421 hs)
  have loop : ∀ (d i fu : Nat), i + d = cs.length → d < fu → F_18_coin_3 fu 421 r p v (Int32.ofNat i) H = some (-1, H) := by
    intro d
    induction d with
    | zero =>
      intro i fu hl hfu
      obtain ⟨fu, rfl⟩ : ∃ k, fu = k + 1 := ⟨fu - 1, by omega⟩
      unfold F_18_coin_3 B_18_coin_3
      rw [jg_t k2, h1, if_pos (by rw [jo_le (by omega) (by omega)]; omega)]
    | succ d ih =>
      intro i fu hl hfu
      obtain ⟨fu, rfl⟩ : ∃ k, fu = k + 1 := ⟨fu - 1, by omega⟩
      obtain ⟨ok, -, e1, -⟩ := h3 i _ (List.getElem?_eq_getElem (by omega))
      have hkk : (cs[i]'(by omega)).2.1 < 8 := by have := (ztx_spec ok.2.1.1).2.1; have := ok.2.2; omega
      have ei : Int32.ofNat i + 1 = Int32.ofNat (i + 1) := jo_add (a := i) (b := 1)
      have ne : ¬ Int64.ofNat (cs[i]'(by omega)).2.1 = v := fun w => by
        have : ¬ Int64.ofNat (cs[i]'(by omega)).2.1 < Int64.ofNat 0 := by rw [lo_lt (by omega) (by decide)]; omega
        exact this (by rw [w]; exact hv)
      unfold F_18_coin_3 B_18_coin_3 B_18_coin_46
      rw [jg_t k2, h1, if_neg (by rw [jo_le (by omega) (by omega)]; omega), jg_t k2, sR_421_21 hs, jg_t (gA (sK_483 hs) (jo_in (by omega) (by omega))), jo_nat (n := i) (by omega), e1, ei, if_pos ne]
      exact ih (i + 1) fu (by omega) (by omega)
  exact loop cs.length 0 jfuel (Nat.zero_add _) (by unfold jfuel; omega)
theorem i64_neg {p : Int32} (h : p < 0) : Int32.toInt64 p < 0 := by
  rw [Int64.lt_iff_toInt_lt, Int32.toInt_toInt64]
  exact Int32.lt_iff_toInt_lt.mp h
theorem c_value (hI : s_I H) : s_two (F_11_value 32) (F_18_value 421) H := by
  obtain ⟨S, tp, kn, ki, nb, os, hP, hC, hR⟩ := hI
  have hs := hC.1
  have k18 : ∀ {H}, jsh H → (jK H 421).1 = 18 := fun hs => gT (sK_421 hs)
  have k11 : (jK H 32).1 = 11 := gT (sK_32 hs)
  obtain ⟨x1, x2, x3⟩ := hC.2.2.2.2.2.2
  have CA := hC.2.1.2.2.2.2.2.2.2.2.1.1
  obtain ⟨ix, hix, rfl⟩ := i32_nat ki
  obtain ⟨v, hv⟩ : ∃ v : Int64, v = match w_fd (b_co S.1 S.2.2.2.1 (b_ht S.1 S.2.2.2.1)).1 kn ix 0 with
    | some j => w_cv ((b_co S.1 S.2.2.2.1 (b_ht S.1 S.2.2.2.1)).1.getD j w_c0)
    | none => -1 := ⟨_, rfl⟩
  have e : F_11_value 32 H = some (v, H) := jT_det (by
    have hf := z2_find (p := 0) hs CA (sK_34 hs) (by decide) (by decide) x1 x2 hix
    unfold F_11_value B_11_value_35
    rw [sR_32_11 hs, sR_32_2 hs, x3]
    refine jT_g k11 (jT_g k11 (jT_g k11 (jT_g (gT (sK_392 hs)) (jT_b (jT_eq hf (jT_ret ?_))))))
    cases hj : w_fd (b_co S.1 S.2.2.2.1 (b_ht S.1 S.2.2.2.1)).1 kn ix 0 with
    | some j =>
      rw [hj] at hv
      have hl := (w_fd_lt hj).2
      have l15 := CA.2.1
      have hj2 : j < (b_co S.1 S.2.2.2.1 (b_ht S.1 S.2.2.2.1)).1.length := by omega
      have g : (b_co S.1 S.2.2.2.1 (b_ht S.1 S.2.2.2.1)).1[j]? = some ((b_co S.1 S.2.2.2.1 (b_ht S.1 S.2.2.2.1)).1.getD j w_c0) := by
        rw [List.getD_eq_getElem?_getD, List.getElem?_eq_getElem hj2]
        rfl
      refine jT_pos (by show Int32.ofNat 0 ≤ Int32.ofNat j; rw [jo_le (by decide) (by omega)]; omega) (jT_g k11 ?_)
      rw [sR_32_11 hs]
      exact jT_g (gT (sK_392 hs)) (jT_b (jT_eq (z2_worth hs CA g) (jT_ret (jT_ret ⟨hv.symm, rfl⟩))))
    | none =>
      rw [hj] at hv
      exact jT_neg (by decide) (jT_ret ⟨hv.symm, rfl⟩))
  refine s_ask hP hC e ?_
  unfold F_18_value
  refine jT_g (k18 hs) (jT_g (k18 hs) (jT_bi (s_need hs hR) fun _ H1 q => ?_))
  obtain ⟨s1, f1, R1, C1⟩ := q
  have CB := C1.2.2.2.1
  obtain ⟨y1, y2⟩ := R1.2.2.2.2.2
  have hf : F_18_coin 421 509 0 (Int32.toInt64 (Int32.ofNat ix)) H1 = some (w_fv (w_fd (b_co S.1 S.2.2.2.1 (b_ht S.1 S.2.2.2.1)).1 kn ix 0), H1) := by
    by_cases c : ix < 2147483648
    · rw [lo_of c]
      exact z18_coin (p := 0) s1 CB (sK_509 s1) (by decide) (by decide) y1 x2 hix
    · have n0 : Int32.ofNat ix < 0 := p_neg hix |>.mpr (by omega)
      rw [z18_coin_neg s1 CB (i64_neg n0), w_fd_big fun k c hc => by
        obtain ⟨ok, -⟩ := CB.2.2 k c hc
        have := (ztx_spec ok.2.1.1).2.1
        have := ok.2.2
        omega]
      rfl
  rw [sR_421_51 s1, y2]
  refine jT_g (k18 s1) (jT_g (k18 s1) (jT_g (k18 s1) (jT_b (jT_eq hf (jT_ret ?_)))))
  unfold B_18_value_39
  cases hj : w_fd (b_co S.1 S.2.2.2.1 (b_ht S.1 S.2.2.2.1)).1 kn ix 0 with
  | some j =>
    rw [hj] at hv
    have hl := (w_fd_lt hj).2
    have l15 := CB.2.1
    have hj2 : j < (b_co S.1 S.2.2.2.1 (b_ht S.1 S.2.2.2.1)).1.length := by omega
    have g : (b_co S.1 S.2.2.2.1 (b_ht S.1 S.2.2.2.1)).1[j]? = some ((b_co S.1 S.2.2.2.1 (b_ht S.1 S.2.2.2.1)).1.getD j w_c0) := by
      rw [List.getD_eq_getElem?_getD, List.getElem?_eq_getElem hj2]
      rfl
    refine jT_pos (by show Int32.ofNat 0 ≤ Int32.ofNat j; rw [jo_le (by decide) (by omega)]; omega) (jT_g (k18 s1) ?_)
    rw [sR_421_22 s1, show w_fv (some j) = Int32.ofNat j from rfl]
    refine jT_g (gA (sK_484 s1) (jo_in (by omega) (by omega))) (jT_ret ⟨?_, s1, f1, R1⟩)
    rw [jo_nat (n := j) (by omega)]
    exact ((CB.2.2 j _ g).2.2.2.1).trans hv.symm
  | none =>
    rw [hj] at hv
    exact jT_neg (by decide) (jT_ret ⟨hv.symm, s1, f1, R1⟩)
end ASKS
