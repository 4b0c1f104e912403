/-! Questions of the law to the class. -/
theorem sR_32_11 {H : jH} (h : jsh H) : jR H 32 11 = 392 := sR h 8 rfl (Or.inl rfl)
def q_eb (g : Nat → UInt8) : Nat → Nat
  | 0 => 0
  | i + 1 => q_eb g i * 256 + (g i).toNat
theorem q_eb_lt {g : Nat → UInt8} : ∀ i, q_eb g i < 256 ^ i
  | 0 => Nat.one_pos
  | i + 1 => by
    have h := q_eb_lt (g := g) i
    have hb := UInt8.toNat_lt (g i)
    show q_eb g i * 256 + (g i).toNat < _
    rw [Nat.pow_succ]
    omega
theorem q_eb_zeb {g : Nat → UInt8} : ∀ i, zeb g i = Int64.ofNat (q_eb g i)
  | 0 => rfl
  | i + 1 => by
    have hb := UInt8.toNat_lt (g i)
    have s8 : jshlL (Int64.ofNat (q_eb g i)) 8 = Int64.ofNat (q_eb g i * 2 ^ 8) := lo_shl (m := q_eb g i) (c := 8) (by decide)
    show jshlL (zeb g i) 8 ||| Int32.toInt64 (jbs (g i) &&& 255) = Int64.ofNat (q_eb g i * 256 + (g i).toNat)
    rw [q_eb_zeb i, s8, jb_and, lo_of (by omega), lo_orK (by omega)]
theorem q_eb_div {g : Nat → UInt8} {i : Nat} : ∀ j, q_eb g (i + j) / 256 ^ j = q_eb g i
  | 0 => by rw [Nat.pow_zero, Nat.div_one]; rfl
  | j + 1 => by
    have hb := UInt8.toNat_lt (g (i + j))
    have e : (q_eb g (i + j) * 256 + (g (i + j)).toNat) / 256 = q_eb g (i + j) := by omega
    show (q_eb g (i + j) * 256 + (g (i + j)).toNat) / 256 ^ (j + 1) = _
    rw [Nat.pow_succ, Nat.mul_comm (256 ^ j) 256, ← Nat.div_div_eq_div_mul, e]
    exact q_eb_div j
theorem q_zeb {g : Nat → UInt8} {k : Nat} (hk : k < 8) : zlb (zeb g 8) k = g k := by
  have hl := q_eb_lt (g := g) 8
  have e8 : (256 : Nat) ^ 8 = 18446744073709551616 := rfl
  have e : (2 : Nat) ^ (56 - 8 * k) = 256 ^ (7 - k) := by
    rcases (show k = 0 ∨ k = 1 ∨ k = 2 ∨ k = 3 ∨ k = 4 ∨ k = 5 ∨ k = 6 ∨ k = 7 by omega) with rfl | rfl | rfl | rfl | rfl | rfl | rfl | rfl <;> rfl
  have d := q_eb_div (g := g) (i := k + 1) (7 - k)
  rw [show k + 1 + (7 - k) = 8 by omega] at d
  refine UInt8.toNat_inj.mp ?_
  rw [q_eb_zeb, zlb_n (by omega) hk, e, d]
  have hb := UInt8.toNat_lt (g k)
  show (q_eb g k * 256 + (g k).toNat) % 256 = _
  omega
theorem q_sl_zeb {T : Nat → Int64} {s k : Nat} {b : Nat → UInt8} (h : q_sl T s b) (hk : k < 4) : T (32 + 4 * s + k) = zeb (fun i => b (8 * k + i)) 8 := zlb_ext fun i hi => by
  rw [q_zeb hi, ← h (8 * k + i) (by omega), show (8 * k + i) / 8 = k by omega, show (8 * k + i) % 8 = i by omega]
section ASK
variable {nb : Nat} {os : List Nat} {S : s_S} {tp kn : List UInt8} {ki : Int32} {H : jH}
theorem q_count (hC : s_cls nb os S tp kn ki H) (w : Int32) : F_11_count 32 w H = some ((if w = 0 then Int32.ofNat S.1.length else if w = 1 then Int32.ofNat (b_ht S.1 S.2.2.2.1) else if w = 2 then Int32.ofNat (b_co S.1 S.2.2.2.1 (b_ht S.1 S.2.2.2.1)).1.length else if w = 3 then Int32.ofNat S.2.2.2.2.1.length else if w = 4 then Int32.ofNat tp.length else if w = 5 then Int32.ofNat (b_cnt S.2.2.1 S.1.length) else -1), H) := jT_det (by
  have hs := hC.1
  obtain ⟨t1, t2, t3, t4⟩ := s_tip11 hC
  have k11 : (jK H 32).1 = 11 := gT (sK_32 hs)
  have k398 : (jK H (jR H 32 12)).1 = 1 := by rw [sR_32_12 hs, sK_398 hs]
  unfold F_11_count
  by_cases w0 : w = 0
  · rw [if_pos w0, if_pos w0]
    refine jT_g k11 (jT_g k398 (jT_ret ⟨?_, rfl⟩))
    rw [sR_32_12 hs]
    exact hC.2.1.2.1.2.2.2.1
  rw [if_neg w0, if_neg w0]
  by_cases w1 : w = 1
  · rw [if_pos w1, if_pos w1]
    refine jT_g k11 (jT_g k398 (jT_g (by rw [sR_32_12 hs, t1]; exact t2) (jT_ret ⟨?_, rfl⟩)))
    rw [sR_32_12 hs, t1]
    exact t3
  rw [if_neg w1, if_neg w1]
  by_cases w2 : w = 2
  · rw [if_pos w2, if_pos w2, sR_32_11 hs]
    exact jT_g k11 (jT_g (gT (sK_392 hs)) (jT_ret ⟨hC.2.1.2.2.2.2.2.2.2.2.1.1.1, rfl⟩))
  rw [if_neg w2, if_neg w2]
  by_cases w3 : w = 3
  · rw [if_pos w3, if_pos w3, sR_32_13 hs]
    exact jT_g k11 (jT_g (gT (sK_414 hs)) (jT_ret ⟨hC.2.2.1.1, rfl⟩))
  rw [if_neg w3, if_neg w3]
  by_cases w4 : w = 4
  · rw [if_pos w4, if_pos w4]
    exact jT_g k11 (jT_ret ⟨hC.2.2.2.2.2.1.1, rfl⟩)
  rw [if_neg w4, if_neg w4]
  by_cases w5 : w = 5
  · rw [if_pos w5, if_pos w5]
    refine jT_g k11 (jT_g k398 (jT_ret ⟨?_, rfl⟩))
    rw [sR_32_12 hs]
    exact hC.2.1.2.2.2.2.2.2.2.1
  rw [if_neg w5, if_neg w5]
  exact jT_ret ⟨rfl, rfl⟩)
theorem q_total (hC : s_cls nb os S tp kn ki H) : F_11_total 32 H = some (w_sumc (b_co S.1 S.2.2.2.1 (b_ht S.1 S.2.2.2.1)).1, H) := jT_det (by
  have hs := hC.1
  unfold F_11_total
  rw [sR_32_11 hs]
  exact jT_g (gT (sK_32 hs)) (jT_g (gT (sK_392 hs)) (jT_ret ⟨hC.2.1.2.2.2.2.2.2.2.2.1.2.1, rfl⟩)))
/-- eight bytes of a name in the tip's chain -/
theorem q_blk {g q : Nat} (hC : s_cls nb os S tp kn ki H) (hg : g ≤ b_ht S.1 S.2.2.2.1) (hq : q < 4) : F_11_block 32 (Int32.ofNat g) (Int32.ofNat q) H = some (zeb (fun i => (b_nm S.1 (b_at S.1 S.2.2.2.1 g)).getD (8 * q + i) 0) 8, H) := jT_det (by
  have hs := hC.1
  have k11 : (jK H 32).1 = 11 := gT (sK_32 hs)
  have k398 : (jK H 398).1 = 1 := gT (sK_398 hs)
  have hw := hC.2.1.1
  have hB := hC.2.1.2.1
  have hL := hC.2.1.2.2.1
  have htl : S.2.2.2.1 < S.1.length := hL.1
  have lt := (b_at_ok hw htl hg).2.2
  have pos := (b_o_pos hs hB lt).1
  obtain ⟨-, hbx⟩ := hB.2.2.2.2 _ lt
  have ln := hw.2.2.2.1 _ lt
  unfold F_11_block
  rw [sR_32_12 hs]
  refine jT_g k11 (jT_g k398 (jT_b (jT_eq (b_at1 hw hs hB hL hg) (jT_ret (jT_neg (by omega) (jT_neg (by show ¬ _ < Int32.ofNat 0; rw [jo_lt (by omega) (by decide)]; omega) (jT_pos (by show _ ≤ Int32.ofNat 3; rw [jo_le (by omega) (by decide)]; omega) (z11_block_30 hq hbx.1.1 rfl hbx.2.2.1.1 ⟨?_, rfl⟩))))))))
  refine zeb_eq fun i hi => ?_
  have g1 : (b_nm S.1 (b_at S.1 S.2.2.2.1 g))[8 * q + i]? = some ((b_nm S.1 (b_at S.1 S.2.2.2.1 g)).getD (8 * q + i) 0) := getD_of (by omega)
  have r1 := hbx.2.2.1.2.2 _ _ g1
  rw [Nat.zero_add] at r1
  exact r1)
/-- whatever is asked, there is an answer -/
theorem q_blkE {q : Nat} (hC : s_cls nb os S tp kn ki H) (ht : Int32) (hq : q < 4) : ∃ v, F_11_block 32 ht (Int32.ofNat q) H = some (v, H) := by
  have hs := hC.1
  have k11 : (jK H 32).1 = 11 := gT (sK_32 hs)
  have k398 : (jK H 398).1 = 1 := gT (sK_398 hs)
  have hw := hC.2.1.1
  have hB := hC.2.1.2.1
  have hL := hC.2.1.2.2.1
  have htl : S.2.2.2.1 < S.1.length := hL.1
  have h3 := b_ht_300 hw htl
  by_cases no : ht < 0 ∨ Int32.ofNat (b_ht S.1 S.2.2.2.1) < ht
  · refine ⟨0, jT_det ?_⟩
    unfold F_11_block B_11_block_22
    rw [sR_32_12 hs]
    exact jT_g k11 (jT_g k398 (jT_b (jT_eq (b_at1_no hw hs hB hL no) (jT_ret (jT_pos rfl (jT_ret ⟨rfl, rfl⟩))))))
  · have c0 : ¬ ht < 0 := fun w => no (Or.inl w)
    have c1 : ¬ Int32.ofNat (b_ht S.1 S.2.2.2.1) < ht := fun w => no (Or.inr w)
    have et : (Int32.ofNat (b_ht S.1 S.2.2.2.1)).toInt = b_ht S.1 S.2.2.2.1 := jo_int (by omega)
    rw [i32_lt, et] at c1
    obtain ⟨g, hg, rfl⟩ := i32_small (k := 301) (by decide) c0 (fun q => by
      rw [Int32.le_iff_toInt_le, jo_int (by decide)] at q
      omega)
    have eg : (Int32.ofNat g).toInt = g := jo_int (by omega)
    rw [eg] at c1
    exact ⟨_, q_blk hC (by omega) hq⟩
def q_val (S : s_S) (kn : List UInt8) (ix : Nat) : Int64 := match w_fd (b_co S.1 S.2.2.2.1 (b_ht S.1 S.2.2.2.1)).1 kn ix 0 with
  | some j => w_cv ((b_co S.1 S.2.2.2.1 (b_ht S.1 S.2.2.2.1)).1.getD j w_c0)
  | none => -1
theorem q_value {ix : Nat} (hix : ix < 4294967296) (hC : s_cls nb os S tp kn (Int32.ofNat ix) H) : F_11_value 32 H = some (q_val S kn ix, H) := by
  have hs := hC.1
  have k11 : (jK H 32).1 = 11 := gT (sK_32 hs)
  obtain ⟨x1, x2, x3⟩ := hC.2.2.2.2.2.2
  have CA := hC.2.1.2.2.2.2.2.2.2.2.1.1
  obtain ⟨v, hv⟩ : ∃ v : Int64, v = q_val S kn ix := ⟨_, rfl⟩
  rw [← hv]
  unfold q_val at hv
  exact jT_det (by
    have hf := z2_find (p := 0) hs CA (sK_34 hs) (by decide) (by decide) x1 x2 hix
    unfold F_11_value B_11_value_35
    rw [sR_32_11 hs, sR_32_2 hs, x3]
    refine jT_g k11 (jT_g k11 (jT_g k11 (jT_g (gT (sK_392 hs)) (jT_b (jT_eq hf (jT_ret ?_))))))
    cases hj : w_fd (b_co S.1 S.2.2.2.1 (b_ht S.1 S.2.2.2.1)).1 kn ix 0 with
    | some j =>
      rw [hj] at hv
      have hl := (w_fd_lt hj).2
      have l15 := CA.2.1
      have hj2 : j < (b_co S.1 S.2.2.2.1 (b_ht S.1 S.2.2.2.1)).1.length := by omega
      have g : (b_co S.1 S.2.2.2.1 (b_ht S.1 S.2.2.2.1)).1[j]? = some ((b_co S.1 S.2.2.2.1 (b_ht S.1 S.2.2.2.1)).1.getD j w_c0) := by
        rw [List.getD_eq_getElem?_getD, List.getElem?_eq_getElem hj2]
        rfl
      refine jT_pos (by show Int32.ofNat 0 ≤ Int32.ofNat j; rw [jo_le (by decide) (by omega)]; omega) (jT_g k11 ?_)
      rw [sR_32_11 hs]
      exact jT_g (gT (sK_392 hs)) (jT_b (jT_eq (z2_worth hs CA g) (jT_ret (jT_ret ⟨hv.symm, rfl⟩))))
    | none =>
      rw [hj] at hv
      exact jT_neg (by decide) (jT_ret ⟨hv.symm, rfl⟩))
theorem q_key {Q : Unit → jH → Prop} {a b c d : Int64} {ix : Int32} (hC : s_cls nb os S tp kn ki H) (hk : ∀ H', s_cls nb os S tp (s_fb (fun i => zlb (if i < 8 then a else if i < 16 then b else if i < 24 then c else d) (i % 8)) 32) ix H' → q_fr 0 0 H H' → Q () H') : jT (F_11_key 32 a b c d ix H) Q := by
  have hs := hC.1
  unfold F_11_key
  refine z11_key (H0 := H) (fun H1 s1 f1 v1 b1 => ?_) 8 0 jfuel H rfl (by unfold jfuel; omega) hs jfr_refl fun j hj => absurd hj (Nat.not_lt_zero j)
  have kl : (s_fb (fun i => zlb (if i < 8 then a else if i < 16 then b else if i < 24 then c else d) (i % 8)) 32).length = 32 := s_fb_len
  have k1 : zRow H1 34 0 (s_fb (fun i => zlb (if i < 8 then a else if i < 16 then b else if i < 24 then c else d) (i % 8)) 32) := s_fb_row fun i hi => by
    rw [Nat.zero_add]
    rcases (show i < 8 ∨ (8 ≤ i ∧ i < 16) ∨ (16 ≤ i ∧ i < 24) ∨ (24 ≤ i ∧ i < 32) by omega) with h | h | h | h
    · rw [if_pos h, show i % 8 = i by omega]
      exact (b1 i h).1
    · rw [if_neg (by omega), if_pos h.2]
      have := (b1 (i % 8) (by omega)).2.1
      rwa [show 8 + i % 8 = i by omega] at this
    · rw [if_neg (by omega), if_neg (by omega), if_pos h.2]
      have := (b1 (i % 8) (by omega)).2.2.1
      rwa [show 16 + i % 8 = i by omega] at this
    · rw [if_neg (by omega), if_neg (by omega), if_neg (by omega)]
      have := (b1 (i % 8) (by omega)).2.2.2
      rwa [show 24 + i % 8 = i by omega] at this
  have C1 : s_cls nb os (s_bx S S.2.2.2.2.2) tp _ ix H1 := s_cls_sm hC s1 f1 (fun a j w => by omega) (p_b11_fr hC.2.2.2.1 f1 fun a j w => by omega) ⟨(jfr_I f1 (by omega)).trans hC.2.2.2.2.2.1.1, hC.2.2.2.2.2.1.2.1, zRow_eq hC.2.2.2.2.2.1.2.2 fun i hi => jfr_B f1 (by omega)⟩ ⟨k1, kl, v1⟩
  exact hk H1 C1 (q_fr_gx hs (jgx_sm f1 fun a j w => Or.inl (by omega)))
/-- the coin of the transaction in slot 7 -/
theorem q_coin {Q : Int64 → jH → Prop} {b : Nat → UInt8} (hC : s_cls nb os S tp kn ki H) (hb : q_sl (jL H 421) 7 b) (hk : ∀ H', s_cls nb os S tp (q_ls b 32) 0 H' → q_fr 0 0 H H' → Q (q_val S (q_ls b 32) 0) H') : jT (F_L_coin 32 421 7 0 H) Q := by
  have hL : jK H 421 = (103, 64) := sK_421 hC.1
  have k11 : (jK H 32).1 = 11 := gT (sK_32 hC.1)
  have e0 : ((32 : Int32) + 4 * 7).toNatClampNeg = 60 := by decide
  have e1 : ((33 : Int32) + 4 * 7).toNatClampNeg = 61 := by decide
  have e2 : ((34 : Int32) + 4 * 7).toNatClampNeg = 62 := by decide
  have e3 : ((35 : Int32) + 4 * 7).toNatClampNeg = 63 := by decide
  unfold F_L_coin
  rw [e0, e1, e2, e3]
  refine jT_g (q_g3 hL (by decide)) (jT_g (q_g3 hL (by decide)) (jT_g (q_g3 hL (by decide)) (jT_g (q_g3 hL (by decide)) (jT_g k11 (jT_b (q_key hC fun H1 C1 f1 => ?_))))))
  have en : s_fb (fun i => zlb (if i < 8 then jL H 421 60 else if i < 16 then jL H 421 61 else if i < 24 then jL H 421 62 else jL H 421 63) (i % 8)) 32 = q_ls b 32 := by
    unfold s_fb q_ls
    refine List.map_congr_left fun i hi => ?_
    have hi' : i < 32 := List.mem_range.mp hi
    rw [← hb i hi']
    rcases (show i < 8 ∨ (8 ≤ i ∧ i < 16) ∨ (16 ≤ i ∧ i < 24) ∨ (24 ≤ i ∧ i < 32) by omega) with h | h | h | h
    · rw [if_pos h, show 32 + 4 * 7 + i / 8 = 60 by omega]
    · rw [if_neg (by omega), if_pos h.2, show 32 + 4 * 7 + i / 8 = 61 by omega]
    · rw [if_neg (by omega), if_neg (by omega), if_pos h.2, show 32 + 4 * 7 + i / 8 = 62 by omega]
    · rw [if_neg (by omega), if_neg (by omega), if_neg (by omega), show 32 + 4 * 7 + i / 8 = 63 by omega]
  rw [en] at C1
  exact jT_g (gT (sK_32 C1.1)) (jT_b (jT_eq (q_value (ix := 0) (by decide) C1) (jT_ret (jT_ret (hk H1 C1 f1)))))
/-- whether the block of a height has the name in slot 6 -/
theorem q_isAtE {Q : Int32 → jH → Prop} (hC : s_cls nb os S tp kn ki H) (ht : Int32) (h0 : Q 0 H) (h1 : Q 1 H) : jT (F_L_isAt 32 421 ht 6 H) Q := by
  have hL : jK H 421 = (103, 64) := sK_421 hC.1
  have k11 : (jK H 32).1 = 11 := gT (sK_32 hC.1)
  obtain ⟨v0, a0⟩ := q_blkE (q := 0) hC ht (by decide)
  obtain ⟨v1, a1⟩ := q_blkE (q := 1) hC ht (by decide)
  obtain ⟨v2, a2⟩ := q_blkE (q := 2) hC ht (by decide)
  obtain ⟨v3, a3⟩ := q_blkE (q := 3) hC ht (by decide)
  unfold F_L_isAt B_L_isAt_76 B_L_isAt_77
  refine jT_g k11 (jT_b (jT_eq a0 (jT_ret (jT_g (q_g3 hL (by decide)) (jT_if (fun _ => jT_g (Or.inl rfl) (jT_ret h0)) fun _ => ?_)))))
  refine jT_g k11 (jT_b (jT_eq a1 (jT_ret (jT_g (q_g3 hL (by decide)) (jT_if (fun _ => jT_g (Or.inl rfl) (jT_ret h0)) fun _ => ?_)))))
  refine jT_g k11 (jT_b (jT_eq a2 (jT_ret (jT_g (q_g3 hL (by decide)) (jT_if (fun _ => jT_g (Or.inl rfl) (jT_ret h0)) fun _ => ?_)))))
  exact jT_g k11 (jT_b (jT_eq a3 (jT_ret (jT_g (q_g3 hL (by decide)) (jT_if (fun _ => jT_g (Or.inl rfl) (jT_ret h0)) fun _ => jT_g (Or.inr rfl) (jT_ret h1))))))
theorem q_isAt {Q : Int32 → jH → Prop} {g : Nat} {b : Nat → UInt8} (hC : s_cls nb os S tp kn ki H) (hg : g ≤ b_ht S.1 S.2.2.2.1) (hb : q_sl (jL H 421) 6 b) (hn : ∀ i, i < 32 → (b_nm S.1 (b_at S.1 S.2.2.2.1 g)).getD i 0 = b i) (h1 : Q 1 H) : jT (F_L_isAt 32 421 (Int32.ofNat g) 6 H) Q := by
  have hL : jK H 421 = (103, 64) := sK_421 hC.1
  have k11 : (jK H 32).1 = 11 := gT (sK_32 hC.1)
  have v : ∀ k, k < 4 → zeb (fun i => (b_nm S.1 (b_at S.1 S.2.2.2.1 g)).getD (8 * k + i) 0) 8 = jL H 421 (32 + 4 * 6 + k) := fun k hk => by
    rw [q_sl_zeb hb hk]
    exact zeb_eq fun i hi => hn _ (by omega)
  have a0 := q_blk (q := 0) hC hg (by decide)
  have a1 := q_blk (q := 1) hC hg (by decide)
  have a2 := q_blk (q := 2) hC hg (by decide)
  have a3 := q_blk (q := 3) hC hg (by decide)
  rw [v 0 (by decide)] at a0
  rw [v 1 (by decide)] at a1
  rw [v 2 (by decide)] at a2
  rw [v 3 (by decide)] at a3
  unfold F_L_isAt B_L_isAt_77
  refine jT_g k11 (jT_b (jT_eq a0 (jT_ret (jT_g (q_g3 hL (by decide)) (jT_neg (fun w => w rfl) ?_)))))
  refine jT_g k11 (jT_b (jT_eq a1 (jT_ret (jT_g (q_g3 hL (by decide)) (jT_neg (fun w => w rfl) ?_)))))
  refine jT_g k11 (jT_b (jT_eq a2 (jT_ret (jT_g (q_g3 hL (by decide)) (jT_neg (fun w => w rfl) ?_)))))
  exact jT_g k11 (jT_b (jT_eq a3 (jT_ret (jT_g (q_g3 hL (by decide)) (jT_neg (fun w => w rfl) (jT_g (Or.inr rfl) (jT_ret h1)))))))
end ASK
/-- a slot is copied -/
theorem q_copy {Q : Unit → jH → Prop} {H : jH} {M : Nat → Int32} {T : Nat → Int64} {s : Nat} {b : Nat → UInt8} (hL : jK H 421 = (103, 64)) (hs : s < 6) (hb : q_sl T 6 b) (hk : ∀ T', q_sl T' s b → (∀ j, j < 32 + 4 * s ∨ 36 + 4 * s ≤ j → T' j = T j) → Q () (q_h H M T')) : jT (F_L_copy 421 6 (Int32.ofNat s) (q_h H M T)) Q := by
  have loop : ∀ (d k fu : Nat) (T1 : Nat → Int64), k + d = 4 → d < fu → (∀ j, j < 32 + 4 * s ∨ 36 + 4 * s ≤ j → T1 j = T j) → (∀ i, i < k → T1 (32 + 4 * s + i) = T (56 + i)) → jT (F_L_copy_2 fu 421 6 (Int32.ofNat s) (Int32.ofNat k) (q_h H M T1)) Q := by
    intro d
    induction d with
    | zero =>
      intro k fu T1 hkd hf h1 h2
      obtain rfl : k = 4 := by omega
      obtain ⟨fu, rfl⟩ : ∃ k, fu = k + 1 := ⟨fu - 1, by omega⟩
      unfold F_L_copy_2 B_L_copy_2
      refine jT_pos (by decide) (jT_ret (hk T1 (fun i hi => ?_) h1))
      rw [h2 _ (by omega)]
      exact hb i hi
    | succ d ih =>
      intro k fu T1 hkd hf h1 h2
      obtain ⟨fu, rfl⟩ : ∃ k, fu = k + 1 := ⟨fu - 1, by omega⟩
      have e4 : (4 : Int32) * Int32.ofNat s = Int32.ofNat (4 * s) := jo_mul (a := 4) (b := s)
      have e5 : (32 : Int32) + Int32.ofNat (4 * s) = Int32.ofNat (32 + 4 * s) := jo_add (a := 32) (b := 4 * s)
      have e6 : Int32.ofNat (32 + 4 * s) + Int32.ofNat k = Int32.ofNat (32 + 4 * s + k) := jo_add
      have e7 : (32 : Int32) + 4 * 6 + Int32.ofNat k = Int32.ofNat (56 + k) := jo_add (a := 56) (b := k)
      have e1 : Int32.ofNat k + 1 = Int32.ofNat (k + 1) := jo_add (a := k) (b := 1)
      unfold F_L_copy_2 B_L_copy_2
      rw [e4, e5, e6, e7, e1, jo_nat (n := 32 + 4 * s + k) (by omega), jo_nat (n := 56 + k) (by omega), q_h_L, q_sL]
      refine jT_neg (by show ¬ Int32.ofNat 4 ≤ _; rw [jo_le (by omega) (by omega)]; omega) (jT_g (q_g3 hL (jo_in (by omega) (by omega))) (jT_g (q_g3 hL (jo_in (by omega) (by omega))) (jT_l (jT_l (ih (k + 1) fu _ (by omega) (by omega) (fun j hj => (q_uL_n (by omega)).trans (h1 j hj)) fun i hi => ?_)))))
      by_cases c : i = k
      · rw [c, q_uL_e]
        exact h1 _ (by omega)
      · rw [q_uL_n (by omega)]
        exact h2 i (by omega)
  unfold F_L_copy
  exact loop 4 0 jfuel T rfl (by unfold jfuel; omega) (fun _ _ => rfl) fun i hi => absurd hi (Nat.not_lt_zero i)
