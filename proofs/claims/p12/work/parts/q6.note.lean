/-! What is noted: 21 bits of names, three in a long. -/
def q_v (w : Int64) (i : Nat) : Nat := w.toBitVec.toNat / 2 ^ (21 * i) % 2 ^ 21
theorem q_v_lt {w : Int64} {i : Nat} : q_v w i < 2 ^ 21 := Nat.mod_lt _ (Nat.two_pow_pos 21)
theorem q_v_bit {w : Int64} {i t : Nat} : (q_v w i).testBit t = (decide (t < 21) && w.toBitVec.getLsbD (21 * i + t)) := by
  unfold q_v
  rw [Nat.testBit_mod_two_pow, ← Nat.shiftRight_eq_div_pow, Nat.testBit_shiftRight]
  rfl
theorem q_v_ext {x : Nat} {w : Int64} {i : Nat} (hx : x < 2 ^ 21) (h : ∀ t, t < 21 → x.testBit t = w.toBitVec.getLsbD (21 * i + t)) : x = q_v w i := by
  refine Nat.eq_of_testBit_eq fun t => ?_
  rw [q_v_bit]
  by_cases c : t < 21
  · rw [decide_eq_true c, Bool.true_and]
    exact h t c
  · rw [decide_eq_false c, Bool.false_and]
    exact Nat.testBit_lt_two_pow (Nat.lt_of_lt_of_le hx (Nat.pow_le_pow_right (by decide) (by omega)))
theorem q_m21_bit {t : Nat} : (Int64.toBitVec 2097151).getLsbD t = decide (t < 21) := by
  show (BitVec.ofNat 64 2097151).getLsbD t = _
  rw [BitVec.getLsbD_ofNat, show (2097151 : Nat) = 2 ^ 21 - 1 from rfl, Nat.testBit_two_pow_sub_one]
  by_cases c : t < 21
  · rw [decide_eq_true c, decide_eq_true (show t < 64 by omega)]
    rfl
  · rw [decide_eq_false c, Bool.and_false]
theorem q_ofL {n : Nat} (h : n < 18446744073709551616) : (Int64.ofNat n).toBitVec.toNat = n := by
  rw [Int64.toBitVec_ofNat', BitVec.toNat_ofNat]
  exact Nat.mod_eq_of_lt h
theorem q_shr21 {w : Int64} {i : Nat} (hi : i < 3) : jshrL w (Int32.ofNat (21 * i)) &&& 2097151 = Int64.ofNat (q_v w i) := by
  have hc : ∀ i, i < 3 → ∀ x : BitVec 64, (jshrL ⟨⟨x⟩⟩ (Int32.ofNat (21 * i))).toBitVec = x.sshiftRight (21 * i) := by
    intro i hi x
    rcases (show i = 0 ∨ i = 1 ∨ i = 2 by omega) with rfl | rfl | rfl <;> rfl
  refine Int64.toBitVec_inj.mp ?_
  rw [Int64.toBitVec_and, Int64.toBitVec_ofNat']
  have e : (⟨⟨w.toBitVec⟩⟩ : Int64) = w := rfl
  have q := hc i hi w.toBitVec
  rw [e] at q
  rw [q]
  refine BitVec.eq_of_getLsbD_eq fun t ht => ?_
  rw [BitVec.getLsbD_and, BitVec.getLsbD_sshiftRight, q_m21_bit, BitVec.getLsbD_ofNat, q_v_bit]
  by_cases c : t < 21
  · rw [decide_eq_true c, if_pos (by omega), decide_eq_true ht, decide_eq_false (show ¬ 64 ≤ t by omega)]
    simp
  · rw [decide_eq_false c]
    simp
theorem q_and21 {w : Int64} : w &&& 2097151 = Int64.ofNat (q_v w 0) := by
  obtain ⟨m, hm, rfl⟩ := q_natL w
  rw [show (2097151 : Int64) = Int64.ofNat (2 ^ 21 - 1) from rfl, lo_mask (by decide)]
  unfold q_v
  rw [q_ofL hm, Nat.mul_zero, Nat.pow_zero, Nat.div_one]
theorem q_jshlL_bit {x : Int64} {s j : Nat} (hs : s < 64) : (jshlL x (Int32.ofNat s)).toBitVec.getLsbD j = (decide (j < 64) && !decide (j < s) && x.toBitVec.getLsbD (j - s)) := by
  obtain ⟨n, hn, rfl⟩ := q_natL x
  rw [lo_shl6 (m := n) (c := s) hs, Int64.toBitVec_ofNat', BitVec.getLsbD_ofNat, Int64.toBitVec_ofNat', BitVec.getLsbD_ofNat, Nat.testBit_mul_two_pow]
  by_cases c1 : j < 64
  · by_cases c2 : s ≤ j
    · rw [show decide (j < s) = false from decide_eq_false (by omega), show decide (j < 64) = true from decide_eq_true c1, show decide (s ≤ j) = true from decide_eq_true c2, show decide (j - s < 64) = true from decide_eq_true (by omega)]
      simp
    · rw [show decide (j < s) = true from decide_eq_true (by omega), show decide (s ≤ j) = false from decide_eq_false c2]
      simp
  · rw [show decide (j < 64) = false from decide_eq_false c1]
    simp
theorem q_v_or {a b : Int64} {i j : Nat} (hi : i < 3) (hj : j < 3) (h0 : q_v a i = 0) : q_v (a ||| jshlL (b &&& 2097151) (Int32.ofNat (21 * i))) j = if j = i then q_v b 0 else q_v a j := by
  refine (q_v_ext (by split <;> exact q_v_lt) fun t ht => ?_).symm
  have e : ((if j = i then q_v b 0 else q_v a j)).testBit t = if j = i then (q_v b 0).testBit t else (q_v a j).testBit t := by split <;> rfl
  rw [e, q_v_bit, q_v_bit, decide_eq_true ht, Bool.true_and, Bool.true_and, Int64.toBitVec_or, BitVec.getLsbD_or, q_jshlL_bit (by omega), Int64.toBitVec_and, BitVec.getLsbD_and, q_m21_bit]
  by_cases c1 : j = i
  · subst c1
    have z : a.toBitVec.getLsbD (21 * j + t) = false := by
      have := q_v_bit (w := a) (i := j) (t := t)
      rw [h0, Nat.zero_testBit, decide_eq_true ht, Bool.true_and] at this
      exact this.symm
    rw [if_pos rfl, z, decide_eq_true (show 21 * j + t < 64 by omega), decide_eq_false (show ¬ 21 * j + t < 21 * j by omega), show 21 * j + t - 21 * j = t by omega, decide_eq_true ht]
    simp
  · rw [if_neg c1, decide_eq_true (show 21 * j + t < 64 by omega)]
    by_cases c2 : i < j
    · rw [decide_eq_false (show ¬ 21 * j + t < 21 * i by omega), decide_eq_false (show ¬ 21 * j + t - 21 * i < 21 by omega)]
      simp
    · rw [decide_eq_true (show 21 * j + t < 21 * i by omega)]
      simp
/-- c values are noted -/
def q_nt (T : Nat → Int64) (c : Nat) (vs : Nat → Nat) : Prop := (∀ k, k < c → q_v (T (k / 3)) (k % 3) = vs k) ∧ ∀ k, c ≤ k → k < 3 * ((c + 2) / 3) → q_v (T (k / 3)) (k % 3) = 0
theorem q_nt_eq {T T' : Nat → Int64} {c : Nat} {vs : Nat → Nat} (h : q_nt T c vs) (hc : c ≤ 93) (e : ∀ j, j < 32 → T' j = T j) : q_nt T' c vs :=
  ⟨fun k hk => by rw [e _ (by omega)]; exact h.1 k hk, fun k a b => by rw [e _ (by omega)]; exact h.2 k a b⟩
section NOTE
variable {H : jH} {M : Nat → Int32} {T : Nat → Int64} {c s : Nat} {vs : Nat → Nat}
theorem q_isn {Q : Int32 → jH → Prop} (hK : jK H 31 = (100, 64)) (hL : jK H 421 = (103, 64)) (hs : s < 8) (hc : c ≤ 93) (h61 : M 61 = Int32.ofNat c) (hn : q_nt T c vs) (k1 : (∃ k, k < c ∧ vs k = q_v (T (32 + 4 * s)) 0) → Q 1 (q_h H M T)) (k0 : (∀ k, k < c → vs k ≠ q_v (T (32 + 4 * s)) 0) → Q 0 (q_h H M T)) : jT (F_L_isNoted 31 421 (Int32.ofNat s) (q_h H M T)) Q := by
  have e4 : (4 : Int32) * Int32.ofNat s = Int32.ofNat (4 * s) := jo_mul (a := 4) (b := s)
  have e5 : (32 : Int32) + Int32.ofNat (4 * s) = Int32.ofNat (32 + 4 * s) := jo_add (a := 32) (b := 4 * s)
  have loop : ∀ (d k fu : Nat) (is : Int32), k + d = c → d < fu → (is = 1 ∧ (∃ j, j < c ∧ vs j = q_v (T (32 + 4 * s)) 0)) ∨ (is = 0 ∧ ∀ j, j < k → vs j ≠ q_v (T (32 + 4 * s)) 0) → jT (F_L_isNoted_5 fu 31 421 (Int32.ofNat s) is (Int32.ofNat k) (q_h H M T)) Q := by
    intro d
    induction d with
    | zero =>
      intro k fu is hk hf h
      obtain rfl : k = c := by omega
      obtain ⟨fu, rfl⟩ : ∃ k, fu = k + 1 := ⟨fu - 1, by omega⟩
      unfold F_L_isNoted_5 B_L_isNoted_5
      rw [q_h_I, show (61 : Int32).toNatClampNeg = 61 from rfl, h61]
      refine jT_g (q_g1 hK (by decide)) (jT_pos (by rw [jo_le (by omega) (by omega)]; exact Nat.le_refl _) ?_)
      rcases h with ⟨rfl, h⟩ | ⟨rfl, h⟩
      · exact jT_g (Or.inr rfl) (jT_ret (k1 h))
      · exact jT_g (Or.inl rfl) (jT_ret (k0 h))
    | succ d ih =>
      intro k fu is hk hf h
      obtain ⟨fu, rfl⟩ : ∃ k, fu = k + 1 := ⟨fu - 1, by omega⟩
      have d3 : Int32.ofNat k / 3 = Int32.ofNat (k / 3) := jo_div (a := k) (b := 3) (by omega) (by omega)
      have r3 : jrem (Int32.ofNat k) 3 = Int32.ofNat (k % 3) := jo_rem (a := k) (b := 3) (by omega) (by omega)
      have m21 : (21 : Int32) * Int32.ofNat (k % 3) = Int32.ofNat (21 * (k % 3)) := jo_mul (a := 21) (b := k % 3)
      have e1 : Int32.ofNat k + 1 = Int32.ofNat (k + 1) := jo_add (a := k) (b := 1)
      unfold F_L_isNoted_5 B_L_isNoted_5 B_L_isNoted_52 B_L_isNoted_57
      rw [q_h_I, show (61 : Int32).toNatClampNeg = 61 from rfl, h61]
      refine jT_g (q_g1 hK (by decide)) (jT_neg (by rw [jo_le (by omega) (by omega)]; omega) ?_)
      rcases h with ⟨rfl, h⟩ | ⟨rfl, h⟩
      · refine jT_pos (by decide) (jT_l ?_)
        rw [e1]
        exact ih (k + 1) fu 1 (by omega) (by omega) (Or.inl ⟨rfl, h⟩)
      · refine jT_neg (fun w => w rfl) ?_
        rw [d3, r3, m21, e4, e5, q_h_L, jo_nat (n := k / 3) (by omega), jo_nat (n := 32 + 4 * s) (by omega), q_shr21 (by omega), q_and21, hn.1 k (by omega), e1]
        refine jT_g (by decide) (jT_g (q_g3 hL (jo_in (by omega) (by omega))) (jT_g (by decide) (jT_g (q_g3 hL (jo_in (by omega) (by omega))) ?_)))
        have lv : vs k < 2 ^ 21 := by rw [← hn.1 k (by omega)]; exact q_v_lt
        have lw : q_v (T (32 + 4 * s)) 0 < 2 ^ 21 := q_v_lt
        have e21 : (2 : Nat) ^ 21 = 2097152 := rfl
        refine jT_if (fun w => jT_l (ih (k + 1) fu 0 (by omega) (by omega) (Or.inr ⟨rfl, fun j hj => ?_⟩))) fun w => jT_l (ih (k + 1) fu 1 (by omega) (by omega) (Or.inl ⟨rfl, k, by omega, ?_⟩))
        · by_cases c1 : j = k
          · rw [c1]
            exact fun q => w (by rw [q])
          · exact h j (by omega)
        · have w' := Classical.not_not.mp w
          exact (lo_eq (by omega) (by omega)).mp w'
  unfold F_L_isNoted
  exact loop c 0 jfuel 0 (Nat.zero_add _) (by unfold jfuel; omega) (Or.inr ⟨rfl, fun j hj => absurd hj (Nat.not_lt_zero j)⟩)
/-- one is noted -/
def q_vs1 (vs : Nat → Nat) (c v : Nat) : Nat → Nat := fun k => if k = c then v else vs k
theorem q_note {Q : Unit → jH → Prop} (hK : jK H 31 = (100, 64)) (hL : jK H 421 = (103, 64)) (hs : s < 8) (hc : c ≤ 90) (h60 : M 60 = 0) (h61 : M 61 = Int32.ofNat c) (hn : q_nt T c vs)
    (hk : ∀ M' T' v, (∀ j, j ≠ 59 → j ≠ 61 → M' j = M j) → M' 61 = Int32.ofNat (c + 1) → v = q_v (T (32 + 4 * s)) 0 → ((M' 59 = 1 ∧ ∃ k, k < c ∧ vs k = v) ∨ (M' 59 = M 59 ∧ ∀ k, k < c → vs k ≠ v)) → q_nt T' (c + 1) (q_vs1 vs c v) → (∀ j, 32 ≤ j → T' j = T j) → Q () (q_h H M' T')) : jT (F_L_note 31 421 (Int32.ofNat s) (q_h H M T)) Q := by
  have e4 : (4 : Int32) * Int32.ofNat s = Int32.ofNat (4 * s) := jo_mul (a := 4) (b := s)
  have e5 : (32 : Int32) + Int32.ofNat (4 * s) = Int32.ofNat (32 + 4 * s) := jo_add (a := 32) (b := 4 * s)
  have d3 : Int32.ofNat c / 3 = Int32.ofNat (c / 3) := jo_div (a := c) (b := 3) (by omega) (by omega)
  have r3 : jrem (Int32.ofNat c) 3 = Int32.ofNat (c % 3) := jo_rem (a := c) (b := 3) (by omega) (by omega)
  have m21 : (21 : Int32) * Int32.ofNat (c % 3) = Int32.ofNat (21 * (c % 3)) := jo_mul (a := 21) (b := c % 3)
  have e1 : Int32.ofNat c + 1 = Int32.ofNat (c + 1) := jo_add (a := c) (b := 1)
  -- behind the question
  have go : ∀ v59 : Int32, ((v59 = 1 ∧ ∃ k, k < c ∧ vs k = q_v (T (32 + 4 * s)) 0) ∨ (v59 = M 59 ∧ ∀ k, k < c → vs k ≠ q_v (T (32 + 4 * s)) 0)) → jT (B_L_note_38 31 421 (Int32.ofNat s) 31 59 v59 (q_h H M T)) Q := fun v59 hv => by
    unfold B_L_note_38
    rw [q_sI, show (59 : Int32).toNatClampNeg = 59 from rfl]
    refine jT_g (q_g2 hK (by decide)) (jT_l (jT_g (q_g1 hK (by decide)) ?_))
    rw [q_h_I, show (61 : Int32).toNatClampNeg = 61 from rfl, q_up_n (by decide), h61]
    refine jT_pos (by show _ ≤ Int32.ofNat 94; rw [jo_le (by omega) (by omega)]; omega) (jT_g (q_g1 hK (by decide)) ?_)
    have put : ∀ W : Int64, q_v W (c % 3) = 0 → (∀ i, i < c % 3 → q_v W i = q_v (T (c / 3)) i) → (∀ i, c % 3 ≤ i → i < 3 → q_v W i = 0) → jT (B_L_note_77 31 421 (Int32.ofNat s) (Int32.ofNat c) 421 (Int32.ofNat (c / 3)) W (q_h H (q_up M 59 v59) T)) Q := fun W w0 w1 w2 => by
      unfold B_L_note_77
      rw [e4, e5, r3, m21, e1, jo_nat (n := 32 + 4 * s) (by omega), jo_nat (n := c / 3) (by omega), q_h_L, q_sL]
      refine jT_g (q_g3 hL (jo_in (by omega) (by omega))) (jT_g (by decide) (jT_g (q_g3 hL (jo_in (by omega) (by omega))) (jT_l (jT_g (q_g2 hK (by decide)) (jT_l (jT_ret ?_))))))
      rw [q_sI, show (61 : Int32).toNatClampNeg = 61 from rfl]
      obtain ⟨W', hW'⟩ : ∃ W', W' = W ||| jshlL (T (32 + 4 * s) &&& 2097151) (Int32.ofNat (21 * (c % 3))) := ⟨_, rfl⟩
      have hw : ∀ i, i < 3 → q_v W' i = if i = c % 3 then q_v (T (32 + 4 * s)) 0 else q_v W i := fun i hi => by rw [hW']; exact q_v_or (by omega) hi w0
      rw [← hW']
      refine hk _ _ _ (fun j a b => by rw [q_up_n b, q_up_n a]) q_up_e rfl ?_ ⟨fun k hk2 => ?_, fun k a b => ?_⟩ (fun j hj => q_uL_n (by omega))
      · rw [q_up_n (by decide), q_up_e]
        exact hv
      · unfold q_vs1
        by_cases c1 : k = c
        · rw [if_pos c1, c1, q_uL_e, hw _ (by omega), if_pos rfl]
        · rw [if_neg c1]
          by_cases c2 : k / 3 = c / 3
          · rw [c2, q_uL_e, hw _ (by omega), if_neg (by omega), w1 _ (by omega), ← c2]
            exact hn.1 k (by omega)
          · rw [q_uL_n c2]
            exact hn.1 k (by omega)
      · rw [show k / 3 = c / 3 by omega, q_uL_e, hw _ (by omega), if_neg (by omega)]
        exact w2 _ (by omega) (by omega)
    unfold B_L_note_57
    rw [d3, r3]
    refine jT_g (by decide) (jT_g (by decide) (jT_if (fun c0 => ?_) fun c0 => ?_))
    · have c0' : c % 3 ≠ 0 := fun w => c0 (by rw [w]; rfl)
      rw [q_h_L, jo_nat (n := c / 3) (by omega)]
      refine jT_g (by decide) (jT_g (q_g3 hL (jo_in (by omega) (by omega))) (put _ ?_ (fun i _ => rfl) fun i a b => ?_))
      · exact hn.2 c (Nat.le_refl _) (by omega)
      · have := hn.2 (3 * (c / 3) + i) (by omega) (by omega)
        rw [show (3 * (c / 3) + i) / 3 = c / 3 by omega, show (3 * (c / 3) + i) % 3 = i by omega] at this
        exact this
    · have c0' : c % 3 = 0 := by
        have w := Classical.not_not.mp c0
        rw [show (0 : Int32) = Int32.ofNat 0 from rfl, jo_eq (by omega) (by decide)] at w
        exact w
      have z : ∀ i, i < 3 → q_v 0 i = 0 := by decide
      exact put 0 (z _ (by omega)) (fun i a => by omega) fun i _ b => z i b
  unfold F_L_note
  rw [q_h_I, show (60 : Int32).toNatClampNeg = 60 from rfl, h60]
  refine jT_g (q_g1 hK (by decide)) (jT_pos (by decide) (jT_b (q_isn hK hL hs (by omega) h61 hn (fun h => ?_) fun h => ?_)))
  · unfold B_L_note_30
    exact jT_pos (by decide) (go 1 (Or.inl ⟨rfl, h⟩))
  · refine jT_neg (fun w => w rfl) (jT_g (q_g1 hK (by decide)) ?_)
    rw [q_h_I, show (61 : Int32).toNatClampNeg = 61 from rfl, h61]
    refine jT_pos (by show _ ≤ Int32.ofNat 94; rw [jo_le (by omega) (by omega)]; omega) (jT_g (q_g1 hK (by decide)) ?_)
    exact go _ (Or.inr ⟨rfl, h⟩)
end NOTE
