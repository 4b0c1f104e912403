/-! The law's own cells: a row of ints (31) and one of longs (421). -/
def q_up (M : Nat → Int32) (i : Nat) (v : Int32) : Nat → Int32 := fun j => if j = i then v else M j
def q_uL (T : Nat → Int64) (i : Nat) (v : Int64) : Nat → Int64 := fun j => if j = i then v else T j
theorem q_up_e {M : Nat → Int32} {i : Nat} {v : Int32} : q_up M i v i = v := if_pos rfl
theorem q_up_n {M : Nat → Int32} {i j : Nat} {v : Int32} (h : j ≠ i) : q_up M i v j = M j := if_neg h
theorem q_uL_e {T : Nat → Int64} {i : Nat} {v : Int64} : q_uL T i v i = v := if_pos rfl
theorem q_uL_n {T : Nat → Int64} {i j : Nat} {v : Int64} (h : j ≠ i) : q_uL T i v j = T j := if_neg h
/-- a heap with these two rows -/
def q_h (H : jH) (M : Nat → Int32) (T : Nat → Int64) : jH := (jK H, fun a j => if a = 31 then M j else jI H a j, fun a j => if a = 421 then T j else jL H a j, jR H, jn H, js H, jB H)
def q_T : Nat → Nat → Prop := fun a _ => a = 31 ∨ a = 421
section QH
variable {H : jH} {M M' : Nat → Int32} {T T' : Nat → Int64}
theorem q_h_K : jK (q_h H M T) = jK H := rfl
theorem q_h_n : jn (q_h H M T) = jn H := rfl
theorem q_h_s : js (q_h H M T) = js H := rfl
theorem q_h_I : jI (q_h H M T) 31 = M := funext fun j => show (if (31 : Nat) = 31 then M j else jI H 31 j) = M j from if_pos rfl
theorem q_h_L : jL (q_h H M T) 421 = T := funext fun j => show (if (421 : Nat) = 421 then T j else jL H 421 j) = T j from if_pos rfl
theorem q_h_h : q_h (q_h H M T) M' T' = q_h H M' T' := by
  unfold q_h
  refine congrArg (Prod.mk _) (congr (congrArg Prod.mk (funext fun a => funext fun j => ?_)) (congr (congrArg Prod.mk (funext fun a => funext fun j => ?_)) rfl))
  · show (if a = 31 then M' j else if a = 31 then M j else jI H a j) = _
    split <;> rfl
  · show (if a = 421 then T' j else if a = 421 then T j else jL H a j) = _
    split <;> rfl
theorem q_h_self : q_h H (jI H 31) (jL H 421) = H := by
  unfold q_h
  have e1 : (fun a j => if a = 31 then jI H 31 j else jI H a j) = jI H := funext fun a => funext fun j => by
    by_cases c : a = 31
    · rw [if_pos c, c]
    · rw [if_neg c]
  have e2 : (fun a j => if a = 421 then jL H 421 j else jL H a j) = jL H := funext fun a => funext fun j => by
    by_cases c : a = 421
    · rw [if_pos c, c]
    · rw [if_neg c]
  rw [e1, e2]
  rfl
theorem q_h_of (h1 : jI H 31 = M) (h2 : jL H 421 = T) : H = q_h H M T := by rw [← h1, ← h2, q_h_self]
theorem q_sI {i : Nat} {v : Int32} : jsI (q_h H M T) 31 i v = q_h H (q_up M i v) T := by
  unfold jsI q_h
  refine congrArg (Prod.mk _) (congr (congrArg Prod.mk (funext fun a => funext fun j => ?_)) rfl)
  show (if a = 31 ∧ j = i then v else if a = 31 then M j else jI H a j) = if a = 31 then (if j = i then v else M j) else jI H a j
  by_cases c : a = 31
  · by_cases d : j = i
    · rw [if_pos ⟨c, d⟩, if_pos c, if_pos d]
    · rw [if_neg (fun w => d w.2), if_pos c, if_pos c, if_neg d]
  · rw [if_neg (fun w => c w.1), if_neg c, if_neg c]
theorem q_sL {i : Nat} {v : Int64} : jsL (q_h H M T) 421 i v = q_h H M (q_uL T i v) := by
  unfold jsL q_h
  refine congrArg (Prod.mk _) (congr (congrArg Prod.mk rfl) (congr (congrArg Prod.mk (funext fun a => funext fun j => ?_)) rfl))
  show (if a = 421 ∧ j = i then v else if a = 421 then T j else jL H a j) = if a = 421 then (if j = i then v else T j) else jL H a j
  by_cases c : a = 421
  · by_cases d : j = i
    · rw [if_pos ⟨c, d⟩, if_pos c, if_pos d]
    · rw [if_neg (fun w => d w.2), if_pos c, if_pos c, if_neg d]
  · rw [if_neg (fun w => c w.1), if_neg c, if_neg c]
theorem q_h_fr : jfr q_T H (q_h H M T) := ⟨rfl, rfl, rfl, fun a j h => ⟨if_neg fun w => h (Or.inl w), if_neg fun w => h (Or.inr w), rfl, rfl⟩⟩
theorem q_h_sh (h : jsh H) : jsh (q_h H M T) := ⟨h.1, h.2.1, fun a ha j => (if_neg (by omega)).trans (h.2.2.1 a ha j), h.2.2.2⟩
end QH
theorem q_h_I18 {H : jH} {M : Nat → Int32} {T : Nat → Int64} : jI (q_h H M T) 18 = jI H 18 := funext fun j => show (if (18 : Nat) = 31 then M j else jI H 18 j) = jI H 18 j from if_neg (by decide)
set_option maxRecDepth 100000 in
theorem sK_31 {H : jH} (h : jsh H) : jK H 31 = (100, 64) := sK h (a := 31) rfl (by decide) (by decide)
set_option maxRecDepth 100000 in
theorem sK_421 {H : jH} (h : jsh H) : jK H 421 = (103, 64) := sK h (a := 421) rfl (by decide) (by decide)
/-- what a script's cell and the law's rows see of a call -/
def q_fr (c s : Nat) (H H' : jH) : Prop := (jK H' 18 = jK H 18 ∧ jI H' 18 = jI H 18) ∧ jI H' 31 = jI H 31 ∧ jL H' 421 = jL H 421 ∧ jn H' ≤ jn H + c ∧ js H' ≤ js H + s
theorem q_fr_gx {c s : Nat} {H H' : jH} (hs : jsh H) (h : jgx s_TG c s H H') : q_fr c s H H' := by
  have h422 : 422 ≤ jn H := hs.2.2.2.2.1
  have n : ∀ a j, a < 32 ∨ a = 421 → ¬ s_TG a j := fun a j q w => by unfold s_TG at w; omega
  exact ⟨⟨jgx_K h (by omega), funext fun j => jgx_I h (by omega) (n _ j (by omega))⟩, funext fun j => jgx_I h (by omega) (n _ j (by omega)), funext fun j => jgx_L h (by omega) (n _ j (by omega)), h.2.1, h.2.2.1⟩
theorem q_fr_trans {c s c' s' : Nat} {H H1 H2 : jH} (h1 : q_fr c s H H1) (h2 : q_fr c' s' H1 H2) : q_fr (c + c') (s + s') H H2 := by
  obtain ⟨⟨a1, a2⟩, a3, a4, a5, a6⟩ := h1
  obtain ⟨⟨b1, b2⟩, b3, b4, b5, b6⟩ := h2
  exact ⟨⟨b1.trans a1, b2.trans a2⟩, b3.trans a3, b4.trans a4, by omega, by omega⟩
theorem q_fr_refl {H : jH} : q_fr 0 0 H H := ⟨⟨rfl, rfl⟩, rfl, rfl, Nat.le_refl _, Nat.le_refl _⟩
theorem q_fr_mono {c s c' s' : Nat} {H H' : jH} (h : q_fr c s H H') (hc : c ≤ c') (hs : s ≤ s') : q_fr c' s' H H' := ⟨h.1, h.2.1, h.2.2.1, by have := h.2.2.2.1; omega, by have := h.2.2.2.2; omega⟩
theorem q_cls_h {nb : Nat} {os : List Nat} {S : s_S} {tp kn : List UInt8} {ki : Int32} {H : jH} {M : Nat → Int32} {T : Nat → Int64} (h : s_cls nb os S tp kn ki H) : s_cls nb os S tp kn ki (q_h H M T) := s_cls_fr h (q_h_sh h.1) q_h_fr fun _ _ w => w
/-! Bytes of ints. -/
theorem jbu_ji2b (x : Int32) : jbu (ji2b x) = jbu x := by
  unfold jbu ji2b
  rw [Int8.toInt8_toInt32]
theorem jbu_toNat (x : Int32) : (jbu x).toNat = x.toBitVec.toNat % 256 := by
  unfold jbu
  show (x.toInt8.toBitVec).toNat = _
  rw [Int32.toBitVec_toInt8, BitVec.signExtend_eq_setWidth_of_le _ (by decide), BitVec.toNat_setWidth]
theorem q_and255 (x : Int32) : x &&& 255 = Int32.ofNat (jbu x).toNat := by
  refine Int32.toBitVec_inj.mp ?_
  rw [Int32.toBitVec_and, Int32.toBitVec_ofNat']
  refine BitVec.eq_of_toNat_eq ?_
  rw [BitVec.toNat_and, jbu_toNat, BitVec.toNat_ofNat, show (Int32.toBitVec 255).toNat = 2 ^ 8 - 1 from rfl, Nat.and_two_pow_sub_one_eq_mod, Nat.mod_eq_of_lt (show _ % 256 < 2 ^ 32 from Nat.lt_trans (Nat.mod_lt _ (by decide)) (by decide))]
/-- an int by its number -/
theorem q_nat (x : Int32) : ∃ n, n < 4294967296 ∧ x = Int32.ofNat n := i32_nat x
theorem q_natL (x : Int64) : ∃ n, n < 18446744073709551616 ∧ x = Int64.ofNat n := by
  refine ⟨x.toBitVec.toNat, x.toBitVec.isLt, Int64.toBitVec_inj.mp ?_⟩
  rw [Int64.toBitVec_ofNat', BitVec.ofNat_toNat, BitVec.setWidth_eq]
theorem q_ofN {n : Nat} (h : n < 4294967296) : (Int32.ofNat n).toBitVec.toNat = n := by
  rw [Int32.toBitVec_ofNat', BitVec.toNat_ofNat]
  exact Nat.mod_eq_of_lt h
theorem zwb_n {n k : Nat} (h : n < 4294967296) (hk : k < 4) : (zwb (Int32.ofNat n) k).toNat = n / 2 ^ (24 - 8 * k) % 256 := by
  unfold zwb
  rw [jbu_ji2b, jo_ushr h (by omega), jbu_toNat, q_ofN (Nat.lt_of_le_of_lt (Nat.div_le_self _ _) h)]
theorem zwb_ext {x y : Int32} (h : ∀ k, k < 4 → zwb x k = zwb y k) : x = y := by
  obtain ⟨n, hn, rfl⟩ := q_nat x
  obtain ⟨m, hm, rfl⟩ := q_nat y
  have e : ∀ k, k < 4 → n / 2 ^ (24 - 8 * k) % 256 = m / 2 ^ (24 - 8 * k) % 256 := fun k hk => by rw [← zwb_n hn hk, ← zwb_n hm hk, h k hk]
  have e0 := e 0 (by decide)
  have e1 := e 1 (by decide)
  have e2 := e 2 (by decide)
  have e3 := e 3 (by decide)
  congr 1
  simp only [Nat.reduceMul, Nat.reduceSub, Nat.reducePow] at e0 e1 e2 e3
  omega
/-- bits of a byte -/
theorem q_bit {x : Int32} {k i : Nat} (hk : k < 4) (hi : i < 8) : (zwb x k).toNat.testBit i = x.toBitVec.getLsbD (24 - 8 * k + i) := by
  obtain ⟨n, hn, rfl⟩ := q_nat x
  rw [zwb_n hn hk, show (256 : Nat) = 2 ^ 8 from rfl, Nat.testBit_mod_two_pow, ← Nat.shiftRight_eq_div_pow, Nat.testBit_shiftRight, Int32.toBitVec_ofNat', BitVec.getLsbD_ofNat]
  simp only [hi, decide_true, Bool.true_and]
  rw [show decide (24 - 8 * k + i < 32) = true from decide_eq_true (by omega), Bool.true_and]
theorem q_byte_ext {u v : UInt8} (h : ∀ i, i < 8 → u.toNat.testBit i = v.toNat.testBit i) : u = v := by
  refine UInt8.toNat_inj.mp (Nat.eq_of_testBit_eq fun i => ?_)
  by_cases c : i < 8
  · exact h i c
  · have z : ∀ w : UInt8, w.toNat.testBit i = false := fun w => Nat.testBit_lt_two_pow (Nat.lt_of_lt_of_le (UInt8.toNat_lt w) (Nat.pow_le_pow_right (by decide) (show 8 ≤ i by omega)))
    rw [z, z]
theorem q_jshl_bit {x : Int32} {s j : Nat} (hs : s < 32) : (jshl x (Int32.ofNat s)).toBitVec.getLsbD j = (decide (j < 32) && !decide (j < s) && x.toBitVec.getLsbD (j - s)) := by
  obtain ⟨n, hn, rfl⟩ := q_nat x
  rw [jo_shl (m := n) (c := s) hs, Int32.toBitVec_ofNat', BitVec.getLsbD_ofNat, Int32.toBitVec_ofNat', BitVec.getLsbD_ofNat, Nat.testBit_mul_two_pow]
  by_cases c1 : j < 32
  · by_cases c2 : s ≤ j
    · rw [show decide (j < s) = false from decide_eq_false (by omega), show decide (j < 32) = true from decide_eq_true c1, show decide (s ≤ j) = true from decide_eq_true c2, show decide (j - s < 32) = true from decide_eq_true (by omega)]
      simp
    · rw [show decide (j < s) = true from decide_eq_true (by omega), show decide (s ≤ j) = false from decide_eq_false c2]
      simp
  · rw [show decide (j < 32) = false from decide_eq_false c1]
    simp
theorem q_255_bit {j : Nat} : (Int32.toBitVec 255).getLsbD j = decide (j < 8) := by
  show (BitVec.ofNat 32 255).getLsbD j = _
  rw [BitVec.getLsbD_ofNat, show (255 : Nat) = 2 ^ 8 - 1 from rfl, Nat.testBit_two_pow_sub_one]
  by_cases c : j < 8
  · rw [decide_eq_true c, decide_eq_true (show j < 32 by omega)]
    rfl
  · rw [decide_eq_false c, Bool.and_false]
theorem q_c_bit {c : Int32} {i : Nat} (hi : i < 8) : (jbu c).toNat.testBit i = c.toBitVec.getLsbD i := by
  rw [jbu_toNat, show (256 : Nat) = 2 ^ 8 from rfl, Nat.testBit_mod_two_pow, decide_eq_true hi, Bool.true_and]
  rfl
theorem q_and_bit {c : Int32} {i : Nat} : (c &&& 255).toBitVec.getLsbD i = (c.toBitVec.getLsbD i && decide (i < 8)) := by
  rw [Int32.toBitVec_and, BitVec.getLsbD_and, q_255_bit]
/-- a byte is put into a word -/
theorem q_set {x c : Int32} {k k' : Nat} (hk : k < 4) (hk' : k' < 4) : zwb ((x &&& (jshl 255 (Int32.ofNat (24 - 8 * k)) ^^^ (-1))) ||| jshl (c &&& 255) (Int32.ofNat (24 - 8 * k))) k' = if k' = k then jbu c else zwb x k' := by
  refine q_byte_ext fun i hi => ?_
  have e : ((if k' = k then jbu c else zwb x k').toNat).testBit i = if k' = k then (jbu c).toNat.testBit i else (zwb x k').toNat.testBit i := by split <;> rfl
  have n1 : ∀ j, j < 32 → (Int32.toBitVec (-1)).getLsbD j = true := by decide
  rw [e, q_bit hk' hi, q_bit hk' hi, q_c_bit hi, Int32.toBitVec_or, BitVec.getLsbD_or, Int32.toBitVec_and, BitVec.getLsbD_and, Int32.toBitVec_xor, BitVec.getLsbD_xor, q_jshl_bit (by omega), q_jshl_bit (by omega), q_and_bit, q_255_bit, n1 _ (by omega)]
  by_cases c1 : k' = k
  · subst c1
    rw [if_pos rfl, decide_eq_true (show 24 - 8 * k' + i < 32 by omega), decide_eq_false (show ¬ 24 - 8 * k' + i < 24 - 8 * k' by omega), show 24 - 8 * k' + i - (24 - 8 * k') = i by omega, decide_eq_true hi]
    simp
  · rw [if_neg c1, decide_eq_true (show 24 - 8 * k' + i < 32 by omega)]
    by_cases c2 : k' < k
    · rw [decide_eq_false (show ¬ 24 - 8 * k' + i < 24 - 8 * k by omega), decide_eq_false (show ¬ 24 - 8 * k' + i - (24 - 8 * k) < 8 by omega)]
      simp
    · rw [decide_eq_true (show 24 - 8 * k' + i < 24 - 8 * k by omega)]
      simp
/-- a byte is laid upon zeros -/
theorem q_or {x c : Int32} {k k' : Nat} (hk : k < 4) (hk' : k' < 4) (h0 : zwb x k = 0) : zwb (x ||| jshl (c &&& 255) (Int32.ofNat (24 - 8 * k))) k' = if k' = k then jbu c else zwb x k' := by
  refine q_byte_ext fun i hi => ?_
  have e : ((if k' = k then jbu c else zwb x k').toNat).testBit i = if k' = k then (jbu c).toNat.testBit i else (zwb x k').toNat.testBit i := by split <;> rfl
  rw [e, q_bit hk' hi, q_bit hk' hi, q_c_bit hi, Int32.toBitVec_or, BitVec.getLsbD_or, q_jshl_bit (by omega), q_and_bit]
  by_cases c1 : k' = k
  · subst c1
    have z : x.toBitVec.getLsbD (24 - 8 * k' + i) = false := by
      rw [← q_bit hk' hi, h0]
      exact Nat.zero_testBit i
    rw [if_pos rfl, z, decide_eq_true (show 24 - 8 * k' + i < 32 by omega), decide_eq_false (show ¬ 24 - 8 * k' + i < 24 - 8 * k' by omega), show 24 - 8 * k' + i - (24 - 8 * k') = i by omega, decide_eq_true hi]
    simp
  · rw [if_neg c1, decide_eq_true (show 24 - 8 * k' + i < 32 by omega)]
    by_cases c2 : k' < k
    · rw [decide_eq_false (show ¬ 24 - 8 * k' + i < 24 - 8 * k by omega), decide_eq_false (show ¬ 24 - 8 * k' + i - (24 - 8 * k) < 8 by omega)]
      simp
    · rw [decide_eq_true (show 24 - 8 * k' + i < 24 - 8 * k by omega)]
      simp
theorem zwb_0 {k : Nat} (hk : k < 4) : zwb 0 k = 0 := by
  revert k
  decide
/-- a word of four bytes -/
theorem zwb_z4 {b : Nat → UInt8} {i k : Nat} (hk : k < 4) : zwb (z4 b i) k = b (i + k) := by
  have n : z4 b i = Int32.ofNat ((b i).toNat * 16777216 + (b (i + 1)).toNat * 65536 + (b (i + 2)).toNat * 256 + (b (i + 3)).toNat) := by
    unfold z4
    have h0 := UInt8.toNat_lt (b i)
    have h1 := UInt8.toNat_lt (b (i + 1))
    have h2 := UInt8.toNat_lt (b (i + 2))
    have h3 := UInt8.toNat_lt (b (i + 3))
    rw [← jb_sh24, jb_and, jb_and, jb_and, jb_and]
    generalize (b i).toNat = x0 at *
    generalize (b (i + 1)).toNat = x1 at *
    generalize (b (i + 2)).toNat = x2 at *
    generalize (b (i + 3)).toNat = x3 at *
    have a0 : jshl (Int32.ofNat x0) 24 = Int32.ofNat (x0 * 2 ^ 24) := jo_shl (m := x0) (c := 24) (by omega)
    have a1 : jshl (Int32.ofNat x1) 16 = Int32.ofNat (x1 * 2 ^ 16) := jo_shl (m := x1) (c := 16) (by omega)
    have a2 : jshl (Int32.ofNat x2) 8 = Int32.ofNat (x2 * 2 ^ 8) := jo_shl (m := x2) (c := 8) (by omega)
    rw [a0, a1, a2, jo_or (by omega), show x0 * 2 ^ 24 + x1 * 2 ^ 16 = (x0 * 256 + x1) * 2 ^ 16 by omega, jo_or (by omega), show (x0 * 256 + x1) * 2 ^ 16 + x2 * 2 ^ 8 = ((x0 * 256 + x1) * 256 + x2) * 2 ^ 8 by omega, jo_or (by omega)]
  rw [n]
  have h0 := UInt8.toNat_lt (b i)
  have h1 := UInt8.toNat_lt (b (i + 1))
  have h2 := UInt8.toNat_lt (b (i + 2))
  have h3 := UInt8.toNat_lt (b (i + 3))
  refine UInt8.toNat_inj.mp ?_
  rw [zwb_n (by omega) hk]
  rcases (show k = 0 ∨ k = 1 ∨ k = 2 ∨ k = 3 by omega) with rfl | rfl | rfl | rfl <;> simp only [Nat.reduceMul, Nat.reduceSub, Nat.reducePow, Nat.add_zero] <;> omega
theorem q_z4 {x : Int32} {b : Nat → UInt8} {i : Nat} (h : ∀ k, k < 4 → zwb x k = b (i + k)) : x = z4 b i := zwb_ext fun k hk => (h k hk).trans (zwb_z4 hk).symm
