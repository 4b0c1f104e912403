/-! Rows of bytes that are alike; numbers of bytes. -/
def zeq (b c : Nat → UInt8) (p q n : Nat) : Bool := (List.range n).all fun i => decide (b (p + i) = c (q + i))
theorem zeq_t {b c : Nat → UInt8} {p q n : Nat} : zeq b c p q n = true ↔ ∀ i, i < n → b (p + i) = c (q + i) := by
  unfold zeq
  rw [List.all_eq_true]
  refine ⟨fun h i hi => of_decide_eq_true (h i (List.mem_range.mpr hi)), fun h i hi => decide_eq_true (h i (List.mem_range.mp hi))⟩
theorem z3_same {a c la lc p q : Nat} {H : jH} (h1 : jK H a = (101, la)) (h2 : jK H c = (101, lc)) (hla : la < 2147483600) (hlc : lc < 2147483600) (hp : p < 2147483600) (hq : q < 2147483600) :
    F_3_same a (Int32.ofNat p) c (Int32.ofNat q) H = some ((if p + 32 ≤ la ∧ q + 32 ≤ lc ∧ zeq (jB H a) (jB H c) p q 32 = true then 1 else 0), H) := by
  have n0 : ∀ x, x < 2147483600 → ¬ (Int32.ofNat x < 0) := fun x hx => by
    rw [show (0 : Int32) = Int32.ofNat 0 from rfl, jo_lt (by omega) (by omega)]
    omega
  have ep : Int32.ofNat p + 32 = Int32.ofNat (p + 32) := jo_add (a := p) (b := 32)
  have eq : Int32.ofNat q + 32 = Int32.ofNat (q + 32) := jo_add (a := q) (b := 32)
  unfold F_3_same B_3_same_26
  rw [if_neg (n0 p hp), if_neg (n0 q hq), h1, jg_t rfl, ep, eq]
  by_cases hA : p + 32 ≤ la
  · rw [if_neg (by rw [jo_lt (by omega) (by omega)]; show ¬ la < p + 32; omega), h2, jg_t rfl]
    by_cases hB : q + 32 ≤ lc
    · rw [if_pos (by rw [jo_le (by omega) (by omega)]; exact hB)]
      have loop : ∀ (d i f : Nat), i + d = 32 → d < f → (∀ j, j < i → jB H a (p + j) = jB H c (q + j)) → F_3_same_31 f a (Int32.ofNat p) c (Int32.ofNat q) (Int32.ofNat i) H = some ((if p + 32 ≤ la ∧ q + 32 ≤ lc ∧ zeq (jB H a) (jB H c) p q 32 = true then 1 else 0), H) := by
        intro d
        induction d with
        | zero =>
          intro i f hi hf hall
          obtain rfl : i = 32 := by omega
          obtain ⟨f, rfl⟩ : ∃ k, f = k + 1 := ⟨f - 1, by omega⟩
          unfold F_3_same_31 B_3_same_31
          rw [if_pos (by decide), jg_t (by decide), if_pos ⟨hA, hB, zeq_t.mpr hall⟩]
        | succ d ih =>
          intro i f hi hf hall
          obtain ⟨f, rfl⟩ : ∃ k, f = k + 1 := ⟨f - 1, by omega⟩
          unfold F_3_same_31 B_3_same_31
          have e1 : Int32.ofNat p + Int32.ofNat i = Int32.ofNat (p + i) := jo_add
          have e2 : Int32.ofNat q + Int32.ofNat i = Int32.ofNat (q + i) := jo_add
          have e_i : Int32.ofNat i + 1 = Int32.ofNat (i + 1) := jo_add (a := i) (b := 1)
          rw [if_neg (by rw [show (32 : Int32) = Int32.ofNat 32 from rfl, jo_le (by omega) (by omega)]; omega), e1, e2, h1, h2, jg_t ⟨rfl, jo_in (by omega) (by show p + i < la; omega)⟩, jg_t ⟨rfl, jo_in (by omega) (by show q + i < lc; omega)⟩, jo_nat (n := p + i) (by omega), jo_nat (n := q + i) (by omega)]
          by_cases hb : jB H a (p + i) = jB H c (q + i)
          · rw [if_pos (by rw [hb])]
            dsimp only [jl]
            rw [e_i]
            refine ih (i + 1) f (by omega) (by omega) fun j hj => ?_
            by_cases hji : j = i
            · rw [hji]
              exact hb
            · exact hall j (by omega)
          · rw [if_neg (fun w => hb ((jbs_eq _ _).mp w)), jg_t (by decide), if_neg (fun w => hb (zeq_t.mp w.2.2 i (by omega)))]
      exact loop 32 0 jfuel rfl (by unfold jfuel; omega) (fun j hj => absurd hj (Nat.not_lt_zero j))
    · rw [if_neg (by rw [jo_le (by omega) (by omega)]; exact hB), jg_t (by decide), if_neg (fun w => hB w.2.1)]
  · rw [if_pos (by rw [jo_lt (by omega) (by omega)]; show la < p + 32; omega), jg_t (by decide), if_neg (fun w => hA w.1)]
/-! longs by their numbers -/
theorem lo_of {u : Nat} (h : u < 2147483648) : Int32.toInt64 (Int32.ofNat u) = Int64.ofNat u := by
  refine Int64.toInt_inj.mp ?_
  rw [Int32.toInt_toInt64, jo_int h, Int64.toInt_ofNat_of_lt (by omega)]
theorem lo_shl {m c : Nat} (hc : c < 32) : jshlL (Int64.ofNat m) (Int32.ofNat c) = Int64.ofNat (m * 2 ^ c) := by
  have h63 : ∀ c, c < 32 → (Int32.ofNat c).toInt64 &&& 63 = Int64.ofNat c := by decide
  have hsm : ∀ c, c < 32 → (Int64.ofNat c).toBitVec.smod 64 = BitVec.ofNat 64 c := by decide
  unfold jshlL
  rw [h63 c hc]
  refine Int64.toBitVec_inj.mp ?_
  rw [Int64.toBitVec_shiftLeft, hsm c hc, Int64.toBitVec_ofNat', Int64.toBitVec_ofNat']
  refine BitVec.eq_of_toNat_eq ?_
  rw [BitVec.shiftLeft_eq', BitVec.toNat_shiftLeft, BitVec.toNat_ofNat, BitVec.toNat_ofNat, BitVec.toNat_ofNat, Nat.shiftLeft_eq, Nat.mod_eq_of_lt (show c < 2 ^ 64 by omega), Nat.mod_mul_mod]
theorem lo_or {a b k : Nat} (hb : b < 2 ^ k) : Int64.ofNat (a * 2 ^ k) ||| Int64.ofNat b = Int64.ofNat (a * 2 ^ k + b) := by
  refine Int64.toBitVec_inj.mp ?_
  rw [Int64.toBitVec_or, Int64.toBitVec_ofNat', Int64.toBitVec_ofNat', Int64.toBitVec_ofNat', ← BitVec.ofNat_or]
  congr 1
  have := Nat.shiftLeft_add_eq_or_of_lt hb a
  rw [Nat.shiftLeft_eq] at this
  exact this.symm
/-- the number of so many bytes below a place, the lowest last -/
def zho (b : Nat → UInt8) (q : Nat) : Nat → Nat
  | 0 => 0
  | k + 1 => zho b q k * 256 + (b (q - (k + 1))).toNat
theorem zle_zho (b : Nat → UInt8) (q : Nat) : ∀ k, zle b q k = Int64.ofNat (zho b q k)
  | 0 => rfl
  | k + 1 => by
    have hu := UInt8.toNat_lt (b (q - (k + 1)))
    have e8 := lo_shl (m := zho b q k) (c := 8) (by decide)
    unfold zle zho
    rw [zle_zho b q k, jb_and, lo_of (by omega)]
    rw [show (8 : Int32) = Int32.ofNat 8 from rfl, e8, lo_or (by omega)]
theorem zho_lt (b : Nat → UInt8) (q : Nat) : ∀ k, zho b q k < 256 ^ k
  | 0 => Nat.one_pos
  | k + 1 => by
    have hu := UInt8.toNat_lt (b (q - (k + 1)))
    have := zho_lt b q k
    unfold zho
    rw [Nat.pow_succ]
    omega
theorem zlow_zho (b : Nat → UInt8) (p : Nat) : zlow b p = Int32.ofNat (zho b (p + 4) 4) := by
  have h0 := UInt8.toNat_lt (b p)
  have h1 := UInt8.toNat_lt (b (p + 1))
  have h2 := UInt8.toNat_lt (b (p + 2))
  have h3 := UInt8.toNat_lt (b (p + 3))
  have e8 := jo_shl (m := (b (p + 1)).toNat) (c := 8) (by decide)
  have e16 := jo_shl (m := (b (p + 2)).toNat) (c := 16) (by decide)
  have e24 := jo_shl (m := (b (p + 3)).toNat) (c := 24) (by decide)
  have o1 := jo_or (a := (b (p + 1)).toNat) (b := (b p).toNat) (k := 8) (by omega)
  have o2 := jo_or (a := (b (p + 2)).toNat) (b := (b (p + 1)).toNat * 2 ^ 8 + (b p).toNat) (k := 16) (by omega)
  have o3 := jo_or (a := (b (p + 3)).toNat) (b := (b (p + 2)).toNat * 2 ^ 16 + ((b (p + 1)).toNat * 2 ^ 8 + (b p).toNat)) (k := 24) (by omega)
  unfold zlow
  rw [← jb_sh24, jb_and, jb_and, jb_and, jb_and, show (8 : Int32) = Int32.ofNat 8 from rfl, show (16 : Int32) = Int32.ofNat 16 from rfl, show (24 : Int32) = Int32.ofNat 24 from rfl, e8, e16, e24, Int32.or_comm (Int32.ofNat (b p).toNat), o1, Int32.or_comm (Int32.ofNat _) (Int32.ofNat ((b (p + 2)).toNat * 2 ^ 16)), o2, Int32.or_comm (Int32.ofNat _) (Int32.ofNat ((b (p + 3)).toNat * 2 ^ 24)), o3]
  refine congrArg Int32.ofNat ?_
  unfold zho zho zho zho zho
  rw [show p + 4 - (0 + 1) = p + 3 by omega, show p + 4 - (1 + 1) = p + 2 by omega, show p + 4 - (2 + 1) = p + 1 by omega, show p + 4 - (3 + 1) = p by omega]
  omega
/-- the class's value is the reference's -/
theorem zvl_zle (b : Nat → UInt8) (p : Nat) : zvl b p = zle b (p + 8) 8 := by
  have hl := zho_lt b (p + 4) 4
  have hh := zho_lt b (p + 8) 4
  have h256 : (256 : Nat) ^ 4 = 4294967296 := by decide
  rw [h256] at hl hh
  unfold zvl
  rw [zle_zho, zlow_zho, zlow_zho, show p + 4 + 4 = p + 8 by omega]
  have hs : ∀ m : Nat, jshlL (Int32.toInt64 (Int32.ofNat m)) 32 = Int64.ofNat (m * 2 ^ 32) := by
    intro m
    refine Int64.toBitVec_inj.mp ?_
    show (Int32.ofNat m).toInt64.toBitVec <<< (32 : Nat) = _
    rw [Int32.toBitVec_toInt64, Int32.toBitVec_ofNat', Int64.toBitVec_ofNat']
    refine BitVec.eq_of_getLsbD_eq fun i hi => ?_
    rw [BitVec.getLsbD_shiftLeft, BitVec.getLsbD_signExtend, BitVec.getLsbD_ofNat, BitVec.getLsbD_ofNat, Nat.testBit_mul_two_pow]
    by_cases h : i < 32
    · have h2 : ¬ 32 ≤ i := by omega
      simp [h, h2]
    · have h2 : 32 ≤ i := by omega
      have h3 : i - 32 < 32 := by omega
      have h4 : i - 32 < 64 := by omega
      simp [h, h2, h3, h4, hi]
  have hm : ∀ m : Nat, m < 4294967296 → (Int32.toInt64 (Int32.ofNat m)) &&& 4294967295 = Int64.ofNat m := by
    intro m hm
    refine Int64.toBitVec_inj.mp ?_
    rw [Int64.toBitVec_and, Int32.toBitVec_toInt64, Int32.toBitVec_ofNat', Int64.toBitVec_ofNat']
    show _ &&& BitVec.ofNat 64 (2 ^ 32 - 1) = _
    refine BitVec.eq_of_getLsbD_eq fun i hi => ?_
    rw [BitVec.getLsbD_and, BitVec.getLsbD_signExtend, BitVec.getLsbD_ofNat, BitVec.getLsbD_ofNat, BitVec.getLsbD_ofNat, Nat.testBit_two_pow_sub_one]
    by_cases h : i < 32
    · simp [h, hi]
    · have hb : m.testBit i = false := Nat.testBit_lt_two_pow (Nat.lt_of_lt_of_le hm (Nat.pow_le_pow_right (n := 2) (by decide) (show 32 ≤ i by omega)))
      simp [h, hb]
  rw [hs, hm _ hl, lo_or (by omega)]
  refine congrArg Int64.ofNat ?_
  unfold zho zho zho zho zho zho zho zho zho
  rw [show p + 8 - (0 + 1) = p + 7 by omega, show p + 8 - (1 + 1) = p + 6 by omega, show p + 8 - (2 + 1) = p + 5 by omega, show p + 8 - (3 + 1) = p + 4 by omega, show p + 8 - (4 + 1) = p + 3 by omega, show p + 8 - (5 + 1) = p + 2 by omega, show p + 8 - (6 + 1) = p + 1 by omega, show p + 8 - (7 + 1) = p by omega, show p + 4 - (0 + 1) = p + 3 by omega, show p + 4 - (1 + 1) = p + 2 by omega, show p + 4 - (2 + 1) = p + 1 by omega, show p + 4 - (3 + 1) = p by omega]
  omega
