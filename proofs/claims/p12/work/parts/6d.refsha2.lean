/-! Shifts and masks of small ints, words of bytes. -/
theorem jo_31 (c : Nat) (h : c < 32) : Int32.ofNat c &&& 31 = Int32.ofNat c := by
  revert c; decide
theorem jo_sm (c : Nat) (h : c < 32) : (Int32.ofNat c).toBitVec.smod 32 = BitVec.ofNat 32 c := by
  revert c; decide
theorem jo_shr {m c : Nat} (hm : m < 2147483648) (hc : c < 32) : jshr (Int32.ofNat m) (Int32.ofNat c) = Int32.ofNat (m / 2 ^ c) := by
  unfold jshr
  rw [jo_31 c hc]
  refine Int32.toBitVec_inj.mp ?_
  rw [Int32.toBitVec_shiftRight, jo_sm c hc, Int32.toBitVec_ofNat', Int32.toBitVec_ofNat']
  refine BitVec.eq_of_toNat_eq ?_
  have h1 : (BitVec.ofNat 32 m).msb = false := by
    rw [BitVec.msb_eq_false_iff_two_mul_lt, BitVec.toNat_ofNat]
    omega
  rw [BitVec.sshiftRight_eq', BitVec.sshiftRight_eq_of_msb_false h1, BitVec.toNat_ushiftRight, BitVec.toNat_ofNat, BitVec.toNat_ofNat, BitVec.toNat_ofNat, Nat.shiftRight_eq_div_pow]
  have : m / 2 ^ c ≤ m := Nat.div_le_self _ _
  rw [Nat.mod_eq_of_lt (show m < 2^32 by omega), Nat.mod_eq_of_lt (show c < 2^32 by omega), Nat.mod_eq_of_lt (show m / 2 ^ c < 2^32 by omega)]
theorem jo_shl {m c : Nat} (hc : c < 32) : jshl (Int32.ofNat m) (Int32.ofNat c) = Int32.ofNat (m * 2 ^ c) := by
  unfold jshl
  rw [jo_31 c hc]
  refine Int32.toBitVec_inj.mp ?_
  rw [Int32.toBitVec_shiftLeft, jo_sm c hc, Int32.toBitVec_ofNat', Int32.toBitVec_ofNat']
  refine BitVec.eq_of_toNat_eq ?_
  rw [BitVec.shiftLeft_eq', BitVec.toNat_shiftLeft, BitVec.toNat_ofNat, BitVec.toNat_ofNat, BitVec.toNat_ofNat, Nat.shiftLeft_eq, Nat.mod_eq_of_lt (show c < 2^32 by omega), Nat.mod_mul_mod]
theorem jo_ushr {m c : Nat} (hm : m < 4294967296) (hc : c < 32) : jushr (Int32.ofNat m) (Int32.ofNat c) = Int32.ofNat (m / 2 ^ c) := by
  unfold jushr
  refine Int32.toBitVec_inj.mp ?_
  have h : (Int32.ofNat c).toUInt32 &&& Int32.toUInt32 31 = UInt32.ofNat c := by
    revert c; decide
  rw [h]
  refine BitVec.eq_of_toNat_eq ?_
  show ((Int32.ofNat m).toUInt32 >>> UInt32.ofNat c).toNat = _
  rw [UInt32.toNat_shiftRight, Int32.toBitVec_ofNat', BitVec.toNat_ofNat]
  show (Int32.ofNat m).toBitVec.toNat >>> ((UInt32.ofNat c).toNat % 32) = _
  rw [Int32.toBitVec_ofNat', BitVec.toNat_ofNat, UInt32.toNat_ofNat', Nat.shiftRight_eq_div_pow]
  have : m / 2 ^ c ≤ m := Nat.div_le_self _ _
  rw [Nat.mod_eq_of_lt (show m < 2^32 by omega), Nat.mod_eq_of_lt (show c < 2^32 by omega), Nat.mod_eq_of_lt hc, Nat.mod_eq_of_lt (show m / 2 ^ c < 2^32 by omega)]
theorem jo_mask {m k : Nat} (hk : k ≤ 31) : Int32.ofNat m &&& Int32.ofNat (2 ^ k - 1) = Int32.ofNat (m % 2 ^ k) := by
  refine Int32.toBitVec_inj.mp ?_
  rw [Int32.toBitVec_and, Int32.toBitVec_ofNat', Int32.toBitVec_ofNat', Int32.toBitVec_ofNat']
  refine BitVec.eq_of_toNat_eq ?_
  have h2 : (2 : Nat) ^ k < 2 ^ 32 := Nat.pow_lt_pow_right (by omega) (by omega)
  have h3 : m % 2 ^ k < 2 ^ k := Nat.mod_lt _ (Nat.two_pow_pos k)
  rw [BitVec.toNat_and, BitVec.toNat_ofNat, BitVec.toNat_ofNat, BitVec.toNat_ofNat, Nat.mod_eq_of_lt (show 2 ^ k - 1 < 2 ^ 32 by omega), Nat.and_two_pow_sub_one_eq_mod, Nat.mod_mod_of_dvd _ (Nat.pow_dvd_pow 2 (show k ≤ 32 by omega)), Nat.mod_eq_of_lt (show m % 2 ^ k < 2 ^ 32 by omega)]
theorem jo_or {a b k : Nat} (hb : b < 2 ^ k) : Int32.ofNat (a * 2 ^ k) ||| Int32.ofNat b = Int32.ofNat (a * 2 ^ k + b) := by
  refine Int32.toBitVec_inj.mp ?_
  rw [Int32.toBitVec_or, Int32.toBitVec_ofNat', Int32.toBitVec_ofNat', Int32.toBitVec_ofNat', ← BitVec.ofNat_or]
  congr 1
  have := Nat.shiftLeft_add_eq_or_of_lt hb a
  rw [Nat.shiftLeft_eq] at this
  exact this.symm
theorem jb_u8 (p : UInt8 → Prop) (h : ∀ k : Nat, k < 256 → p (UInt8.ofNat k)) (u : UInt8) : p u := by
  have := h u.toNat (UInt8.toNat_lt u)
  rwa [UInt8.ofNat_toNat] at this
theorem jb_sh24 (u : UInt8) : jshl (jbs u &&& 255) 24 = jshl (jbs u) 24 :=
  jb_u8 (fun u => jshl (jbs u &&& 255) 24 = jshl (jbs u) 24) (by decide +kernel) u
theorem jb_and (u : UInt8) : jbs u &&& 255 = Int32.ofNat u.toNat :=
  jb_u8 (fun u => jbs u &&& 255 = Int32.ofNat u.toNat) (by decide +kernel) u
theorem jg_t {α : Type} {c : Prop} [Decidable c] {o : Option α} (h : c) : jg c o = o := if_pos h
