/-! Targets as numbers; the reference's rows of forty bytes. -/
theorem lo_shr {m c : Nat} (hm : m < 9223372036854775808) (hc : c < 64) : jshrL (Int64.ofNat m) (Int32.ofNat c) = Int64.ofNat (m / 2 ^ c) := by
  have h1 : ∀ c, c < 64 → ((Int32.ofNat c).toInt64 &&& 63) = Int64.ofNat c := by decide
  unfold jshrL
  rw [h1 c hc]
  refine Int64.toBitVec_inj.mp ?_
  have e2 : (Int64.ofNat c).toBitVec.smod 64 = BitVec.ofNat 64 c := by
    have : ∀ c, c < 64 → (Int64.ofNat c).toBitVec.smod 64 = BitVec.ofNat 64 c := by decide
    exact this c hc
  have e3 : ∀ k, (Int64.ofNat k).toBitVec = BitVec.ofNat 64 k := fun _ => rfl
  rw [Int64.toBitVec_shiftRight, e2, e3, e3]
  refine BitVec.eq_of_toNat_eq ?_
  have h2 : (BitVec.ofNat 64 m).msb = false := by
    rw [BitVec.msb_eq_false_iff_two_mul_lt, BitVec.toNat_ofNat]
    omega
  rw [BitVec.sshiftRight_eq', BitVec.sshiftRight_eq_of_msb_false h2, BitVec.toNat_ushiftRight, BitVec.toNat_ofNat, BitVec.toNat_ofNat, BitVec.toNat_ofNat, Nat.shiftRight_eq_div_pow]
  have : m / 2 ^ c ≤ m := Nat.div_le_self _ _
  rw [Nat.mod_eq_of_lt (show m < 2^64 by omega), Nat.mod_eq_of_lt (show c < 2^64 by omega), Nat.mod_eq_of_lt (show m / 2 ^ c < 2^64 by omega)]
theorem lo_inj {a b : Nat} (ha : a < 9223372036854775808) (hb : b < 9223372036854775808) : Int64.ofNat a = Int64.ofNat b ↔ a = b := by
  refine ⟨fun h => ?_, fun h => by rw [h]⟩
  have := congrArg Int64.toInt h
  rw [Int64.toInt_ofNat_of_lt ha, Int64.toInt_ofNat_of_lt hb] at this
  omega
theorem lo_le {a b : Nat} (ha : a < 9223372036854775808) (hb : b < 9223372036854775808) : (Int64.ofNat a ≤ Int64.ofNat b) ↔ a ≤ b := by
  rw [Int64.le_iff_toInt_le, Int64.toInt_ofNat_of_lt ha, Int64.toInt_ofNat_of_lt hb]
  omega
theorem lo_lt {a b : Nat} (ha : a < 9223372036854775808) (hb : b < 9223372036854775808) : (Int64.ofNat a < Int64.ofNat b) ↔ a < b := by
  rw [Int64.lt_iff_toInt_lt, Int64.toInt_ofNat_of_lt ha, Int64.toInt_ofNat_of_lt hb]
  omega
theorem lo_to32 {m : Nat} (h : m < 4294967296) : Int64.toInt32 (Int64.ofNat m) = Int32.ofNat m := by
  rw [lw_i32, Nat.mod_eq_of_lt h]
/-- the target of bits of size s -/
def b_sz (n : Nat) : Nat := n / 16777216
def b_ma (n : Nat) : Nat := n % 8388608
def b_tg (n : Nat) : Nat := b_ma n * 256 ^ (b_sz n - 3)
/-- bits that come about -/
def b_bits (n : Nat) : Prop := 4 ≤ b_sz n ∧ b_sz n ≤ 32 ∧ n / 8388608 % 2 = 0 ∧ 32768 ≤ b_ma n
theorem b_bits_lt {n : Nat} (h : b_bits n) : n < 553648128 := by
  have h2 := h.2.1
  unfold b_sz at h2
  omega
def b_Ta (a : Nat) : Nat → Nat → Prop := fun x _ => x = a
section N16
variable {α : Type} {Q : Unit → jH → Prop} {a : Nat} {H0 : jH}
theorem b_ma3 {m : Nat} (hm : m < 8388608) (e : Nat) : m / 256 ^ 0 % 256 * 256 ^ e + (m / 256 ^ 1 % 256 * 256 ^ (e + 1) + m / 256 ^ 2 % 256 * 256 ^ (e + 2)) = m * 256 ^ e := by
  rw [Nat.pow_add, Nat.pow_add]
  generalize 256 ^ e = z
  have e3 : m = m % 256 + (m / 256 % 256) * 256 + (m / 65536 % 256) * 65536 := by omega
  show m / 1 % 256 * z + (m / 256 % 256 * (z * 256) + m / 65536 % 256 * (z * 65536)) = m * z
  rw [Nat.div_one]
  generalize m % 256 = p at e3 ⊢
  generalize m / 256 % 256 = q at e3 ⊢
  generalize m / 65536 % 256 = r at e3 ⊢
  subst e3
  rw [Nat.add_mul, Nat.add_mul, Nat.mul_comm z 256, Nat.mul_comm z 65536, ← Nat.mul_assoc, ← Nat.mul_assoc]
  omega
end N16
