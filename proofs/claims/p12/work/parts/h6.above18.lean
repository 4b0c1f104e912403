/-! A name against a target: the reference. -/
theorem b_li {x : Nat} (hx : x < 18446744073709551616) : (Int64.ofNat x).toInt = if x < 9223372036854775808 then (x : Int) else (x : Int) - 18446744073709551616 := by
  by_cases c : x < 9223372036854775808
  · rw [if_pos c, Int64.toInt_ofNat_of_lt c]
  · rw [if_neg c]
    have e : (Int64.ofNat x).toInt = (BitVec.ofNat 64 x).toInt := rfl
    rw [e, BitVec.toInt_eq_toNat_cond, BitVec.toNat_ofNat, Nat.mod_eq_of_lt hx, if_neg (by omega)]
    rfl
theorem nv_all {n : Nat} : ∀ {k : Nat}, n < 256 ^ k → nv 256 (fun j => n / 256 ^ j % 256) k = n := by
  intro k
  have key : ∀ k, nv 256 (fun j => n / 256 ^ j % 256) k = n % 256 ^ k := by
    intro k
    induction k with
    | zero => rw [Nat.pow_zero, Nat.mod_one]; rfl
    | succ k ih =>
      show nv 256 (fun j => n / 256 ^ j % 256) k + n / 256 ^ k % 256 * 256 ^ k = _
      rw [ih, Nat.pow_succ, Nat.mod_mul, Nat.mul_comm (256 ^ k)]
  intro h
  rw [key, Nat.mod_eq_of_lt h]
/-- a name as a number, its last byte the highest -/
def b_nn (nm : List UInt8) : Nat := nv 256 (fun j => (nm.getD j 0).toNat) 32
