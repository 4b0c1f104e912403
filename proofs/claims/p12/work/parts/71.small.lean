/-! The reference's RIPEMD-160. -/
theorem jo_subneg {a b : Nat} (h : a < b) (hb : b < 2147483648) : Int32.ofNat a - Int32.ofNat b < 0 := by
  rw [Int32.lt_iff_toInt_lt, Int32.toInt_sub, jo_int (by omega), jo_int hb]
  have e : ((a : Int) - (b : Int)).bmod (2 ^ 32) = (a : Int) - (b : Int) := Int.bmod_eq_of_le (by omega) (by omega)
  rw [e]
  have h0 : (0 : Int32).toInt = 0 := rfl
  omega
