/-! Points.multiply of the reference. -/
theorem lo_le0 {x : Nat} (h : x < 9223372036854775808) : (Int64.ofNat x ≤ 0) ↔ x = 0 := by
  rw [Int64.le_iff_toInt_le, ← Int64.ofInt_eq_ofNat, li_int (by omega) (by omega)]
  show (x : Int) ≤ 0 ↔ x = 0
  omega
