/-! The reference: what its constructors do in loops. -/
theorem jin_of {x : Int32} {k : Nat} (hk : k < 2147483648) (h0 : ¬ x < 0) (h1 : ¬ (Int32.ofNat k ≤ x)) : jin x k := by
  unfold jin
  rw [Int32.lt_iff_toInt_lt] at h0
  rw [Int32.le_iff_toInt_le, jo_int hk] at h1
  have : (0 : Int32).toInt = 0 := rfl
  omega
section JTAIL
variable {Hb : jH}
/-! numbers that are written bit by bit -/
end JTAIL
