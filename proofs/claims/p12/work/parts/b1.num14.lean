/-! The reference's scripts: a number comes to the top. -/
theorem lo_div {a b : Nat} (ha : a < 9223372036854775808) (hb : b < 9223372036854775808) : Int64.ofNat a / Int64.ofNat b = Int64.ofNat (a / b) := by
  refine Int64.toInt_inj.mp ?_
  have e : ∀ {n : Nat}, n < 9223372036854775808 → (Int64.ofNat n).toInt = n := fun h => Int64.toInt_ofNat_of_lt h
  have hne : Int64.ofNat a ≠ Int64.minValue := by
    intro h
    have h2 := congrArg Int64.toInt h
    rw [e ha] at h2
    have h3 : Int64.minValue.toInt = -9223372036854775808 := rfl
    omega
  rw [Int64.toInt_div_of_ne_left _ _ hne, e ha, e hb, e (Nat.lt_of_le_of_lt (Nat.div_le_self a b) ha)]
  exact (Int.ofNat_tdiv a b).symm
theorem lo_sub {a b : Nat} (h : b ≤ a) : Int64.ofNat a - Int64.ofNat b = Int64.ofNat (a - b) := by
  obtain ⟨c, rfl⟩ := Nat.le.dest h
  rw [← lo_add, Nat.add_sub_cancel_left, Int64.add_comm, Int64.add_sub_cancel]
theorem lo_rem {a b : Nat} (ha : a < 9223372036854775808) (hb : b < 9223372036854775808) : jremL (Int64.ofNat a) (Int64.ofNat b) = Int64.ofNat (a % b) := by
  unfold jremL
  rw [lo_div ha hb, lo_mul, lo_sub (Nat.div_mul_le_self a b)]
  congr 1
  have := Nat.div_add_mod a b
  rw [Nat.mul_comm] at this
  omega
