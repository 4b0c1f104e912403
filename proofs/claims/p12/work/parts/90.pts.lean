/-! The reference's numbers: rows of ten digits of 26 bits. -/
section BAS
variable {Q : Unit → jH → Prop} {H : jH}
theorem e10 (m i : Nat) : 10 * Int32.ofNat m + Int32.ofNat i = Int32.ofNat (10 * m + i) := by rw [show (10 : Int32) = Int32.ofNat 10 from rfl, jo_mul, jo_add]
end BAS
/-! Sums and differences. -/
