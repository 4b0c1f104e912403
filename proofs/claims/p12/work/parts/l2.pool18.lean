/-! The pool: the reference's, and its looks. -/
theorem p_e32 {k : Nat} : (32 : Int32) * Int32.ofNat k = Int32.ofNat (32 * k) := jo_mul (a := 32) (b := k)
