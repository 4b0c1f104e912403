/-! The reference's scripts: rows are shifted, moves. -/
/-! the table's answers -/
section MV14
variable {scr : List UInt8} {S : w_S4} {lf : Nat} {H0 H : jH} {α : Type} {Q : α → jH → Prop}
theorem w_sub1 {n : Nat} (h : 1 ≤ n) : Int32.ofNat n - 1 = Int32.ofNat (n - 1) := jo_sub (a := n) (b := 1) h
end MV14
