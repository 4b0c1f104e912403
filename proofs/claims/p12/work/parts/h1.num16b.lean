/-! The reference's numbers: compared, made compact, scaled. -/
/-- how many bytes -/
def b_isn (n s : Nat) : Prop := n < 256 ^ s ∧ (s = 0 ∨ 256 ^ (s - 1) ≤ n)
/-- the compact form of a number of s bytes -/
def b_cps (n s : Nat) : Nat := if n / 256 ^ (s - 3) < 8388608 then s * 16777216 + n / 256 ^ (s - 3) else (s + 1) * 16777216 + n / 256 ^ (s - 3) / 256
