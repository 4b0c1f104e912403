/-! Coins: the reference drops those that are spent. -/
/-- every input finds its coin when its turn comes -/
def w_dok (tb : List UInt8) (y : w_y) : Nat → Nat → List w_cn → Prop
  | 0, _, _ => True
  | d + 1, i, cs => ∃ k, w_fd cs (w_in1 tb y i) (w_in2 tb y i) 0 = some k ∧ w_dok tb y d (i + 1) (w_dc cs k)
