/-! The reference: whether an input's scripts fail, whole. -/
theorem w_sl_row {H : jH} {r s p n q : Nat} {tb : List UInt8} (h : zRow H r s tb) (e : q = s + p) : zRow H r q (w_sl tb p n) := fun i u hi => by
  unfold w_sl at hi
  rw [List.getElem?_take] at hi
  split at hi
  · rw [List.getElem?_drop] at hi
    rw [e, Nat.add_assoc]
    exact h (p + i) u hi
  · cases hi
