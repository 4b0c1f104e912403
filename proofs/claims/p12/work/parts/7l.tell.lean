/-! The reference tells a message: its row of boxes. -/
section TELL
variable {Q : Unit → jH → Prop} {l bx : List UInt8} {p : Nat}
theorem zRow_set {l : List UInt8} {r q : Nat} {H : jH} {v : UInt8} (h : zRow H r q l) : zRow (jsB H r (q + l.length) v) r q (l ++ [v]) := by
  refine zRow_app (zRow_eq h fun i hi => jB_sBn (by omega)) (zRow_one jB_sBe)
end TELL
