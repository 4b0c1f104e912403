/-! A block comes to the reference: what it is refused for. -/
def b_ref2 (bs : List b_k) (bad : Nat → Bool) (by_ : List UInt8) (txs : List b_t) (p : Nat) : Int32 :=
  if bad p = true then 22 else if b_b4 by_ ≠ b_mst bs p then 23 else if b_t4 by_ ≤ b_mdn bs p then 24 else if b_tg (b_b4 by_) < b_nn (b_hs (by_.take 80)) then 25 else if b_shp txs = false then 26 else if b_rtd by_ txs = false then 27 else if b_flf 0 txs = true then 28 else if 300 ≤ bs.length then 30 else 0
def b_ref (bs : List b_k) (bad : Nat → Bool) (by_ : List UInt8) (txs : List b_t) : Int32 :=
  if b_kn bs (b_hs (by_.take 80)) ≠ none then 20 else
  match b_kn bs (w_sl by_ 4 32) with
  | none => 21
  | some p => b_ref2 bs bad by_ txs p
