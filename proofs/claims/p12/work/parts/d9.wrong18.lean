/-! The reference: the scripts of all inputs. -/
theorem w_ag {H : jH} {row s : Nat} {tb : List UInt8} (h : zRow H row s tb) : zag (fun i => tb.getD i 0) 0 (jB H row) s tb.length := fun i hi => by
  rw [Nat.zero_add]
  exact h i _ (getD_of hi)
theorem w_zho {H : jH} {row s q k : Nat} {tb : List UInt8} (h : zRow H row s tb) (hq : q ≤ tb.length) (hk : k ≤ q) : zho (jB H row) (s + q) k = zho (fun i => tb.getD i 0) q k := by
  have := zho_move (w_ag h) hq k hk
  rw [Nat.zero_add] at this
  exact this
/-- the coin that an input names -/
def w_in1 (tb : List UInt8) (y : w_y) (i : Nat) : List UInt8 := w_sl tb (y.1.getD i (0, 0)).1 32
def w_in2 (tb : List UInt8) (y : w_y) (i : Nat) : Nat := zho (fun i => tb.getD i 0) ((y.1.getD i (0, 0)).1 + 36) 4
