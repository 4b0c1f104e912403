/-! The reference's loops over outputs and inputs. -/
def ztxi (b : Nat → UInt8) (e : Nat) : Nat → Nat → Option (List (Nat × Nat) × Nat)
  | 0, p => some ([], p)
  | k + 1, p => if p + 37 ≤ e ∧ (b (p + 36)).toNat ≤ 200 ∧ p + 41 + (b (p + 36)).toNat ≤ e then (ztxi b e k (p + 41 + (b (p + 36)).toNat)).map (fun q => ((p, (b (p + 36)).toNat) :: q.1, q.2)) else none
def ztxo (b : Nat → UInt8) (e : Nat) : Nat → Nat → Option (List (Nat × Nat) × Nat)
  | 0, p => some ([], p)
  | k + 1, p => if p + 9 ≤ e ∧ (b (p + 8)).toNat ≤ 200 ∧ p + 9 + (b (p + 8)).toNat ≤ e then (ztxo b e k (p + 9 + (b (p + 8)).toNat)).map (fun q => ((p, (b (p + 8)).toNat) :: q.1, q.2)) else none
theorem jL_sLe {H : jH} {a i : Nat} {v : Int64} : jL (jsL H a i v) a i = v := if_pos ⟨rfl, rfl⟩
theorem jL_sLn {H : jH} {a i b j : Nat} {v : Int64} (h : j ≠ i) : jL (jsL H a i v) b j = jL H b j := if_neg fun q => h q.2
