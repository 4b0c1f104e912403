/-! The reference: whether an input's scripts fail. -/
theorem jsh_sRj {H : jH} {a i v : Nat} (h : jsh H) (ha : ∀ q ∈ jRs, ¬ (q.1 = a ∧ q.2.1 = i)) : jsh (jsR H a i v) := by
  obtain ⟨a0, a1, a2, a3, a4⟩ := h
  exact ⟨a0, a1, a2, fun q hq hc => (jup_ne (fun w => ha q hq w)).trans (a3 q hq hc), a4⟩
/-- both scripts of an input: what is left of the signatures -/
def w_two (fit : List UInt8 → List UInt8 → Bool) (sc lk : List UInt8) (left : Nat) : Option Nat :=
  (w_run fit sc (sc.length + 1) 0 ([], [], 0, []) left).bind fun q => (w_run fit lk (lk.length + 1) 0 (q.1, [], 0, []) q.2).bind fun r => if r.1.length ≠ 0 ∧ ztrue (w_tp r.1 1) = true then some r.2 else none
