/-! What is signed, as the reference writes it. -/
theorem gA {H : jH} {r t n : Nat} {ii : Int32} (hk : jK H r = (t, n)) (h : jin ii n) : (jK H r).1 = t ∧ jin ii (jK H r).2 := by
  rw [hk]
  exact ⟨rfl, h⟩
theorem gT {H : jH} {r t n : Nat} (hk : jK H r = (t, n)) : (jK H r).1 = t := by rw [hk]
section WR15
variable {Q : Unit → jH → Prop} {row s len lr la llen inp : Nat} {tb lk L : List UInt8} {y : w_y} {H0 : jH} {kd : Nat}
theorem w_mi_none {w : Nat × Nat} {i : Nat} {ba : Bool} (h : i ≠ inp) : w_mi tb w (decide (i = inp)) true ba lk = [] := by
  unfold w_mi
  rw [if_neg (fun q => h (of_decide_eq_true q)), if_pos rfl]
end WR15
