/-! The reference: what is wrong with a transaction over the coins. -/
/-- the coin of an input -/
def w_cf (cs : List w_cn) (tb : List UInt8) (y : w_y) (i : Nat) : Option w_cn := (w_fd cs (w_in1 tb y i) (w_in2 tb y i) 0).bind fun k => cs[k]?
def w_tot (cs : List w_cn) (tb : List UInt8) (y : w_y) : Nat → Int64
  | 0 => 0
  | i + 1 => w_tot cs tb y i + (match w_cf cs tb y i with
    | some c => w_cv c
    | none => 0)
def w_unr (ht : Int32) (c : w_cn) : Prop := w_rt c.2.2.1 c.2.2.2.1 ≠ 0 ∧ ¬ 8 ≤ ht - Int32.ofNat c.2.2.2.2
theorem w_cf_none {cs : List w_cn} {tb : List UInt8} {y : w_y} {i : Nat} : w_cf cs tb y i = none ↔ w_fd cs (w_in1 tb y i) (w_in2 tb y i) 0 = none := by
  unfold w_cf
  cases h : w_fd cs (w_in1 tb y i) (w_in2 tb y i) 0 with
  | none => exact ⟨fun _ => rfl, fun _ => rfl⟩
  | some k =>
    obtain ⟨c, h1, -⟩ := w_fd_at h
    refine ⟨fun q => ?_, fun q => by cases q⟩
    have q2 : cs[k]? = none := q
    rw [Nat.sub_zero] at h1
    rw [h1] at q2
    cases q2
theorem w_cf_some {cs : List w_cn} {tb : List UInt8} {y : w_y} {i : Nat} {c : w_cn} : w_cf cs tb y i = some c ↔ ∃ k, w_fd cs (w_in1 tb y i) (w_in2 tb y i) 0 = some k ∧ cs[k]? = some c := by
  unfold w_cf
  exact Option.bind_eq_some_iff
section WR18B
variable {row s len : Nat} {tb : List UInt8} {y : w_y} {cs : List w_cn} {Q : Int32 → jH → Prop}
theorem w_fv_neg : ¬ (0 : Int32) ≤ w_fv none := by decide
theorem w_fv_pos {k : Nat} (h : k < 2147483648) : (0 : Int32) ≤ w_fv (some k) := (jo_le (a := 0) (b := k) (by decide) h).mpr (Nat.zero_le k)
end WR18B
