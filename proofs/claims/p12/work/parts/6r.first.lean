/-! The first call on fresh objects. -/
theorem i32_small {p : Int32} {k : Nat} (hk : k < 2147483648) (h0 : ¬ p < 0) (h1 : ¬ Int32.ofNat k ≤ p) : ∃ q, q < k ∧ p = Int32.ofNat q := by
  have hj := jin_of hk h0 h1
  unfold jin at hj
  refine ⟨p.toInt.toNat, by omega, ?_⟩
  refine Int32.toInt_inj.mp ?_
  rw [jo_int (by omega)]
  omega
section FIRST
variable {L : Nat} {xs : Nat → Int32} {H : jH}
theorem f_sh (h : jst0 L xs H) : jsh H := h.1
theorem f_I (h : jst0 L xs H) {a j : Nat} (e : 32 ≤ a ∧ jEx a j = false) : jI H a j = 0 := (h.2.2.2.2.2.1 a j e.1 e.2).1
theorem f_L (h : jst0 L xs H) {a j : Nat} (e : 32 ≤ a ∧ jEx a j = false) : jL H a j = 0 := (h.2.2.2.2.2.1 a j e.1 e.2).2.1
theorem f_R (h : jst0 L xs H) {a j v : Nat} (e : 32 ≤ a ∧ a < 422 ∧ jEx a j = false ∧ jRL jWs a j = v) : jR H a j = v := (h.2.2.2.2.2.2.1 a j e.1 e.2.1 e.2.2.1).trans e.2.2.2
end FIRST
