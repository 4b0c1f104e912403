/-! The median is a time. -/
theorem b_ins_lt {M x : Nat} (hx : x < M) : ∀ {p : Nat} {w : Nat → Nat}, (∀ j, w j < M) → ∀ j, b_ins x p w j < M
  | 0, w, h, j => by
    unfold b_ins nup
    split
    · exact hx
    · exact h j
  | p + 1, w, h, j => by
    unfold b_ins
    split
    · unfold nup
      split
      · exact hx
      · exact h j
    · refine b_ins_lt hx (fun i => ?_) j
      unfold nup
      split
      · exact h p
      · exact h i
theorem b_med_lt {bs : List b_k} {M : Nat} (hw : b_wf bs) (ht : ∀ k, k < bs.length → b_ti bs k < M) : ∀ {d k n : Nat} {w : Nat → Nat}, k < bs.length → (∀ j, w j < M) → b_med bs d k n w < M
  | 0, k, n, w, _, h => h _
  | d + 1, k, n, w, hk, h => by
    unfold b_med
    by_cases c : k = 0
    · rw [if_pos c]
      exact b_ins_lt (ht k hk) h _
    · rw [if_neg c]
      have := (hw.2.2.2.2 k (by omega) hk).1
      exact b_med_lt hw ht (by omega) (b_ins_lt (ht k hk) h)
theorem b_mdn_lt {bs : List b_k} (hw : b_wf bs) (hb : b_bok bs) {p : Nat} (hp : p < bs.length) : b_mdn bs p < 4294967296 :=
  b_med_lt hw (fun k hk => (hb k hk).2.2.2) hp fun _ => by decide
/-- a block's work is small -/
theorem b_w1_lt {n : Nat} (h : 2 ^ 106 ≤ b_tg n) : b_w1 n < 2 ^ 151 := by
  unfold b_w1
  have e : (2 : Nat) ^ 256 = 2 ^ 150 * 2 ^ 106 := by decide +kernel
  have h1 : 2 ^ 256 / (b_tg n + 1) ≤ 2 ^ 256 / 2 ^ 106 := Nat.div_le_div_left (Nat.le_succ_of_le h) (Nat.two_pow_pos _)
  have h2 : 2 ^ 256 / 2 ^ 106 = 2 ^ 150 := by decide +kernel
  have h3 : (2 : Nat) ^ 150 < 2 ^ 151 := by decide +kernel
  rw [h2] at h1
  exact Nat.lt_of_le_of_lt h1 h3
