/-! A transaction by its own bytes: where it stands doesn't matter. -/
def zsh1 (s : Nat) (l : List (Nat × Nat)) : List (Nat × Nat) := l.map fun w => (s + w.1, w.2)
theorem ztxi_shift (b : Nat → UInt8) (s n : Nat) : ∀ k p, ztxi b (s + n) k (s + p) = (ztxi (fun i => b (s + i)) n k p).map fun q => (zsh1 s q.1, s + q.2)
  | 0, p => rfl
  | k + 1, p => by
    unfold ztxi
    have e36 : b (s + p + 36) = b (s + (p + 36)) := by rw [Nat.add_assoc]
    rw [e36]
    by_cases hc : p + 37 ≤ n ∧ (b (s + (p + 36))).toNat ≤ 200 ∧ p + 41 + (b (s + (p + 36))).toNat ≤ n
    · rw [if_pos hc, if_pos ⟨by omega, hc.2.1, by omega⟩, show s + p + 41 + (b (s + (p + 36))).toNat = s + (p + 41 + (b (s + (p + 36))).toNat) by omega, ztxi_shift b s n k]
      cases ztxi (fun i => b (s + i)) n k (p + 41 + (b (s + (p + 36))).toNat) with
      | none => rfl
      | some w => rfl
    · rw [if_neg hc, if_neg (fun q => hc ⟨by omega, q.2.1, by omega⟩)]
      rfl
theorem ztxo_shift (b : Nat → UInt8) (s n : Nat) : ∀ k p, ztxo b (s + n) k (s + p) = (ztxo (fun i => b (s + i)) n k p).map fun q => (zsh1 s q.1, s + q.2)
  | 0, p => rfl
  | k + 1, p => by
    unfold ztxo
    have e8 : b (s + p + 8) = b (s + (p + 8)) := by rw [Nat.add_assoc]
    rw [e8]
    by_cases hc : p + 9 ≤ n ∧ (b (s + (p + 8))).toNat ≤ 200 ∧ p + 9 + (b (s + (p + 8))).toNat ≤ n
    · rw [if_pos hc, if_pos ⟨by omega, hc.2.1, by omega⟩, show s + p + 9 + (b (s + (p + 8))).toNat = s + (p + 9 + (b (s + (p + 8))).toNat) by omega, ztxo_shift b s n k]
      cases ztxo (fun i => b (s + i)) n k (p + 9 + (b (s + (p + 8))).toNat) with
      | none => rfl
      | some w => rfl
    · rw [if_neg hc, if_neg (fun q => hc ⟨by omega, q.2.1, by omega⟩)]
      rfl
def zshx (s : Nat) (x : List (Nat × Nat) × List (Nat × Nat) × Nat) : List (Nat × Nat) × List (Nat × Nat) × Nat := (zsh1 s x.1, zsh1 s x.2.1, s + x.2.2)
theorem ztx_shift (b : Nat → UInt8) (s n : Nat) : ztx b s (s + n) = (ztx (fun i => b (s + i)) 0 n).map (zshx s) := by
  unfold ztx
  rw [Nat.zero_add, Nat.zero_add]
  by_cases hc : 5 ≤ n ∧ (b (s + 4)).toNat ≤ 8
  · rw [if_pos hc, if_pos ⟨by omega, hc.2⟩, ztxi_shift b s n]
    cases h1 : ztxi (fun i => b (s + i)) n (b (s + 4)).toNat 5 with
    | none => rfl
    | some a =>
      rw [Option.map_some, Option.bind_some, Option.bind_some]
      by_cases hc2 : a.2 + 1 ≤ n ∧ (b (s + a.2)).toNat ≤ 8
      · rw [if_pos hc2, if_pos ⟨by omega, hc2.2⟩, show s + a.2 + 1 = s + (a.2 + 1) by omega, ztxo_shift b s n]
        cases h2 : ztxo (fun i => b (s + i)) n (b (s + a.2)).toNat (a.2 + 1) with
        | none => rfl
        | some c =>
          rw [Option.map_some, Option.bind_some, Option.bind_some]
          by_cases hc3 : c.2 + 4 ≤ n
          · rw [if_pos hc3, if_pos (by omega)]
            rfl
          · rw [if_neg hc3, if_neg (by omega)]
            rfl
      · rw [if_neg hc2, if_neg (fun q => hc2 ⟨by omega, q.2⟩)]
        rfl
  · rw [if_neg hc, if_neg (fun q => hc ⟨by omega, q.2⟩)]
    rfl
/-! what stands in a transaction that was read -/
theorem ztxi_mem {b : Nat → UInt8} {e : Nat} : ∀ {k p : Nat} {l : List (Nat × Nat)} {q : Nat}, ztxi b e k p = some (l, q) → p ≤ q ∧ ∀ w ∈ l, p ≤ w.1 ∧ w.1 + 41 + w.2 ≤ q ∧ w.1 + 41 + w.2 ≤ e ∧ w.2 = (b (w.1 + 36)).toNat ∧ w.2 ≤ 200
  | 0, p, l, q, h => by
    have h1 : [] = l := congrArg Prod.fst (Option.some.inj h)
    have h2 : p = q := congrArg Prod.snd (Option.some.inj h)
    rw [← h1]
    exact ⟨Nat.le_of_eq h2, fun w hw => absurd hw List.not_mem_nil⟩
  | k + 1, p, l, q, h => by
    unfold ztxi at h
    by_cases hc : p + 37 ≤ e ∧ (b (p + 36)).toNat ≤ 200 ∧ p + 41 + (b (p + 36)).toNat ≤ e
    · rw [if_pos hc] at h
      obtain ⟨v, hv, hq⟩ := Option.map_eq_some_iff.mp h
      have h1 : (p, (b (p + 36)).toNat) :: v.1 = l := congrArg Prod.fst hq
      have h2 : v.2 = q := congrArg Prod.snd hq
      obtain ⟨a1, a2⟩ := ztxi_mem (l := v.1) (q := v.2) hv
      rw [← h1]
      refine ⟨by omega, fun w hw => ?_⟩
      rcases List.mem_cons.mp hw with rfl | hw
      · exact ⟨Nat.le_refl _, by omega, hc.2.2, rfl, hc.2.1⟩
      · obtain ⟨c1, c2, c3, c4⟩ := a2 w hw
        exact ⟨by omega, by omega, c3, c4⟩
    · rw [if_neg hc] at h
      exact absurd h (by simp)
theorem ztxo_mem {b : Nat → UInt8} {e : Nat} : ∀ {k p : Nat} {l : List (Nat × Nat)} {q : Nat}, ztxo b e k p = some (l, q) → p ≤ q ∧ ∀ w ∈ l, p ≤ w.1 ∧ w.1 + 9 + w.2 ≤ q ∧ w.1 + 9 + w.2 ≤ e ∧ w.2 = (b (w.1 + 8)).toNat ∧ w.2 ≤ 200
  | 0, p, l, q, h => by
    have h1 : [] = l := congrArg Prod.fst (Option.some.inj h)
    have h2 : p = q := congrArg Prod.snd (Option.some.inj h)
    rw [← h1]
    exact ⟨Nat.le_of_eq h2, fun w hw => absurd hw List.not_mem_nil⟩
  | k + 1, p, l, q, h => by
    unfold ztxo at h
    by_cases hc : p + 9 ≤ e ∧ (b (p + 8)).toNat ≤ 200 ∧ p + 9 + (b (p + 8)).toNat ≤ e
    · rw [if_pos hc] at h
      obtain ⟨v, hv, hq⟩ := Option.map_eq_some_iff.mp h
      have h1 : (p, (b (p + 8)).toNat) :: v.1 = l := congrArg Prod.fst hq
      have h2 : v.2 = q := congrArg Prod.snd hq
      obtain ⟨a1, a2⟩ := ztxo_mem (l := v.1) (q := v.2) hv
      rw [← h1]
      refine ⟨by omega, fun w hw => ?_⟩
      rcases List.mem_cons.mp hw with rfl | hw
      · exact ⟨Nat.le_refl _, by omega, hc.2.2, rfl, hc.2.1⟩
      · obtain ⟨c1, c2, c3, c4⟩ := a2 w hw
        exact ⟨by omega, by omega, c3, c4⟩
    · rw [if_neg hc] at h
      exact absurd h (by simp)
/-- sizes and places of a transaction that was read -/
theorem ztx_spec {b : Nat → UInt8} {s e : Nat} {x : List (Nat × Nat) × List (Nat × Nat) × Nat} (h : ztx b s e = some x) :
    x.1.length ≤ 8 ∧ x.2.1.length ≤ 8 ∧ s + 10 ≤ x.2.2 ∧ x.2.2 ≤ e ∧ (∀ w ∈ x.1, s + 5 ≤ w.1 ∧ w.1 + 41 + w.2 + 5 ≤ x.2.2 ∧ w.2 = (b (w.1 + 36)).toNat ∧ w.2 ≤ 200) ∧ (∀ w ∈ x.2.1, s + 6 ≤ w.1 ∧ w.1 + 9 + w.2 + 4 ≤ x.2.2 ∧ w.2 = (b (w.1 + 8)).toNat ∧ w.2 ≤ 200) := by
  unfold ztx at h
  by_cases hc : s + 5 ≤ e ∧ (b (s + 4)).toNat ≤ 8
  · rw [if_pos hc] at h
    obtain ⟨a, ha, h⟩ := Option.bind_eq_some_iff.mp h
    by_cases hc2 : a.2 + 1 ≤ e ∧ (b a.2).toNat ≤ 8
    · rw [if_pos hc2] at h
      obtain ⟨c, hcc, h⟩ := Option.bind_eq_some_iff.mp h
      by_cases hc3 : c.2 + 4 ≤ e
      · rw [if_pos hc3] at h
        have hx : (a.1, c.1, c.2 + 4) = x := Option.some.inj h
        rw [← hx]
        obtain ⟨a1, a2⟩ := ztxi_mem (l := a.1) (q := a.2) ha
        obtain ⟨c1, c2⟩ := ztxo_mem (l := c.1) (q := c.2) hcc
        have l1 := ztxi_len (l := a.1) (q := a.2) ha
        have l2 := ztxo_len (l := c.1) (q := c.2) hcc
        refine ⟨?_, ?_, ?_, hc3, fun w hw => ?_, fun w hw => ?_⟩
        · show a.1.length ≤ 8
          omega
        · show c.1.length ≤ 8
          omega
        · show s + 10 ≤ c.2 + 4
          omega
        · obtain ⟨w1, w2, w3, w4, w5⟩ := a2 w hw
          exact ⟨w1, by show w.1 + 41 + w.2 + 5 ≤ c.2 + 4; omega, w4, w5⟩
        · obtain ⟨w1, w2, w3, w4, w5⟩ := c2 w hw
          exact ⟨by omega, by show w.1 + 9 + w.2 + 4 ≤ c.2 + 4; omega, w4, w5⟩
      · rw [if_neg hc3] at h
        exact absurd h (by simp)
    · rw [if_neg hc2] at h
      exact absurd h (by simp)
  · rw [if_neg hc] at h
    exact absurd h (by simp)
