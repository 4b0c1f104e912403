/-! Coins: inputs that are all different find their coins one after another. -/
theorem w_fd_ne {nm : List UInt8} {ix : Nat} : ∀ {cs : List w_cn} {i p : Nat} {c : w_cn}, cs[p]? = some c → c.1 = nm → c.2.1 = ix → w_fd cs nm ix i ≠ none
  | [], _, p, c, h, _, _ => by simp at h
  | a :: r, i, p, c, h, h1, h2 => by
    unfold w_fd
    by_cases q : a.1 = nm ∧ a.2.1 = ix
    · rw [if_pos q]
      exact fun w => by cases w
    · rw [if_neg q]
      cases p with
      | zero =>
        have e : a = c := Option.some.inj h
        rw [e] at q
        exact absurd ⟨h1, h2⟩ q
      | succ p => exact w_fd_ne (p := p) h h1 h2
theorem w_dc_mem {cs : List w_cn} {k p : Nat} {c : w_cn} (hc : cs[p]? = some c) (hk : k < cs.length) (hp : p ≠ k) : ∃ q : Nat, (w_dc cs k)[q]? = some c := by
  obtain ⟨hl, -⟩ := List.getElem?_eq_some_iff.mp hc
  by_cases h : p < cs.length - 1
  · exact ⟨p, by rw [w_dc_at h, if_neg fun w => hp w.symm]; exact hc⟩
  · have e : p = cs.length - 1 := by omega
    refine ⟨k, ?_⟩
    rw [w_dc_at (by omega), if_pos rfl, ← w_last_c (by omega), ← e]
    exact hc
theorem w_dok_of {tb : List UInt8} {y : w_y} (hne : ∀ i j, i < j → j < y.1.length → ¬ (w_in1 tb y i = w_in1 tb y j ∧ w_in2 tb y i = w_in2 tb y j)) : ∀ (d i : Nat) (cs : List w_cn), i + d = y.1.length → (∀ j, i ≤ j → j < y.1.length → ∃ (p : Nat) (c : w_cn), cs[p]? = some c ∧ c.1 = w_in1 tb y j ∧ c.2.1 = w_in2 tb y j) → w_dok tb y d i cs := by
  intro d
  induction d with
  | zero => intro i cs hi h; exact trivial
  | succ d ih =>
    intro i cs hi h
    obtain ⟨p, c, h1, h2, h3⟩ := h i (Nat.le_refl i) (by omega)
    cases hf : w_fd cs (w_in1 tb y i) (w_in2 tb y i) 0 with
    | none => exact absurd hf (w_fd_ne h1 h2 h3)
    | some k =>
      have hlt := (w_fd_lt hf).2
      obtain ⟨ck, k1, k2, k3⟩ := w_fd_at hf
      rw [Nat.sub_zero] at k1
      refine ⟨k, hf, ih (i + 1) (w_dc cs k) (by omega) fun j hj hj2 => ?_⟩
      obtain ⟨q, c', g1, g2, g3⟩ := h j (by omega) hj2
      have hq : q ≠ k := fun w => by
        rw [w, k1] at g1
        have e := Option.some.inj g1
        rw [← e] at g2 g3
        exact hne i j (by omega) hj2 ⟨k2.symm.trans g2, k3.symm.trans g3⟩
      obtain ⟨q', hq'⟩ := w_dc_mem g1 (by omega) hq
      exact ⟨q', c', hq', g2, g3⟩
theorem w_dok_all {tb : List UInt8} {y : w_y} {cs : List w_cn} (hne : ∀ i j, i < j → j < y.1.length → ¬ (w_in1 tb y i = w_in1 tb y j ∧ w_in2 tb y i = w_in2 tb y j)) (hall : ∀ i, i < y.1.length → w_cf cs tb y i ≠ none) : w_dok tb y y.1.length 0 cs := by
  refine w_dok_of hne y.1.length 0 cs (Nat.zero_add _) fun j _ hj => ?_
  cases h : w_fd cs (w_in1 tb y j) (w_in2 tb y j) 0 with
  | none => exact absurd (w_cf_none.mpr h) (hall j hj)
  | some k =>
    obtain ⟨c, h1, h2, h3⟩ := w_fd_at h
    rw [Nat.sub_zero] at h1
    exact ⟨k, c, h1, h2, h3⟩
