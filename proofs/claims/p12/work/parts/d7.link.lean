/-! What is read, by its own bytes. -/
theorem zsh1_at {s k : Nat} {l : List (Nat × Nat)} (hk : k < l.length) : (zsh1 s l)[k]? = some (s + (l.getD k (0, 0)).1, (l.getD k (0, 0)).2) := by
  unfold zsh1
  rw [List.getElem?_map, List.getD_eq_getElem?_getD, List.getElem?_eq_getElem hk]
  rfl
theorem zsh1_0 {l : List (Nat × Nat)} : zsh1 0 l = l := by
  unfold zsh1
  refine (List.map_congr_left (g := id) fun w _ => ?_).trans (List.map_id l)
  show (0 + w.1, w.2) = w
  rw [Nat.zero_add]
theorem zcut_gd {b : Nat → UInt8} {p n i : Nat} (hi : i < n) : (zcut b p n).getD i 0 = b (p + i) := by
  unfold zcut
  rw [List.getD_eq_getElem?_getD, List.getElem?_map, List.getElem?_eq_getElem (by rw [List.length_range]; exact hi), List.getElem_range]
  rfl
theorem zcut_row {H : jH} {r p n : Nat} : zRow H r p (zcut (jB H r) p n) := fun i u hi => by
  obtain ⟨h1, -⟩ := List.getElem?_eq_some_iff.mp hi
  rw [zcut_len] at h1
  have := zcut_gd (b := jB H r) (p := p) h1
  rw [List.getD_eq_getElem?_getD, hi] at this
  exact this.symm
/-- a transaction's own bytes -/
theorem w_own {b : Nat → UInt8} {s e : Nat} {x : List (Nat × Nat) × List (Nat × Nat) × Nat} (hse : s ≤ e) (hle : e ≤ s + 2000) (h : ztx b s e = some x) : ∃ y, x = zshx s y ∧ w_ty (zcut b s y.2.2) y ∧ s + y.2.2 ≤ e ∧ (zcut b s y.2.2).length = y.2.2 := by
  obtain ⟨y, e1, e2, -⟩ := ztx_move hse h
  have sp := ztx_spec h
  have e3 : x.2.2 = s + y.2.2 := by rw [e1]; rfl
  have hl : (zcut b s y.2.2).length = y.2.2 := zcut_len
  refine ⟨y, e1, ⟨?_, hl.symm, by omega⟩, by omega, hl⟩
  rw [hl]
  exact ztx_loc e2 (fun i _ hi => zcut_gd hi) (Nat.le_refl _)
theorem w_x_of {o row len s : Nat} {y : w_y} {nm : List UInt8} {H : jH} (h : zTx10 o row len s (jB H row) (zshx s y) H) (hy : w_ty (zcut (jB H row) s y.2.2) y) (hk : jK H row = (101, len)) (hlen : len < 2000000) (hl : s + y.2.2 ≤ len) (ho : 422 ≤ o) (hr : 422 ≤ row) (hn : zRow H (o + 1) 0 nm) (hn2 : nm.length = 32) : w_x o row s len (zcut (jB H row) s y.2.2) y nm H := by
  obtain ⟨a1, a2, a3, a4, a5, a6, a7, a8, a9, a10, a11, a12, a13, a14, a15⟩ := h
  have l1 : (zcut (jB H row) s y.2.2).length = y.2.2 := zcut_len
  have n1 : (zshx s y).1.length = y.1.length := List.length_map _
  have n2 : (zshx s y).2.1.length = y.2.1.length := List.length_map _
  have e22 : (zshx s y).2.2 - s = y.2.2 := Nat.add_sub_cancel_left _ _
  have ag : zag (fun i => (zcut (jB H row) s y.2.2).getD i 0) 0 (jB H row) s y.2.2 := fun i hi => by
    rw [Nat.zero_add]
    exact (zcut_gd hi).symm
  have sp := ztx_spec hy.1
  have b1 : ∀ w ∈ y.1, w.1 + 41 ≤ y.2.2 := fun w hw => by have := sp.2.2.2.2.1 w hw; omega
  have b2 : ∀ w ∈ y.2.1, w.1 + 9 ≤ y.2.2 := fun w hw => by have := sp.2.2.2.2.2 w hw; omega
  refine ⟨⟨a1, a2, hk, by omega, hlen, zcut_row⟩, ⟨a3, by rw [l1, ← e22]; exact a4, a7, by rw [← n1]; exact a8, a10, by rw [← n2]; exact a11⟩, fun k hk => ?_, fun k hk => ?_, a5, a6, hn, hn2, ?_, ?_, ho, hr⟩
  · refine a9 k _ ?_
    rw [List.getElem?_map]
    show Option.map (·.1) ((zsh1 s y.1)[k]?) = _
    rw [zsh1_at hk]
    rfl
  · refine a12 k _ ?_
    rw [List.getElem?_map]
    show Option.map (·.1) ((zsh1 s y.2.1)[k]?) = _
    rw [zsh1_at hk]
    rfl
  · refine a13.trans ((zsumv_zvs (l := zsh1 s y.2.1) (zsh1_in b2 hl)).trans ?_)
    have := zvs_move ag b2
    rw [zsh1_0] at this
    rw [this]
    rfl
  · have := zany_move ag b1 (len := (zcut (jB H row) s y.2.2).length) (len' := len) (by omega) hl
    rw [zsh1_0] at this
    exact a14.trans this
