/-! The class's object of a transaction and the reference's: they answer alike. -/
theorem zsumv_zvs {b : Nat → UInt8} {len : Nat} : ∀ {l : List (Nat × Nat)} {a : Int64}, (∀ w ∈ l, w.1 + 9 ≤ len) → (l.map (·.1)).foldl (fun s p => s + zv2 b len p) a = (zvs b l).foldl (· + ·) a
  | [], a, _ => rfl
  | w :: r, a, h => by
    have hw := h w (List.mem_cons_self ..)
    show (r.map (·.1)).foldl (fun s p => s + zv2 b len p) (a + zv2 b len w.1) = (zvs b r).foldl (· + ·) (a + zle b (w.1 + 8) 8)
    rw [zv2_zle (by omega)]
    exact zsumv_zvs fun w hw => h w (List.mem_cons_of_mem _ hw)
/-- one transaction, held by an object of the class and by one of the reference -/
def zBt (o row len s t row' len' s' e' : Nat) (y : List (Nat × Nat) × List (Nat × Nat) × Nat) (H : jH) : Prop :=
  zO10 o row len H ∧ zTx10 o row len s (jB H row) (zshx s y) H ∧ zT t ∧ zTx17 t row' len' s' e' (jB H row') (zshx s' y) H ∧ zag (jB H row) s (jB H row') s' y.2.2 ∧ ztx (fun i => jB H row (s + i)) 0 y.2.2 = some y ∧ s + y.2.2 ≤ len
section BOTH
variable {o row len s t row' len' s' e' : Nat} {y : List (Nat × Nat) × List (Nat × Nat) × Nat} {H : jH}
theorem zsh1_in {s m k : Nat} {l : List (Nat × Nat)} (h : ∀ w ∈ l, w.1 + k ≤ m) {len : Nat} (hl : s + m ≤ len) : ∀ w ∈ zsh1 s l, w.1 + k ≤ len := by
  intro w hw
  unfold zsh1 at hw
  obtain ⟨v, hv, rfl⟩ := List.mem_map.mp hw
  have := h v hv
  show s + v.1 + k ≤ len
  omega
theorem zBt_in (h : zBt o row len s t row' len' s' e' y H) : y.1.length ≤ 8 ∧ y.2.1.length ≤ 8 ∧ (∀ w ∈ y.1, w.1 + 41 ≤ y.2.2) ∧ (∀ w ∈ y.2.1, w.1 + 9 ≤ y.2.2) := by
  obtain ⟨-, -, -, -, -, hy, -⟩ := h
  obtain ⟨q1, q2, q3, q4, q5, q6⟩ := ztx_spec hy
  exact ⟨q1, q2, fun w hw => by have := q5 w hw; omega, fun w hw => by have := q6 w hw; omega⟩
theorem zBt_fault (h : zBt o row len s t row' len' s' e' y H) : ∃ v, F_10_fault o H = some (v, H) ∧ F_17_fault t H = some (v, H) := by
  obtain ⟨m1, m2, b1, b2⟩ := zBt_in h
  obtain ⟨hO, hx, ht, hz, hag, hy, hlen⟩ := h
  obtain ⟨c1, c2, c3, c4, c5, c6, c7, c8, c9, c10, c11, c12, c13, c14, c15⟩ := hx
  obtain ⟨⟨d1, d2, d3, d4, d5, d6, d7, d8, d9, d10⟩, d11, d12, d13, d14, d15⟩ := hz
  have hl' : s' + y.2.2 ≤ len' := by
    have : s' + y.2.2 ≤ e' := d9
    omega
  have l1 : (zsh1 s y.1).length = y.1.length := zsh1_len
  have l2 : (zsh1 s y.2.1).length = y.2.1.length := zsh1_len
  have l3 : (zsh1 s' y.1).length = y.1.length := zsh1_len
  have l4 : (zsh1 s' y.2.1).length = y.2.1.length := zsh1_len
  refine ⟨_, z10_fault (ins := zsh1 s y.1) (outs := zsh1 s y.2.1) hO rfl c7 c8 (by omega) c9 (zsh1_in b1 hlen) c10 c11 (by omega) c12 (zsh1_in b2 hlen), ?_⟩
  rw [← zfl_move hag b1 b2]
  exact z17_fault (ins := zsh1 s' y.1) (outs := zsh1 s' y.2.1) ht d1 d2 d3 d8 rfl d12 (by omega) d14 (zsh1_in b1 hl') d13 (by omega) d15
theorem zBt_sum (h : zBt o row len s t row' len' s' e' y H) : F_17_sum t H = some (jL H o 6, H) := by
  obtain ⟨m1, m2, b1, b2⟩ := zBt_in h
  obtain ⟨hO, hx, ht, hz, hag, hy, hlen⟩ := h
  obtain ⟨c1, c2, c3, c4, c5, c6, c7, c8, c9, c10, c11, c12, c13, c14, c15⟩ := hx
  obtain ⟨⟨d1, d2, d3, d4, d5, d6, d7, d8, d9, d10⟩, d11, d12, d13, d14, d15⟩ := hz
  have l4 : (zsh1 s' y.2.1).length = y.2.1.length := zsh1_len
  have lv : (zvs (jB H row') (zsh1 s' y.2.1)).length = (zsh1 s' y.2.1).length := List.length_map _
  have c13' : jL H o 6 = (zvs (jB H row) (zsh1 s y.2.1)).foldl (· + ·) 0 := c13.trans (zsumv_zvs (zsh1_in b2 hlen))
  rw [c13', ← zvs_move hag b2]
  refine z17_sum (vs := zvs (jB H row') (zsh1 s' y.2.1)) ht d1 (by rw [lv]; exact d13) (by omega) fun k v hkv => ?_
  unfold zvs at hkv
  rw [List.getElem?_map] at hkv
  obtain ⟨w, hw, rfl⟩ := Option.map_eq_some_iff.mp hkv
  exact (d15 k w hw).1
theorem zBt_root (h : zBt o row len s t row' len' s' e' y H) : F_17_hasRoot t H = some (jI H o 7, H) := by
  obtain ⟨m1, m2, b1, b2⟩ := zBt_in h
  obtain ⟨hO, hx, ht, hz, hag, hy, hlen⟩ := h
  obtain ⟨c1, c2, c3, c4, c5, c6, c7, c8, c9, c10, c11, c12, c13, c14, c15⟩ := hx
  obtain ⟨⟨d1, d2, d3, d4, d5, d6, d7, d8, d9, d10⟩, d11, d12, d13, d14, d15⟩ := hz
  have hl' : s' + y.2.2 ≤ len' := by
    have : s' + y.2.2 ≤ e' := d9
    omega
  have l3 : (zsh1 s' y.1).length = y.1.length := zsh1_len
  have c14' : jI H o 7 = zany (jB H row) len ((zsh1 s y.1).map (·.1)) := c14
  rw [c14', ← zany_move hag b1 hlen hl']
  exact z17_hasRoot (ins := zsh1 s' y.1) ht d1 d2 d3 d8 rfl d12 (by omega) d14 (zsh1_in b1 hl')
end BOTH
