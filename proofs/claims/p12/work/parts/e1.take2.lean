/-! The class: what is wrong with a transaction over the coins. -/
theorem jRs_396 : ∀ q ∈ jRs, q.1 ≠ 396 := by decide +kernel
theorem w_xO {o row s len : Nat} {tb nm : List UInt8} {y : w_y} {H : jH} (hs : jsh H) (h : w_x o row s len tb y nm H) : zO10 o row len H := by
  obtain ⟨⟨a1, a2, a3, a4, a5, a6⟩, -, -, -, -, -, -, -, -, -, d7, d8⟩ := h
  exact ⟨hs, a1, a2, a3, a5, d7, fun e => by rw [e] at a3; rw [a3] at a1; exact absurd (show (101 : Nat) = 10 from a1) (by decide)⟩
section TAKE2
variable {o row s len : Nat} {tb nm : List UInt8} {y : w_y} {cs : List w_cn} {H : jH}
theorem z10_indexx (hs : jsh H) (hy : w_ty tb y) (h : w_x o row s len tb y nm H) {i : Nat} (hi : i < y.1.length) : F_10_index o (Int32.ofNat i) H = some (Int32.ofNat (w_in2 tb y i), H) := by
  have hO := w_xO hs h
  obtain ⟨⟨a1, a2, a3, a4, a5, a6⟩, ⟨b1, b2, b3, b4, b5, b6⟩, c1, c2, -⟩ := h
  have l8 : y.1.length ≤ 8 := (ztx_spec hy.1).1
  obtain ⟨m1, m2, m3, m4⟩ := w_in y tb hy hi
  have n1 : (zsh1 s y.1).length = y.1.length := List.length_map _
  have sp := ztx_spec hy.1
  have e := z10_index (ins := zsh1 s y.1) hO rfl b3 (by rw [n1]; exact b4) (by omega) (fun k q hk => ?_) (zsh1_in (m := tb.length) (k := 41) (fun w hw => by have := sp.2.2.2.2.1 w hw; rw [hy.2.1] at this; omega) a4) (k := i) (by omega)
  · have ez : zP (zsh1 s y.1) i = s + (y.1.getD i (0, 0)).1 := by
      unfold zP
      rw [List.getD_eq_getElem?_getD, zsh1_at hi]
      rfl
    rw [ez, Nat.add_assoc, w_zho a6 (by omega) (by omega)] at e
    exact e
  · rw [List.getElem?_map] at hk
    obtain ⟨w, hw, rfl⟩ := Option.map_eq_some_iff.mp hk
    obtain ⟨hl, -⟩ := List.getElem?_eq_some_iff.mp hw
    rw [n1] at hl
    rw [zsh1_at hl] at hw
    rw [← Option.some.inj hw]
    exact c1 k hl
theorem z10_worthx (hs : jsh H) (hy : w_ty tb y) (h : w_x o row s len tb y nm H) {k : Nat} (hk : k < y.2.1.length) : F_10_worth o (Int32.ofNat k) H = some (Int64.ofNat (zho (fun i => tb.getD i 0) ((y.2.1.getD k (0, 0)).1 + 8) 8), H) := by
  have hO := w_xO hs h
  obtain ⟨⟨a1, a2, a3, a4, a5, a6⟩, ⟨b1, b2, b3, b4, b5, b6⟩, c1, c2, -⟩ := h
  have l8 : y.2.1.length ≤ 8 := (ztx_spec hy.1).2.1
  obtain ⟨m1, m2, m3, m4⟩ := w_out y tb hy hk
  rw [z10_worth hO b5 b6 l8 hk (c2 k hk) (by omega), zv2_zle (by omega), zle_zho, Nat.add_assoc, w_zho a6 (by omega) (by omega)]
theorem z2_worth (hs : jsh H) (h : w_CA cs H) {k : Nat} {c : w_cn} (hc : cs[k]? = some c) : F_2_worth 392 (Int32.ofNat k) H = some (w_cv c, H) := by
  obtain ⟨h1, h2, h3⟩ := h
  obtain ⟨ok, ⟨row, s, len, hx⟩, e1, e2⟩ := h3 k c hc
  obtain ⟨hl, -⟩ := List.getElem?_eq_some_iff.mp hc
  have k2 : (jK H 392).1 = 2 := gT (sK_392 hs)
  unfold F_2_worth B_2_worth_31
  have n0 : ¬ (Int32.ofNat k < 0) := fun q => absurd ((jo_lt (a := k) (b := 0) (by omega) (by decide)).mp q) (by omega)
  rw [if_neg n0, jg_t k2, h1, if_pos (by rw [jo_lt (by omega) (by omega)]; exact hl), jg_t k2, sR_392_0 hs, jg_t (gA (sK_393 hs) (jo_in (by omega) (by omega))), jg_t k2, sR_392_1 hs, jg_t (gA (sK_394 hs) (jo_in (by omega) (by omega))), jo_nat (n := k) (by omega), jg_t hx.1.1, e1, z10_worthx hs ok.2.1 hx ok.2.2, jb_ok]
  rfl
theorem z2_unripe {ht : Int32} (hs : jsh H) (h : w_CA cs H) {k : Nat} {c : w_cn} (hc : cs[k]? = some c) : ∃ v, F_2_isUnripe 392 (Int32.ofNat k) ht H = some (v, H) ∧ (v = 1 ∧ w_unr ht c ∨ v = 0 ∧ ¬ w_unr ht c) := by
  obtain ⟨h1, h2, h3⟩ := h
  obtain ⟨ok, ⟨row, s, len, hx⟩, e1, e2⟩ := h3 k c hc
  obtain ⟨hl, -⟩ := List.getElem?_eq_some_iff.mp hc
  have k2 : (jK H 392).1 = 2 := gT (sK_392 hs)
  have e7 := hx.2.2.2.2.2.2.2.2.2.1
  unfold F_2_isUnripe B_2_isUnripe_41 B_2_isUnripe_42
  have n0 : ¬ (Int32.ofNat k < 0) := fun q => absurd ((jo_lt (a := k) (b := 0) (by omega) (by decide)).mp q) (by omega)
  rw [if_neg n0, jg_t k2, h1, if_neg (by rw [jo_le (by omega) (by omega)]; omega), jg_t k2, sR_392_2 hs, jg_t (gA (sK_395 hs) (jo_in (by omega) (by omega))), jo_nat (n := k) (by omega), e2]
  by_cases q1 : 8 ≤ ht - Int32.ofNat c.2.2.2.2
  · exact ⟨0, by rw [if_pos q1, jg_t (Or.inl rfl)], Or.inr ⟨rfl, fun w => w.2 q1⟩⟩
  · rw [if_neg q1, jg_t k2, sR_392_0 hs, jg_t (gA (sK_393 hs) (jo_in (by omega) (by omega))), jg_t hx.1.1, e7]
    by_cases q2 : w_rt c.2.2.1 c.2.2.2.1 = 0
    · exact ⟨0, by rw [if_pos q2, jg_t (Or.inl rfl)], Or.inr ⟨rfl, fun w => w.1 q2⟩⟩
    · exact ⟨1, by rw [if_neg q2, jg_t (Or.inr rfl)], Or.inl ⟨rfl, q2, q1⟩⟩
end TAKE2
