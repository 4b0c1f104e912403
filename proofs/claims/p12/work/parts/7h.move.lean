/-! Only a transaction's own bytes count, wherever they lie. -/
theorem ztxi_loc {b c : Nat → UInt8} {e e' m : Nat} : ∀ {k p : Nat} {l : List (Nat × Nat)} {q : Nat}, ztxi b e k p = some (l, q) → (∀ i, p ≤ i → i < m → c i = b i) → q ≤ m → q ≤ e' → ztxi c e' k p = some (l, q)
  | 0, p, l, q, h, _, _, _ => h
  | k + 1, p, l, q, h, hm, h1, h2 => by
    unfold ztxi at h ⊢
    by_cases hc : p + 37 ≤ e ∧ (b (p + 36)).toNat ≤ 200 ∧ p + 41 + (b (p + 36)).toNat ≤ e
    · rw [if_pos hc] at h
      obtain ⟨w, hw, hq⟩ := Option.map_eq_some_iff.mp h
      have hq2 : w.2 = q := congrArg Prod.snd hq
      have hp := (ztxi_mem (l := w.1) (q := w.2) hw).1
      have hb : c (p + 36) = b (p + 36) := hm _ (by omega) (by omega)
      rw [hb, if_pos ⟨by omega, hc.2.1, by omega⟩, ztxi_loc (l := w.1) (q := w.2) hw (fun i hi hi2 => hm i (by omega) hi2) (by omega) (by omega)]
      exact congrArg some hq
    · rw [if_neg hc] at h
      exact absurd h (by simp)
theorem ztxo_loc {b c : Nat → UInt8} {e e' m : Nat} : ∀ {k p : Nat} {l : List (Nat × Nat)} {q : Nat}, ztxo b e k p = some (l, q) → (∀ i, p ≤ i → i < m → c i = b i) → q ≤ m → q ≤ e' → ztxo c e' k p = some (l, q)
  | 0, p, l, q, h, _, _, _ => h
  | k + 1, p, l, q, h, hm, h1, h2 => by
    unfold ztxo at h ⊢
    by_cases hc : p + 9 ≤ e ∧ (b (p + 8)).toNat ≤ 200 ∧ p + 9 + (b (p + 8)).toNat ≤ e
    · rw [if_pos hc] at h
      obtain ⟨w, hw, hq⟩ := Option.map_eq_some_iff.mp h
      have hq2 : w.2 = q := congrArg Prod.snd hq
      have hp := (ztxo_mem (l := w.1) (q := w.2) hw).1
      have hb : c (p + 8) = b (p + 8) := hm _ (by omega) (by omega)
      rw [hb, if_pos ⟨by omega, hc.2.1, by omega⟩, ztxo_loc (l := w.1) (q := w.2) hw (fun i hi hi2 => hm i (by omega) hi2) (by omega) (by omega)]
      exact congrArg some hq
    · rw [if_neg hc] at h
      exact absurd h (by simp)
theorem ztx_loc {b c : Nat → UInt8} {s e e' : Nat} {x : List (Nat × Nat) × List (Nat × Nat) × Nat} (h : ztx b s e = some x) (hm : ∀ i, s ≤ i → i < x.2.2 → c i = b i) (he : x.2.2 ≤ e') : ztx c s e' = some x := by
  have sp := ztx_spec h
  unfold ztx at h ⊢
  by_cases hc : s + 5 ≤ e ∧ (b (s + 4)).toNat ≤ 8
  · rw [if_pos hc] at h
    obtain ⟨a, ha, h⟩ := Option.bind_eq_some_iff.mp h
    by_cases hc2 : a.2 + 1 ≤ e ∧ (b a.2).toNat ≤ 8
    · rw [if_pos hc2] at h
      obtain ⟨d, hd, h⟩ := Option.bind_eq_some_iff.mp h
      by_cases hc3 : d.2 + 4 ≤ e
      · rw [if_pos hc3] at h
        have hx : (a.1, d.1, d.2 + 4) = x := Option.some.inj h
        have hx2 : d.2 + 4 = x.2.2 := congrArg (fun y => y.2.2) hx
        obtain ⟨a1, a2⟩ := ztxi_mem (l := a.1) (q := a.2) ha
        obtain ⟨c1, c2⟩ := ztxo_mem (l := d.1) (q := d.2) hd
        rw [hm (s + 4) (by omega) (by omega), if_pos ⟨by omega, hc.2⟩, ztxi_loc (l := a.1) (q := a.2) ha (m := x.2.2) (fun i h1 h2 => hm i (by omega) h2) (by omega) (e' := e') (by omega), Option.bind_some]
        show (if a.2 + 1 ≤ e' ∧ (c a.2).toNat ≤ 8 then (ztxo c e' (c a.2).toNat (a.2 + 1)).bind fun c => if c.2 + 4 ≤ e' then some (a.1, c.1, c.2 + 4) else none else none) = some x
        rw [hm a.2 (by omega) (by omega), if_pos ⟨by omega, hc2.2⟩, ztxo_loc (l := d.1) (q := d.2) hd (m := x.2.2) (fun i h1 h2 => hm i (by omega) h2) (by omega) (e' := e') (by omega), Option.bind_some]
        show (if d.2 + 4 ≤ e' then some (a.1, d.1, d.2 + 4) else none) = some x
        rw [if_pos (by omega), hx]
      · rw [if_neg hc3] at h
        exact absurd h (by simp)
    · rw [if_neg hc2] at h
      exact absurd h (by simp)
  · rw [if_neg hc] at h
    exact absurd h (by simp)
/-- the same bytes elsewhere -/
def zag (b : Nat → UInt8) (s : Nat) (c : Nat → UInt8) (s' m : Nat) : Prop := ∀ i, i < m → c (s' + i) = b (s + i)
theorem ztx_move {b : Nat → UInt8} {s e : Nat} {x : List (Nat × Nat) × List (Nat × Nat) × Nat} (hse : s ≤ e) (h : ztx b s e = some x) :
    ∃ y, x = zshx s y ∧ ztx (fun i => b (s + i)) 0 y.2.2 = some y ∧ ∀ c s' e', zag b s c s' y.2.2 → s' + y.2.2 ≤ e' → ztx c s' e' = some (zshx s' y) := by
  obtain ⟨n, rfl⟩ : ∃ n, e = s + n := ⟨e - s, by omega⟩
  rw [ztx_shift] at h
  obtain ⟨y, hy, rfl⟩ := Option.map_eq_some_iff.mp h
  refine ⟨y, rfl, ztx_loc hy (fun _ _ _ => rfl) (Nat.le_refl _), fun c s' e' hag hle => ?_⟩
  obtain ⟨k, rfl⟩ : ∃ k, e' = s' + k := ⟨e' - s', by omega⟩
  rw [ztx_shift, ztx_loc (c := fun i => c (s' + i)) (e' := k) hy (fun i _ hi => hag i hi) (by omega)]
  rfl
section MOVE
variable {b c : Nat → UInt8} {s s' m : Nat}
theorem zho_move (h : zag b s c s' m) {q : Nat} (hq : q ≤ m) : ∀ k, k ≤ q → zho c (s' + q) k = zho b (s + q) k
  | 0, _ => rfl
  | k + 1, hk => by
    unfold zho
    rw [zho_move h hq k (by omega), show s' + q - (k + 1) = s' + (q - (k + 1)) by omega, show s + q - (k + 1) = s + (q - (k + 1)) by omega, h _ (by omega)]
theorem zle_move (h : zag b s c s' m) {q k : Nat} (hq : q ≤ m) (hk : k ≤ q) : zle c (s' + q) k = zle b (s + q) k := by
  rw [zle_zho, zle_zho, zho_move h hq k hk]
theorem zeq_move (h : zag b s c s' m) {p q n : Nat} (hp : p + n ≤ m) (hq : q + n ≤ m) : zeq c c (s' + p) (s' + q) n = zeq b b (s + p) (s + q) n := by
  refine jbl ?_
  rw [zeq_t, zeq_t]
  have e : ∀ i, i < n → c (s' + p + i) = b (s + p + i) ∧ c (s' + q + i) = b (s + q + i) := fun i hi => by
    rw [show s' + p + i = s' + (p + i) by omega, show s + p + i = s + (p + i) by omega, show s' + q + i = s' + (q + i) by omega, show s + q + i = s + (q + i) by omega]
    exact ⟨h _ (by omega), h _ (by omega)⟩
  exact ⟨fun w i hi => by rw [← (e i hi).1, ← (e i hi).2]; exact w i hi, fun w i hi => by rw [(e i hi).1, (e i hi).2]; exact w i hi⟩
theorem zsh1_len {s : Nat} {l : List (Nat × Nat)} : (zsh1 s l).length = l.length := List.length_map _
theorem zP_sh {l : List (Nat × Nat)} {i : Nat} (h : i < l.length) : zP (zsh1 s l) i = s + zP l i := by
  rw [zP_get (by rw [zsh1_len]; exact h), zP_get h]
  unfold zsh1
  rw [List.getElem_map]
theorem zP_in {l : List (Nat × Nat)} {k : Nat} (h : ∀ w ∈ l, w.1 + k ≤ m) {i : Nat} (hi : i < l.length) : zP l i + k ≤ m := by
  rw [zP_get hi]
  exact h _ (List.getElem_mem hi)
theorem ztw_move (h : zag b s c s' m) {l : List (Nat × Nat)} (hl : ∀ w ∈ l, w.1 + 41 ≤ m) : ztw c (zsh1 s' l) = ztw b (zsh1 s l) := by
  have e : ∀ i j, i < l.length → j < l.length → zpr c (zsh1 s' l) i j = zpr b (zsh1 s l) i j := fun i j hi hj => by
    have q1 := zP_in hl hi
    have q2 := zP_in hl hj
    unfold zpr
    rw [zP_sh hi, zP_sh hj, zP_sh hi, zP_sh hj, zeq_move h (by omega) (by omega), Nat.add_assoc s', Nat.add_assoc s', zho_move h (by omega) 4 (by omega), zho_move h (by omega) 4 (by omega), Nat.add_assoc s, Nat.add_assoc s]
  refine jbl ?_
  rw [ztw_t, ztw_t, zsh1_len, zsh1_len]
  exact ⟨fun ⟨i, h1, j, h2, h3⟩ => ⟨i, h1, j, h2, by rw [← e i j h1 (by omega)]; exact h3⟩, fun ⟨i, h1, j, h2, h3⟩ => ⟨i, h1, j, h2, by rw [e i j h1 (by omega)]; exact h3⟩⟩
theorem zvs_move (h : zag b s c s' m) {l : List (Nat × Nat)} (hl : ∀ w ∈ l, w.1 + 9 ≤ m) : zvs c (zsh1 s' l) = zvs b (zsh1 s l) := by
  unfold zvs zsh1
  rw [List.map_map, List.map_map]
  refine List.map_congr_left fun w hw => ?_
  have := hl w hw
  show zle c (s' + w.1 + 8) 8 = zle b (s + w.1 + 8) 8
  rw [Nat.add_assoc, Nat.add_assoc, zle_move h (by omega) (by omega)]
theorem zfl_move (h : zag b s c s' m) {ins outs : List (Nat × Nat)} (hi : ∀ w ∈ ins, w.1 + 41 ≤ m) (ho : ∀ w ∈ outs, w.1 + 9 ≤ m) : zfl c (zsh1 s' ins) (zsh1 s' outs) = zfl b (zsh1 s ins) (zsh1 s outs) := by
  unfold zfl
  rw [ztw_move h hi, zvs_move h ho, zsh1_len, zsh1_len, zsh1_len, zsh1_len]
theorem zrt_move (h : zag b s c s' m) {len len' p : Nat} (hp : p + 36 ≤ m) (hl : s + m ≤ len) (hl' : s' + m ≤ len') : zrt c len' (s' + p) = zrt b len (s + p) := by
  refine jbl ?_
  rw [zrt_t (by omega), zrt_t (by omega), Nat.add_assoc s', Nat.add_assoc s, zho_move h hp 4 (by omega)]
  have e : ∀ j, j < 32 → c (s' + p + j) = b (s + p + j) := fun j hj => by
    rw [Nat.add_assoc, Nat.add_assoc]
    exact h _ (by omega)
  exact ⟨fun w => ⟨w.1, fun j hj => by rw [← e j hj]; exact w.2 j hj⟩, fun w => ⟨w.1, fun j hj => by rw [e j hj]; exact w.2 j hj⟩⟩
theorem zany_move (h : zag b s c s' m) {len len' : Nat} {l : List (Nat × Nat)} (hl : ∀ w ∈ l, w.1 + 41 ≤ m) (h1 : s + m ≤ len) (h2 : s' + m ≤ len') : zany c len' ((zsh1 s' l).map (·.1)) = zany b len ((zsh1 s l).map (·.1)) := by
  have e : ((zsh1 s' l).map (·.1)).any (zrt c len') = ((zsh1 s l).map (·.1)).any (zrt b len) := by
    unfold zsh1
    rw [List.map_map, List.map_map, List.any_map, List.any_map]
    refine jbl ?_
    rw [List.any_eq_true, List.any_eq_true]
    have q : ∀ w ∈ l, zrt c len' (s' + w.1) = zrt b len (s + w.1) := fun w hw => zrt_move h (by have := hl w hw; omega) h1 h2
    exact ⟨fun ⟨w, a1, a2⟩ => ⟨w, a1, (q w a1).symm.trans a2⟩, fun ⟨w, a1, a2⟩ => ⟨w, a1, (q w a1).trans a2⟩⟩
  unfold zany
  rw [e]
end MOVE
