/-! What is signed, as a list of bytes. -/
def w_b (n : Nat) : UInt8 := jbu (ji2b (Int32.ofNat n))
def w_sl (tb : List UInt8) (p n : Nat) : List UInt8 := (tb.drop p).take n
theorem w_sl_len {tb : List UInt8} {p n : Nat} (h : p + n ≤ tb.length) : (w_sl tb p n).length = n := by
  unfold w_sl
  rw [List.length_take, List.length_drop]
  omega
theorem w_sl_cut {H : jH} {r s p n : Nat} {tb : List UInt8} (h : zRow H r s tb) (hp : p + n ≤ tb.length) : zcut (jB H r) (s + p) n = w_sl tb p n := by
  refine List.ext_getElem? fun i => ?_
  unfold w_sl
  rw [List.getElem?_take, List.getElem?_drop]
  by_cases hi : i < n
  · have h1 : tb[p + i]? = some tb[p + i] := List.getElem?_eq_getElem (by omega)
    have h2 := h (p + i) _ h1
    unfold zcut
    rw [if_pos hi, h1, List.getElem?_map, List.getElem?_range hi, ← h2, ← Nat.add_assoc]
    rfl
  · rw [if_neg hi, List.getElem?_eq_none (by rw [zcut_len]; omega)]
/-- a transaction's bytes and what they are read as -/
abbrev w_y : Type := List (Nat × Nat) × List (Nat × Nat) × Nat
def w_ty (tb : List UInt8) (y : w_y) : Prop := ztx (fun i => tb.getD i 0) 0 tb.length = some y ∧ y.2.2 = tb.length ∧ tb.length ≤ 2000
def w_mi (tb : List UInt8) (w : Nat × Nat) (own al ba : Bool) (lk : List UInt8) : List UInt8 :=
  if own = true then w_sl tb w.1 36 ++ [w_b lk.length] ++ lk ++ w_sl tb (w.1 + 37 + w.2) 4
  else if al = true then [] else w_sl tb w.1 36 ++ [w_b 0] ++ (if ba = true then List.replicate 4 (w_b 0) else w_sl tb (w.1 + 37 + w.2) 4)
def w_ins (tb : List UInt8) (ins : List (Nat × Nat)) (inp : Nat) (al ba : Bool) (lk : List UInt8) : Nat → List UInt8
  | 0 => []
  | i + 1 => w_ins tb ins inp al ba lk i ++ w_mi tb (ins.getD i (0, 0)) (decide (i = inp)) al ba lk
def w_mo (tb : List UInt8) (w : Nat × Nat) (sk : Bool) : List UInt8 := if sk = true then List.replicate 8 (w_b 255) ++ [w_b 0] else w_sl tb w.1 (9 + w.2)
def w_outs (tb : List UInt8) (outs : List (Nat × Nat)) (inp : Nat) (b3 : Bool) : Nat → List UInt8
  | 0 => []
  | i + 1 => w_outs tb outs inp b3 i ++ w_mo tb (outs.getD i (0, 0)) (b3 && decide (i < inp))
def w_no (kd inp n : Nat) : Nat := if kd % 32 = 2 then 0 else if kd % 32 = 3 then inp + 1 else n
def w_ba (kd : Nat) : Bool := decide (kd % 32 = 2) || decide (kd % 32 = 3)
def w_m1 (tb : List UInt8) (y : w_y) (inp : Nat) (lk : List UInt8) (kd : Nat) : List UInt8 := w_sl tb 0 4 ++ [w_b (if 128 ≤ kd then 1 else y.1.length)]
def w_m2 (tb : List UInt8) (y : w_y) (inp : Nat) (lk : List UInt8) (kd : Nat) : List UInt8 := w_m1 tb y inp lk kd ++ w_ins tb y.1 inp (decide (128 ≤ kd)) (w_ba kd) lk y.1.length ++ [w_b (w_no kd inp y.2.1.length)]
def w_m3 (tb : List UInt8) (y : w_y) (inp : Nat) (lk : List UInt8) (kd : Nat) : List UInt8 := w_m2 tb y inp lk kd ++ w_outs tb y.2.1 inp (decide (kd % 32 = 3)) (w_no kd inp y.2.1.length)
def w_msg (tb : List UInt8) (y : w_y) (inp : Nat) (lk : List UInt8) (kd : Nat) : List UInt8 := w_m3 tb y inp lk kd ++ w_sl tb (tb.length - 4) 4 ++ [w_b kd] ++ List.replicate 3 (w_b 0)
/-! How long it is. -/
def w_wi (l : List (Nat × Nat)) (k : Nat) : Nat := (l.map fun w => k + w.2).sum
theorem ztxi_wi {b : Nat → UInt8} {e : Nat} : ∀ {k p : Nat} {l : List (Nat × Nat)} {q : Nat}, ztxi b e k p = some (l, q) → q = p + w_wi l 41
  | 0, p, l, q, h => by
    have h2 : ([], p) = (l, q) := Option.some.inj h
    obtain ⟨rfl, rfl⟩ := Prod.mk.inj h2
    rfl
  | k + 1, p, l, q, h => by
    unfold ztxi at h
    by_cases hc : p + 37 ≤ e ∧ (b (p + 36)).toNat ≤ 200 ∧ p + 41 + (b (p + 36)).toNat ≤ e
    · rw [if_pos hc] at h
      obtain ⟨w, hw, hq⟩ := Option.map_eq_some_iff.mp h
      obtain ⟨rfl, rfl⟩ := Prod.mk.inj hq
      have := ztxi_wi (l := w.1) (q := w.2) hw
      unfold w_wi at this ⊢
      rw [List.map_cons, List.sum_cons]
      show w.2 = p + (41 + (b (p + 36)).toNat + _)
      omega
    · rw [if_neg hc] at h
      cases h
theorem ztxo_wi {b : Nat → UInt8} {e : Nat} : ∀ {k p : Nat} {l : List (Nat × Nat)} {q : Nat}, ztxo b e k p = some (l, q) → q = p + w_wi l 9
  | 0, p, l, q, h => by
    have h2 : ([], p) = (l, q) := Option.some.inj h
    obtain ⟨rfl, rfl⟩ := Prod.mk.inj h2
    rfl
  | k + 1, p, l, q, h => by
    unfold ztxo at h
    by_cases hc : p + 9 ≤ e ∧ (b (p + 8)).toNat ≤ 200 ∧ p + 9 + (b (p + 8)).toNat ≤ e
    · rw [if_pos hc] at h
      obtain ⟨w, hw, hq⟩ := Option.map_eq_some_iff.mp h
      obtain ⟨rfl, rfl⟩ := Prod.mk.inj hq
      have := ztxo_wi (l := w.1) (q := w.2) hw
      unfold w_wi at this ⊢
      rw [List.map_cons, List.sum_cons]
      show w.2 = p + (9 + (b (p + 8)).toNat + _)
      omega
    · rw [if_neg hc] at h
      cases h
theorem ztx_wi {b : Nat → UInt8} {s e : Nat} {x : w_y} (h : ztx b s e = some x) : x.2.2 = s + 10 + w_wi x.1 41 + w_wi x.2.1 9 := by
  unfold ztx at h
  by_cases hc : s + 5 ≤ e ∧ (b (s + 4)).toNat ≤ 8
  · rw [if_pos hc] at h
    obtain ⟨a, ha, h⟩ := Option.bind_eq_some_iff.mp h
    by_cases hc2 : a.2 + 1 ≤ e ∧ (b a.2).toNat ≤ 8
    · rw [if_pos hc2] at h
      obtain ⟨d, hd, h⟩ := Option.bind_eq_some_iff.mp h
      by_cases hc3 : d.2 + 4 ≤ e
      · rw [if_pos hc3] at h
        obtain rfl := Option.some.inj h
        have q1 := ztxi_wi (l := a.1) (q := a.2) ha
        have q2 := ztxo_wi (l := d.1) (q := d.2) hd
        show d.2 + 4 = s + 10 + w_wi a.1 41 + w_wi d.1 9
        omega
      · rw [if_neg hc3] at h
        cases h
    · rw [if_neg hc2] at h
      cases h
  · rw [if_neg hc] at h
    cases h
theorem w_wi_take {l : List (Nat × Nat)} {k i : Nat} (hi : i < l.length) : w_wi (l.take (i + 1)) k = w_wi (l.take i) k + (k + (l.getD i (0, 0)).2) := by
  unfold w_wi
  rw [List.take_succ, List.getElem?_eq_getElem hi, List.map_append, List.sum_append, List.getD_eq_getElem?_getD, List.getElem?_eq_getElem hi]
  simp
theorem w_wi_le {l : List (Nat × Nat)} {k i : Nat} : w_wi (l.take i) k ≤ w_wi l k := by
  have : w_wi l k = w_wi (l.take i) k + w_wi (l.drop i) k := by
    unfold w_wi
    rw [← List.sum_append, ← List.map_append, List.take_append_drop]
  omega
theorem w_in (y : w_y) (tb : List UInt8) (hy : w_ty tb y) {i : Nat} (hi : i < y.1.length) : 5 ≤ (y.1.getD i (0, 0)).1 ∧ (y.1.getD i (0, 0)).1 + 41 + (y.1.getD i (0, 0)).2 + 5 ≤ tb.length ∧ (y.1.getD i (0, 0)).2 = (tb.getD ((y.1.getD i (0, 0)).1 + 36) 0).toNat ∧ (y.1.getD i (0, 0)).2 ≤ 200 := by
  have h := (ztx_spec hy.1).2.2.2.2.1 (y.1.getD i (0, 0)) (by rw [List.getD_eq_getElem?_getD, List.getElem?_eq_getElem hi]; exact List.getElem_mem hi)
  rw [hy.2.1] at h
  exact ⟨by omega, h.2.1, h.2.2.1, h.2.2.2⟩
theorem w_out (y : w_y) (tb : List UInt8) (hy : w_ty tb y) {i : Nat} (hi : i < y.2.1.length) : 6 ≤ (y.2.1.getD i (0, 0)).1 ∧ (y.2.1.getD i (0, 0)).1 + 9 + (y.2.1.getD i (0, 0)).2 + 4 ≤ tb.length ∧ (y.2.1.getD i (0, 0)).2 = (tb.getD ((y.2.1.getD i (0, 0)).1 + 8) 0).toNat ∧ (y.2.1.getD i (0, 0)).2 ≤ 200 := by
  have h := (ztx_spec hy.1).2.2.2.2.2 (y.2.1.getD i (0, 0)) (by rw [List.getD_eq_getElem?_getD, List.getElem?_eq_getElem hi]; exact List.getElem_mem hi)
  rw [hy.2.1] at h
  exact ⟨by omega, h.2.1, h.2.2.1, h.2.2.2⟩
section LEN
variable {tb lk : List UInt8} {y : w_y} {inp kd : Nat}
theorem w_mi_len {al ba : Bool} (hy : w_ty tb y) {i : Nat} (hi : i < y.1.length) : (w_mi tb (y.1.getD i (0, 0)) (decide (i = inp)) al ba lk).length ≤ 41 + (y.1.getD i (0, 0)).2 + (if i = inp then lk.length else 0) := by
  obtain ⟨h1, h2, -⟩ := w_in y tb hy hi
  unfold w_mi
  by_cases hc : i = inp
  · rw [if_pos (decide_eq_true hc), if_pos hc]
    simp only [List.length_append, w_sl_len (by omega : (y.1.getD i (0, 0)).1 + 36 ≤ tb.length), w_sl_len (by omega : (y.1.getD i (0, 0)).1 + 37 + (y.1.getD i (0, 0)).2 + 4 ≤ tb.length), List.length_cons, List.length_nil]
    omega
  · rw [if_neg (fun q => hc (of_decide_eq_true q)), if_neg hc]
    by_cases ha : al = true
    · rw [if_pos ha]
      exact Nat.zero_le _
    · rw [if_neg ha]
      by_cases hb : ba = true
      · rw [if_pos hb]
        simp only [List.length_append, w_sl_len (by omega : (y.1.getD i (0, 0)).1 + 36 ≤ tb.length), List.length_cons, List.length_nil, List.length_replicate]
        omega
      · rw [if_neg hb]
        simp only [List.length_append, w_sl_len (by omega : (y.1.getD i (0, 0)).1 + 36 ≤ tb.length), w_sl_len (by omega : (y.1.getD i (0, 0)).1 + 37 + (y.1.getD i (0, 0)).2 + 4 ≤ tb.length), List.length_cons, List.length_nil]
        omega
theorem w_ins_len {al ba : Bool} (hy : w_ty tb y) : ∀ i, i ≤ y.1.length → (w_ins tb y.1 inp al ba lk i).length ≤ w_wi (y.1.take i) 41 + (if inp < i then lk.length else 0)
  | 0, _ => Nat.zero_le _
  | i + 1, hi => by
    have h1 := w_ins_len (al := al) (ba := ba) hy i (by omega)
    have h2 := w_mi_len (inp := inp) (lk := lk) (al := al) (ba := ba) hy (i := i) (by omega)
    rw [w_wi_take (by omega)]
    unfold w_ins
    rw [List.length_append]
    by_cases c1 : inp < i
    · rw [if_pos c1] at h1
      rw [if_neg (by omega)] at h2
      rw [if_pos (by omega)]
      omega
    · rw [if_neg c1] at h1
      by_cases c2 : i = inp
      · rw [if_pos c2] at h2
        rw [if_pos (by omega)]
        omega
      · rw [if_neg c2] at h2
        omega
theorem w_mo_len {sk : Bool} (hy : w_ty tb y) {i : Nat} (hi : i < y.2.1.length) : (w_mo tb (y.2.1.getD i (0, 0)) sk).length ≤ 9 + (y.2.1.getD i (0, 0)).2 := by
  obtain ⟨h1, h2, -⟩ := w_out y tb hy hi
  unfold w_mo
  by_cases hc : sk = true
  · rw [if_pos hc]
    simp only [List.length_append, List.length_replicate, List.length_cons, List.length_nil]
    omega
  · rw [if_neg hc, w_sl_len (by omega)]
    exact Nat.le_refl _
theorem w_outs_len {b3 : Bool} (hy : w_ty tb y) : ∀ i, i ≤ y.2.1.length → (w_outs tb y.2.1 inp b3 i).length ≤ w_wi (y.2.1.take i) 9
  | 0, _ => Nat.zero_le _
  | i + 1, hi => by
    have h1 := w_outs_len (b3 := b3) hy i (by omega)
    have h2 := w_mo_len (sk := b3 && decide (i < inp)) hy (i := i) (by omega)
    rw [w_wi_take (by omega)]
    unfold w_outs
    rw [List.length_append]
    omega
/-- whatever is written is no longer than this -/
theorem w_len (hy : w_ty tb y) {al ba b3 : Bool} {i j : Nat} (hi : i ≤ y.1.length) (hj : j ≤ y.2.1.length) : 10 + (w_ins tb y.1 inp al ba lk i).length + (w_outs tb y.2.1 inp b3 j).length ≤ tb.length + lk.length := by
  have h1 := w_ins_len (inp := inp) (lk := lk) (al := al) (ba := ba) hy i hi
  have h2 := w_outs_len (inp := inp) (b3 := b3) hy j hj
  have h3 := w_wi_le (l := y.1) (k := 41) (i := i)
  have h4 := w_wi_le (l := y.2.1) (k := 9) (i := j)
  have h5 := ztx_wi hy.1
  rw [hy.2.1] at h5
  have h6 : (if inp < i then lk.length else 0) ≤ lk.length := by
    by_cases c : inp < i
    · rw [if_pos c]
      exact Nat.le_refl _
    · rw [if_neg c]
      exact Nat.zero_le _
  omega
end LEN
