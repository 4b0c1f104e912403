/-! Messages: verdicts and news, as lists; both. -/
def p_vd (v : Int32) (nm : List UInt8) : List UInt8 := [jbu (ji2b 8), jbu (ji2b v)] ++ nm
def p_tl (kd : Int32) (nm : List UInt8) : List UInt8 := [jbu (ji2b 6)] ++ [jbu (ji2b 1)] ++ [jbu (ji2b kd)] ++ nm
def p_z32 : List UInt8 := List.replicate 32 0
/-- one peer's box after a message -/
def p_bx1 (bxs : Nat → List UInt8) (p : Nat) (l : List UInt8) : Nat → List UInt8 := fun k => if k = p then zpo (bxs k) l else bxs k
/-- the others' boxes after a message -/
def p_bxo (bxs : Nat → List UInt8) (p : Nat) (l : List UInt8) : Nat → List UInt8 := zoth bxs p l 4
theorem p_cut_row {H : jH} {r p n : Nat} {l : List UInt8} (h : zRow H r p l) (hl : l.length = n) : zcut (jB H r) p n = l := by
  refine List.ext_getElem? fun i => ?_
  by_cases hi : i < n
  · have hc : i < (zcut (jB H r) p n).length := by rw [zcut_len]; exact hi
    have h1 := zcut_at (List.getElem?_eq_getElem hc)
    rw [List.getElem?_eq_getElem hc, ← h1.2, getD_of (l := l) (by omega)]
    exact congrArg some (h i _ (getD_of (by omega)))
  · rw [List.getElem?_eq_none (by rw [zcut_len]; omega), List.getElem?_eq_none (by omega)]
theorem p_vd_eq {H : jH} {r p : Nat} {v : Int32} {nm : List UInt8} (h : zRow H r p nm) (hl : nm.length = 32) : zvd v (fun i => jB H r (p + i)) = p_vd v nm := by
  unfold zvd p_vd
  rw [← p_cut_row h hl]
  congr 1
theorem p_vd_0 {v : Int32} : zvd v (fun _ => 0) = p_vd v p_z32 := by
  unfold zvd p_vd p_z32
  congr 1
theorem p_tl_eq {H : jH} {r p : Nat} {kd : Int32} {nm : List UInt8} (h : zRow H r p nm) (hl : nm.length = 32) : ztl kd (fun i => jB H r (p + i)) = p_tl kd nm := by
  unfold ztl p_tl
  rw [← p_cut_row h hl]
  congr 1
def p_b11 (bxs : Nat → List UInt8) (H : jH) : Prop := ∀ k, k < 4 → zBx11 k (bxs k) H
theorem p_b11_fr {bxs : Nat → List UInt8} {T : Nat → Nat → Prop} {H H' : jH} (h : p_b11 bxs H) (hf : jfr T H H') (hT : ∀ a j, T a j → a < 36 ∨ 41 < a) : p_b11 bxs H' := fun k hk => zBx11_fr (h k hk) hf fun a j w => by have := hT a j w; omega
section PM
variable {α : Type} {Q : α → jH → Prop} {bxs : Nat → List UInt8} {p r len o : Nat} {v kd : Int32} {nm l : List UInt8} {H : jH}
/-- a message is posted -/
theorem p_post11 {k : Unit → jH → Option (α × jH)} (hs : jsh H) (hp : p < 4) (hm : zM11 l H) (hl : l.length ≤ 2000) (hb : p_b11 bxs H) (hk : ∀ H', jsh H' → p_b11 (p_bx1 bxs p l) H' → jfr zTS11 H H' → jT (k () H') Q) : jT (jb (F_11_post 32 (Int32.ofNat p) H) k) Q := by
  refine jT_b (z11_post hs hp hm hl (hb p hp) fun H' s' m' b' f' => hk H' s' (fun i hi => ?_) (jfr_mono f' fun a j w => by unfold zTS11; omega))
  unfold p_bx1
  by_cases c : i = p
  · rw [c, if_pos rfl]
    exact b'
  · rw [if_neg c]
    exact zBx11_fr (hb i hi) f' fun a j w => by omega
/-- a verdict -/
theorem p_verd11 {k : Unit → jH → Option (α × jH)} (hs : jsh H) (hp : p < 4) (hb : p_b11 bxs H) (hr : (r = 0 ∧ nm = p_z32) ∨ (r ≠ 0 ∧ r ≠ 42 ∧ r ≠ 32 ∧ jK H r = (101, 32) ∧ zRow H r 0 nm ∧ nm.length = 32))
    (hk : ∀ H', jsh H' → p_b11 (p_bx1 bxs p (p_vd v nm)) H' → jfr zTS11 H H' → jT (k () H') Q) : jT (jb (F_11_answerVerdict 32 (Int32.ofNat p) v r H) k) Q := by
  have fin : ∀ (b : List UInt8) H', jsh H' → zBx11 p (zpo (bxs p) b) H' → jfr (zVS11 p) H H' → b = p_vd v nm → jT (k () H') Q := fun b H' s' b' f' e => hk H' s' (fun i hi => by
    unfold p_bx1
    by_cases c : i = p
    · rw [c, if_pos rfl, ← e]
      exact b'
    · rw [if_neg c]
      exact zBx11_fr (hb i hi) f' fun a j w => by unfold zVS11 zS11 at w; omega) (jfr_mono f' fun a j w => by unfold zVS11 at w; unfold zTS11; rcases w with w | w; exact Or.inl w; omega)
  rcases hr with ⟨q1, q2⟩ | ⟨q1, q2, q3, q4, q5, q6⟩
  · exact jT_b (z11_verdict (nb := fun _ => 0) hs hp (hb p hp) (Or.inl ⟨q1, fun _ => rfl⟩) fun H' s' b' f' => fin _ H' s' b' f' (by rw [q2]; exact p_vd_0))
  · exact jT_b (z11_verdict (nb := fun i => jB H r (0 + i)) hs hp (hb p hp) (Or.inr ⟨q1, q2, q3, q4, fun i => by rw [Nat.zero_add]⟩) fun H' s' b' f' => fin _ H' s' b' f' (p_vd_eq q5 q6))
/-- the others are told -/
theorem p_oth11 {k : Unit → jH → Option (α × jH)} (hs : jsh H) (hp : p < 4) (hb : p_b11 bxs H) (hr2 : r ≠ 42 ∧ r ≠ 32) (hr : jK H r = (101, 32)) (hz : zRow H r 0 nm) (hn : nm.length = 32)
    (hk : ∀ H', jsh H' → p_b11 (p_bxo bxs p (p_tl kd nm)) H' → jfr zTS11 H H' → jT (k () H') Q) : jT (jb (F_11_tellOthers 32 (Int32.ofNat p) kd r H) k) Q := by
  refine jT_b (z11_tellOthers hs hp hr hr2 hb fun H' s' b' f' => hk H' s' (fun i hi => ?_) f')
  have := b' i hi
  have e : ztl kd (jB H r) = p_tl kd nm := by
    rw [← p_tl_eq hz hn]
    unfold ztl
    congr 1
  rw [e] at this
  exact this
/-- bytes are put behind a message -/
theorem p_put11 {k : Unit → jH → Option (α × jH)} (hs : jsh H) (h : zM11 l H) (hl : l.length < 2000) (hk : ∀ H', jsh H' → zM11 (l ++ [jbu (ji2b v)]) H' → jfr zS11 H H' → jT (k () H') Q) : jT (jb (F_11_put 32 v H) k) Q := jT_b (z11_put hs h hl hk)
theorem p_begin11 {k : Unit → jH → Option (α × jH)} (hs : jsh H) (hk : ∀ H', jsh H' → zM11 [jbu (ji2b v)] H' → jfr zS11 H H' → jT (k () H') Q) : jT (jb (F_11_begin 32 v H) k) Q := jT_b (z11_begin hs hk)
theorem p_puts11 {k : Unit → jH → Option (α × jH)} {m : List UInt8} {n' : Int32} (hs : jsh H) (h : zM11 l H) (hr : jK H r = (101, len)) (hlen : len < 2147483600) (ho : o + m.length ≤ len) (hl : l.length + m.length ≤ 2000) (hz : zRow H r o m) (en : n' = Int32.ofNat m.length) (hk : ∀ H', jsh H' → zM11 (l ++ m) H' → jfr zS11 H H' → jT (k () H') Q) : jT (jb (F_11_put_2 32 r (Int32.ofNat o) n' H) k) Q := by
  subst en
  refine jT_b (z11_put2 hs h hr hlen ho hl fun H' s' m' f' => ?_)
  rw [p_cut_row hz rfl] at m'
  exact hk H' s' m' f'
/-- one byte of a message is set -/
theorem p_set11 {a b : UInt8} {w : UInt8} {m : List UInt8} (h : zM11 ([a] ++ [b] ++ m) H) : zM11 ([a] ++ [w] ++ m) (jsB H 42 1 w) := by
  refine ⟨h.1, fun i u hi => ?_⟩
  by_cases c : i = 1
  · subst c
    have : w = u := Option.some.inj hi
    rw [← this]
    exact jB_sBe
  · refine (jB_sBn (by omega)).trans (h.2 i u ?_)
    cases i with
    | zero => exact hi
    | succ i =>
      cases i with
      | zero => exact absurd rfl c
      | succ i => exact hi
end PM
