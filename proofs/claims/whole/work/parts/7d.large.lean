/-! Values that are too large: both programs. -/
def zvs (b : Nat → UInt8) (outs : List (Nat × Nat)) : List Int64 := outs.map fun w => zle b (w.1 + 8) 8
def ztm : List Int64 → Int64 → Bool
  | [], a => !(decide (a ≤ 2100000000000000))
  | v :: r, a => if v < 0 then true else if v ≤ 2100000000000000 then ztm r (a + v) else true
theorem zv2_zle {b : Nat → UInt8} {len p : Nat} (h : p + 8 ≤ len) : zv2 b len p = zle b (p + 8) 8 := by
  rw [← zvl_zle]
  unfold zv2 zvl zlw
  rw [if_pos (by omega), if_pos (by omega)]
theorem zPl_get {H : jH} {a : Nat} {l : List (Nat × Nat)} (h : zPl H a (l.map (·.1))) {k : Nat} (hk : k < l.length) : jI H a k = Int32.ofNat (l[k]).1 := by
  refine h k _ ?_
  rw [List.getElem?_map, List.getElem?_eq_getElem hk]
  rfl
section LARGE
variable {t row len ao : Nat} {b : Nat → UInt8} {outs : List (Nat × Nat)} {H : jH}
theorem z10_worth_k (h : zO10 t row len H) (hb : jB H row = b) (ha : jR H t 5 = ao) (hk : jK H ao = (100, outs.length)) (hm : outs.length ≤ 8) (hp : zPl H ao (outs.map (·.1))) (hin : ∀ w ∈ outs, w.1 + 9 ≤ len) {k : Nat} (hkl : k < outs.length) :
    F_10_worth t (Int32.ofNat k) H = some (zle b ((outs[k]).1 + 8) 8, H) := by
  have hw := hin _ (List.getElem_mem hkl)
  have hlen := h.2.2.2.2.1
  rw [z10_worth h ha hk hm hkl (zPl_get hp hkl) (by omega), hb, zv2_zle (by omega)]
theorem z10_isTooMuch (h : zO10 t row len H) (hb : jB H row = b) (ha : jR H t 5 = ao) (hk : jK H ao = (100, outs.length)) (hm : outs.length ≤ 8) (hp : zPl H ao (outs.map (·.1))) (hin : ∀ w ∈ outs, w.1 + 9 ≤ len) :
    F_10_isTooMuch t H = some ((if ztm (zvs b outs) 0 = true then 1 else 0), H) := by
  have loop : ∀ (d i f : Nat) (a : Int64), i + d = outs.length → d < f → F_10_isTooMuch_4 f t a (Int32.ofNat i) H = some ((if ztm ((zvs b outs).drop i) a = true then 1 else 0), H) := by
    intro d
    induction d with
    | zero =>
      intro i f a hi hf
      obtain ⟨f, rfl⟩ : ∃ k, f = k + 1 := ⟨f - 1, by omega⟩
      unfold F_10_isTooMuch_4 B_10_isTooMuch_4 B_10_isTooMuch_62
      have hnil : (zvs b outs).drop i = [] := List.drop_of_length_le (by unfold zvs; rw [List.length_map]; omega)
      rw [hnil, jg_t h.2.1, ha, hk, jg_t rfl, if_pos (by rw [jo_le (by omega) (by omega)]; show outs.length ≤ i; omega)]
      unfold ztm
      by_cases hq : a ≤ 2100000000000000
      · rw [if_pos hq, jg_t (by decide), decide_eq_true hq]
        rfl
      · rw [if_neg hq, jg_t (by decide), decide_eq_false hq]
        rfl
    | succ d ih =>
      intro i f a hi hf
      obtain ⟨f, rfl⟩ : ∃ k, f = k + 1 := ⟨f - 1, by omega⟩
      unfold F_10_isTooMuch_4 B_10_isTooMuch_4 B_10_isTooMuch_36
      have hil : i < outs.length := by omega
      have hcons : (zvs b outs).drop i = zle b ((outs[i]).1 + 8) 8 :: (zvs b outs).drop (i + 1) := by
        have hl : i < (zvs b outs).length := by unfold zvs; rw [List.length_map]; omega
        rw [List.drop_eq_getElem_cons hl]
        congr 1
        exact List.getElem_map _
      have e_i : Int32.ofNat i + 1 = Int32.ofNat (i + 1) := jo_add (a := i) (b := 1)
      rw [hcons, jg_t h.2.1, ha, hk, jg_t rfl, if_neg (by rw [jo_le (by omega) (by omega)]; show ¬ outs.length ≤ i; omega), jg_t h.2.1, z10_worth_k h hb ha hk hm hp hin hil, jb_ok]
      unfold ztm
      by_cases h0 : zle b ((outs[i]).1 + 8) 8 < 0
      · rw [if_pos h0, if_pos h0, jg_t (by decide)]
        rfl
      · rw [if_neg h0, if_neg h0]
        by_cases h1 : zle b ((outs[i]).1 + 8) 8 ≤ 2100000000000000
        · rw [if_pos h1, if_pos h1]
          dsimp only [jl]
          rw [e_i]
          exact ih (i + 1) f _ (by omega) (by omega)
        · rw [if_neg h1, if_neg h1, jg_t (by decide)]
          rfl
  exact loop outs.length 0 jfuel 0 (by omega) (by unfold jfuel; omega)
end LARGE
def zlg : List Int64 → Bool → Int64 → Bool
  | [], l, a => l || !(decide (a ≤ 2100000000000000))
  | v :: r, l, a => if l || decide (v < 0) || !(decide (v ≤ 2100000000000000)) then zlg r true a else zlg r false (a + v)
theorem zlg_t : ∀ (vs : List Int64) (a : Int64), zlg vs true a = true
  | [], a => rfl
  | v :: r, a => by
    unfold zlg
    rw [Bool.true_or, Bool.true_or, if_pos rfl]
    exact zlg_t r a
theorem zlg_ztm : ∀ (vs : List Int64) (a : Int64), zlg vs false a = ztm vs a
  | [], a => rfl
  | v :: r, a => by
    unfold zlg ztm
    by_cases h0 : v < 0
    · rw [if_pos h0, decide_eq_true h0, if_pos (by simp), zlg_t]
    · rw [if_neg h0, decide_eq_false h0]
      by_cases h1 : v ≤ 2100000000000000
      · rw [if_pos h1, decide_eq_true h1, if_neg (by simp), zlg_ztm r]
      · rw [if_neg h1, decide_eq_false h1, if_pos (by simp), zlg_t]
theorem zlg_c1 (v : Int64) (r : List Int64) (a : Int64) : zlg (v :: r) true a = zlg r true a := by
  rw [zlg_t, zlg_t]
theorem zlg_c2 {v : Int64} (h : v < 0) (r : List Int64) (a : Int64) : zlg (v :: r) false a = zlg r true a := by
  show (if false || decide (v < 0) || !(decide (v ≤ 2100000000000000)) then zlg r true a else zlg r false (a + v)) = _
  rw [decide_eq_true h, if_pos (by simp)]
theorem zlg_c3 {v : Int64} (h : ¬ v < 0) (h2 : v ≤ 2100000000000000) (r : List Int64) (a : Int64) : zlg (v :: r) false a = zlg r false (a + v) := by
  show (if false || decide (v < 0) || !(decide (v ≤ 2100000000000000)) then zlg r true a else zlg r false (a + v)) = _
  rw [decide_eq_false h, decide_eq_true h2, if_neg (by simp)]
theorem zlg_c4 {v : Int64} (h2 : ¬ v ≤ 2100000000000000) (r : List Int64) (a : Int64) : zlg (v :: r) false a = zlg r true a := by
  show (if false || decide (v < 0) || !(decide (v ≤ 2100000000000000)) then zlg r true a else zlg r false (a + v)) = _
  rw [decide_eq_false h2, if_pos (by simp)]
section LARGE2
variable {t : Nat} {vs : List Int64} {H : jH}
/-- the reference's sum and its look at the values -/
theorem z17_isLarge (ht : zT t) (hs : jsh H) (h5 : jI H t 5 = Int32.ofNat vs.length) (hm : vs.length ≤ 8) (hv : ∀ (k : Nat) (v : Int64), vs[k]? = some v → jL H (t + 6) k = v) :
    F_17_isLarge t H = some ((if ztm vs 0 = true then 1 else 0), H) := by
  have k0 := t_k hs ht
  have r12 := t_r12 hs ht
  have k6 := t_k6 hs ht
  have loop : ∀ (d i f : Nat) (l : Bool) (a : Int64), i + d = vs.length → d < f → F_17_isLarge_7 f t (if l = true then 1 else 0) a (Int32.ofNat i) H = some ((if zlg (vs.drop i) l a = true then 1 else 0), H) := by
    intro d
    induction d with
    | zero =>
      intro i f l a hi hf
      obtain ⟨f, rfl⟩ : ∃ k, f = k + 1 := ⟨f - 1, by omega⟩
      unfold F_17_isLarge_7 B_17_isLarge_7 B_17_isLarge_88 B_17_isLarge_93
      have hnil : vs.drop i = [] := List.drop_of_length_le (by omega)
      rw [hnil, jg_t k0, h5, if_pos (by rw [jo_le (by omega) (by omega)]; omega)]
      unfold zlg
      cases l with
      | true => rw [if_pos (by decide), jg_t (by decide)]; rfl
      | false =>
        rw [if_neg (by decide)]
        by_cases hq : a ≤ 2100000000000000
        · rw [if_pos hq, jg_t (by decide), decide_eq_true hq]
          rfl
        · rw [if_neg hq, jg_t (by decide), decide_eq_false hq]
          rfl
    | succ d ih =>
      intro i f l a hi hf
      obtain ⟨f, rfl⟩ : ∃ k, f = k + 1 := ⟨f - 1, by omega⟩
      unfold F_17_isLarge_7 B_17_isLarge_7 B_17_isLarge_46 B_17_isLarge_51 B_17_isLarge_68
      have hil : i < vs.length := by omega
      have hcons : vs.drop i = vs[i] :: vs.drop (i + 1) := List.drop_eq_getElem_cons hil
      have hvi : jL H (t + 6) i = vs[i] := hv i _ (List.getElem?_eq_getElem hil)
      have g8 : jin (Int32.ofNat i) 8 := jo_in (by omega) (by omega)
      have e_i : Int32.ofNat i + 1 = Int32.ofNat (i + 1) := jo_add (a := i) (b := 1)
      rw [hcons, jg_t k0, h5, if_neg (by rw [jo_le (by omega) (by omega)]; omega)]
      dsimp only [jl]
      rw [r12, k6, jo_nat (n := i) (by omega), hvi, e_i, jg_t k0, jg_t k0, jg_t k0, jg_t ⟨rfl, g8⟩, jg_t ⟨rfl, g8⟩, jg_t ⟨rfl, g8⟩]
      have hbad : ∀ x : Int64, F_17_isLarge_7 f t 1 (a + 0) (Int32.ofNat (i + 1)) H = some ((if zlg (vs.drop (i + 1)) true a = true then 1 else 0), H) := fun x => by
        have := ih (i + 1) f true (a + 0) (by omega) (by omega)
        rw [if_pos rfl] at this
        rw [this, zlg_t, zlg_t]
      have hgood : F_17_isLarge_7 f t 0 (a + vs[i]) (Int32.ofNat (i + 1)) H = some ((if zlg (vs.drop (i + 1)) false (a + vs[i]) = true then 1 else 0), H) := by
        have := ih (i + 1) f false (a + vs[i]) (by omega) (by omega)
        rw [if_neg (by decide)] at this
        exact this
      cases l with
      | true =>
        rw [zlg_c1]
        exact (if_pos (by decide)).trans ((if_neg (by decide)).trans (hbad 0))
      | false =>
        by_cases h0 : vs[i] < 0
        · rw [zlg_c2 h0]
          exact (if_neg (by decide)).trans ((if_pos h0).trans ((if_neg (by decide)).trans (hbad 0)))
        · by_cases h1 : vs[i] ≤ 2100000000000000
          · rw [zlg_c3 h0 h1]
            exact (if_neg (by decide)).trans ((if_neg h0).trans ((if_pos h1).trans ((if_pos rfl).trans ((jg_t k0).trans ((jg_t ⟨rfl, g8⟩).trans hgood)))))
          · rw [zlg_c4 h1]
            exact (if_neg (by decide)).trans ((if_neg h0).trans ((if_neg h1).trans ((if_neg (by decide)).trans (hbad 0))))
  unfold F_17_isLarge
  have := loop vs.length 0 jfuel false 0 (by omega) (by unfold jfuel; omega)
  rw [if_neg (by decide)] at this
  rw [show (0 : Int32) = Int32.ofNat 0 from rfl] at this ⊢
  rw [this, List.drop_zero, zlg_ztm]
theorem z17_sum (ht : zT t) (hs : jsh H) (h5 : jI H t 5 = Int32.ofNat vs.length) (hm : vs.length ≤ 8) (hv : ∀ (k : Nat) (v : Int64), vs[k]? = some v → jL H (t + 6) k = v) :
    F_17_sum t H = some (vs.foldl (· + ·) 0, H) := by
  have k0 := t_k hs ht
  have loop : ∀ (d i f : Nat) (a : Int64), i + d = vs.length → d < f → F_17_sum_4 f t a (Int32.ofNat i) H = some ((vs.drop i).foldl (· + ·) a, H) := by
    intro d
    induction d with
    | zero =>
      intro i f a hi hf
      obtain ⟨f, rfl⟩ : ∃ k, f = k + 1 := ⟨f - 1, by omega⟩
      unfold F_17_sum_4 B_17_sum_4
      have hnil : vs.drop i = [] := List.drop_of_length_le (by omega)
      rw [hnil, jg_t k0, h5, if_pos (by rw [jo_le (by omega) (by omega)]; omega)]
      rfl
    | succ d ih =>
      intro i f a hi hf
      obtain ⟨f, rfl⟩ : ∃ k, f = k + 1 := ⟨f - 1, by omega⟩
      unfold F_17_sum_4 B_17_sum_4
      have hil : i < vs.length := by omega
      have hvi : jL H (t + 6) i = vs[i] := hv i _ (List.getElem?_eq_getElem hil)
      have e_i : Int32.ofNat i + 1 = Int32.ofNat (i + 1) := jo_add (a := i) (b := 1)
      rw [List.drop_eq_getElem_cons hil, jg_t k0, h5, if_neg (by rw [jo_le (by omega) (by omega)]; omega), jg_t k0, t_r12 hs ht, t_k6 hs ht, jg_t ⟨rfl, jo_in (by omega) (by show i < 8; omega)⟩, jo_nat (n := i) (by omega), hvi]
      dsimp only [jl]
      rw [e_i]
      exact ih (i + 1) f _ (by omega) (by omega)
  exact loop vs.length 0 jfuel 0 (by omega) (by unfold jfuel; omega)
end LARGE2
