/-! Values that are too large: both programs. -/
def zvs (b : Nat → UInt8) (outs : List (Nat × Nat)) : List Int64 := outs.map fun w => zle b (w.1 + 8) 8
def ztm : List Int64 → Int64 → Bool
  | [], a => !(decide (a ≤ 2100000000000000))
  | v :: r, a => if v < 0 then true else if v ≤ 2100000000000000 then ztm r (a + v) else true
theorem zv2_zle {b : Nat → UInt8} {len p : Nat} (h : p + 8 ≤ len) : zv2 b len p = zle b (p + 8) 8 := by
  rw [← zvl_zle]
  unfold zv2 zvl zlw
  rw [if_pos (by omega), if_pos (by omega)]
theorem zPl_get {H : jH} {a : Nat} {l : List (Nat × Nat)} (h : zPl H a (l.map (·.1))) {k : Nat} (hk : k < l.length) : jI H a k = Int32.ofNat (l[k]).1 := by
  refine h k _ ?_
  rw [List.getElem?_map, List.getElem?_eq_getElem hk]
  rfl
section LARGE
variable {t row len ao : Nat} {b : Nat → UInt8} {outs : List (Nat × Nat)} {H : jH}
theorem z10_worth_k (h : zO10 t row len H) (hb : jB H row = b) (ha : jR H t 5 = ao) (hk : jK H ao = (100, outs.length)) (hm : outs.length ≤ 8) (hp : zPl H ao (outs.map (·.1))) (hin : ∀ w ∈ outs, w.1 + 9 ≤ len) {k : Nat} (hkl : k < outs.length) :
    F_10_worth t (Int32.ofNat k) H = some (zle b ((outs[k]).1 + 8) 8, H) := by
  have hw := hin _ (List.getElem_mem hkl)
  have hlen := h.2.2.2.2.1
  rw [z10_worth h ha hk hm hkl (zPl_get hp hkl) (by omega), hb, zv2_zle (by omega)]
theorem z10_isTooMuch (h : zO10 t row len H) (hb : jB H row = b) (ha : jR H t 5 = ao) (hk : jK H ao = (100, outs.length)) (hm : outs.length ≤ 8) (hp : zPl H ao (outs.map (·.1))) (hin : ∀ w ∈ outs, w.1 + 9 ≤ len) :
    F_10_isTooMuch t H = some ((if ztm (zvs b outs) 0 = true then 1 else 0), H) := by
  have loop : ∀ (d i f : Nat) (a : Int64), i + d = outs.length → d < f → F_10_isTooMuch_4 f t a (Int32.ofNat i) H = some ((if ztm ((zvs b outs).drop i) a = true then 1 else 0), H) := by
    intro d
    induction d with
    | zero =>
      intro i f a hi hf
      obtain ⟨f, rfl⟩ : ∃ k, f = k + 1 := ⟨f - 1, by omega⟩
      unfold F_10_isTooMuch_4 B_10_isTooMuch_4 B_10_isTooMuch_62
      have hnil : (zvs b outs).drop i = [] := List.drop_of_length_le (by unfold zvs; rw [List.length_map]; omega)
      rw [hnil, jg_t h.2.1, ha, hk, jg_t rfl, if_pos (by rw [jo_le (by omega) (by omega)]; show outs.length ≤ i; omega)]
      unfold ztm
      by_cases hq : a ≤ 2100000000000000
      · rw [if_pos hq, jg_t (by decide), decide_eq_true hq]
        rfl
      · rw [if_neg hq, jg_t (by decide), decide_eq_false hq]
        rfl
    | succ d ih =>
      intro i f a hi hf
      obtain ⟨f, rfl⟩ : ∃ k, f = k + 1 := ⟨f - 1, by omega⟩
      unfold F_10_isTooMuch_4 B_10_isTooMuch_4 B_10_isTooMuch_36
      have hil : i < outs.length := by omega
      have hcons : (zvs b outs).drop i = zle b ((outs[i]).1 + 8) 8 :: (zvs b outs).drop (i + 1) := by
        have hl : i < (zvs b outs).length := by unfold zvs; rw [List.length_map]; omega
        rw [List.drop_eq_getElem_cons hl]
        congr 1
        exact List.getElem_map _
      have e_i : Int32.ofNat i + 1 = Int32.ofNat (i + 1) := jo_add (a := i) (b := 1)
      rw [hcons, jg_t h.2.1, ha, hk, jg_t rfl, if_neg (by rw [jo_le (by omega) (by omega)]; show ¬ outs.length ≤ i; omega), jg_t h.2.1, z10_worth_k h hb ha hk hm hp hin hil, jb_ok]
      unfold ztm
      by_cases h0 : zle b ((outs[i]).1 + 8) 8 < 0
      · rw [if_pos h0, if_pos h0, jg_t (by decide)]
        rfl
      · rw [if_neg h0, if_neg h0]
        by_cases h1 : zle b ((outs[i]).1 + 8) 8 ≤ 2100000000000000
        · rw [if_pos h1, if_pos h1]
          dsimp only [jl]
          rw [e_i]
          exact ih (i + 1) f _ (by omega) (by omega)
        · rw [if_neg h1, if_neg h1, jg_t (by decide)]
          rfl
  exact loop outs.length 0 jfuel 0 (by omega) (by unfold jfuel; omega)
end LARGE
