/-! The pool: a list; the class's pool, what it finds and what clashes. -/
abbrev p_e : Type := b_t × Int64
/-- the first of that name -/
def p_fi (ps : List p_e) (nm : List UInt8) : Option Nat := b_fi (ps.map fun e => e.1.1) nm 0
def p_ok (ps : List p_e) : Prop := ps.length ≤ 41 ∧ (∀ (k : Nat) (e : p_e), ps[k]? = some e → w_ty e.1.2.1 e.1.2.2 ∧ e.1.1.length = 32) ∧ ∀ (i j : Nat) (e f : p_e), ps[i]? = some e → ps[j]? = some f → e.1.1 = f.1.1 → i = j
def p_PA (ps : List p_e) (H : jH) : Prop := jI H 414 4 = Int32.ofNat ps.length ∧ ∀ (k : Nat) (e : p_e), ps[k]? = some e → (∃ row s len, w_x (jR H 415 k) row s len e.1.2.1 e.1.2.2 e.1.1 H) ∧ jL H 416 k = e.2
def p_any (ps : List p_e) (f : p_e → Bool) : Bool := ps.any f
theorem p_any_t {ps : List p_e} {f : p_e → Bool} : p_any ps f = true ↔ ∃ (k : Nat) (e : p_e), ps[k]? = some e ∧ f e = true := by
  unfold p_any
  rw [List.any_eq_true]
  constructor
  · rintro ⟨e, h1, h2⟩
    obtain ⟨k, hk⟩ := List.getElem?_of_mem h1
    exact ⟨k, e, hk, h2⟩
  · rintro ⟨k, e, h1, h2⟩
    exact ⟨e, List.mem_of_getElem? h1, h2⟩
theorem p_fi_some {ps : List p_e} {nm : List UInt8} {k : Nat} (h : p_fi ps nm = some k) : k < ps.length ∧ ∃ e, ps[k]? = some e ∧ e.1.1 = nm := by
  obtain ⟨q1, q2, q3⟩ := b_fi_lt h
  rw [List.length_map] at q2
  rw [Nat.sub_zero, List.getElem?_map] at q3
  obtain ⟨e, h1, h2⟩ := Option.map_eq_some_iff.mp q3
  exact ⟨by omega, e, h1, h2⟩
theorem p_fi_none {ps : List p_e} {nm : List UInt8} (h : p_fi ps nm = none) {k : Nat} {e : p_e} (hk : ps[k]? = some e) : e.1.1 ≠ nm := fun w => by
  refine b_fi_none h k ?_
  rw [List.getElem?_map, hk, ← w]
  rfl
/-- where the class's object of one stands -/
def p_oo (H : jH) (o : Option Nat) : Nat := match o with
  | some k => jR H 415 k
  | none => 0
/-- it clashes with what waits -/
def p_cls (ps : List p_e) (x : b_t) : Int32 := if p_fi ps x.1 ≠ none then 12 else if p_any ps (fun e => p_sh x.2.1 x.2.2 e.1.2.1 e.1.2.2) = true then 13 else 0
theorem p_PA_fr {ps : List p_e} {T : Nat → Nat → Prop} {H H' : jH} (h : p_PA ps H) (hf : jfr T H H') (hT : ∀ a j, T a j → a < 422 ∧ ¬ (a = 414 ∧ j = 4) ∧ a ≠ 415 ∧ a ≠ 416) : p_PA ps H' := by
  refine ⟨(jfr_I hf fun w => (hT _ _ w).2.1 ⟨rfl, rfl⟩).trans h.1, fun k e hk => ?_⟩
  obtain ⟨⟨row, s, len, h1⟩, h2⟩ := h.2 k e hk
  rw [jfr_R hf fun w => (hT _ _ w).2.2.1 rfl, jfr_L hf fun w => (hT _ _ w).2.2.2 rfl]
  exact ⟨⟨row, s, len, w_x_jfr h1 hf fun a j q w => by have := hT a j w; omega⟩, h2⟩
section PO6
variable {ps : List p_e} {H : jH} {r lr p : Nat} {nm : List UInt8}
theorem z6_find (hs : jsh H) (hA : p_PA ps H) (hok : p_ok ps) (hr : jK H r = (101, lr)) (hlr : lr < 2147483600) (hp : p + 32 ≤ lr) (hz : zRow H r p nm) (hn : nm.length = 32) : F_6_find 414 r (Int32.ofNat p) H = some (p_oo H (p_fi ps nm), H) := by
  have l41 := hok.1
  have k1 : (jK H 414).1 = 6 := gT (sK_414 hs)
  have loop : ∀ (d i fu : Nat), i + d = ps.length → d < fu → F_6_find_2 fu 414 r (Int32.ofNat p) (Int32.ofNat i) H = some (p_oo H (b_fi ((ps.drop i).map fun e => e.1.1) nm i), H) := by
    intro d
    induction d with
    | zero =>
      intro i fu hl hfu
      obtain ⟨fu, rfl⟩ : ∃ k, fu = k + 1 := ⟨fu - 1, by omega⟩
      unfold F_6_find_2 B_6_find_2
      rw [jg_t k1, hA.1, if_pos (by rw [jo_le (by omega) (by omega)]; omega), List.drop_eq_nil_of_le (by omega)]
      rfl
    | succ d ih =>
      intro i fu hl hfu
      obtain ⟨fu, rfl⟩ : ∃ k, fu = k + 1 := ⟨fu - 1, by omega⟩
      have hi : i < ps.length := by omega
      obtain ⟨⟨row, s, len, hx⟩, -⟩ := hA.2 i _ (List.getElem?_eq_getElem hi)
      have k10 := hx.1.1
      obtain ⟨-, -, -, -, d1, d2, d3, d4, -⟩ := hx
      have e1 : Int32.ofNat i + 1 = Int32.ofNat (i + 1) := jo_add (a := i) (b := 1)
      have nxt := ih (i + 1) fu (by omega) (by omega)
      have sm := p_same (p := 0) (q := p) d2 hr (by decide) hlr (by decide) hp d3 hz d4 hn
      unfold F_6_find_2 B_6_find_2
      rw [jg_t k1, hA.1, if_neg (by rw [jo_le (by omega) (by omega)]; omega), jg_t k1, sR_414_2 hs, jg_t (gA (sK_415 hs) (jo_in (by omega) (by omega))), jo_nat (n := i) (by omega), jg_t k10, d1, e1, List.drop_eq_getElem_cons hi, List.map_cons, b_fi]
      show jb (F_3_same (jR H 415 i + 1) (Int32.ofNat 0) r (Int32.ofNat p) H) _ = _
      rw [sm, jb_ok]
      by_cases c : (ps[i]).1.1 = nm
      · rw [if_pos c, if_neg (by decide), jg_t k1, sR_414_2 hs, jg_t (gA (sK_415 hs) (jo_in (by omega) (by omega))), if_pos c]
        rfl
      · rw [if_neg c, if_pos rfl, if_neg c]
        exact nxt
  unfold F_6_find p_fi
  exact loop ps.length 0 jfuel (Nat.zero_add _) (by unfold jfuel; omega)
theorem z6_clash {o row s len : Nat} {x : b_t} (hs : jsh H) (hA : p_PA ps H) (hok : p_ok ps) (hy : w_ty x.2.1 x.2.2) (hx : w_x o row s len x.2.1 x.2.2 x.1 H) : F_6_clash 414 o H = some (p_cls ps x, H) := by
  have l41 := hok.1
  have k1 : (jK H 414).1 = 6 := gT (sK_414 hs)
  have k10 := hx.1.1
  have hx' := hx
  obtain ⟨-, -, -, -, d1, d2, d3, d4, d5, d6, d7, d8⟩ := hx
  have hf := z6_find (p := 0) hs hA hok d2 (by decide) (by decide) d3 d4
  have loop : ∀ (d i fu : Nat), i + d = ps.length → d < fu → (∀ j e, j < i → ps[j]? = some e → ¬ p_sh x.2.1 x.2.2 e.1.2.1 e.1.2.2 = true) → F_6_clash_17 fu 414 o (Int32.ofNat i) H = some ((if p_any ps (fun e => p_sh x.2.1 x.2.2 e.1.2.1 e.1.2.2) = true then 13 else 0), H) := by
    intro d
    induction d with
    | zero =>
      intro i fu hl hfu hm
      obtain ⟨fu, rfl⟩ : ∃ k, fu = k + 1 := ⟨fu - 1, by omega⟩
      unfold F_6_clash_17 B_6_clash_17
      rw [jg_t k1, hA.1, if_pos (by rw [jo_le (by omega) (by omega)]; omega), if_neg (fun w => by
        obtain ⟨k, e, q1, q2⟩ := p_any_t.mp w
        have := (List.getElem?_eq_some_iff.mp q1).1
        exact hm k e (by omega) q1 q2)]
    | succ d ih =>
      intro i fu hl hfu hm
      obtain ⟨fu, rfl⟩ : ∃ k, fu = k + 1 := ⟨fu - 1, by omega⟩
      have hi : i < ps.length := by omega
      have hg := List.getElem?_eq_getElem hi
      obtain ⟨⟨row2, s2, len2, hx2⟩, -⟩ := hA.2 i _ hg
      have e1 : Int32.ofNat i + 1 = Int32.ofNat (i + 1) := jo_add (a := i) (b := 1)
      have sh := p_sharesOf hs hy (hok.2.1 i _ hg).1 hx' hx2
      unfold F_6_clash_17 B_6_clash_17
      rw [jg_t k1, hA.1, if_neg (by rw [jo_le (by omega) (by omega)]; omega), jg_t k1, sR_414_2 hs, jg_t (gA (sK_415 hs) (jo_in (by omega) (by omega))), jo_nat (n := i) (by omega), jg_t k10, sh, jb_ok, e1]
      by_cases c : p_sh x.2.1 x.2.2 (ps[i]).1.2.1 (ps[i]).1.2.2 = true
      · rw [if_pos c, if_neg (by decide), if_pos (p_any_t.mpr ⟨i, _, hg, c⟩)]
      · rw [if_neg c, if_pos rfl]
        refine ih (i + 1) fu (by omega) (by omega) fun j e hj he => ?_
        by_cases q : j = i
        · rw [q, hg] at he
          rw [← Option.some.inj he]
          exact c
        · exact hm j e (by omega) he
  unfold F_6_clash
  rw [jg_t k10, jg_t k1, d1]
  show jb (F_6_find 414 (o + 1) (Int32.ofNat 0) H) _ = _
  rw [hf, jb_ok]
  unfold p_cls
  cases hk : p_fi ps x.1 with
  | none =>
    rw [if_pos (show p_oo H none = 0 from rfl), if_neg (fun w => w rfl)]
    exact loop ps.length 0 jfuel (Nat.zero_add _) (by unfold jfuel; omega) fun j e hj => absurd hj (Nat.not_lt_zero j)
  | some k =>
    obtain ⟨hlt, e, he, -⟩ := p_fi_some hk
    obtain ⟨⟨row2, s2, len2, hx2⟩, -⟩ := hA.2 k e he
    have : 422 ≤ jR H 415 k := hx2.2.2.2.2.2.2.2.2.2.2.1
    rw [if_neg (show ¬ p_oo H (some k) = 0 from fun w => by have w2 : jR H 415 k = 0 := w; omega), if_pos (fun w => by cases w)]
end PO6
