/-! Both find a block by its name; the class's blocks of a height. -/
def b_fi : List (List UInt8) → List UInt8 → Nat → Option Nat
  | [], _, _ => none
  | n :: r, nm, i => if n = nm then some i else b_fi r nm (i + 1)
theorem b_fi_lt {nm : List UInt8} : ∀ {ns : List (List UInt8)} {i k : Nat}, b_fi ns nm i = some k → i ≤ k ∧ k < i + ns.length ∧ ns[k - i]? = some nm
  | [], _, _, h => by cases h
  | n :: r, i, k, h => by
    unfold b_fi at h
    rw [List.length_cons]
    by_cases c : n = nm
    · rw [if_pos c] at h
      have e := Option.some.inj h
      subst e
      refine ⟨Nat.le_refl _, by omega, ?_⟩
      rw [Nat.sub_self]
      exact congrArg some c
    · rw [if_neg c] at h
      obtain ⟨q1, q2, q3⟩ := b_fi_lt h
      refine ⟨by omega, by omega, ?_⟩
      rw [show k - i = (k - (i + 1)) + 1 by omega]
      exact q3
theorem b_fi_none {nm : List UInt8} : ∀ {ns : List (List UInt8)} {i : Nat}, b_fi ns nm i = none → ∀ k : Nat, ns[k]? ≠ some nm
  | [], _, _, k => fun w => by cases w
  | n :: r, i, h, k => by
    unfold b_fi at h
    by_cases c : n = nm
    · rw [if_pos c] at h
      cases h
    · rw [if_neg c] at h
      cases k with
      | zero => exact fun w => c (Option.some.inj w)
      | succ k => exact b_fi_none h k
/-- a block by its name -/
def b_kn (bs : List b_k) (nm : List UInt8) : Option Nat := b_fi (bs.map fun b => b.2.1) nm 0
theorem b_kn_some {bs : List b_k} {nm : List UInt8} {k : Nat} (h : b_kn bs nm = some k) : k < bs.length ∧ b_nm bs k = nm := by
  obtain ⟨-, q2, q3⟩ := b_fi_lt h
  rw [List.length_map, Nat.zero_add] at q2
  refine ⟨q2, ?_⟩
  rw [Nat.sub_zero, List.getElem?_map, List.getElem?_eq_getElem q2] at q3
  have := Option.some.inj q3
  unfold b_nm b_g
  rw [List.getD_eq_getElem?_getD, List.getElem?_eq_getElem q2]
  exact this
def b_oo (os : List Nat) (o : Option Nat) : Nat := match o with
  | some k => b_o os k
  | none => 0
theorem b_g_at {bs : List b_k} {i : Nat} (h : i < bs.length) : bs[i]? = some (b_g bs i) := by
  unfold b_g
  rw [List.getD_eq_getElem?_getD, List.getElem?_eq_getElem h]
  rfl
section FND
variable {nb : Nat} {bs : List b_k} {os : List Nat} {H : jH} {r lr p : Nat} {nm : List UInt8}
theorem b_find1 (hw : b_wf bs) (hs : jsh H) (h : b_BC nb bs os H) (hr : jK H r = (101, lr)) (hlr : lr < 2147483600) (hp : p + 32 ≤ lr) (hz : zRow H r p nm) (hn : nm.length = 32) : F_1_find 398 r (Int32.ofNat p) H = some (b_oo os (b_kn bs nm), H) := by
  have l300 := hw.2.1
  have k1 : (jK H 398).1 = 1 := gT (sK_398 hs)
  have loop : ∀ (d i fu : Nat), i + d = bs.length → d < fu → F_1_find_2 fu 398 r (Int32.ofNat p) (Int32.ofNat i) H = some (b_oo os (b_fi ((bs.drop i).map fun b => b.2.1) nm i), H) := by
    intro d
    induction d with
    | zero =>
      intro i fu hl hfu
      obtain ⟨fu, rfl⟩ : ∃ k, fu = k + 1 := ⟨fu - 1, by omega⟩
      unfold F_1_find_2 B_1_find_2
      rw [jg_t k1, h.2.2.2.1, if_pos (by rw [jo_le (by omega) (by omega)]; omega), List.drop_eq_nil_of_le (by omega)]
      rfl
    | succ d ih =>
      intro i fu hl hfu
      obtain ⟨fu, rfl⟩ : ∃ k, fu = k + 1 := ⟨fu - 1, by omega⟩
      have hi : i < bs.length := by omega
      obtain ⟨q1, q2⟩ := h.2.2.2.2 i hi
      have e1 : Int32.ofNat i + 1 = Int32.ofNat (i + 1) := jo_add (a := i) (b := 1)
      have nxt := ih (i + 1) fu (by omega) (by omega)
      have sm := z3_same (p := 0) (q := p) q2.2.2.1.1 hr (by decide) hlr (by decide) (by omega)
      have h32 := hw.2.2.2.1 i hi
      have er : (0 + 32 ≤ 32 ∧ p + 32 ≤ lr ∧ zeq (jB H (jR H (b_o os i) 1)) (jB H r) 0 p 32 = true) ↔ b_nm bs i = nm := by
        have ez : zeq (jB H (jR H (b_o os i) 1)) (jB H r) 0 p 32 = true ↔ b_nm bs i = nm := zeq_row q2.2.2.1.2.2 hz h32 hn
        rw [← ez]
        exact ⟨fun q => q.2.2, fun q => ⟨by decide, hp, q⟩⟩
      have ed : bs.drop i = b_g bs i :: bs.drop (i + 1) := by
        rw [List.drop_eq_getElem_cons hi]
        congr 1
        have := b_g_at hi
        rw [List.getElem?_eq_getElem hi] at this
        exact Option.some.inj this
      unfold F_1_find_2 B_1_find_2
      rw [jg_t k1, h.2.2.2.1, if_neg (by rw [jo_le (by omega) (by omega)]; omega), jg_t k1, sR_398_3 hs, jg_t (gA (sK_399 hs) (jo_in (by omega) (by omega))), jo_nat (n := i) (by omega), q1, jg_t q2.1.1, e1, ed, List.map_cons, b_fi]
      show jb (F_3_same (jR H (b_o os i) 1) (Int32.ofNat 0) r (Int32.ofNat p) H) _ = _
      rw [sm, jb_ok]
      by_cases c : b_nm bs i = nm
      · rw [if_pos (er.mpr c), if_neg (by decide), jg_t k1, sR_398_3 hs, jg_t (gA (sK_399 hs) (jo_in (by omega) (by omega))), q1, if_pos (show (b_g bs i).2.1 = nm from c)]
        rfl
      · rw [if_neg (fun q => c (er.mp q)), if_pos rfl, if_neg (show ¬ (b_g bs i).2.1 = nm from c)]
        exact nxt
  unfold F_1_find b_kn
  exact loop bs.length 0 jfuel (Nat.zero_add _) (by unfold jfuel; omega)
/-- the class's tip and the chain below it -/
def b_LN (bs : List b_k) (os : List Nat) (tip : Nat) (H : jH) : Prop := tip < bs.length ∧ jR H 398 6 = b_o os tip ∧ ∀ h, h ≤ b_ht bs tip → jR H 400 h = b_o os (b_at bs tip h)
theorem b_LN_fr {tip : Nat} {T : Nat → Nat → Prop} {H1 : jH} (h : b_LN bs os tip H) (hf : jfr T H H1) (hT : ∀ a j, T a j → ¬ (a = 398 ∧ j = 6) ∧ a ≠ 400) : b_LN bs os tip H1 :=
  ⟨h.1, (jfr_R hf fun w => (hT _ _ w).1 ⟨rfl, rfl⟩).trans h.2.1, fun k hk => (jfr_R hf fun w => (hT _ _ w).2 rfl).trans (h.2.2 k hk)⟩
theorem b_at1 {tip h : Nat} (hw : b_wf bs) (hs : jsh H) (hB : b_BC nb bs os H) (hL : b_LN bs os tip H) (hh : h ≤ b_ht bs tip) : F_1_at 398 (Int32.ofNat h) H = some (b_o os (b_at bs tip h), H) := by
  obtain ⟨t1, t2, t3⟩ := hL
  have := b_ht_300 hw t1
  obtain ⟨-, q2⟩ := hB.2.2.2.2 tip t1
  have k1 : (jK H 398).1 = 1 := gT (sK_398 hs)
  have e6 : jI H (b_o os tip) 6 = Int32.ofNat (b_ht bs tip) := q2.1.2.2.2.1
  unfold F_1_at B_1_at_32
  rw [if_neg (by rw [show (0 : Int32) = Int32.ofNat 0 from rfl, jo_lt (by omega) (by decide)]; omega), jg_t k1, t2, jg_t q2.1.1, e6, if_neg (by rw [jo_lt (by omega) (by omega)]; omega), if_pos (by show _ < Int32.ofNat 300; rw [jo_lt (by omega) (by decide)]; omega), jg_t k1, sR_398_7 hs, jg_t (gA (sK_400 hs) (jo_in (by omega) (by omega))), jo_nat (n := h) (by omega), t3 h hh]
theorem b_at1_no {tip : Nat} {h : Int32} (hw : b_wf bs) (hs : jsh H) (hB : b_BC nb bs os H) (hL : b_LN bs os tip H) (hh : h < 0 ∨ Int32.ofNat (b_ht bs tip) < h) : F_1_at 398 h H = some (0, H) := by
  obtain ⟨t1, t2, t3⟩ := hL
  have := b_ht_300 hw t1
  obtain ⟨-, q2⟩ := hB.2.2.2.2 tip t1
  have k1 : (jK H 398).1 = 1 := gT (sK_398 hs)
  have e6 : jI H (b_o os tip) 6 = Int32.ofNat (b_ht bs tip) := q2.1.2.2.2.1
  unfold F_1_at B_1_at_22 B_1_at_32
  by_cases c : h < 0
  · rw [if_pos c]
  · rw [if_neg c, jg_t k1, t2, jg_t q2.1.1, e6, if_pos (hh.resolve_left c)]
end FND
