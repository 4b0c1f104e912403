/-! Knots: the class and the reference. -/
/-- spends what is not there, or the other way round -/
def p_lk (ps : List p_e) (x : b_t) : Bool := p_any ps fun e => p_ms x.2.1 x.2.2 e.1.1 e.1.2.2.2.1.length || p_ms e.1.2.1 e.1.2.2 x.1 x.2.2.2.1.length
/-- those that hang on it -/
def p_S (ps : List p_e) (nm : List UInt8) : Nat → Bool := fun i => p_sp (p_g ps i).1.2.1 (p_g ps i).1.2.2 nm
def p_tie (ps : List p_e) (x : b_t) : Prop := p_sp x.2.1 x.2.2 x.1 = true ∨ ∃ i, i < ps.length ∧ p_fam ps (p_S ps x.1) i = true ∧ p_sp x.2.1 x.2.2 (p_g ps i).1.1 = true
noncomputable def p_knt (ps : List p_e) (x : b_t) : Int32 := if p_lk ps x = true then 15 else b_if (p_tie ps x) 14 0
section KN6
variable {α : Type} {ps : List p_e} {Hs : jH} {x : b_t} {o row s len : Nat} {Q : α → jH → Prop}
theorem z6_knot {k : Int32 → jH → Option (α × jH)} (hs : jsh Hs) (hok : p_ok ps) (hA0 : p_PA ps Hs) (hy : w_ty x.2.1 x.2.2) (hx : w_x o row s len x.2.1 x.2.2 x.1 Hs) (hnew : p_fi ps x.1 = none) (hk : ∀ H', jsh H' → jfr p_T418 Hs H' → jT (k (p_knt ps x) H') Q) : jT (jb (F_6_knot 414 o Hs) k) Q := by
  have l41 := hok.1
  have k6 : ∀ {H}, jsh H → (jK H 414).1 = 6 := fun hs => gT (sK_414 hs)
  have k10 := hx.1.1
  have no : ∀ i, i < ps.length → jR Hs 415 i ≠ o := fun i hi w => by
    obtain ⟨⟨row2, s2, len2, hx2⟩, -⟩ := hA0.2 i _ (p_g_at hi)
    refine p_fi_none hnew (p_g_at hi) ?_
    obtain ⟨-, -, -, -, -, d2, d3, d4, -⟩ := hx
    obtain ⟨-, -, -, -, -, f2, f3, f4, -⟩ := hx2
    rw [w] at f3
    refine List.ext_getElem? fun j => ?_
    by_cases hj : j < 32
    · have a1 := d3 j _ (getD_of (by omega))
      have a2 := f3 j _ (getD_of (by omega))
      rw [getD_of (l := (p_g ps i).1.1) (by omega), getD_of (l := x.1) (by omega), ← a1, ← a2]
    · rw [List.getElem?_eq_none (by omega), List.getElem?_eq_none (by omega)]
  have tail : p_lk ps x = false → jT (jg ((jK Hs 414).1 = 6) (jb (F_6_markKin 414 o Hs) fun x5 h6 => jg ((jK h6 o).1 = 10) (jb (F_10_spendsOf o o h6) fun x7 h8 => F_6_knot_58 jfuel 414 o x7 0 h8))) (fun v h => jT (k v h) Q) := fun hlk => by
    refine jT_g (k6 hs) ?_
    refine z6_markKin (S := p_S ps x.1) hs hok hA0 hx (fun i hi => ⟨fun w => Or.inr w, fun w => by
      rcases w with w | w
      · exact absurd w (no i hi)
      · exact w⟩) fun H1 s1 f1 fl1 => ?_
    have hx1 := w_x_jfr hx f1 fun a j q w => by unfold p_T418 at w; omega
    have hA := p_PA_418 hA0 f1
    have fk : ∀ v, v = p_knt ps x → jT (k v H1) Q := fun v e => by rw [e]; exact hk H1 s1 f1
    refine jT_g hx1.1.1 ?_
    rw [p_spendsOf hy hx1 hx1, jb_ok]
    have loop : ∀ (d i fu : Nat) (c : Bool), i + d = ps.length → d < fu → (c = true ↔ p_sp x.2.1 x.2.2 x.1 = true ∨ ∃ j, j < i ∧ p_fam ps (p_S ps x.1) j = true ∧ p_sp x.2.1 x.2.2 (p_g ps j).1.1 = true) → jT (F_6_knot_58 fu 414 o (p_ib c) (Int32.ofNat i) H1) (fun v h => jT (k v h) Q) := by
      intro d
      induction d with
      | zero =>
        intro i fu c hl hfu hc
        obtain ⟨fu, rfl⟩ : ∃ k, fu = k + 1 := ⟨fu - 1, by omega⟩
        obtain rfl : i = ps.length := by omega
        unfold F_6_knot_58 B_6_knot_58 B_6_knot_112
        rw [hA.1]
        refine jT_g (k6 s1) (jT_pos (by rw [jo_le (by omega) (by omega)]; exact Nat.le_refl _) ?_)
        cases c with
        | false =>
          refine jT_pos rfl (jT_ret (fk 0 ?_))
          unfold p_knt
          rw [hlk, if_neg (by decide), b_neg (fun w => by have := hc.mpr w; cases this)]
        | true =>
          refine jT_neg (by decide) (jT_ret (fk 14 ?_))
          unfold p_knt
          rw [hlk, if_neg (by decide), b_pos (show p_tie ps x from hc.mp rfl)]
      | succ d ih =>
        intro i fu c hl hfu hc
        obtain ⟨fu, rfl⟩ : ∃ k, fu = k + 1 := ⟨fu - 1, by omega⟩
        have hi : i < ps.length := by omega
        obtain ⟨⟨row2, s2, len2, hx2⟩, -⟩ := hA.2 i _ (p_g_at hi)
        have e1 : Int32.ofNat i + 1 = Int32.ofNat (i + 1) := jo_add (a := i) (b := 1)
        have nxt : ∀ (v : Int32) (b : Bool), v = p_ib b → (b = true ↔ p_fam ps (p_S ps x.1) i = true ∧ p_sp x.2.1 x.2.2 (p_g ps i).1.1 = true) → jT (B_6_knot_94 (F_6_knot_58 fu) 414 o (Int32.ofNat i) (p_ib c) v H1) (fun v h => jT (k v h) Q) := fun v b ev hb => by
          unfold B_6_knot_94
          have ec : p_ib c ||| v = p_ib (c || b) := by
            rw [ev]
            cases c <;> cases b <;> decide
          rw [ec, e1]
          refine jT_l (jT_l (ih (i + 1) fu (c || b) (by omega) (by omega) ?_))
          rw [Bool.or_eq_true, hc, hb]
          constructor
          · rintro ((w | ⟨j, j1, j2⟩) | w)
            · exact Or.inl w
            · exact Or.inr ⟨j, by omega, j2⟩
            · exact Or.inr ⟨i, by omega, w⟩
          · rintro (w | ⟨j, j1, j2⟩)
            · exact Or.inl (Or.inl w)
            · by_cases q : j = i
              · rw [q] at j2
                exact Or.inr j2
              · exact Or.inl (Or.inr ⟨j, by omega, j2⟩)
        unfold F_6_knot_58 B_6_knot_58 B_6_knot_93
        rw [hA.1, sR_414_6 s1, sR_414_2 s1, jo_nat (n := i) (by omega), fl1 i hi]
        refine jT_g (k6 s1) (jT_neg (by rw [jo_le (by omega) (by omega)]; omega) (jT_g (k6 s1) (jT_g (gA (sK_418 s1) (jo_in (by omega) (by omega))) ?_)))
        cases hF : p_fam ps (p_S ps x.1) i with
        | false => exact jT_pos rfl (nxt 0 false rfl ⟨fun w => (by cases w), fun w => by rw [hF] at w; cases w.1⟩)
        | true =>
          refine jT_neg (by decide) (jT_g (k6 s1) (jT_g (gA (sK_415 s1) (jo_in (by omega) (by omega))) (jT_g hx1.1.1 ?_)))
          rw [p_spendsOf hy hx1 hx2, jb_ok]
          by_cases q : p_sp x.2.1 x.2.2 (p_g ps i).1.1 = true
          · rw [if_pos q]
            exact jT_neg (by decide) (nxt 1 true rfl ⟨fun _ => ⟨hF, q⟩, fun _ => rfl⟩)
          · rw [if_neg q]
            exact jT_pos rfl (nxt 0 false rfl ⟨fun w => (by cases w), fun w => absurd w.2 q⟩)
    exact loop ps.length 0 jfuel (p_sp x.2.1 x.2.2 x.1) (Nat.zero_add _) (by unfold jfuel; omega) ⟨fun w => Or.inl w, fun w => by
      rcases w with w | ⟨j, j1, -⟩
      · exact w
      · exact absurd j1 (Nat.not_lt_zero j)⟩
  have f15 : p_lk ps x = true → jT (k 15 Hs) Q := fun w => by
    have := hk Hs hs jfr_refl
    unfold p_knt at this
    rwa [if_pos w] at this
  have loop2 : ∀ (d i fu : Nat), i + d = ps.length → d < fu → (∀ j, j < i → ¬ (p_ms x.2.1 x.2.2 (p_g ps j).1.1 (p_g ps j).1.2.2.2.1.length || p_ms (p_g ps j).1.2.1 (p_g ps j).1.2.2 x.1 x.2.2.2.1.length) = true) → jT (F_6_knot_2 fu 414 o (Int32.ofNat i) Hs) (fun v h => jT (k v h) Q) := by
    intro d
    induction d with
    | zero =>
      intro i fu hl hfu hn
      obtain ⟨fu, rfl⟩ : ∃ k, fu = k + 1 := ⟨fu - 1, by omega⟩
      obtain rfl : i = ps.length := by omega
      unfold F_6_knot_2 B_6_knot_2
      rw [hA0.1]
      refine jT_g (k6 hs) (jT_pos (by rw [jo_le (by omega) (by omega)]; exact Nat.le_refl _) (tail ?_))
      cases hq : p_lk ps x with
      | false => rfl
      | true =>
        obtain ⟨j, e, j1, j2⟩ := p_any_t.mp hq
        have hj := (List.getElem?_eq_some_iff.mp j1).1
        rw [← p_g_of j1] at j2
        exact absurd j2 (hn j hj)
    | succ d ih =>
      intro i fu hl hfu hn
      obtain ⟨fu, rfl⟩ : ∃ k, fu = k + 1 := ⟨fu - 1, by omega⟩
      have hi : i < ps.length := by omega
      obtain ⟨⟨row2, s2, len2, hx2⟩, -⟩ := hA0.2 i _ (p_g_at hi)
      have hy2 := (hok.2.1 i _ (p_g_at hi)).1
      have e1 : Int32.ofNat i + 1 = Int32.ofNat (i + 1) := jo_add (a := i) (b := 1)
      unfold F_6_knot_2 B_6_knot_2 B_6_knot_36
      rw [hA0.1, sR_414_2 hs, jo_nat (n := i) (by omega)]
      refine jT_g (k6 hs) (jT_neg (by rw [jo_le (by omega) (by omega)]; omega) (jT_g (k6 hs) (jT_g (gA (sK_415 hs) (jo_in (by omega) (by omega))) (jT_g k10 ?_))))
      rw [p_missesOf hs hy hy2 hx hx2, jb_ok]
      by_cases q1 : p_ms x.2.1 x.2.2 (p_g ps i).1.1 (p_g ps i).1.2.2.2.1.length = true
      · rw [if_pos q1]
        exact jT_pos (by decide) (jT_ret (f15 (p_any_t.mpr ⟨i, _, p_g_at hi, Bool.or_eq_true_iff.mpr (Or.inl q1)⟩)))
      · rw [if_neg q1, sR_414_2 hs]
        refine jT_neg (fun w => w rfl) (jT_g (k6 hs) (jT_g (gA (sK_415 hs) (jo_in (by omega) (by omega))) (jT_g hx2.1.1 ?_)))
        rw [p_missesOf hs hy2 hy hx2 hx, jb_ok]
        by_cases q2 : p_ms (p_g ps i).1.2.1 (p_g ps i).1.2.2 x.1 x.2.2.2.1.length = true
        · rw [if_pos q2]
          exact jT_neg (by decide) (jT_ret (f15 (p_any_t.mpr ⟨i, _, p_g_at hi, Bool.or_eq_true_iff.mpr (Or.inr q2)⟩)))
        · rw [if_neg q2, e1]
          refine jT_pos rfl (jT_l (ih (i + 1) fu (by omega) (by omega) fun j hj => ?_))
          by_cases q : j = i
          · rw [q]
            intro w
            rcases Bool.or_eq_true_iff.mp w with w | w
            · exact q1 w
            · exact q2 w
          · exact hn j (by omega)
  unfold F_6_knot
  exact jT_b (loop2 ps.length 0 jfuel (Nat.zero_add _) (by unfold jfuel; omega) fun j hj => absurd hj (Nat.not_lt_zero j))
end KN6
