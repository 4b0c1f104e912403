/-! The pool: the reference's, and its looks. -/
def p_PB (ps : List p_e) (H : jH) : Prop := jI H 421 36 = Int32.ofNat ps.length ∧ ∀ (k : Nat) (e : p_e), ps[k]? = some e → (zRow H 496 (2000 * k) e.1.2.1 ∧ jI H 497 k = Int32.ofNat e.1.2.1.length ∧ zRow H 498 (32 * k) e.1.1 ∧ jL H 499 k = e.2) ∧ jI H 500 k = Int32.ofNat e.1.2.2.1.length ∧ ∀ i, i < e.1.2.2.1.length → jI H 501 (8 * k + i) = Int32.ofNat (e.1.2.2.1.getD i (0, 0)).1 ∧ jL H 502 (8 * k + i) = Int64.ofNat (w_in2 e.1.2.1 e.1.2.2 i)
theorem p_PB_fr {ps : List p_e} {T : Nat → Nat → Prop} {H H' : jH} (h : p_PB ps H) (hf : jfr T H H') (hT : ∀ a j, T a j → (a < 496 ∨ 502 < a) ∧ ¬ (a = 421 ∧ j = 36)) : p_PB ps H' := by
  have n : ∀ a j, 496 ≤ a → a ≤ 502 → ¬ T a j := fun a j q1 q2 w => by have := (hT a j w).1; omega
  refine ⟨(jfr_I hf fun w => (hT _ _ w).2 ⟨rfl, rfl⟩).trans h.1, fun k e hk => ?_⟩
  obtain ⟨⟨h1, h2, h3, h4⟩, h5, h6⟩ := h.2 k e hk
  refine ⟨⟨zRow_eq h1 fun i _ => jfr_B hf (n 496 _ (by decide) (by decide)), (jfr_I hf (n 497 _ (by decide) (by decide))).trans h2, zRow_eq h3 fun i _ => jfr_B hf (n 498 _ (by decide) (by decide)), (jfr_L hf (n 499 _ (by decide) (by decide))).trans h4⟩, (jfr_I hf (n 500 _ (by decide) (by decide))).trans h5, fun i hi => ?_⟩
  obtain ⟨q1, q2⟩ := h6 i hi
  exact ⟨(jfr_I hf (n 501 _ (by decide) (by decide))).trans q1, (jfr_L hf (n 502 _ (by decide) (by decide))).trans q2⟩
/-- one spends a key -/
def p_sk (tb : List UInt8) (y : w_y) (nm : List UInt8) (ix : Nat) : Bool := (List.range y.1.length).any fun i => decide (w_in2 tb y i = ix ∧ w_in1 tb y i = nm)
theorem p_sk_t {tb nm : List UInt8} {y : w_y} {ix : Nat} : p_sk tb y nm ix = true ↔ ∃ i, i < y.1.length ∧ w_in2 tb y i = ix ∧ w_in1 tb y i = nm := by
  unfold p_sk
  rw [List.any_eq_true]
  constructor
  · rintro ⟨i, h1, h2⟩
    exact ⟨i, List.mem_range.mp h1, of_decide_eq_true h2⟩
  · rintro ⟨i, h1, h2⟩
    exact ⟨i, List.mem_range.mpr h1, decide_eq_true h2⟩
theorem lo_eqG {a b : Nat} (ha : a < 4294967296) (hb : b < 4294967296) : Int64.ofNat a = Int64.ofNat b ↔ a = b := lo_eq (by omega) (by omega)
theorem p_e8 {k i : Nat} : (8 : Int32) * Int32.ofNat k + Int32.ofNat i = Int32.ofNat (8 * k + i) := by
  rw [show (8 : Int32) = Int32.ofNat 8 from rfl, jo_mul, jo_add]
theorem p_e2k {k i : Nat} : (2000 : Int32) * Int32.ofNat k + Int32.ofNat i = Int32.ofNat (2000 * k + i) := by
  rw [show (2000 : Int32) = Int32.ofNat 2000 from rfl, jo_mul, jo_add]
theorem p_e32 {k : Nat} : (32 : Int32) * Int32.ofNat k = Int32.ofNat (32 * k) := jo_mul (a := 32) (b := k)
section PO18
variable {ps : List p_e} {H : jH} {r lr p : Nat} {nm : List UInt8}
theorem z18_inPool (hs : jsh H) (hB : p_PB ps H) (hok : p_ok ps) (hr : jK H r = (101, lr)) (hlr : lr < 2147483600) (hp : p + 32 ≤ lr) (hz : zRow H r p nm) (hn : nm.length = 32) : F_18_inPool 421 r (Int32.ofNat p) H = some (w_fv (p_fi ps nm), H) := by
  have l41 := hok.1
  have k1 : (jK H 421).1 = 18 := gT (sK_421 hs)
  have loop : ∀ (d i fu : Nat), i + d = ps.length → d < fu → F_18_inPool_2 fu 421 r (Int32.ofNat p) (Int32.ofNat i) H = some (w_fv (b_fi ((ps.drop i).map fun e => e.1.1) nm i), H) := by
    intro d
    induction d with
    | zero =>
      intro i fu hl hfu
      obtain ⟨fu, rfl⟩ : ∃ k, fu = k + 1 := ⟨fu - 1, by omega⟩
      unfold F_18_inPool_2 B_18_inPool_2
      rw [jg_t k1, hB.1, if_pos (by rw [jo_le (by omega) (by omega)]; omega), List.drop_eq_nil_of_le (by omega)]
      rfl
    | succ d ih =>
      intro i fu hl hfu
      obtain ⟨fu, rfl⟩ : ∃ k, fu = k + 1 := ⟨fu - 1, by omega⟩
      have hi : i < ps.length := by omega
      have hg := List.getElem?_eq_getElem hi
      obtain ⟨⟨-, -, q2, -⟩, -⟩ := hB.2 i _ hg
      have e1 : Int32.ofNat i + 1 = Int32.ofNat (i + 1) := jo_add (a := i) (b := 1)
      have nxt := ih (i + 1) fu (by omega) (by omega)
      have sm := p_like (sK_498 hs) hr (by decide) hlr (by omega) hp q2 hz (hok.2.1 i _ hg).2 hn
      unfold F_18_inPool_2 B_18_inPool_2
      rw [jg_t k1, hB.1, if_neg (by rw [jo_le (by omega) (by omega)]; omega), jg_t k1, sR_421_39 hs, e1, p_e32, List.drop_eq_getElem_cons hi, List.map_cons, b_fi, sm, jb_ok]
      by_cases c : (ps[i]).1.1 = nm
      · rw [if_pos c, if_neg (by decide), if_pos c]
        rfl
      · rw [if_neg c, if_pos rfl, if_neg c]
        exact nxt
  unfold F_18_inPool p_fi
  exact loop ps.length 0 jfuel (Nat.zero_add _) (by unfold jfuel; omega)
theorem p_in18 {e : p_e} {k i : Nat} (hok : p_ok ps) (hB : p_PB ps H) (he : ps[k]? = some e) (hi : i < e.1.2.2.1.length) : zRow H 496 (2000 * k + (e.1.2.2.1.getD i (0, 0)).1) (w_in1 e.1.2.1 e.1.2.2 i) ∧ (w_in1 e.1.2.1 e.1.2.2 i).length = 32 ∧ 2000 * k + (e.1.2.2.1.getD i (0, 0)).1 + 32 ≤ 84000 := by
  have hy := (hok.2.1 k e he).1
  have hk := (List.getElem?_eq_some_iff.mp he).1
  have l41 := hok.1
  have l2 := hy.2.2
  obtain ⟨m1, m2, m3, m4⟩ := w_in e.1.2.2 e.1.2.1 hy hi
  exact ⟨w_sl_row (hB.2 k e he).1.1 rfl, w_sl_len (by omega), by omega⟩
theorem z18_hangs {e : p_e} {k : Nat} (hs : jsh H) (hB : p_PB ps H) (hok : p_ok ps) (he : ps[k]? = some e) (hr : jK H r = (101, lr)) (hlr : lr < 2147483600) (hp : p + 32 ≤ lr) (hz : zRow H r p nm) (hn : nm.length = 32) : F_18_hangs 421 (Int32.ofNat k) r (Int32.ofNat p) H = some ((if p_sp e.1.2.1 e.1.2.2 nm = true then 1 else 0), H) := by
  have l41 := hok.1
  have hk := (List.getElem?_eq_some_iff.mp he).1
  have k1 : (jK H 421).1 = 18 := gT (sK_421 hs)
  have hy := (hok.2.1 k e he).1
  have l8 : e.1.2.2.1.length ≤ 8 := (ztx_spec hy.1).1
  obtain ⟨-, h5, h6⟩ := hB.2 k e he
  refine jT_det ?_
  have loop : ∀ (d i fu : Nat) (c : Bool), i + d = e.1.2.2.1.length → d < fu → (c = true ↔ ∃ j, j < i ∧ w_in1 e.1.2.1 e.1.2.2 j = nm) → jT (F_18_hangs_6 fu 421 (Int32.ofNat k) r (Int32.ofNat p) (if c = true then 1 else 0) (Int32.ofNat i) H) (fun v h => v = (if p_sp e.1.2.1 e.1.2.2 nm = true then 1 else 0) ∧ h = H) := by
    intro d
    induction d with
    | zero =>
      intro i fu c hl hfu hc
      obtain ⟨fu, rfl⟩ : ∃ k, fu = k + 1 := ⟨fu - 1, by omega⟩
      obtain rfl : i = e.1.2.2.1.length := by omega
      have ec : c = p_sp e.1.2.1 e.1.2.2 nm := jbl (hc.trans p_sp_t.symm)
      unfold F_18_hangs_6 B_18_hangs_6
      rw [sR_421_41 hs, jo_nat (n := k) (by omega), h5, ← ec]
      exact jT_g k1 (jT_g (gA (sK_500 hs) (jo_in (by omega) (by omega))) (jT_pos (by rw [jo_le (by omega) (by omega)]; exact Nat.le_refl _) (jT_g (by cases c; exact Or.inl rfl; exact Or.inr rfl) (jT_ret ⟨rfl, rfl⟩))))
    | succ d ih =>
      intro i fu c hl hfu hc
      obtain ⟨fu, rfl⟩ : ∃ k, fu = k + 1 := ⟨fu - 1, by omega⟩
      have hi : i < e.1.2.2.1.length := by omega
      obtain ⟨q1, q2, q3⟩ := p_in18 hok hB he hi
      obtain ⟨g1, g2⟩ := h6 i hi
      have e1 : Int32.ofNat i + 1 = Int32.ofNat (i + 1) := jo_add (a := i) (b := 1)
      have sm := p_like (sK_496 hs) hr (by decide) hlr q3 hp q1 hz q2 hn
      have t1 : (∃ j, j < i + 1 ∧ w_in1 e.1.2.1 e.1.2.2 j = nm) → jT (B_18_hangs_54 (F_18_hangs_6 fu) 421 (Int32.ofNat k) r (Int32.ofNat p) (Int32.ofNat i) H) (fun v h => v = (if p_sp e.1.2.1 e.1.2.2 nm = true then 1 else 0) ∧ h = H) := fun w => by
        unfold B_18_hangs_54 B_18_hangs_59
        rw [e1]
        exact jT_l (ih (i + 1) fu true (by omega) (by omega) ⟨fun _ => w, fun _ => rfl⟩)
      unfold F_18_hangs_6 B_18_hangs_6
      rw [sR_421_41 hs, jo_nat (n := k) (by omega), h5, sR_421_42 hs, sR_421_37 hs, p_e8, jo_nat (n := 8 * k + i) (by omega), g1, p_e2k]
      refine jT_g k1 (jT_g (gA (sK_500 hs) (jo_in (by omega) (by omega))) (jT_neg (by rw [jo_le (by omega) (by omega)]; omega) ?_))
      cases c with
      | true =>
        obtain ⟨j, j1, j2⟩ := hc.mp rfl
        exact jT_pos (by decide) (t1 ⟨j, by omega, j2⟩)
      | false =>
        refine jT_neg (fun w => w rfl) (jT_g k1 (jT_g k1 (jT_g (gA (sK_501 hs) (jo_in (by omega) (by omega))) ?_)))
        rw [sm, jb_ok]
        by_cases q : w_in1 e.1.2.1 e.1.2.2 i = nm
        · rw [if_pos q]
          exact jT_neg (by decide) (t1 ⟨i, by omega, q⟩)
        · rw [if_neg q]
          unfold B_18_hangs_59
          rw [e1]
          refine jT_pos rfl (jT_l (ih (i + 1) fu false (by omega) (by omega) ⟨fun w => (by cases w), fun ⟨j, j1, j2⟩ => ?_⟩))
          by_cases q0 : j = i
          · rw [q0] at j2
            exact absurd j2 q
          · exact hc.mpr ⟨j, by omega, j2⟩
  unfold F_18_hangs
  exact loop e.1.2.2.1.length 0 jfuel false (Nat.zero_add _) (by unfold jfuel; omega) ⟨fun w => (by cases w), fun ⟨j, j1, _⟩ => absurd j1 (Nat.not_lt_zero j)⟩
theorem z18_spends {e : p_e} {k ix : Nat} (hs : jsh H) (hB : p_PB ps H) (hok : p_ok ps) (he : ps[k]? = some e) (hr : jK H r = (101, lr)) (hlr : lr < 2147483600) (hp : p + 32 ≤ lr) (hz : zRow H r p nm) (hn : nm.length = 32) (hix : ix < 4294967296) : F_18_spends 421 (Int32.ofNat k) r (Int32.ofNat p) (Int64.ofNat ix) H = some ((if p_sk e.1.2.1 e.1.2.2 nm ix = true then 1 else 0), H) := by
  have l41 := hok.1
  have hk := (List.getElem?_eq_some_iff.mp he).1
  have k1 : (jK H 421).1 = 18 := gT (sK_421 hs)
  have hy := (hok.2.1 k e he).1
  have l8 : e.1.2.2.1.length ≤ 8 := (ztx_spec hy.1).1
  obtain ⟨-, h5, h6⟩ := hB.2 k e he
  refine jT_det ?_
  have loop : ∀ (d i fu : Nat) (c : Bool), i + d = e.1.2.2.1.length → d < fu → (c = true ↔ ∃ j, j < i ∧ w_in2 e.1.2.1 e.1.2.2 j = ix ∧ w_in1 e.1.2.1 e.1.2.2 j = nm) → jT (F_18_spends_6 fu 421 (Int32.ofNat k) r (Int32.ofNat p) (Int64.ofNat ix) (if c = true then 1 else 0) (Int32.ofNat i) H) (fun v h => v = (if p_sk e.1.2.1 e.1.2.2 nm ix = true then 1 else 0) ∧ h = H) := by
    intro d
    induction d with
    | zero =>
      intro i fu c hl hfu hc
      obtain ⟨fu, rfl⟩ : ∃ k, fu = k + 1 := ⟨fu - 1, by omega⟩
      obtain rfl : i = e.1.2.2.1.length := by omega
      have ec : c = p_sk e.1.2.1 e.1.2.2 nm ix := jbl (hc.trans p_sk_t.symm)
      unfold F_18_spends_6 B_18_spends_6
      rw [sR_421_41 hs, jo_nat (n := k) (by omega), h5, ← ec]
      exact jT_g k1 (jT_g (gA (sK_500 hs) (jo_in (by omega) (by omega))) (jT_pos (by rw [jo_le (by omega) (by omega)]; exact Nat.le_refl _) (jT_g (by cases c; exact Or.inl rfl; exact Or.inr rfl) (jT_ret ⟨rfl, rfl⟩))))
    | succ d ih =>
      intro i fu c hl hfu hc
      obtain ⟨fu, rfl⟩ : ∃ k, fu = k + 1 := ⟨fu - 1, by omega⟩
      have hi : i < e.1.2.2.1.length := by omega
      obtain ⟨q1, q2, q3⟩ := p_in18 hok hB he hi
      obtain ⟨g1, g2⟩ := h6 i hi
      have e1 : Int32.ofNat i + 1 = Int32.ofNat (i + 1) := jo_add (a := i) (b := 1)
      have sm := p_like (sK_496 hs) hr (by decide) hlr q3 hp q1 hz q2 hn
      have t1 : (∃ j, j < i + 1 ∧ w_in2 e.1.2.1 e.1.2.2 j = ix ∧ w_in1 e.1.2.1 e.1.2.2 j = nm) → jT (B_18_spends_72 (F_18_spends_6 fu) 421 (Int32.ofNat k) r (Int32.ofNat p) (Int64.ofNat ix) (Int32.ofNat i) H) (fun v h => v = (if p_sk e.1.2.1 e.1.2.2 nm ix = true then 1 else 0) ∧ h = H) := fun w => by
        unfold B_18_spends_72 B_18_spends_77
        rw [e1]
        exact jT_l (ih (i + 1) fu true (by omega) (by omega) ⟨fun _ => w, fun _ => rfl⟩)
      have t0 : (¬ ∃ j, j < i + 1 ∧ w_in2 e.1.2.1 e.1.2.2 j = ix ∧ w_in1 e.1.2.1 e.1.2.2 j = nm) → jT (B_18_spends_76 (F_18_spends_6 fu) 421 (Int32.ofNat k) r (Int32.ofNat p) (Int64.ofNat ix) (Int32.ofNat i) H) (fun v h => v = (if p_sk e.1.2.1 e.1.2.2 nm ix = true then 1 else 0) ∧ h = H) := fun w => by
        unfold B_18_spends_76 B_18_spends_77
        rw [e1]
        exact jT_l (ih (i + 1) fu false (by omega) (by omega) ⟨fun q => (by cases q), fun q => absurd q w⟩)
      unfold F_18_spends_6 B_18_spends_6
      rw [sR_421_41 hs, jo_nat (n := k) (by omega), h5, sR_421_42 hs, sR_421_43 hs, sR_421_37 hs, p_e8, jo_nat (n := 8 * k + i) (by omega), g1, g2, p_e2k]
      refine jT_g k1 (jT_g (gA (sK_500 hs) (jo_in (by omega) (by omega))) (jT_neg (by rw [jo_le (by omega) (by omega)]; omega) ?_))
      cases c with
      | true =>
        obtain ⟨j, j1, j2⟩ := hc.mp rfl
        exact jT_pos (by decide) (t1 ⟨j, by omega, j2⟩)
      | false =>
        have old : ∀ j, j < i → ¬ (w_in2 e.1.2.1 e.1.2.2 j = ix ∧ w_in1 e.1.2.1 e.1.2.2 j = nm) := fun j hj w => by
          have := hc.mpr ⟨j, hj, w⟩
          cases this
        refine jT_neg (fun w => w rfl) (jT_g k1 (jT_g (gA (sK_502 hs) (jo_in (by omega) (by omega))) ?_))
        by_cases q4 : w_in2 e.1.2.1 e.1.2.2 i = ix
        · refine jT_neg (fun w => w (by rw [q4])) (jT_g k1 (jT_g k1 (jT_g (gA (sK_501 hs) (jo_in (by omega) (by omega))) ?_)))
          rw [sm, jb_ok]
          by_cases q : w_in1 e.1.2.1 e.1.2.2 i = nm
          · rw [if_pos q]
            exact jT_neg (by decide) (t1 ⟨i, by omega, q4, q⟩)
          · rw [if_neg q]
            refine jT_pos rfl (t0 fun ⟨j, j1, j2⟩ => ?_)
            by_cases q0 : j = i
            · rw [q0] at j2
              exact q j2.2
            · exact old j (by omega) j2
        · refine jT_pos (fun w => q4 ((lo_eqG (zho_lt _ _ 4) hix).mp w)) (t0 fun ⟨j, j1, j2⟩ => ?_)
          by_cases q0 : j = i
          · rw [q0] at j2
            exact q4 j2.1
          · exact old j (by omega) j2
  unfold F_18_spends
  exact loop e.1.2.2.1.length 0 jfuel false (Nat.zero_add _) (by unfold jfuel; omega) ⟨fun w => (by cases w), fun ⟨j, j1, _⟩ => absurd j1 (Nat.not_lt_zero j)⟩
/-- one in the pool is opened -/
def p_op (k : Nat) (e : p_e) (H : jH) : Prop := jI H 465 5 = Int32.ofNat e.1.2.2.2.1.length ∧ ∀ i, i < e.1.2.2.2.1.length → jL H 471 i = Int64.ofNat (zho (fun i => e.1.2.1.getD i 0) ((e.1.2.2.2.1.getD i (0, 0)).1 + 8) 8) ∧ jI H 472 i = Int32.ofNat (2000 * k + (e.1.2.2.2.1.getD i (0, 0)).1 + 9) ∧ jI H 473 i = Int32.ofNat (e.1.2.2.2.1.getD i (0, 0)).2
theorem z18_openPool {α : Type} {Q : α → jH → Prop} {kk : Unit → jH → Option (α × jH)} {e : p_e} {k : Nat} (hs : jsh H) (hB : p_PB ps H) (hok : p_ok ps) (he : ps[k]? = some e) (hk : ∀ H', jsh H' → jfr (zS17 465) H H' → p_op k e H' → jT (kk () H') Q) : jT (jb (F_18_openPool 421 (Int32.ofNat k) H) kk) Q := by
  have l41 := hok.1
  have hlt := (List.getElem?_eq_some_iff.mp he).1
  have k1 : (jK H 421).1 = 18 := gT (sK_421 hs)
  have hy := (hok.2.1 k e he).1
  have l2 := hy.2.2
  obtain ⟨⟨h1, h2, -, -⟩, -, -⟩ := hB.2 k e he
  unfold F_18_openPool
  refine jT_b ?_
  rw [sR_421_38 hs, sR_421_5 hs, sR_421_37 hs, jo_nat (n := k) (by omega), h2, p_e2k, show (2000 : Int32) * Int32.ofNat k = Int32.ofNat (2000 * k) from jo_mul (a := 2000) (b := k)]
  refine jT_g k1 (jT_g k1 (jT_g k1 (jT_g (gA (sK_497 hs) (jo_in (by omega) (by omega))) (jT_g (gT (sK_465 hs)) (jT_b (jT_imp (z17_read (t := 465) (s := 2000 * k) (e := 2000 * k + e.1.2.1.length) (row := 496) (len := 84000) (b := jB H 496) (by unfold zT; decide) hs (Or.inr (by decide)) (sK_496 hs) (by omega) (by omega) (by decide) rfl) fun r h hr => ?_))))))
  obtain ⟨r1, r2, r3⟩ := hr
  have ex := ztx_ty (b := jB H 496) (s := 2000 * k) (e := 2000 * k + e.1.2.1.length) hy h1 (Nat.le_refl _)
  rcases r3 with ⟨x, e1, e2, e3⟩ | ⟨e1, -⟩
  · rw [ex] at e1
    have e1' := (Option.some.inj e1).symm
    subst e1'
    obtain ⟨-, b1, b2, b3, c1, c2⟩ := e3
    have n2 : (zshx (2000 * k) e.1.2.2).2.1.length = e.1.2.2.2.1.length := List.length_map _
    refine jT_ret (hk h r1 r2 ⟨by rw [← n2]; exact b3, fun i hi => ?_⟩)
    obtain ⟨d1, d2, d3⟩ := c2 i _ (zsh1_at hi)
    obtain ⟨m1, m2, m3, m4⟩ := w_out e.1.2.2 e.1.2.1 hy hi
    refine ⟨?_, d2, d3⟩
    rw [show jL h 471 i = _ from d1, zle_zho, Nat.add_assoc, w_zho h1 (by omega) (by omega)]
  · rw [ex] at e1
    cases e1
end PO18
