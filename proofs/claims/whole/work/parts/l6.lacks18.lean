/-! Knots: the reference's looks. -/
def p_row (r : Nat) : Prop := r = 474 ∨ r = 504 ∨ r = 506
section LK18P
variable {α : Type} {ps : List p_e} {Hs : jH} {x : b_t} {row s len : Nat} {Q : α → jH → Prop}
theorem p_rx {tb : List UInt8} {y : w_y} {H : jH} (hy : w_ty tb y) (hx : w_rx row s len tb y H) {i : Nat} (hi : i < y.1.length) : jI H 457 i = Int32.ofNat (s + (y.1.getD i (0, 0)).1) ∧ jL H 458 i = Int64.ofNat (w_in2 tb y i) ∧ zRow H row (s + (y.1.getD i (0, 0)).1) (w_in1 tb y i) ∧ (w_in1 tb y i).length = 32 ∧ s + (y.1.getD i (0, 0)).1 + 32 ≤ len := by
  obtain ⟨⟨c1, c2, c3, c4, c5, c6⟩, -, e1, -⟩ := hx
  obtain ⟨g1, g2, g3, g4, g5⟩ := e1 i hi
  obtain ⟨m1, m2, m3, m4⟩ := w_in y tb hy hi
  rw [Nat.add_assoc, w_zho c6 (by omega) (by omega)] at g5
  exact ⟨g1, g5, w_sl_row c6 rfl, w_sl_len (by omega), by omega⟩
theorem w_rx_465 {tb : List UInt8} {y : w_y} {H H' : jH} (hr : p_row row) (h : w_rx row s len tb y H) (hf : jfr (zS17 465) H H') : w_rx row s len tb y H' := by
  unfold p_row at hr
  exact w_rx_T h hf (fun j w => by unfold zS17 at w; omega) fun a j w => by unfold zS17 at w; omega
theorem p_PB_465 {H H' : jH} (h : p_PB ps H) (hf : jfr (zS17 465) H H') : p_PB ps H' := p_PB_fr h hf fun a j w => by unfold zS17 at w; omega
theorem z18_lacks {k : Int32 → jH → Option (α × jH)} (hr : p_row row) (hs0 : jsh Hs) (hok : p_ok ps) (hB0 : p_PB ps Hs) (hy : w_ty x.2.1 x.2.2) (hx0 : w_rx row s len x.2.1 x.2.2 Hs) (hn0 : zRow Hs 507 0 x.1) (h32 : x.1.length = 32) (hk : ∀ H', jsh H' → jfr (zS17 465) Hs H' → jT (k (p_ib (p_lk ps x)) H') Q) : jT (jb (F_18_lacks 421 Hs) k) Q := by
  have l41 := hok.1
  have l8 : x.2.2.1.length ≤ 8 := (ztx_spec hy.1).1
  have l82 : x.2.2.2.1.length ≤ 8 := (ztx_spec hy.1).2.1
  have k18 : ∀ {H}, jsh H → (jK H 421).1 = 18 := fun hs => gT (sK_421 hs)
  have k17 : ∀ {H}, jsh H → (jK H 456).1 = 17 := fun hs => gT (sK_456 hs)
  have k17b : ∀ {H}, jsh H → (jK H 465).1 = 17 := fun hs => gT (sK_465 hs)
  have yes : p_lk ps x = true → ∀ H', jsh H' → jfr (zS17 465) Hs H' → jT (k 1 H') Q := fun w H' hs hf => by
    have := hk H' hs hf
    rw [w] at this
    exact this
  -- the other way round
  have loopB : ∀ (H : jH), jsh H → jfr (zS17 465) Hs H → (∀ i, i < x.2.2.1.length → ∀ j, j < ps.length → w_in1 x.2.1 x.2.2 i = (p_g ps j).1.1 → ¬ (p_g ps j).1.2.2.2.1.length ≤ w_in2 x.2.1 x.2.2 i) → ∀ (d p fu : Nat), p + d = ps.length → d < fu → (∀ j, j < p → p_ms (p_g ps j).1.2.1 (p_g ps j).1.2.2 x.1 x.2.2.2.1.length = false) → jT (F_18_lacks_77 fu 421 (Int32.ofNat p) H) (fun v h => jT (k v h) Q) := fun H hs hf hA => by
    have hB := p_PB_465 hB0 hf
    have hx := w_rx_465 hr hx0 hf
    have hn : zRow H 507 0 x.1 := zRow_eq hn0 fun i _ => jfr_B hf (by unfold zS17; omega)
    have d4 := hx.2.1.2.2.2
    intro d
    induction d with
    | zero =>
      intro p fu hl hfu hm
      obtain ⟨fu, rfl⟩ : ∃ k, fu = k + 1 := ⟨fu - 1, by omega⟩
      obtain rfl : p = ps.length := by omega
      unfold F_18_lacks_77 B_18_lacks_77
      rw [hB.1]
      refine jT_g (k18 hs) (jT_pos (by rw [jo_le (by omega) (by omega)]; exact Nat.le_refl _) (jT_g (Or.inl rfl) (jT_ret ?_)))
      have := hk H hs hf
      rw [show p_lk ps x = false from ?_] at this
      · exact this
      · cases hq : p_lk ps x with
        | false => rfl
        | true =>
          obtain ⟨j, e, j1, j2⟩ := p_any_t.mp hq
          have hj := (List.getElem?_eq_some_iff.mp j1).1
          have eg := p_g_of j1
          rcases Bool.or_eq_true_iff.mp j2 with w | w
          · obtain ⟨i, i1, i2, i3⟩ := p_ms_t.mp w
            refine absurd ?_ (hA i i1 j hj ?_)
            · rw [eg]
              exact i2
            · rw [eg]
              exact i3
          · have := hm j hj
            rw [eg, w] at this
            cases this
    | succ d ih =>
      intro p fu hl hfu hm
      obtain ⟨fu, rfl⟩ : ∃ k, fu = k + 1 := ⟨fu - 1, by omega⟩
      have hp : p < ps.length := by omega
      have he := p_g_at hp
      have hye := (hok.2.1 p _ he).1
      have le8 : (p_g ps p).1.2.2.1.length ≤ 8 := (ztx_spec hye.1).1
      obtain ⟨-, h5, h6⟩ := hB.2 p _ he
      have e1p : Int32.ofNat p + 1 = Int32.ofNat (p + 1) := jo_add (a := p) (b := 1)
      have inner : ∀ (d i fu2 : Nat), i + d = (p_g ps p).1.2.2.1.length → d < fu2 → (∀ j, j < i → ¬ (x.2.2.2.1.length ≤ w_in2 (p_g ps p).1.2.1 (p_g ps p).1.2.2 j ∧ w_in1 (p_g ps p).1.2.1 (p_g ps p).1.2.2 j = x.1)) → jT (F_18_lacks_87 (F_18_lacks_77 fu) fu2 421 (Int32.ofNat p) (Int32.ofNat i) H) (fun v h => jT (k v h) Q) := by
        intro d
        induction d with
        | zero =>
          intro i fu2 hl2 hfu2 hm2
          obtain ⟨fu2, rfl⟩ : ∃ k, fu2 = k + 1 := ⟨fu2 - 1, by omega⟩
          unfold F_18_lacks_87 B_18_lacks_87
          rw [sR_421_41 hs, jo_nat (n := p) (by omega), h5, e1p]
          refine jT_g (k18 hs) (jT_g (gA (sK_500 hs) (jo_in (by omega) (by omega))) (jT_pos (by rw [jo_le (by omega) (by omega)]; omega) (jT_l (ih (p + 1) fu (by omega) (by omega) fun j hj => ?_))))
          by_cases q : j = p
          · rw [q]
            cases hq : p_ms (p_g ps p).1.2.1 (p_g ps p).1.2.2 x.1 x.2.2.2.1.length with
            | false => rfl
            | true =>
              obtain ⟨i', i1, i2, i3⟩ := p_ms_t.mp hq
              exact absurd ⟨i2, i3⟩ (hm2 i' (by omega))
          · exact hm j (by omega)
        | succ d ih2 =>
          intro i fu2 hl2 hfu2 hm2
          obtain ⟨fu2, rfl⟩ : ∃ k, fu2 = k + 1 := ⟨fu2 - 1, by omega⟩
          have hi : i < (p_g ps p).1.2.2.1.length := by omega
          obtain ⟨q1, q2, q3⟩ := p_in18 hok hB he hi
          obtain ⟨g1, g2⟩ := h6 i hi
          have e1 : Int32.ofNat i + 1 = Int32.ofNat (i + 1) := jo_add (a := i) (b := 1)
          have sm := p_like (q := 0) (sK_496 hs) (sK_507 hs) (by decide) (by decide) q3 (by decide) q1 hn q2 h32
          have lv : w_in2 (p_g ps p).1.2.1 (p_g ps p).1.2.2 i < 4294967296 := zho_lt _ _ 4
          have nxt : ¬ (x.2.2.2.1.length ≤ w_in2 (p_g ps p).1.2.1 (p_g ps p).1.2.2 i ∧ w_in1 (p_g ps p).1.2.1 (p_g ps p).1.2.2 i = x.1) → jT (B_18_lacks_156 (F_18_lacks_87 (F_18_lacks_77 fu) fu2) 421 (Int32.ofNat p) (Int32.ofNat i) H) (fun v h => jT (k v h) Q) := fun hc => by
            unfold B_18_lacks_156
            rw [e1]
            refine jT_l (ih2 (i + 1) fu2 (by omega) (by omega) fun j hj => ?_)
            by_cases q : j = i
            · rw [q]
              exact hc
            · exact hm2 j (by omega)
          unfold F_18_lacks_87 B_18_lacks_87
          rw [sR_421_41 hs, jo_nat (n := p) (by omega), h5, sR_421_43 hs, sR_421_42 hs, sR_421_37 hs, sR_421_4 hs, sR_421_49 hs, p_e8, jo_nat (n := 8 * p + i) (by omega), g1, g2, p_e2k, d4, lo_of (by omega)]
          refine jT_g (k18 hs) (jT_g (gA (sK_500 hs) (jo_in (by omega) (by omega))) (jT_neg (by rw [jo_le (by omega) (by omega)]; omega) (jT_g (k18 hs) (jT_g (gA (sK_502 hs) (jo_in (by omega) (by omega))) (jT_g (k18 hs) (jT_g (k17 hs) ?_))))))
          by_cases c : w_in2 (p_g ps p).1.2.1 (p_g ps p).1.2.2 i < x.2.2.2.1.length
          · exact jT_pos ((lo_lt (by omega) (by omega)).mpr c) (nxt fun w => by omega)
          · refine jT_neg (fun w => c ((lo_lt (by omega) (by omega)).mp w)) (jT_g (k18 hs) (jT_g (k18 hs) (jT_g (gA (sK_501 hs) (jo_in (by omega) (by omega))) (jT_g (k18 hs) ?_))))
            show jT (jb (F_18_like 496 _ 507 (Int32.ofNat 0) 32 H) _) _
            rw [sm, jb_ok]
            by_cases c2 : w_in1 (p_g ps p).1.2.1 (p_g ps p).1.2.2 i = x.1
            · rw [if_pos c2]
              exact jT_neg (by decide) (jT_g (Or.inr rfl) (jT_ret (yes (p_any_t.mpr ⟨p, _, he, Bool.or_eq_true_iff.mpr (Or.inr (p_ms_t.mpr ⟨i, hi, by omega, c2⟩))⟩) H hs hf)))
            · rw [if_neg c2]
              exact jT_pos rfl (nxt fun w => c2 w.2)
      unfold F_18_lacks_77 B_18_lacks_77
      rw [hB.1]
      exact jT_g (k18 hs) (jT_neg (by rw [jo_le (by omega) (by omega)]; omega) (inner _ 0 jfuel (Nat.zero_add _) (by unfold jfuel; omega) fun j hj => absurd hj (Nat.not_lt_zero j)))
  -- its own inputs
  have loopA : ∀ (d i fu : Nat) (H : jH), i + d = x.2.2.1.length → d < fu → jsh H → jfr (zS17 465) Hs H → (∀ i', i' < i → ∀ j, j < ps.length → w_in1 x.2.1 x.2.2 i' = (p_g ps j).1.1 → ¬ (p_g ps j).1.2.2.2.1.length ≤ w_in2 x.2.1 x.2.2 i') → jT (F_18_lacks_2 fu 421 (Int32.ofNat i) H) (fun v h => jT (k v h) Q) := by
    intro d
    induction d with
    | zero =>
      intro i fu H hl hfu hs hf hm
      obtain ⟨fu, rfl⟩ : ∃ k, fu = k + 1 := ⟨fu - 1, by omega⟩
      have hx := w_rx_465 hr hx0 hf
      have d3 := hx.2.1.2.2.1
      unfold F_18_lacks_2 B_18_lacks_2
      rw [sR_421_4 hs, d3]
      refine jT_g (k18 hs) (jT_g (k17 hs) (jT_pos (by rw [jo_le (by omega) (by omega)]; omega) ?_))
      exact loopB H hs hf (fun i' hi' => hm i' (by omega)) ps.length 0 jfuel (Nat.zero_add _) (by unfold jfuel; omega) fun j hj => absurd hj (Nat.not_lt_zero j)
    | succ d ih =>
      intro i fu H hl hfu hs hf hm
      obtain ⟨fu, rfl⟩ : ∃ k, fu = k + 1 := ⟨fu - 1, by omega⟩
      have hi : i < x.2.2.1.length := by omega
      have hB := p_PB_465 hB0 hf
      have hx := w_rx_465 hr hx0 hf
      have d3 := hx.2.1.2.2.1
      have c1 := hx.1.1
      have c2 := hx.1.2.1
      have clen : len < 2000000 := hx.1.2.2.2.1
      obtain ⟨g1, g2, g3, g4, g5⟩ := p_rx hy hx hi
      have e1 : Int32.ofNat i + 1 = Int32.ofNat (i + 1) := jo_add (a := i) (b := 1)
      have lv : w_in2 x.2.1 x.2.2 i < 4294967296 := zho_lt _ _ 4
      have nxt : ∀ H', jsh H' → jfr (zS17 465) Hs H' → (∀ j, j < ps.length → w_in1 x.2.1 x.2.2 i = (p_g ps j).1.1 → ¬ (p_g ps j).1.2.2.2.1.length ≤ w_in2 x.2.1 x.2.2 i) → jT (B_18_lacks_69 (F_18_lacks_2 fu) 421 (Int32.ofNat i) H') (fun v h => jT (k v h) Q) := fun H' hs' hf' hc => by
        unfold B_18_lacks_69
        rw [e1]
        refine jT_l (ih (i + 1) fu H' (by omega) (by omega) hs' hf' fun j hj => ?_)
        by_cases q : j = i
        · rw [q]
          exact hc
        · exact hm j (by omega)
      have hin := z18_inPool hs hB hok c2 (by omega) g5 g3 g4
      unfold F_18_lacks_2 B_18_lacks_2
      rw [sR_421_4 hs, d3, sR_456_7 hs, c1, jo_nat (n := i) (by omega), g1, hin]
      refine jT_g (k18 hs) (jT_g (k17 hs) (jT_neg (by rw [jo_le (by omega) (by omega)]; omega) (jT_g (k18 hs) (jT_g (k17 hs) (jT_g (k18 hs) (jT_g (k17 hs) (jT_g (gA (sK_457 hs) (jo_in (by omega) (by omega))) (jT_g (k18 hs) ?_))))))))
      rw [jb_ok]
      cases hfi : p_fi ps (w_in1 x.2.1 x.2.2 i) with
      | none => exact jT_neg w_fv_neg (nxt H hs hf fun j hj w => absurd w.symm (p_fi_none hfi (p_g_at hj)))
      | some p =>
        obtain ⟨hp, e, he, en⟩ := p_fi_some hfi
        have eg := p_g_of he
        have le8 : e.1.2.2.2.1.length ≤ 8 := (ztx_spec (hok.2.1 p e he).1.1).2.1
        refine jT_pos (w_fv_pos (by omega)) (jT_g (k18 hs) ?_)
        show jT (jb (F_18_openPool 421 (Int32.ofNat p) H) _) _
        refine z18_openPool hs hB hok he fun H1 s1 f1 op => ?_
        have f1' := jfr_trans hf f1
        have hx1 := w_rx_465 hr hx0 f1'
        obtain ⟨-, g21, -⟩ := p_rx hy hx1 hi
        rw [sR_421_4 s1, sR_421_5 s1, sR_456_8 s1, g21, op.1, lo_of (by omega)]
        refine jT_g (k18 s1) (jT_g (k17 s1) (jT_g (gA (sK_458 s1) (jo_in (by omega) (by omega))) (jT_g (k18 s1) (jT_g (k17b s1) ?_))))
        by_cases c : w_in2 x.2.1 x.2.2 i < e.1.2.2.2.1.length
        · refine jT_pos ((lo_lt (by omega) (by omega)).mpr c) (nxt H1 s1 f1' fun j hj w => ?_)
          have := p_fi_of hok (p_g_at hj) w.symm
          rw [hfi] at this
          rw [← Option.some.inj this, eg]
          omega
        · exact jT_neg (fun w => c ((lo_lt (by omega) (by omega)).mp w)) (jT_g (Or.inr rfl) (jT_ret (yes (p_any_t.mpr ⟨p, e, he, Bool.or_eq_true_iff.mpr (Or.inl (p_ms_t.mpr ⟨i, hi, by omega, en.symm⟩))⟩) H1 s1 f1')))
  unfold F_18_lacks
  exact jT_b (loopA _ 0 jfuel Hs (Nat.zero_add _) (by unfold jfuel; omega) hs0 jfr_refl fun j hj => absurd hj (Nat.not_lt_zero j))
theorem z18_hangsOn {k : Int32 → jH → Option (α × jH)} (hr : p_row row) (hs0 : jsh Hs) (hok : p_ok ps) (hB0 : p_PB ps Hs) (hy : w_ty x.2.1 x.2.2) (hx0 : w_rx row s len x.2.1 x.2.2 Hs) (hn0 : zRow Hs 507 0 x.1) (h32 : x.1.length = 32)
    (hk0 : ∀ H', jsh H' → jfr p_T503 Hs H' → ¬ p_tie ps x → jT (k 0 H') Q) (hk1 : ∀ H', jsh H' → jfr p_T503 Hs H' → p_tie ps x → jT (k 1 H') Q) : jT (jb (F_18_hangsOnItself 421 Hs) k) Q := by
  have l41 := hok.1
  have l8 : x.2.2.1.length ≤ 8 := (ztx_spec hy.1).1
  have k18 : ∀ {H}, jsh H → (jK H 421).1 = 18 := fun hs => gT (sK_421 hs)
  have k17 : ∀ {H}, jsh H → (jK H 456).1 = 17 := fun hs => gT (sK_456 hs)
  unfold F_18_hangsOnItself
  rw [sR_421_49 hs0]
  refine jT_b (jT_g (k18 hs0) (jT_g (k18 hs0) ?_))
  show jT (jb (F_18_family 421 507 (Int32.ofNat 0) Hs) _) _
  refine y18_family (S := p_S ps x.1) hs0 hok hB0 (sK_507 hs0) (by decide) (by decide) (by decide) hn0 h32 (fun i hi => rfl) fun H hs hf hfl => ?_
  have hB := p_PB_503 hB0 hf
  unfold p_row at hr
  have hx : w_rx row s len x.2.1 x.2.2 H := w_rx_T hx0 hf (fun j w => by unfold p_T503 at w; omega) fun a j w => by unfold p_T503 at w; omega
  have hn : zRow H 507 0 x.1 := zRow_eq hn0 fun i _ => jfr_B hf (by unfold p_T503; omega)
  have d3 := hx.2.1.2.2.1
  have c1 := hx.1.1
  have c2 := hx.1.2.1
  have clen : len < 2000000 := hx.1.2.2.2.1
  have loop : ∀ (d i fu : Nat), i + d = x.2.2.1.length → d < fu → (∀ i', i' < i → w_in1 x.2.1 x.2.2 i' ≠ x.1 ∧ ∀ j, j < ps.length → p_fam ps (p_S ps x.1) j = true → w_in1 x.2.1 x.2.2 i' ≠ (p_g ps j).1.1) → jT (F_18_hangsOnItself_11 fu 421 (Int32.ofNat i) H) (fun v h => jT (k v h) Q) := by
    intro d
    induction d with
    | zero =>
      intro i fu hl hfu hm
      obtain ⟨fu, rfl⟩ : ∃ k, fu = k + 1 := ⟨fu - 1, by omega⟩
      unfold F_18_hangsOnItself_11 B_18_hangsOnItself_11
      rw [sR_421_4 hs, d3]
      refine jT_g (k18 hs) (jT_g (k17 hs) (jT_pos (by rw [jo_le (by omega) (by omega)]; omega) (jT_g (Or.inl rfl) (jT_ret (hk0 H hs hf fun w => ?_)))))
      rcases w with w | ⟨j, j1, j2, j3⟩
      · obtain ⟨i', i1, i2⟩ := p_sp_t.mp w
        exact (hm i' (by omega)).1 i2
      · obtain ⟨i', i1, i2⟩ := p_sp_t.mp j3
        exact (hm i' (by omega)).2 j j1 j2 i2
    | succ d ih =>
      intro i fu hl hfu hm
      obtain ⟨fu, rfl⟩ : ∃ k, fu = k + 1 := ⟨fu - 1, by omega⟩
      have hi : i < x.2.2.1.length := by omega
      obtain ⟨g1, g2, g3, g4, g5⟩ := p_rx hy hx hi
      have e1 : Int32.ofNat i + 1 = Int32.ofNat (i + 1) := jo_add (a := i) (b := 1)
      have sm := p_like (q := 0) c2 (sK_507 hs) (by omega) (by decide) g5 (by decide) g3 hn g4 h32
      have inner : w_in1 x.2.1 x.2.2 i ≠ x.1 → ∀ (d j fu2 : Nat), j + d = ps.length → d < fu2 → (∀ j', j' < j → p_fam ps (p_S ps x.1) j' = true → w_in1 x.2.1 x.2.2 i ≠ (p_g ps j').1.1) → jT (F_18_hangsOnItself_55 (F_18_hangsOnItself_11 fu) fu2 421 (Int32.ofNat i) (Int32.ofNat j) H) (fun v h => jT (k v h) Q) := fun hne => by
        intro d
        induction d with
        | zero =>
          intro j fu2 hl2 hfu2 hm2
          obtain ⟨fu2, rfl⟩ : ∃ k, fu2 = k + 1 := ⟨fu2 - 1, by omega⟩
          unfold F_18_hangsOnItself_55 B_18_hangsOnItself_55
          rw [hB.1, e1]
          refine jT_g (k18 hs) (jT_pos (by rw [jo_le (by omega) (by omega)]; omega) (jT_l (ih (i + 1) fu (by omega) (by omega) fun i' hi' => ?_)))
          by_cases q : i' = i
          · rw [q]
            exact ⟨hne, fun j' hj' => hm2 j' (by omega)⟩
          · exact hm i' (by omega)
        | succ d ih2 =>
          intro j fu2 hl2 hfu2 hm2
          obtain ⟨fu2, rfl⟩ : ∃ k, fu2 = k + 1 := ⟨fu2 - 1, by omega⟩
          have hj : j < ps.length := by omega
          have he := p_g_at hj
          have e1j : Int32.ofNat j + 1 = Int32.ofNat (j + 1) := jo_add (a := j) (b := 1)
          have sm2 := p_like c2 (sK_498 hs) (by omega) (by decide) g5 (by omega) g3 (hB.2 j _ he).1.2.2.1 g4 (hok.2.1 j _ he).2
          have nxt : (p_fam ps (p_S ps x.1) j = true → w_in1 x.2.1 x.2.2 i ≠ (p_g ps j).1.1) → jT (B_18_hangsOnItself_106 (F_18_hangsOnItself_55 (F_18_hangsOnItself_11 fu) fu2) 421 (Int32.ofNat i) (Int32.ofNat j) H) (fun v h => jT (k v h) Q) := fun hc => by
            unfold B_18_hangsOnItself_106
            rw [e1j]
            refine jT_l (ih2 (j + 1) fu2 (by omega) (by omega) fun j' hj' => ?_)
            by_cases q : j' = j
            · rw [q]
              exact hc
            · exact hm2 j' (by omega)
          unfold F_18_hangsOnItself_55 B_18_hangsOnItself_55
          rw [hB.1, sR_421_44 hs, sR_421_4 hs, sR_456_7 hs, sR_421_39 hs, c1, jo_nat (n := i) (by omega), jo_nat (n := j) (by omega), g1, hfl j hj, p_e32, sm2]
          refine jT_g (k18 hs) (jT_neg (by rw [jo_le (by omega) (by omega)]; omega) (jT_g (k18 hs) (jT_g (gA (sK_503 hs) (jo_in (by omega) (by omega))) ?_)))
          cases hF : p_fam ps (p_S ps x.1) j with
          | false => exact jT_pos rfl (nxt fun w => by rw [hF] at w; cases w)
          | true =>
            refine jT_neg (by decide) (jT_g (k18 hs) (jT_g (k17 hs) (jT_g (k18 hs) (jT_g (k17 hs) (jT_g (gA (sK_457 hs) (jo_in (by omega) (by omega))) (jT_g (k18 hs) ?_))))))
            rw [jb_ok]
            by_cases c : w_in1 x.2.1 x.2.2 i = (p_g ps j).1.1
            · rw [if_pos c]
              exact jT_neg (by decide) (jT_g (Or.inr rfl) (jT_ret (hk1 H hs hf (Or.inr ⟨j, hj, hF, p_sp_t.mpr ⟨i, hi, c⟩⟩))))
            · rw [if_neg c]
              exact jT_pos rfl (nxt fun _ => c)
      unfold F_18_hangsOnItself_11 B_18_hangsOnItself_11
      rw [sR_421_4 hs, d3, sR_456_7 hs, sR_421_49 hs, c1, jo_nat (n := i) (by omega), g1]
      refine jT_g (k18 hs) (jT_g (k17 hs) (jT_neg (by rw [jo_le (by omega) (by omega)]; omega) (jT_g (k18 hs) (jT_g (k17 hs) (jT_g (k18 hs) (jT_g (k17 hs) (jT_g (gA (sK_457 hs) (jo_in (by omega) (by omega))) (jT_g (k18 hs) ?_))))))))
      show jT (jb (F_18_like row _ 507 (Int32.ofNat 0) 32 H) _) _
      rw [sm, jb_ok]
      by_cases c : w_in1 x.2.1 x.2.2 i = x.1
      · rw [if_pos c]
        exact jT_neg (by decide) (jT_g (Or.inr rfl) (jT_ret (hk1 H hs hf (Or.inl (p_sp_t.mpr ⟨i, hi, c⟩)))))
      · rw [if_neg c]
        exact jT_pos rfl (inner c ps.length 0 jfuel (Nat.zero_add _) (by unfold jfuel; omega) fun j hj => absurd hj (Nat.not_lt_zero j))
  exact loop _ 0 jfuel (Nat.zero_add _) (by unfold jfuel; omega) fun j hj => absurd hj (Nat.not_lt_zero j)
end LK18P
