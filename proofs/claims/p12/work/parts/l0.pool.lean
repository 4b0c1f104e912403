/-! The pool: what its transactions spend; the class's looks at them. -/
theorem p_same {a c la lc p q : Nat} {H : jH} {l m : List UInt8} (h1 : jK H a = (101, la)) (h2 : jK H c = (101, lc)) (hla : la < 2147483600) (hlc : lc < 2147483600) (hp : p + 32 ≤ la) (hq : q + 32 ≤ lc) (z1 : zRow H a p l) (z2 : zRow H c q m) (e1 : l.length = 32) (e2 : m.length = 32) : F_3_same a (Int32.ofNat p) c (Int32.ofNat q) H = some ((if l = m then 1 else 0), H) := by
  rw [z3_same h1 h2 hla hlc (by omega) (by omega)]
  have ez := zeq_row z1 z2 e1 e2
  by_cases c0 : l = m
  · rw [if_pos ⟨hp, hq, ez.mpr c0⟩, if_pos c0]
  · rw [if_neg (fun w => c0 (ez.mp w.2.2)), if_neg c0]
theorem p_neg {v : Nat} (hv : v < 4294967296) : Int32.ofNat v < 0 ↔ 2147483648 ≤ v := by
  by_cases c : v < 2147483648
  · rw [show (0 : Int32) = Int32.ofNat 0 from rfl, jo_lt c (by decide)]
    omega
  · have e : (Int32.ofNat v).toInt = (v : Int) - 4294967296 := by
      have hsz : Int32.size = 4294967296 := rfl
      rw [Int32.toInt_ofNat', Int.bmod_def, hsz]
      split <;> omega
    rw [Int32.lt_iff_toInt_lt, e]
    have : (0 : Int32).toInt = 0 := rfl
    omega
/-- what a transaction spends of a name -/
def p_sp (tb : List UInt8) (y : w_y) (nm : List UInt8) : Bool := (List.range y.1.length).any fun i => decide (w_in1 tb y i = nm)
theorem p_sp_t {tb nm : List UInt8} {y : w_y} : p_sp tb y nm = true ↔ ∃ i, i < y.1.length ∧ w_in1 tb y i = nm := by
  unfold p_sp
  rw [List.any_eq_true]
  constructor
  · rintro ⟨i, h1, h2⟩
    exact ⟨i, List.mem_range.mp h1, of_decide_eq_true h2⟩
  · rintro ⟨i, h1, h2⟩
    exact ⟨i, List.mem_range.mpr h1, decide_eq_true h2⟩
/-- two spend one key -/
def p_sh (tb : List UInt8) (y : w_y) (tb2 : List UInt8) (y2 : w_y) : Bool := (List.range y.1.length).any fun i => (List.range y2.1.length).any fun j => decide (w_in2 tb y i = w_in2 tb2 y2 j ∧ w_in1 tb y i = w_in1 tb2 y2 j)
theorem p_sh_t {tb tb2 : List UInt8} {y y2 : w_y} : p_sh tb y tb2 y2 = true ↔ ∃ i, i < y.1.length ∧ ∃ j, j < y2.1.length ∧ w_in2 tb y i = w_in2 tb2 y2 j ∧ w_in1 tb y i = w_in1 tb2 y2 j := by
  unfold p_sh
  rw [List.any_eq_true]
  constructor
  · rintro ⟨i, h1, h2⟩
    rw [List.any_eq_true] at h2
    obtain ⟨j, h3, h4⟩ := h2
    exact ⟨i, List.mem_range.mp h1, j, List.mem_range.mp h3, of_decide_eq_true h4⟩
  · rintro ⟨i, h1, j, h3, h4⟩
    exact ⟨i, List.mem_range.mpr h1, List.any_eq_true.mpr ⟨j, List.mem_range.mpr h3, decide_eq_true h4⟩⟩
/-- spends an output of a name that is not there -/
def p_ms (tb : List UInt8) (y : w_y) (nm : List UInt8) (n : Nat) : Bool := (List.range y.1.length).any fun i => decide (n ≤ w_in2 tb y i ∧ w_in1 tb y i = nm)
theorem p_ms_t {tb nm : List UInt8} {y : w_y} {n : Nat} : p_ms tb y nm n = true ↔ ∃ i, i < y.1.length ∧ n ≤ w_in2 tb y i ∧ w_in1 tb y i = nm := by
  unfold p_ms
  rw [List.any_eq_true]
  constructor
  · rintro ⟨i, h1, h2⟩
    exact ⟨i, List.mem_range.mp h1, of_decide_eq_true h2⟩
  · rintro ⟨i, h1, h2⟩
    exact ⟨i, List.mem_range.mpr h1, decide_eq_true h2⟩
section PL
variable {o row s len o2 row2 s2 len2 : Nat} {tb nm tb2 nm2 : List UInt8} {y y2 : w_y} {H : jH}
theorem p_in1 (hy : w_ty tb y) (hx : w_x o row s len tb y nm H) {i : Nat} (hi : i < y.1.length) : zRow H row (s + (y.1.getD i (0, 0)).1) (w_in1 tb y i) ∧ (w_in1 tb y i).length = 32 ∧ s + (y.1.getD i (0, 0)).1 + 32 ≤ len := by
  obtain ⟨m1, m2, m3, m4⟩ := w_in y tb hy hi
  have := hx.1.2.2.2.1
  exact ⟨w_sl_row hx.1.2.2.2.2.2 rfl, w_sl_len (by omega), by omega⟩
theorem p_spendsOf (hy : w_ty tb y) (hx : w_x o row s len tb y nm H) (hx2 : w_x o2 row2 s2 len2 tb2 y2 nm2 H) : F_10_spendsOf o o2 H = some ((if p_sp tb y nm2 = true then 1 else 0), H) := by
  have l8 : y.1.length ≤ 8 := (ztx_spec hy.1).1
  have k10 := hx.1.1
  have k102 := hx2.1.1
  have hx' := hx
  obtain ⟨⟨a1, a2, a3, a4, a5, a6⟩, ⟨b1, b2, b3, b4, b5, b6⟩, c1, c2, -⟩ := hx
  obtain ⟨-, -, -, -, d1, d2, d3, d4, -⟩ := hx2
  refine jT_det ?_
  have loop : ∀ (d i fu : Nat), i + d = y.1.length → d < fu → (∀ j, j < i → w_in1 tb y j ≠ nm2) → jT (F_10_spendsOf_2 fu o o2 (Int32.ofNat i) H) (fun r h => r = (if p_sp tb y nm2 = true then 1 else 0) ∧ h = H) := by
    intro d
    induction d with
    | zero =>
      intro i fu hi hfu hn
      obtain ⟨fu, rfl⟩ : ∃ k, fu = k + 1 := ⟨fu - 1, by omega⟩
      unfold F_10_spendsOf_2 B_10_spendsOf_2
      rw [b3, b4]
      refine jT_g k10 (jT_g rfl (jT_pos (by show Int32.ofNat y.1.length ≤ Int32.ofNat i; rw [jo_le (by omega) (by omega)]; omega) (jT_g (Or.inl rfl) (jT_ret ⟨?_, rfl⟩))))
      rw [if_neg (fun w => by
        obtain ⟨j, q1, q2⟩ := p_sp_t.mp w
        exact hn j (by omega) q2)]
    | succ d ih =>
      intro i fu hi hfu hn
      obtain ⟨fu, rfl⟩ : ∃ k, fu = k + 1 := ⟨fu - 1, by omega⟩
      have hii : i < y.1.length := by omega
      obtain ⟨z1, z2, z3⟩ := p_in1 hy hx' hii
      have e1 : Int32.ofNat i + 1 = Int32.ofNat (i + 1) := jo_add (a := i) (b := 1)
      have sm := p_same (q := 0) a3 d2 (by omega) (by decide) z3 (by decide) z1 d3 z2 d4
      unfold F_10_spendsOf_2 B_10_spendsOf_2
      rw [b3, b4, jo_nat (n := i) (by omega), c1 i hii, a2, d1, e1]
      refine jT_g k10 (jT_g rfl (jT_neg (by show ¬ Int32.ofNat y.1.length ≤ Int32.ofNat i; rw [jo_le (by omega) (by omega)]; omega) (jT_g k10 (jT_g k10 (jT_g ⟨rfl, jo_in (by omega) hii⟩ (jT_g k102 ?_))))))
      show jT (jb (F_3_same row _ (o2 + 1) (Int32.ofNat 0) H) _) _
      rw [sm, jb_ok]
      by_cases c : w_in1 tb y i = nm2
      · rw [if_pos c]
        exact jT_neg (by decide) (jT_g (Or.inr rfl) (jT_ret ⟨(if_pos (p_sp_t.mpr ⟨i, hii, c⟩)).symm, rfl⟩))
      · rw [if_neg c]
        refine jT_pos rfl (jT_l (ih (i + 1) fu (by omega) (by omega) fun j hj => ?_))
        by_cases q : j = i
        · rw [q]
          exact c
        · exact hn j (by omega)
  unfold F_10_spendsOf
  exact loop y.1.length 0 jfuel (Nat.zero_add _) (by unfold jfuel; omega) fun j hj => absurd hj (Nat.not_lt_zero j)
theorem p_missesOf (hs : jsh H) (hy : w_ty tb y) (hy2 : w_ty tb2 y2) (hx : w_x o row s len tb y nm H) (hx2 : w_x o2 row2 s2 len2 tb2 y2 nm2 H) : F_10_missesOutputOf o o2 H = some ((if p_ms tb y nm2 y2.2.1.length = true then 1 else 0), H) := by
  have l8 : y.1.length ≤ 8 := (ztx_spec hy.1).1
  have l82 : y2.2.1.length ≤ 8 := (ztx_spec hy2.1).2.1
  have k10 := hx.1.1
  have k102 := hx2.1.1
  have hx' := hx
  obtain ⟨⟨a1, a2, a3, a4, a5, a6⟩, ⟨b1, b2, b3, b4, b5, b6⟩, c1, c2, -⟩ := hx
  obtain ⟨-, ⟨-, -, -, -, b52, b62⟩, -, -, d1, d2, d3, d4, -⟩ := hx2
  refine jT_det ?_
  have loop : ∀ (d i fu : Nat), i + d = y.1.length → d < fu → (∀ j, j < i → ¬ (y2.2.1.length ≤ w_in2 tb y j ∧ w_in1 tb y j = nm2)) → jT (F_10_missesOutputOf_2 fu o o2 (Int32.ofNat i) H) (fun r h => r = (if p_ms tb y nm2 y2.2.1.length = true then 1 else 0) ∧ h = H) := by
    intro d
    induction d with
    | zero =>
      intro i fu hi hfu hn
      obtain ⟨fu, rfl⟩ : ∃ k, fu = k + 1 := ⟨fu - 1, by omega⟩
      unfold F_10_missesOutputOf_2 B_10_missesOutputOf_2
      rw [b3, b4]
      refine jT_g k10 (jT_g rfl (jT_pos (by show Int32.ofNat y.1.length ≤ Int32.ofNat i; rw [jo_le (by omega) (by omega)]; omega) (jT_g (Or.inl rfl) (jT_ret ⟨?_, rfl⟩))))
      rw [if_neg (fun w => by
        obtain ⟨j, q1, q2⟩ := p_ms_t.mp w
        exact hn j (by omega) q2)]
    | succ d ih =>
      intro i fu hi hfu hn
      obtain ⟨fu, rfl⟩ : ∃ k, fu = k + 1 := ⟨fu - 1, by omega⟩
      have hii : i < y.1.length := by omega
      obtain ⟨z1, z2, z3⟩ := p_in1 hy hx' hii
      have e1 : Int32.ofNat i + 1 = Int32.ofNat (i + 1) := jo_add (a := i) (b := 1)
      have sm := p_same (q := 0) a3 d2 (by omega) (by decide) z3 (by decide) z1 d3 z2 d4
      have lv : w_in2 tb y i < 4294967296 := zho_lt _ _ 4
      have nxt : ¬ (y2.2.1.length ≤ w_in2 tb y i ∧ w_in1 tb y i = nm2) → jT (B_10_missesOutputOf_53 (F_10_missesOutputOf_2 fu) o o2 (Int32.ofNat i) H) (fun r h => r = (if p_ms tb y nm2 y2.2.1.length = true then 1 else 0) ∧ h = H) := fun hc => by
        unfold B_10_missesOutputOf_53
        rw [e1]
        refine jT_l (ih (i + 1) fu (by omega) (by omega) fun j hj => ?_)
        by_cases q : j = i
        · rw [q]
          exact hc
        · exact hn j (by omega)
      have look : y2.2.1.length ≤ w_in2 tb y i → jT (B_10_missesOutputOf_30 (F_10_missesOutputOf_2 fu) o o2 (Int32.ofNat i) H) (fun r h => r = (if p_ms tb y nm2 y2.2.1.length = true then 1 else 0) ∧ h = H) := fun hc => by
        unfold B_10_missesOutputOf_30
        rw [b3, b4, jo_nat (n := i) (by omega), c1 i hii, a2, d1]
        refine jT_g k10 (jT_g k10 (jT_g ⟨rfl, jo_in (by omega) hii⟩ (jT_g k102 ?_)))
        show jT (jb (F_3_same row _ (o2 + 1) (Int32.ofNat 0) H) _) _
        rw [sm, jb_ok]
        by_cases c : w_in1 tb y i = nm2
        · rw [if_pos c]
          exact jT_neg (by decide) (jT_g (Or.inr rfl) (jT_ret ⟨(if_pos (p_ms_t.mpr ⟨i, hii, hc, c⟩)).symm, rfl⟩))
        · rw [if_neg c]
          exact jT_pos rfl (nxt fun w => c w.2)
      unfold F_10_missesOutputOf_2 B_10_missesOutputOf_2
      rw [b3, b4, z10_indexx hs hy hx' hii]
      refine jT_g k10 (jT_g rfl (jT_neg (by show ¬ Int32.ofNat y.1.length ≤ Int32.ofNat i; rw [jo_le (by omega) (by omega)]; omega) (jT_g k10 ?_)))
      rw [jb_ok, b52, b62]
      by_cases c1 : 2147483648 ≤ w_in2 tb y i
      · exact jT_pos ((p_neg lv).mpr c1) (look (by omega))
      · refine jT_neg (fun w => c1 ((p_neg lv).mp w)) (jT_g k102 (jT_g rfl ?_))
        by_cases c2 : w_in2 tb y i < y2.2.1.length
        · exact jT_pos (by show Int32.ofNat _ < Int32.ofNat _; rw [jo_lt (by omega) (by omega)]; exact c2) (nxt fun w => by omega)
        · exact jT_neg (by show ¬ Int32.ofNat _ < Int32.ofNat _; rw [jo_lt (by omega) (by omega)]; exact c2) (look (by omega))
  unfold F_10_missesOutputOf
  exact loop y.1.length 0 jfuel (Nat.zero_add _) (by unfold jfuel; omega) fun j hj => absurd hj (Nat.not_lt_zero j)
theorem p_sharesOf (hs : jsh H) (hy : w_ty tb y) (hy2 : w_ty tb2 y2) (hx : w_x o row s len tb y nm H) (hx2 : w_x o2 row2 s2 len2 tb2 y2 nm2 H) : F_10_sharesKeyWith o o2 H = some ((if p_sh tb y tb2 y2 = true then 1 else 0), H) := by
  have l8 : y.1.length ≤ 8 := (ztx_spec hy.1).1
  have l82 : y2.1.length ≤ 8 := (ztx_spec hy2.1).1
  have k10 := hx.1.1
  have k102 := hx2.1.1
  have hx' := hx
  have hx2' := hx2
  obtain ⟨⟨a1, a2, a3, a4, a5, a6⟩, ⟨b1, b2, b3, b4, b5, b6⟩, c1, c2, -⟩ := hx
  obtain ⟨⟨a12, a22, a32, a42, a52, a62⟩, ⟨b12, b22, b32, b42, b52, b62⟩, c12, c22, -⟩ := hx2
  refine jT_det ?_
  have loop : ∀ (d i fu : Nat), i + d = y.1.length → d < fu → (∀ i', i' < i → ∀ j, j < y2.1.length → ¬ (w_in2 tb y i' = w_in2 tb2 y2 j ∧ w_in1 tb y i' = w_in1 tb2 y2 j)) → jT (F_10_sharesKeyWith_2 fu o o2 (Int32.ofNat i) H) (fun r h => r = (if p_sh tb y tb2 y2 = true then 1 else 0) ∧ h = H) := by
    intro d
    induction d with
    | zero =>
      intro i fu hi hfu hn
      obtain ⟨fu, rfl⟩ : ∃ k, fu = k + 1 := ⟨fu - 1, by omega⟩
      unfold F_10_sharesKeyWith_2 B_10_sharesKeyWith_2
      rw [b3, b4]
      refine jT_g k10 (jT_g rfl (jT_pos (by show Int32.ofNat y.1.length ≤ Int32.ofNat i; rw [jo_le (by omega) (by omega)]; omega) (jT_g (Or.inl rfl) (jT_ret ⟨?_, rfl⟩))))
      rw [if_neg (fun w => by
        obtain ⟨i', q1, j, q2, q3⟩ := p_sh_t.mp w
        exact hn i' (by omega) j q2 q3)]
    | succ d ih =>
      intro i fu hi hfu hn
      obtain ⟨fu, rfl⟩ : ∃ k, fu = k + 1 := ⟨fu - 1, by omega⟩
      have hii : i < y.1.length := by omega
      obtain ⟨z1, z2, z3⟩ := p_in1 hy hx' hii
      have e1 : Int32.ofNat i + 1 = Int32.ofNat (i + 1) := jo_add (a := i) (b := 1)
      have inner : ∀ (d' j fv : Nat), j + d' = y2.1.length → d' < fv → (∀ j', j' < j → ¬ (w_in2 tb y i = w_in2 tb2 y2 j' ∧ w_in1 tb y i = w_in1 tb2 y2 j')) → jT (F_10_sharesKeyWith_13 (F_10_sharesKeyWith_2 fu) fv o o2 (Int32.ofNat i) (Int32.ofNat j) H) (fun r h => r = (if p_sh tb y tb2 y2 = true then 1 else 0) ∧ h = H) := by
        intro d'
        induction d' with
        | zero =>
          intro j fv hj hfv hm
          obtain ⟨fv, rfl⟩ : ∃ k, fv = k + 1 := ⟨fv - 1, by omega⟩
          unfold F_10_sharesKeyWith_13 B_10_sharesKeyWith_13
          rw [b32, b42, e1]
          refine jT_g k102 (jT_g rfl (jT_pos (by show Int32.ofNat y2.1.length ≤ Int32.ofNat j; rw [jo_le (by omega) (by omega)]; omega) (jT_l (ih (i + 1) fu (by omega) (by omega) fun i' hi' j' hj' => ?_))))
          by_cases q : i' = i
          · rw [q]
            exact hm j' (by omega)
          · exact hn i' (by omega) j' hj'
        | succ d' ih' =>
          intro j fv hj hfv hm
          obtain ⟨fv, rfl⟩ : ∃ k, fv = k + 1 := ⟨fv - 1, by omega⟩
          have hjj : j < y2.1.length := by omega
          obtain ⟨y1, y2', y3⟩ := p_in1 hy2 hx2' hjj
          have e1j : Int32.ofNat j + 1 = Int32.ofNat (j + 1) := jo_add (a := j) (b := 1)
          have sm := p_same a3 a32 (by omega) (by omega) z3 y3 z1 y1 z2 y2'
          have nxt : ¬ (w_in2 tb y i = w_in2 tb2 y2 j ∧ w_in1 tb y i = w_in1 tb2 y2 j) → jT (B_10_sharesKeyWith_63 (F_10_sharesKeyWith_13 (F_10_sharesKeyWith_2 fu) fv) o o2 (Int32.ofNat i) (Int32.ofNat j) H) (fun r h => r = (if p_sh tb y tb2 y2 = true then 1 else 0) ∧ h = H) := fun hc => by
            unfold B_10_sharesKeyWith_63
            rw [e1j]
            refine jT_l (ih' (j + 1) fv (by omega) (by omega) fun j' hj' => ?_)
            by_cases q : j' = j
            · rw [q]
              exact hc
            · exact hm j' (by omega)
          unfold F_10_sharesKeyWith_13 B_10_sharesKeyWith_13
          rw [b32, b42, z10_indexx hs hy hx' hii]
          refine jT_g k102 (jT_g rfl (jT_neg (by show ¬ Int32.ofNat y2.1.length ≤ Int32.ofNat j; rw [jo_le (by omega) (by omega)]; omega) (jT_g k10 ?_)))
          rw [jb_ok, z10_indexx hs hy2 hx2' hjj]
          refine jT_g k102 ?_
          rw [jb_ok, b3, b4, b32, b42, jo_nat (n := i) (by omega), jo_nat (n := j) (by omega), c1 i hii, c12 j hjj, a2, a22]
          by_cases c : w_in2 tb y i = w_in2 tb2 y2 j
          · refine jT_neg (fun w => w (by rw [c])) (jT_g k10 (jT_g k10 (jT_g ⟨rfl, jo_in (by omega) hii⟩ (jT_g k102 (jT_g k102 (jT_g ⟨rfl, jo_in (by omega) hjj⟩ ?_))))))
            rw [sm, jb_ok]
            by_cases c0 : w_in1 tb y i = w_in1 tb2 y2 j
            · rw [if_pos c0]
              exact jT_neg (by decide) (jT_g (Or.inr rfl) (jT_ret ⟨(if_pos (p_sh_t.mpr ⟨i, hii, j, hjj, c, c0⟩)).symm, rfl⟩))
            · rw [if_neg c0]
              exact jT_pos rfl (nxt fun w => c0 w.2)
          · exact jT_pos (fun w => c ((jo_eq4G (zho_lt _ _ 4) (zho_lt _ _ 4)).mp w)) (nxt fun w => c w.1)
      unfold F_10_sharesKeyWith_2 B_10_sharesKeyWith_2
      rw [b3, b4]
      exact jT_g k10 (jT_g rfl (jT_neg (by show ¬ Int32.ofNat y.1.length ≤ Int32.ofNat i; rw [jo_le (by omega) (by omega)]; omega) (inner y2.1.length 0 jfuel (Nat.zero_add _) (by unfold jfuel; omega) fun j hj => absurd hj (Nat.not_lt_zero j))))
  unfold F_10_sharesKeyWith
  exact loop y.1.length 0 jfuel (Nat.zero_add _) (by unfold jfuel; omega) fun j hj => absurd hj (Nat.not_lt_zero j)
end PL
