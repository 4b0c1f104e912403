/-! The reference: what is wrong with a transaction over the coins. -/
/-- the coin of an input -/
def w_cf (cs : List w_cn) (tb : List UInt8) (y : w_y) (i : Nat) : Option w_cn := (w_fd cs (w_in1 tb y i) (w_in2 tb y i) 0).bind fun k => cs[k]?
def w_tot (cs : List w_cn) (tb : List UInt8) (y : w_y) : Nat → Int64
  | 0 => 0
  | i + 1 => w_tot cs tb y i + (match w_cf cs tb y i with
    | some c => w_cv c
    | none => 0)
def w_unr (ht : Int32) (c : w_cn) : Prop := w_rt c.2.2.1 c.2.2.2.1 ≠ 0 ∧ ¬ 8 ≤ ht - Int32.ofNat c.2.2.2.2
theorem w_cf_none {cs : List w_cn} {tb : List UInt8} {y : w_y} {i : Nat} : w_cf cs tb y i = none ↔ w_fd cs (w_in1 tb y i) (w_in2 tb y i) 0 = none := by
  unfold w_cf
  cases h : w_fd cs (w_in1 tb y i) (w_in2 tb y i) 0 with
  | none => exact ⟨fun _ => rfl, fun _ => rfl⟩
  | some k =>
    obtain ⟨c, h1, -⟩ := w_fd_at h
    refine ⟨fun q => ?_, fun q => by cases q⟩
    have q2 : cs[k]? = none := q
    rw [Nat.sub_zero] at h1
    rw [h1] at q2
    cases q2
theorem w_cf_some {cs : List w_cn} {tb : List UInt8} {y : w_y} {i : Nat} {c : w_cn} : w_cf cs tb y i = some c ↔ ∃ k, w_fd cs (w_in1 tb y i) (w_in2 tb y i) 0 = some k ∧ cs[k]? = some c := by
  unfold w_cf
  exact Option.bind_eq_some_iff
section WR18B
variable {row s len : Nat} {tb : List UInt8} {y : w_y} {cs : List w_cn} {Q : Int32 → jH → Prop}
theorem z18_cn {H : jH} {i : Nat} (hs : jsh H) (hy : w_ty tb y) (hx : w_rx row s len tb y H) (hCB : w_CB cs H) (hi : i < y.1.length) : F_18_coin 421 row (jI H 457 i) (jL H 458 i) H = some (w_fv (w_fd cs (w_in1 tb y i) (w_in2 tb y i) 0), H) := by
  have t2000 := hy.2.2
  obtain ⟨⟨c1, c2, c3, c4, c5, c6⟩, ⟨d1, d2, d3, d4⟩, e1, e2⟩ := hx
  obtain ⟨g1, g2, g3, g4, g5⟩ := e1 i hi
  obtain ⟨m1, m2, m3, m4⟩ := w_in y tb hy hi
  have nl : (w_in1 tb y i).length = 32 := w_sl_len (by omega)
  have hz : zRow H row (s + (y.1.getD i (0, 0)).1) (w_in1 tb y i) := w_sl_row c6 rfl
  rw [Nat.add_assoc, w_zho c6 (by omega) (by omega)] at g5
  rw [g1, g5]
  exact z18_coin hs hCB c2 (by omega) (by omega) hz nl (zho_lt _ _ 4) (ix := w_in2 tb y i)
theorem w_fv_neg : ¬ (0 : Int32) ≤ w_fv none := by decide
theorem w_fv_pos {k : Nat} (h : k < 2147483648) : (0 : Int32) ≤ w_fv (some k) := (jo_le (a := 0) (b := k) (by decide) h).mpr (Nat.zero_le k)
/-- all are there -/
theorem z18_wr2 {a1 : Int32} {H : jH} (hs : jsh H) (hy : w_ty tb y) (hx : w_rx row s len tb y H) (hCB : w_CB cs H) (hk0 : (∃ i, i < y.1.length ∧ w_cf cs tb y i = none) → Q 31 H) (hk1 : (∀ i, i < y.1.length → w_cf cs tb y i ≠ none) → jT (F_18_wrong_59 jfuel 421 a1 0 0 H) Q) : ∀ (d i fu : Nat), i + d = y.1.length → d < fu → (∀ j, j < i → w_cf cs tb y j ≠ none) → jT (F_18_wrong_2 fu 421 a1 (Int32.ofNat i) H) Q := by
  have l8 : y.1.length ≤ 8 := (ztx_spec hy.1).1
  have k421 : (jK H 421).1 = 18 := gT (sK_421 hs)
  have k456 : (jK H 456).1 = 17 := gT (sK_456 hs)
  have d3 := hx.2.1.2.2.1
  have c1 := hx.1.1
  intro d
  induction d with
  | zero =>
    intro i fu hi hfu hp
    obtain ⟨fu, rfl⟩ : ∃ k, fu = k + 1 := ⟨fu - 1, by omega⟩
    unfold F_18_wrong_2 B_18_wrong_2
    rw [sR_421_4 hs, d3]
    exact jT_g k421 (jT_g k456 (jT_pos (by rw [jo_le (by omega) (by omega)]; omega) (hk1 fun j hj => hp j (by omega))))
  | succ d ih =>
    intro i fu hi hfu hp
    obtain ⟨fu, rfl⟩ : ∃ k, fu = k + 1 := ⟨fu - 1, by omega⟩
    have hii : i < y.1.length := by omega
    have e1 : Int32.ofNat i + 1 = Int32.ofNat (i + 1) := jo_add (a := i) (b := 1)
    have hcn := hCB.2.1
    unfold F_18_wrong_2 B_18_wrong_2
    rw [sR_421_4 hs, d3, sR_456_7 hs, sR_456_8 hs, jo_nat (n := i) (by omega), c1, z18_cn hs hy hx hCB hii, jb_ok, e1]
    refine jT_g k421 (jT_g k456 (jT_neg (by rw [jo_le (by omega) (by omega)]; omega) (jT_g k421 (jT_g k456 (jT_g k421 (jT_g k456 (jT_g (gA (sK_457 hs) (jo_in (by omega) (by omega))) (jT_g k421 (jT_g k456 (jT_g (gA (sK_458 hs) (jo_in (by omega) (by omega))) (jT_g k421 ?_)))))))))))
    cases hf : w_fd cs (w_in1 tb y i) (w_in2 tb y i) 0 with
    | none => exact jT_neg w_fv_neg (jT_ret (hk0 ⟨i, hii, w_cf_none.mpr hf⟩))
    | some k =>
      have := (w_fd_lt hf).2
      refine jT_pos (w_fv_pos (by omega)) (jT_l (ih (i + 1) fu (by omega) (by omega) fun j hj => ?_))
      by_cases c : j = i
      · rw [c]
        intro q
        rw [w_cf_none, hf] at q
        cases q
      · exact hp j (by omega)
/-- all are ripe, and their worth -/
theorem z18_wr59 {a1 : Int32} {H : jH} (hs : jsh H) (hy : w_ty tb y) (hx : w_rx row s len tb y H) (hCB : w_CB cs H) (hall : ∀ i, i < y.1.length → w_cf cs tb y i ≠ none) (hk0 : (∃ i c, i < y.1.length ∧ w_cf cs tb y i = some c ∧ w_unr a1 c) → Q 32 H) (hk3 : (∀ i c, i < y.1.length → w_cf cs tb y i = some c → ¬ w_unr a1 c) → ¬ w_sum tb y ≤ w_tot cs tb y y.1.length → Q 33 H) (hk1 : (∀ i c, i < y.1.length → w_cf cs tb y i = some c → ¬ w_unr a1 c) → w_sum tb y ≤ w_tot cs tb y y.1.length → jT (F_18_wrong_165 jfuel 421 (w_tot cs tb y y.1.length) 0 H) Q) : ∀ (d i fu : Nat), i + d = y.1.length → d < fu → (∀ j c, j < i → w_cf cs tb y j = some c → ¬ w_unr a1 c) → jT (F_18_wrong_59 fu 421 a1 (w_tot cs tb y i) (Int32.ofNat i) H) Q := by
  have l8 : y.1.length ≤ 8 := (ztx_spec hy.1).1
  have k421 : (jK H 421).1 = 18 := gT (sK_421 hs)
  have k456 : (jK H 456).1 = 17 := gT (sK_456 hs)
  have d3 := hx.2.1.2.2.1
  have c1 := hx.1.1
  intro d
  induction d with
  | zero =>
    intro i fu hi hfu hp
    obtain ⟨fu, rfl⟩ : ∃ k, fu = k + 1 := ⟨fu - 1, by omega⟩
    obtain rfl : i = y.1.length := by omega
    unfold F_18_wrong_59 B_18_wrong_59
    rw [sR_421_4 hs, d3, z17_sumx hs hy hx, jb_ok]
    refine jT_g k421 (jT_g k456 (jT_pos (by rw [jo_le (by omega) (by omega)]; exact Nat.le_refl _) (jT_g k421 (jT_g k456 ?_))))
    by_cases c : w_sum tb y ≤ w_tot cs tb y y.1.length
    · exact jT_pos c (hk1 (fun j c hj => hp j c hj) c)
    · exact jT_neg c (jT_ret (hk3 (fun j c hj => hp j c hj) c))
  | succ d ih =>
    intro i fu hi hfu hp
    obtain ⟨fu, rfl⟩ : ∃ k, fu = k + 1 := ⟨fu - 1, by omega⟩
    have hii : i < y.1.length := by omega
    have e1 : Int32.ofNat i + 1 = Int32.ofNat (i + 1) := jo_add (a := i) (b := 1)
    have hcn := hCB.2.1
    obtain ⟨c, hc⟩ : ∃ c, w_cf cs tb y i = some c := by
      cases h : w_cf cs tb y i with
      | none => exact absurd h (hall i hii)
      | some c => exact ⟨c, rfl⟩
    obtain ⟨k, hf, hck⟩ := w_cf_some.mp hc
    have hlt := (w_fd_lt hf).2
    obtain ⟨ok, b1, b2, b3, b4, b5, b6, la, llen, b7, b8⟩ := hCB.2.2 k c hck
    have kv : w_fv (some k) = Int32.ofNat k := rfl
    have etot : w_tot cs tb y (i + 1) = w_tot cs tb y i + w_cv c := by
      rw [w_tot, hc]
    have nxt : ¬ w_unr a1 c → jT (B_18_wrong_131 (F_18_wrong_59 fu) 421 a1 (w_tot cs tb y i) (Int32.ofNat i) (Int32.ofNat k) H) Q := fun hu => by
      unfold B_18_wrong_131
      rw [sR_421_22 hs, jo_nat (n := k) (by omega), b3, e1, ← etot]
      refine jT_g k421 (jT_g (gA (sK_484 hs) (jo_in (by omega) (by omega))) (jT_l (jT_l (ih (i + 1) fu (by omega) (by omega) fun j c' hj hc' => ?_))))
      by_cases q : j = i
      · rw [q, hc] at hc'
        rw [← Option.some.inj hc']
        exact hu
      · exact hp j c' (by omega) hc'
    unfold F_18_wrong_59 B_18_wrong_59
    rw [sR_421_4 hs, d3, sR_456_7 hs, sR_456_8 hs, jo_nat (n := i) (by omega), c1, z18_cn hs hy hx hCB hii, jb_ok, hf, kv, sR_421_24 hs, sR_421_23 hs, jo_nat (n := k) (by omega), b4, b5]
    refine jT_g k421 (jT_g k456 (jT_neg (by rw [jo_le (by omega) (by omega)]; omega) (jT_g k421 (jT_g k456 (jT_g k421 (jT_g k456 (jT_g (gA (sK_457 hs) (jo_in (by omega) (by omega))) (jT_g k421 (jT_g k456 (jT_g (gA (sK_458 hs) (jo_in (by omega) (by omega))) (jT_g k421 (jT_g k421 (jT_g (gA (sK_486 hs) (jo_in (by omega) (by omega))) ?_)))))))))))))
    by_cases q1 : w_rt c.2.2.1 c.2.2.2.1 = 0
    · exact jT_pos q1 (nxt fun w => w.1 q1)
    · refine jT_neg q1 (jT_g k421 (jT_g (gA (sK_485 hs) (jo_in (by omega) (by omega))) ?_))
      by_cases q2 : 8 ≤ a1 - Int32.ofNat c.2.2.2.2
      · exact jT_pos q2 (nxt fun w => w.2 q2)
      · exact jT_neg q2 (jT_ret (hk0 ⟨i, c, hii, hc, q1, q2⟩))
end WR18B
