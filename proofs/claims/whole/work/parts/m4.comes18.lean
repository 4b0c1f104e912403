/-! A transaction comes to the reference: its loops. -/
def p_CX (bs : List b_k) (tip : Nat) (cs : List w_cn) (ps : List p_e) (x : b_t) (row s len : Nat) (H : jH) : Prop :=
  jsh H ∧ w_rx row s len x.2.1 x.2.2 H ∧ p_PB ps H ∧ w_CB cs H ∧ b_T bs H ∧ jI H 421 13 = Int32.ofNat tip ∧ w_p13 H
def p_TX : Nat → Nat → Prop := fun a j => p_TF a j ∨ w_FI a j
section CM18
variable {bs : List b_k} {tip : Nat} {cs : List w_cn} {ps : List p_e} {x : b_t} {row s len : Nat} {Q : Int32 → jH → Prop} {Hs : jH} {r1 : Nat} {a2 a3 : Int32}
theorem p_CX_fr {T : Nat → Nat → Prop} {H H' : jH} (hr : p_row row) (h : p_CX bs tip cs ps x row s len H) (hs : jsh H') (hp : w_p13 H') (hf : jfr T H H') (hT : ∀ a j, T a j → p_TX a j) : p_CX bs tip cs ps x row s len H' := by
  obtain ⟨-, h2, h3, h4, h5, h6, -⟩ := h
  have u : ∀ a j, T a j → (423 ≤ a ∧ a ≤ 444) ∨ (465 ≤ a ∧ a ≤ 473) ∨ (a = 421 ∧ 57 ≤ j ∧ j ≤ 60) := fun a j w => by
    have := hT a j w
    unfold p_TX p_TF zS17 w_FI w_FS w_F14 w_S15 at this
    omega
  unfold p_row at hr
  exact ⟨hs, w_rx_T h2 hf (fun j w => by have := u _ _ w; omega) (fun a j w => by have := u _ _ w; omega), p_PB_fr h3 hf (fun a j w => by have := u _ _ w; omega), w_CB_fr2 h4 hf (fun a j w => by have := u _ _ w; omega), b_T_fr h5 hf (fun a j w => by have := u _ _ w; omega), (jfr_I hf fun w => by have := u _ _ w; omega).trans h6, hp⟩
/-- nobody in the pool spends one of its keys -/
theorem y18_cls88 {a4 : Int32} (hok : p_ok ps) (hy : w_ty x.2.1 x.2.2) (h : p_CX bs tip cs ps x row s len Hs) (hk13 : p_any ps (fun e => p_sh x.2.1 x.2.2 e.1.2.1 e.1.2.2) = true → Q 13 Hs) (hk : p_any ps (fun e => p_sh x.2.1 x.2.2 e.1.2.1 e.1.2.2) = false → jT (F_18_comes_172 jfuel 421 r1 a2 a3 a4 0 0 0 Hs) Q) :
    ∀ (d i fu : Nat), i + d = x.2.2.1.length → d < fu → (∀ i', i' < i → ∀ (k : Nat) (e : p_e), ps[k]? = some e → p_sk e.1.2.1 e.1.2.2 (w_in1 x.2.1 x.2.2 i') (w_in2 x.2.1 x.2.2 i') = false) → jT (F_18_comes_88 fu 421 r1 a2 a3 a4 (Int32.ofNat i) Hs) Q := by
  have l41 := hok.1
  have l8 : x.2.2.1.length ≤ 8 := (ztx_spec hy.1).1
  obtain ⟨hs, hx, hB, -⟩ := h
  have k18 : (jK Hs 421).1 = 18 := gT (sK_421 hs)
  have k17 : (jK Hs 456).1 = 17 := gT (sK_456 hs)
  have d3 := hx.2.1.2.2.1
  have c1 := hx.1.1
  have c2 := hx.1.2.1
  have clen : len < 2000000 := hx.1.2.2.2.1
  intro d
  induction d with
  | zero =>
    intro i fu hl hfu hm
    obtain ⟨fu, rfl⟩ : ∃ k, fu = k + 1 := ⟨fu - 1, by omega⟩
    unfold F_18_comes_88 B_18_comes_88
    rw [sR_421_4 hs, d3]
    refine jT_g k18 (jT_g k17 (jT_pos (by rw [jo_le (by omega) (by omega)]; omega) (hk ?_)))
    cases hq : p_any ps (fun e => p_sh x.2.1 x.2.2 e.1.2.1 e.1.2.2) with
    | false => rfl
    | true =>
      obtain ⟨k, e, k1, k2⟩ := p_any_t.mp hq
      obtain ⟨i', i1, j, j1, j2, j3⟩ := p_sh_t.mp k2
      have := hm i' (by omega) k e k1
      rw [p_sk_t.mpr ⟨j, j1, j2.symm, j3.symm⟩] at this
      cases this
  | succ d ih =>
    intro i fu hl hfu hm
    obtain ⟨fu, rfl⟩ : ∃ k, fu = k + 1 := ⟨fu - 1, by omega⟩
    have hi : i < x.2.2.1.length := by omega
    obtain ⟨g1, g2, g3, g4, g5⟩ := p_rx hy hx hi
    have e1 : Int32.ofNat i + 1 = Int32.ofNat (i + 1) := jo_add (a := i) (b := 1)
    have inner : ∀ (d k fu2 : Nat), k + d = ps.length → d < fu2 → (∀ (k' : Nat) (e : p_e), k' < k → ps[k']? = some e → p_sk e.1.2.1 e.1.2.2 (w_in1 x.2.1 x.2.2 i) (w_in2 x.2.1 x.2.2 i) = false) → jT (F_18_comes_103 (F_18_comes_88 fu) fu2 421 r1 a2 a3 a4 (Int32.ofNat i) (Int32.ofNat k) Hs) Q := by
      intro d
      induction d with
      | zero =>
        intro k fu2 hl2 hfu2 hm2
        obtain ⟨fu2, rfl⟩ : ∃ k, fu2 = k + 1 := ⟨fu2 - 1, by omega⟩
        unfold F_18_comes_103 B_18_comes_103
        rw [hB.1, e1]
        refine jT_g k18 (jT_pos (by rw [jo_le (by omega) (by omega)]; omega) (jT_l (ih (i + 1) fu (by omega) (by omega) fun i' hi' k' e he => ?_)))
        by_cases q : i' = i
        · rw [q]
          exact hm2 k' e (by have := (List.getElem?_eq_some_iff.mp he).1; omega) he
        · exact hm i' (by omega) k' e he
      | succ d ih2 =>
        intro k fu2 hl2 hfu2 hm2
        obtain ⟨fu2, rfl⟩ : ∃ k, fu2 = k + 1 := ⟨fu2 - 1, by omega⟩
        have hkk : k < ps.length := by omega
        have he := p_g_at hkk
        have e1k : Int32.ofNat k + 1 = Int32.ofNat (k + 1) := jo_add (a := k) (b := 1)
        have sp := z18_spends hs hB hok he c2 (by omega) g5 g3 g4 (zho_lt _ _ 4) (ix := w_in2 x.2.1 x.2.2 i)
        unfold F_18_comes_103 B_18_comes_103
        rw [hB.1, sR_421_4 hs, sR_456_7 hs, sR_456_8 hs, c1, jo_nat (n := i) (by omega), g1, g2, sp]
        refine jT_g k18 (jT_neg (by rw [jo_le (by omega) (by omega)]; omega) (jT_g k18 (jT_g k17 (jT_g k18 (jT_g k17 (jT_g (gA (sK_457 hs) (jo_in (by omega) (by omega))) (jT_g k18 (jT_g k17 (jT_g (gA (sK_458 hs) (jo_in (by omega) (by omega))) (jT_g k18 ?_))))))))))
        rw [jb_ok]
        by_cases c : p_sk (p_g ps k).1.2.1 (p_g ps k).1.2.2 (w_in1 x.2.1 x.2.2 i) (w_in2 x.2.1 x.2.2 i) = true
        · rw [if_pos c]
          obtain ⟨j, j1, j2, j3⟩ := p_sk_t.mp c
          exact jT_neg (by decide) (jT_ret (hk13 (p_any_t.mpr ⟨k, _, he, p_sh_t.mpr ⟨i, hi, j, j1, j2.symm, j3.symm⟩⟩)))
        · rw [if_neg c, e1k]
          refine jT_pos rfl (jT_l (ih2 (k + 1) fu2 (by omega) (by omega) fun k' e hk' he' => ?_))
          by_cases q : k' = k
          · rw [q] at he'
            rw [← p_g_of he']
            cases hz : p_sk (p_g ps k).1.2.1 (p_g ps k).1.2.2 (w_in1 x.2.1 x.2.2 i) (w_in2 x.2.1 x.2.2 i) with
            | false => rfl
            | true => exact absurd hz c
          · exact hm2 k' e (by omega) he'
    unfold F_18_comes_88 B_18_comes_88
    rw [sR_421_4 hs, d3]
    exact jT_g k18 (jT_g k17 (jT_neg (by rw [jo_le (by omega) (by omega)]; omega) (inner ps.length 0 jfuel (Nat.zero_add _) (by unfold jfuel; omega) fun k' e hk' => absurd hk' (Nat.not_lt_zero k'))))
/-- what it spends -/
theorem y18_172 {a4 : Int32} (hr : p_row row) (hok : p_ok ps) (hv : p_okv ps) (hcv : p_cvn cs) (hy : w_ty x.2.1 x.2.2) (hw : b_wf bs) (htl : tip < bs.length)
    (hk : ∀ v H', v = p_jd (Int32.ofNat (b_ht bs tip + 1)) cs ps x → v ≠ 0 → jsh H' → jfr p_TF Hs H' → Q v H')
    (hk0 : ∀ H', p_jd (Int32.ofNat (b_ht bs tip + 1)) cs ps x = 0 → jfr p_TF Hs H' → p_CX bs tip cs ps x row s len H' → jT (F_18_comes_312 jfuel 421 r1 a2 a3 a4 (p_tt cs ps x x.2.2.1.length) 0 (jsI H' 437 8 8)) Q) :
    ∀ (d i fu : Nat) (u : Bool) (H : jH), i + d = x.2.2.1.length → d < fu → jfr p_TF Hs H → p_CX bs tip cs ps x row s len H → (∀ j, j < i → p_cf cs ps x j ≠ none) → (u = true ↔ ∃ j q, j < i ∧ p_cf cs ps x j = some q ∧ p_un (Int32.ofNat (b_ht bs tip + 1)) q) → jT (F_18_comes_172 fu 421 r1 a2 a3 a4 (p_tt cs ps x i) (p_ib u) (Int32.ofNat i) H) Q := by
  have l41 := hok.1
  have l8 : x.2.2.1.length ≤ 8 := (ztx_spec hy.1).1
  have k18 : ∀ {H}, jsh H → (jK H 421).1 = 18 := fun hs => gT (sK_421 hs)
  have k17 : ∀ {H}, jsh H → (jK H 456).1 = 17 := fun hs => gT (sK_456 hs)
  intro d
  induction d with
  | zero =>
    intro i fu u H hl hfu hf hX hm hu
    obtain ⟨fu, rfl⟩ : ∃ k, fu = k + 1 := ⟨fu - 1, by omega⟩
    obtain rfl : i = x.2.2.1.length := by omega
    have hX' := hX
    obtain ⟨hs, hx, -⟩ := hX
    have d3 := hx.2.1.2.2.1
    have hall : ¬ ∃ i, i < x.2.2.1.length ∧ p_cf cs ps x i = none := fun ⟨i, hi2, q⟩ => hm i hi2 q
    unfold F_18_comes_172 B_18_comes_172
    rw [sR_421_4 hs, d3]
    refine jT_g (k18 hs) (jT_g (k17 hs) (jT_pos (by rw [jo_le (by omega) (by omega)]; exact Nat.le_refl _) ?_))
    cases u with
    | true =>
      obtain ⟨j, c, h1, h2, h3⟩ := hu.mp rfl
      refine jT_neg (by decide) (jT_ret (hk 8 H ?_ (by decide) hs hf))
      unfold p_jd
      rw [b_neg hall, b_pos ⟨j, c, h1, h2, h3⟩]
    | false =>
      have hnu : ¬ ∃ i q, i < x.2.2.1.length ∧ p_cf cs ps x i = some q ∧ p_un (Int32.ofNat (b_ht bs tip + 1)) q := fun ⟨i, c, h1, h2, h3⟩ => by
        have := hu.mpr ⟨i, c, h1, h2, h3⟩
        cases this
      rw [z17_sumx hs hy hx]
      refine jT_pos rfl (jT_g (k18 hs) (jT_g (k17 hs) ?_))
      rw [jb_ok]
      by_cases q : w_sum x.2.1 x.2.2 ≤ p_tt cs ps x x.2.2.1.length
      · rw [sR_421_2 hs]
        refine jT_pos q (jT_g (k18 hs) (jT_g (gT (sK_437 hs)) (jT_l (hk0 H ?_ hf hX'))))
        unfold p_jd
        rw [b_neg hall, b_neg hnu, if_pos q]
      · refine jT_neg q (jT_ret (hk 9 H ?_ (by decide) hs hf))
        unfold p_jd
        rw [b_neg hall, b_neg hnu, if_neg q]
  | succ d ih =>
    intro i fu u H hl hfu hf hX hm hu
    obtain ⟨fu, rfl⟩ : ∃ k, fu = k + 1 := ⟨fu - 1, by omega⟩
    have hi : i < x.2.2.1.length := by omega
    have hX' := hX
    obtain ⟨hs, hx, hB, hCB, hT, h13, hp⟩ := hX
    have d3 := hx.2.1.2.2.1
    have c1 := hx.1.1
    have e1 : Int32.ofNat i + 1 = Int32.ofNat (i + 1) := jo_add (a := i) (b := 1)
    have no : ∀ H', p_cf cs ps x i = none → jsh H' → jfr p_TF Hs H' → Q 7 H' := fun H' hc hs' hf' => hk 7 H' (by unfold p_jd; rw [b_pos ⟨i, hi, hc⟩]) (by decide) hs' hf'
    unfold F_18_comes_172 B_18_comes_172
    rw [sR_421_4 hs, d3, sR_456_7 hs, sR_456_8 hs, c1, jo_nat (n := i) (by omega)]
    refine jT_g (k18 hs) (jT_g (k17 hs) (jT_neg (by rw [jo_le (by omega) (by omega)]; omega) (jT_g (k18 hs) (jT_g (k17 hs) (jT_g (k18 hs) (jT_g (k17 hs) (jT_g (gA (sK_457 hs) (jo_in (by omega) (by omega))) (jT_g (k18 hs) (jT_g (k17 hs) (jT_g (gA (sK_458 hs) (jo_in (by omega) (by omega))) (jT_g (k18 hs) ?_)))))))))))
    refine z18_find hs hok hB hy hx hCB hw hT h13 htl hi (fun q H1 hq s1 f1 lk un => ?_) fun H1 hq s1 f1 => ?_
    · obtain ⟨qok, qnn, qix⟩ := p_cf_ok hcv hv (fun k c hk => (hCB.2.2 k c hk).1) hok hq
      have f1' := jfr_trans hf f1
      have X1 := p_CX_fr hr hX' s1 (w_p13_T hp f1 fun a j w => by unfold p_TF zS17 at w; omega) f1 fun a j w => Or.inl w
      have lo := qok.2.2
      have lo8 : q.1.2.2.2.1.2.1.length ≤ 8 := (ztx_spec qok.2.1.1).2.1
      obtain ⟨-, g2, -⟩ := p_rx hy X1.2.1 hi
      have nxt : ∀ b : Bool, (b = true ↔ ∃ j q, j < i + 1 ∧ p_cf cs ps x j = some q ∧ p_un (Int32.ofNat (b_ht bs tip + 1)) q) → jT (B_18_comes_261 (F_18_comes_172 fu) 421 r1 a2 a3 a4 (p_tt cs ps x i) (Int32.ofNat i) (w_cv q.1) (p_ib b) H1) Q := fun b hb => by
        have etot : p_tt cs ps x (i + 1) = p_tt cs ps x i + w_cv q.1 := by
          rw [p_tt, hq]
        unfold B_18_comes_261
        rw [← etot, e1]
        refine jT_l (jT_l (ih (i + 1) fu b H1 (by omega) (by omega) f1' X1 (fun j hj => ?_) hb))
        by_cases c : j = i
        · rw [c, hq]
          exact fun w => by cases w
        · exact hm j (by omega)
      rw [sR_421_4 s1, sR_456_8 s1, g2]
      refine jT_neg qnn (jT_g (k18 s1) (jT_g (k17 s1) (jT_g (gA (sK_458 s1) (jo_in (by omega) (by omega))) (jT_pos (by rw [show (2147483647 : Int64) = Int64.ofNat 2147483647 from rfl, lo_le (by omega) (by decide)]; omega) ?_))))
      cases u with
      | true =>
        obtain ⟨j, c, h1, h2, h3⟩ := hu.mp rfl
        unfold B_18_comes_256
        exact jT_pos (by decide) (nxt true ⟨fun _ => ⟨j, c, by omega, h2, h3⟩, fun _ => rfl⟩)
      | false =>
        have old : ∀ j q, j < i → p_cf cs ps x j = some q → ¬ p_un (Int32.ofNat (b_ht bs tip + 1)) q := fun j q h1 h2 h3 => by
          have := hu.mpr ⟨j, q, h1, h2, h3⟩
          cases this
        refine jT_neg (fun w => w rfl) (jT_g (k18 s1) ?_)
        rcases un with ⟨w1, w2⟩ | ⟨w1, w2⟩
        · rw [w1]
          unfold B_18_comes_256
          exact jT_neg (by decide) (nxt true ⟨fun _ => ⟨i, q, by omega, hq, w2⟩, fun _ => rfl⟩)
        · rw [w1]
          refine jT_pos rfl (nxt false ⟨fun w => (by cases w), fun ⟨j, c, h1, h2, h3⟩ => ?_⟩)
          by_cases qj : j = i
          · rw [qj, hq] at h2
            rw [← Option.some.inj h2] at h3
            exact absurd h3 w2
          · exact absurd h3 (old j c (by omega) h2)
    · unfold B_18_comes_241
      exact jT_pos (by decide) (jT_ret (no H1 hq s1 (jfr_trans hf f1)))
/-- its scripts -/
theorem y18_312 {a6 : Int64} (hr : p_row row) (hok : p_ok ps) (hy : w_ty x.2.1 x.2.2) (hw : b_wf bs) (htl : tip < bs.length) (hall : ∀ j, j < x.2.2.1.length → p_cf cs ps x j ≠ none) (V : Option Nat)
    (hk0 : ∀ H', V = none → jsh H' → w_p13 H' → jfr p_TX Hs H' → Q 10 H')
    (hk1 : ∀ lf H', V = some lf → jfr p_TX Hs H' → p_CX bs tip cs ps x row s len H' → jT (B_18_comes_395 421 r1 a2 a3 a6 H') Q) :
    ∀ (d i lf fu : Nat) (H : jH), i + d = x.2.2.1.length → d < fu → lf < 1000 → jfr p_TX Hs H → p_CX bs tip cs ps x row s len H → jI H 437 8 = Int32.ofNat lf → V = w_pas (b_fit x.2.1 x.2.2 (p_lks cs ps x)) x.2.1 x.2.2 (p_lks cs ps x) d i lf → jT (F_18_comes_312 fu 421 r1 a2 a3 1 a6 (Int32.ofNat i) H) Q := by
  have l41 := hok.1
  have l8 : x.2.2.1.length ≤ 8 := (ztx_spec hy.1).1
  have k18 : ∀ {H}, jsh H → (jK H 421).1 = 18 := fun hs => gT (sK_421 hs)
  have k17 : ∀ {H}, jsh H → (jK H 456).1 = 17 := fun hs => gT (sK_456 hs)
  intro d
  induction d with
  | zero =>
    intro i lf fu H hl hfu hlf hf hX h8 hV
    obtain ⟨fu, rfl⟩ : ∃ k, fu = k + 1 := ⟨fu - 1, by omega⟩
    have hX' := hX
    obtain ⟨hs, hx, -⟩ := hX
    have d3 := hx.2.1.2.2.1
    unfold F_18_comes_312 B_18_comes_312
    rw [sR_421_4 hs, d3]
    exact jT_g (k18 hs) (jT_g (k17 hs) (jT_pos (by rw [jo_le (by omega) (by omega)]; omega) (hk1 lf H hV hf hX')))
  | succ d ih =>
    intro i lf fu H hl hfu hlf hf hX h8 hV
    obtain ⟨fu, rfl⟩ : ∃ k, fu = k + 1 := ⟨fu - 1, by omega⟩
    have hi : i < x.2.2.1.length := by omega
    have hX' := hX
    obtain ⟨hs, hx, hB, hCB, hT, h13, hp⟩ := hX
    have d3 := hx.2.1.2.2.1
    have c1 := hx.1.1
    have e1 : Int32.ofNat i + 1 = Int32.ofNat (i + 1) := jo_add (a := i) (b := 1)
    unfold F_18_comes_312 B_18_comes_312
    rw [sR_421_4 hs, d3, sR_456_7 hs, sR_456_8 hs, c1, jo_nat (n := i) (by omega)]
    refine jT_g (k18 hs) (jT_g (k17 hs) (jT_neg (by rw [jo_le (by omega) (by omega)]; omega) (jT_neg (by decide) (jT_g (k18 hs) (jT_g (k17 hs) (jT_g (k18 hs) (jT_g (k17 hs) (jT_g (gA (sK_457 hs) (jo_in (by omega) (by omega))) (jT_g (k18 hs) (jT_g (k17 hs) (jT_g (gA (sK_458 hs) (jo_in (by omega) (by omega))) (jT_g (k18 hs) ?_))))))))))))
    refine z18_find hs hok hB hy hx hCB hw hT h13 htl hi (fun q H1 hq s1 f1 lk un => ?_) fun H1 hq s1 f1 => absurd hq (hall i hi)
    have p1 : w_p13 H1 := w_p13_T hp f1 fun a j w => by unfold p_TF zS17 at w; omega
    have X1 := p_CX_fr hr hX' s1 p1 f1 fun a j w => Or.inl w
    have f1' : jfr p_TX Hs H1 := jfr_trans hf (jfr_mono f1 fun a j w => Or.inl w)
    have h81 : jI H1 437 8 = Int32.ofNat lf := (jfr_I f1 (by unfold p_TF zS17; omega)).trans h8
    obtain ⟨la, llen, hlr, e58, e59⟩ := lk
    have elk : p_lks cs ps x i = w_ck q.1 := by
      unfold p_lks
      rw [hq]
    rw [sR_421_4 s1, e58, e59]
    refine jT_g (k18 s1) (jT_g (k18 s1) (jT_g (k18 s1) (jT_g (k18 s1) (jT_g (k18 s1) ?_))))
    rw [← elk] at hlr ⊢
    refine z18_fails (fit := b_fit x.2.1 x.2.2 (p_lks cs ps x) i) s1 hy X1.2.1 p1 hi hlr h81 hlf (fun sg ky => b_fit_ok i sg ky) (fun lf' H2 ew hl' s2 p2 f2 h82 => ?_) fun H2 ew s2 p2 f2 => ?_
    · have f2' : jfr p_TX Hs H2 := jfr_trans f1' (jfr_mono f2 fun a j w => Or.inr w)
      have X2 := p_CX_fr hr X1 s2 p2 f2 fun a j w => Or.inr w
      rw [e1]
      refine jT_pos rfl (jT_l (ih (i + 1) lf' fu H2 (by omega) (by omega) hl' f2' X2 h82 ?_))
      rw [hV, w_pas, ew]
      rfl
    · refine jT_neg (by decide) (jT_ret (hk0 H2 ?_ s2 p2 (jfr_trans f1' (jfr_mono f2 fun a j w => Or.inr w))))
      rw [hV, w_pas, ew]
      rfl
end CM18
