/-! The class: what is wrong with a transaction over the coins, whole. -/
def w_T2 : Nat → Nat → Prop := fun a j => a = 396 ∨ a = 397 ∨ (a = 392 ∧ j = 8)
theorem w_CA_fr {cs : List w_cn} {T : Nat → Nat → Prop} {H H' : jH} (h : w_CA cs H) (hf : jfr T H H') (hT : ∀ a j, T a j → a < 392 ∨ (a = 392 ∧ j = 8) ∨ (396 ≤ a ∧ a < 422)) : w_CA cs H' := by
  obtain ⟨h1, h2, h3⟩ := h
  have n : ∀ a j, 393 ≤ a → a ≤ 395 → ¬ T a j := fun a j q1 q2 w => by have := hT a j w; omega
  refine ⟨(jfr_I hf fun w => by have := hT _ _ w; omega).trans h1, h2, fun k c hk => ?_⟩
  obtain ⟨a1, ⟨row, s, len, a2⟩, a3, a4⟩ := h3 k c hk
  rw [jfr_R hf (n 393 k (by decide) (by decide)), jfr_I hf (n 394 k (by decide) (by decide)), jfr_I hf (n 395 k (by decide) (by decide))]
  exact ⟨a1, ⟨row, s, len, w_x_jfr a2 hf fun a j q w => by have := hT a j w; omega⟩, a3, a4⟩
/-- the maker of an input's coin is laid ready -/
def w_mkr (cs : List w_cn) (tb : List UInt8) (y : w_y) (H : jH) (j : Nat) : Prop := ∃ c, w_cf cs tb y j = some c ∧ w_cok c ∧ jI H 397 j = Int32.ofNat c.2.1 ∧ ∃ row s len, w_x (jR H 396 j) row s len c.2.2.1 c.2.2.2.1 c.1 H
section TAKE2B
variable {o row s len : Nat} {tb nm : List UInt8} {y : w_y} {cs : List w_cn} {Hs : jH} {ht : Int32} {Q : Int32 → jH → Prop}
theorem z2_take10 (hs0 : jsh Hs) (hy : w_ty tb y) (hx0 : w_x o row s len tb y nm Hs) (hC0 : w_CA cs Hs)
    (hk0 : ∀ H', (∃ i, i < y.1.length ∧ w_cf cs tb y i = none) → jsh H' → jfr w_T2 Hs H' → Q 31 H')
    (hk2 : ∀ H', (∀ i, i < y.1.length → w_cf cs tb y i ≠ none) → (∃ i c, i < y.1.length ∧ w_cf cs tb y i = some c ∧ w_unr ht c) → jsh H' → jfr w_T2 Hs H' → Q 32 H')
    (hk3 : ∀ H', (∀ i, i < y.1.length → w_cf cs tb y i ≠ none) → (∀ i c, i < y.1.length → w_cf cs tb y i = some c → ¬ w_unr ht c) → ¬ w_sum tb y ≤ w_tot cs tb y y.1.length → jsh H' → jfr w_T2 Hs H' → Q 33 H')
    (hk1 : ∀ H', (∀ i, i < y.1.length → w_cf cs tb y i ≠ none) → (∀ i c, i < y.1.length → w_cf cs tb y i = some c → ¬ w_unr ht c) → w_sum tb y ≤ w_tot cs tb y y.1.length → jsh H' → jfr w_T2 Hs H' → jL H' 392 8 = w_tot cs tb y y.1.length → (∀ j, j < y.1.length → w_mkr cs tb y H' j) → Q 0 H') :
    ∀ (d i fu : Nat) (u : Bool) (H : jH), i + d = y.1.length → d < fu → jsh H → jfr w_T2 Hs H → (∀ j, j < i → w_mkr cs tb y H j) → (u = true ↔ ∃ j c, j < i ∧ w_cf cs tb y j = some c ∧ w_unr ht c) → jL H 392 8 = w_tot cs tb y i → jT (F_2_take_10 fu 392 o ht (if u = true then 1 else 0) (Int32.ofNat i) H) Q := by
  have l8 : y.1.length ≤ 8 := (ztx_spec hy.1).1
  have n5 : ∀ a j, 422 ≤ a → ¬ w_T2 a j := fun a j q w => by unfold w_T2 at w; omega
  have nC : ∀ a j, w_T2 a j → a < 392 ∨ (a = 392 ∧ j = 8) ∨ (396 ≤ a ∧ a < 422) := fun a j w => by unfold w_T2 at w; omega
  have t2000 := hy.2.2
  intro d
  induction d with
  | zero =>
    intro i fu u H hi hfu hs hf hm hu ht8
    obtain ⟨fu, rfl⟩ : ∃ k, fu = k + 1 := ⟨fu - 1, by omega⟩
    obtain rfl : i = y.1.length := by omega
    have hx := w_x_jfr hx0 hf n5
    have k10 := hx.1.1
    have e6 := hx.2.2.2.2.2.2.2.2.1
    obtain ⟨-, ⟨b1, b2, b3, b4, -⟩, -⟩ := hx
    have hall : ∀ i, i < y.1.length → w_cf cs tb y i ≠ none := fun i hi2 q => by
      obtain ⟨c, hc, -⟩ := hm i hi2
      rw [hc] at q
      cases q
    unfold F_2_take_10 B_2_take_10 B_2_take_117 B_2_take_144
    rw [b3, b4, e6, ht8]
    refine jT_g k10 (jT_g rfl (jT_pos (by show Int32.ofNat y.1.length ≤ Int32.ofNat y.1.length; rw [jo_le (by omega) (by omega)]; exact Nat.le_refl _) ?_))
    cases u with
    | true =>
      obtain ⟨j, c, h1, h2, h3⟩ := hu.mp rfl
      exact jT_neg (by decide) (jT_ret (hk2 H hall ⟨j, c, h1, h2, h3⟩ hs hf))
    | false =>
      have hnu : ∀ i c, i < y.1.length → w_cf cs tb y i = some c → ¬ w_unr ht c := fun i c h1 h2 h3 => by
        have := hu.mpr ⟨i, c, h1, h2, h3⟩
        cases this
      refine jT_pos rfl (jT_g k10 (jT_g (gT (sK_392 hs)) ?_))
      by_cases q : w_sum tb y ≤ w_tot cs tb y y.1.length
      · exact jT_pos q (jT_ret (hk1 H hall hnu q hs hf ht8 hm))
      · exact jT_neg q (jT_ret (hk3 H hall hnu q hs hf))
  | succ d ih =>
    intro i fu u H hi hfu hs hf hm hu ht8
    obtain ⟨fu, rfl⟩ : ∃ k, fu = k + 1 := ⟨fu - 1, by omega⟩
    have hii : i < y.1.length := by omega
    have hx := w_x_jfr hx0 hf n5
    have hCA := w_CA_fr hC0 hf nC
    have eix := z10_indexx hs hy hx hii
    have k10 := hx.1.1
    have k2 : ∀ {H}, jsh H → (jK H 392).1 = 2 := fun hs => gT (sK_392 hs)
    have e1' : Int32.ofNat i + 1 = Int32.ofNat (i + 1) := jo_add (a := i) (b := 1)
    obtain ⟨⟨a1, a2, a3, a4, a5, a6⟩, ⟨b1, b2, b3, b4, -⟩, c1, -⟩ := hx
    obtain ⟨m1, m2, m3, m4⟩ := w_in y tb hy hii
    have nl : (w_in1 tb y i).length = 32 := w_sl_len (by omega)
    have hz : zRow H row (s + (y.1.getD i (0, 0)).1) (w_in1 tb y i) := w_sl_row a6 rfl
    have hfd := z2_find hs hCA a3 (by omega) (by omega) hz nl (zho_lt _ _ 4) (ix := w_in2 tb y i)
    have hcn := hCA.2.1
    unfold F_2_take_10 B_2_take_10
    rw [b3, b4, jo_nat (n := i) (by omega), eix, c1 i hii, a2]
    refine jT_g k10 (jT_g rfl (jT_neg (by show ¬ Int32.ofNat y.1.length ≤ Int32.ofNat i; rw [jo_le (by omega) (by omega)]; omega) (jT_neg (by rw [show (8 : Int32) = Int32.ofNat 8 from rfl, jo_le (by decide) (by omega)]; omega) (jT_g k10 (jT_g k10 (jT_g ⟨rfl, jo_in (by omega) hii⟩ (jT_g k10 ?_)))))))
    rw [jb_ok]
    refine jT_g (k2 hs) ?_
    rw [hfd, jb_ok]
    cases hfk : w_fd cs (w_in1 tb y i) (w_in2 tb y i) 0 with
    | none => exact jT_neg w_fv_neg (jT_ret (hk0 H ⟨i, hii, w_cf_none.mpr hfk⟩ hs hf))
    | some k =>
      have hlt := (w_fd_lt hfk).2
      obtain ⟨c, hck, -⟩ := w_fd_at hfk
      rw [Nat.sub_zero] at hck
      have hcf : w_cf cs tb y i = some c := w_cf_some.mpr ⟨k, hfk, hck⟩
      obtain ⟨ok, ⟨row', s', len', hxk⟩, ek1, ek2⟩ := hCA.2.2 k c hck
      obtain ⟨v, ev, hv⟩ := z2_unripe (ht := ht) hs hCA hck
      have kv : w_fv (some k) = Int32.ofNat k := rfl
      rw [kv, ev]
      refine jT_pos (w_fv_pos (k := k) (by omega)) (jT_g (k2 hs) ?_)
      rw [jb_ok, jo_nat (n := k) (by omega), sR_392_0 hs, sR_392_6 hs]
      -- the maker is laid ready
      have hmk513 : 422 ≤ jR H 393 k := hxk.2.2.2.2.2.2.2.2.2.2.1
      have s1 : jsh (jsR H 396 i (jR H 393 k)) := jsh_sRn hs jRs_396
      refine jT_l (jT_g (k2 hs) (jT_g (k2 hs) (jT_g (gA (sK_393 hs) (jo_in (by omega) (by omega))) (jT_g ⟨gT (sK_396 hs), by rw [sK_396 hs]; exact jo_in (by omega) (by show i < 8; omega), Or.inr hxk.1.1⟩ (jT_l ?_)))))
      have r1 : jR (jsR H 396 i (jR H 393 k)) 396 i = jR H 393 k := jR_sRe
      have ro1 : ∀ j, j ≠ i → jR (jsR H 396 i (jR H 393 k)) 396 j = jR H 396 j := fun j hj => jR_sRn hj
      have f1 : jfr w_T2 H (jsR H 396 i (jR H 393 k)) := jfr_sR jfr_refl (Or.inl rfl)
      have v8 : jL (jsR H 396 i (jR H 393 k)) 392 8 = w_tot cs tb y i := ht8
      have iI : ∀ a j, jI (jsR H 396 i (jR H 393 k)) a j = jI H a j := fun a j => rfl
      generalize jsR H 396 i (jR H 393 k) = H1 at *
      have ek1' : jI H1 394 k = Int32.ofNat c.2.1 := (iI 394 k).trans ek1
      rw [sR_392_1 s1, sR_392_7 s1, ek1']
      have s2 : jsh (jsI H1 397 i (Int32.ofNat c.2.1)) := jsh_sI s1 (by decide)
      refine jT_g (k2 s1) (jT_g (k2 s1) (jT_g (gA (sK_394 s1) (jo_in (by omega) (by omega))) (jT_g (gIw (sK_397 s1) (by decide) (jo_in (by omega) (by omega))) (jT_l ?_))))
      have r2 : ∀ j, jR (jsI H1 397 i (Int32.ofNat c.2.1)) 396 j = jR H1 396 j := fun j => rfl
      have i2 : jI (jsI H1 397 i (Int32.ofNat c.2.1)) 397 i = Int32.ofNat c.2.1 := jI_sIe
      have io2 : ∀ j, j ≠ i → jI (jsI H1 397 i (Int32.ofNat c.2.1)) 397 j = jI H 397 j := fun j hj => (jI_sIn hj).trans (iI 397 j)
      have f2 : jfr w_T2 H (jsI H1 397 i (Int32.ofNat c.2.1)) := jfr_sI f1 (Or.inr (Or.inl rfl))
      have v82 : jL (jsI H1 397 i (Int32.ofNat c.2.1)) 392 8 = w_tot cs tb y i := v8
      generalize jsI H1 397 i (Int32.ofNat c.2.1) = H2 at *
      have hCA2 := w_CA_fr hCA f2 nC
      rw [v82, z2_worth s2 hCA2 hck]
      refine jT_g (k2 s2) (jT_g (k2 s2) ?_)
      rw [jb_ok]
      have etot : w_tot cs tb y (i + 1) = w_tot cs tb y i + w_cv c := by
        rw [w_tot, hcf]
      rw [← etot, e1']
      have s3 : jsh (jsL H2 392 8 (w_tot cs tb y (i + 1))) := jsh_sL s2
      have f3 : jfr w_T2 H (jsL H2 392 8 (w_tot cs tb y (i + 1))) := jfr_sL f2 (Or.inr (Or.inr ⟨rfl, rfl⟩))
      have r3 : ∀ j, jR (jsL H2 392 8 (w_tot cs tb y (i + 1))) 396 j = jR H2 396 j := fun j => rfl
      have i3 : ∀ j, jI (jsL H2 392 8 (w_tot cs tb y (i + 1))) 397 j = jI H2 397 j := fun j => rfl
      have v83 : jL (jsL H2 392 8 (w_tot cs tb y (i + 1))) 392 8 = w_tot cs tb y (i + 1) := jL_sLe
      refine jT_g (k2 s2) (jT_l (jT_l ?_))
      generalize jsL H2 392 8 (w_tot cs tb y (i + 1)) = H3 at *
      have hor : ∀ u' : Bool, u' = (u || decide (v = 1)) → ((if u = true then (1 : Int32) else 0) ||| v) = (if u' = true then 1 else 0) := fun u' e => by
        rcases hv with ⟨rfl, -⟩ | ⟨rfl, -⟩
        · rw [e]
          cases u <;> decide
        · rw [e]
          cases u <;> decide
      rw [hor _ rfl]
      refine ih (i + 1) fu _ H3 (by omega) (by omega) s3 (jfr_trans hf f3) (fun j hj => ?_) ?_ v83
      · by_cases q : j = i
        · subst q
          refine ⟨c, hcf, ok, (i3 j).trans i2, row', s', len', ?_⟩
          rw [r3, r2, r1]
          exact w_x_jfr hxk f3 n5
        · obtain ⟨c', g1, g2, g3, row2, s2', len2, g4⟩ := hm j (by omega)
          refine ⟨c', g1, g2, (i3 j).trans ((io2 j q).trans g3), row2, s2', len2, ?_⟩
          rw [r3, r2, ro1 j q]
          exact w_x_jfr g4 f3 n5
      · rw [Bool.or_eq_true, decide_eq_true_eq, hu]
        constructor
        · rintro (⟨j, c', h1, h2, h3⟩ | h1)
          · exact ⟨j, c', by omega, h2, h3⟩
          · rcases hv with ⟨-, w⟩ | ⟨rfl, -⟩
            · exact ⟨i, c, by omega, hcf, w⟩
            · exact absurd h1 (by decide)
        · rintro ⟨j, c', h1, h2, h3⟩
          by_cases q : j = i
          · rw [q, hcf] at h2
            rw [← Option.some.inj h2] at h3
            rcases hv with ⟨rfl, -⟩ | ⟨-, w⟩
            · exact Or.inr rfl
            · exact absurd h3 w
          · exact Or.inl ⟨j, c', by omega, h2, h3⟩
end TAKE2B
