/-! A transaction comes to the reference: it is laid in. -/
section CI18
variable {cs : List w_cn} {ps : List p_e} {x : b_t} {row s len : Nat} {Q : Int32 → jH → Prop} {H0 : jH}
theorem p_inPool0 {ps : List p_e} {H : jH} (hs : jsh H) (hB : p_PB ps H) (hok : p_ok ps) (hn : zRow H 507 0 x.1) (h32 : x.1.length = 32) (h1 : p_fi ps x.1 ≠ none → Q 0 H) (h0 : p_fi ps x.1 = none → Q 11 H) : jT (B_18_comes_631 421 H) Q := by
  have k18 : (jK H 421).1 = 18 := gT (sK_421 hs)
  have l41 := hok.1
  unfold B_18_comes_631 B_18_comes_649
  rw [sR_421_49 hs]
  refine jT_g k18 (jT_g k18 ?_)
  show jT (jb (F_18_inPool 421 507 (Int32.ofNat 0) H) _) Q
  rw [z18_inPool hs hB hok (sK_507 hs) (by decide) (by decide) hn h32, jb_ok]
  cases hf : p_fi ps x.1 with
  | none => exact jT_neg w_fv_neg (jT_ret (h0 hf))
  | some k =>
    have := (p_fi_some hf).1
    exact jT_pos (w_fv_pos (by omega)) (jT_ret (h1 fun w => by rw [hf] at w; cases w))
/-- places and numbers of its inputs, and the end -/
theorem y18_538 {e : p_e} (hok : p_ok ps) (h40 : ps.length ≤ 40) (hy : w_ty x.2.1 x.2.2) (hn0 : p_fi ps x.1 = none) (h32 : x.1.length = 32) (ee : e = p_new cs ps x)
    (hk : ∀ v H', jsh H' → jfr p_TE H0 H' → (if (ps ++ [e]).length ≤ 40 then v = 0 ∧ p_PB (ps ++ [e]) H' else (v = if (p_evi (ps ++ [e])).2 = true then 11 else 0) ∧ p_PB (p_evi (ps ++ [e])).1 H') → Q v H') :
    ∀ (d i fu : Nat) (H : jH), i + d = x.2.2.1.length → d < fu → jsh H → jfr p_TE H0 H → w_rx row s len x.2.1 x.2.2 H → zRow H 507 0 x.1 → p_PB ps H → (zRow H 496 (2000 * ps.length) x.2.1 ∧ jI H 497 ps.length = Int32.ofNat x.2.1.length ∧ zRow H 498 (32 * ps.length) x.1 ∧ jL H 499 ps.length = e.2) → jI H 500 ps.length = Int32.ofNat x.2.2.1.length → (∀ j, j < i → jI H 501 (8 * ps.length + j) = Int32.ofNat (x.2.2.1.getD j (0, 0)).1 ∧ jL H 502 (8 * ps.length + j) = Int64.ofNat (w_in2 x.2.1 x.2.2 j)) → jT (F_18_comes_538 fu 421 (Int32.ofNat s) (Int32.ofNat i) H) Q := by
  have l8 : x.2.2.1.length ≤ 8 := (ztx_spec hy.1).1
  have k18 : ∀ {H}, jsh H → (jK H 421).1 = 18 := fun hs => gT (sK_421 hs)
  have k17 : ∀ {H}, jsh H → (jK H 456).1 = 17 := fun hs => gT (sK_456 hs)
  have l2 : (ps ++ [e]).length = ps.length + 1 := by rw [List.length_append]; rfl
  have ok2 : p_ok (ps ++ [e]) := by
    rw [ee]
    exact p_ok_snoc hok h40 hy h32 hn0
  have elast : (ps ++ [e])[ps.length]? = some e := by
    rw [List.getElem?_append_right (Nat.le_refl _), Nat.sub_self]
    rfl
  have e1n : e.1 = x := by rw [ee]; rfl
  intro d
  induction d with
  | zero =>
    intro i fu H hl hfu hs hf hx hn hB h4 h5 h6
    obtain ⟨fu, rfl⟩ : ∃ k, fu = k + 1 := ⟨fu - 1, by omega⟩
    obtain rfl : i = x.2.2.1.length := by omega
    have d3 := hx.2.1.2.2.1
    unfold F_18_comes_538 B_18_comes_538
    rw [sR_421_4 hs, d3, hB.1, show Int32.ofNat ps.length + 1 = Int32.ofNat (ps.length + 1) from jo_add (a := ps.length) (b := 1)]
    refine jT_g (k18 hs) (jT_g (k17 hs) (jT_pos (by rw [jo_le (by omega) (by omega)]; exact Nat.le_refl _) (jT_g (k18 hs) (jT_g (k18 hs) (jT_l ?_)))))
    have s1 : jsh (jsI H 421 36 (Int32.ofNat (ps.length + 1))) := jsh_sI hs (by decide)
    have f1 : jfr p_TE H0 (jsI H 421 36 (Int32.ofNat (ps.length + 1))) := jfr_sI hf (Or.inr ⟨rfl, rfl⟩)
    have g1 : jfr (fun a j => a = 421 ∧ j = 36) H (jsI H 421 36 (Int32.ofNat (ps.length + 1))) := jfr_sI jfr_refl ⟨rfl, rfl⟩
    have v36 : jI (jsI H 421 36 (Int32.ofNat (ps.length + 1))) 421 36 = Int32.ofNat (ps.length + 1) := jI_sIe
    generalize jsI H 421 36 (Int32.ofNat (ps.length + 1)) = H1 at *
    have hB1 : p_PB (ps ++ [e]) H1 := by
      refine ⟨by rw [l2]; exact v36, fun k e' hk' => ?_⟩
      have hl' := (List.getElem?_eq_some_iff.mp hk').1
      have q : p_eb e' k H := by
        by_cases c : k < ps.length
        · rw [List.getElem?_append_left c] at hk'
          exact hB.2 k e' hk'
        · obtain rfl : k = ps.length := by omega
          rw [elast] at hk'
          rw [← Option.some.inj hk']
          unfold p_eb
          rw [e1n]
          exact ⟨h4, h5, h6⟩
      exact p_eb_fr (ok2.2.1 k e' hk').1 (ok2.2.1 k e' hk').2 q g1 fun a j w => Or.inl (by omega)
    have hn1 : zRow H1 507 0 x.1 := zRow_eq hn fun i _ => jfr_B g1 (by omega)
    rw [v36]
    refine jT_g (k18 s1) ?_
    by_cases c : ps.length + 1 ≤ 40
    · refine jT_pos (by rw [show (40 : Int32) = Int32.ofNat 40 from rfl, jo_le (by omega) (by decide)]; exact c) ?_
      refine p_inPool0 s1 hB1 ok2 hn1 h32 (fun _ => hk 0 H1 s1 f1 ?_) fun w => absurd (by rw [e1n]) (p_fi_none w elast)
      rw [if_pos (by omega)]
      exact ⟨rfl, hB1⟩
    · refine jT_neg (by rw [show (40 : Int32) = Int32.ofNat 40 from rfl, jo_le (by omega) (by decide)]; exact c) (jT_g (k18 s1) ?_)
      refine y18_evict s1 ok2 hB1 (by omega) fun H2 s2 f2 B2 => ?_
      have f2' := jfr_trans f1 f2
      have hn2 : zRow H2 507 0 x.1 := zRow_eq hn1 fun i _ => jfr_B f2 (by unfold p_TE; omega)
      have okk : p_ok (p_evi (ps ++ [e])).1 := p_kp_ok ok2
      have iff := p_kp_fi (K := p_fh (ps ++ [e]) (p_lst (ps ++ [e]) (ps ++ [e]).length)) ok2 elast
      rw [e1n] at iff
      have ek : (p_evi (ps ++ [e])).2 = p_fh (ps ++ [e]) (p_lst (ps ++ [e]) (ps ++ [e]).length) ps.length := by
        unfold p_evi
        rw [l2, Nat.add_sub_cancel]
      refine p_inPool0 s2 B2 okk hn2 h32 (fun w => hk 0 H2 s2 f2' ?_) fun w => hk 11 H2 s2 f2' ?_
      · rw [if_neg (by omega)]
        refine ⟨?_, B2⟩
        rw [if_neg]
        intro q
        rw [ek] at q
        exact w (iff.mpr q)
      · rw [if_neg (by omega)]
        refine ⟨?_, B2⟩
        rw [if_pos]
        rw [ek]
        exact iff.mp w
  | succ d ih =>
    intro i fu H hl hfu hs hf hx hn hB h4 h5 h6
    obtain ⟨fu, rfl⟩ : ∃ k, fu = k + 1 := ⟨fu - 1, by omega⟩
    have hi : i < x.2.2.1.length := by omega
    have d3 := hx.2.1.2.2.1
    have clen : len < 2000000 := hx.1.2.2.2.1
    have l2000 := hy.2.2
    obtain ⟨g1, g2, g3, g4, g5⟩ := p_rx hy hx hi
    have e1 : Int32.ofNat i + 1 = Int32.ofNat (i + 1) := jo_add (a := i) (b := 1)
    have esub : Int32.ofNat (s + (x.2.2.1.getD i (0, 0)).1) - Int32.ofNat s = Int32.ofNat (x.2.2.1.getD i (0, 0)).1 := by
      rw [jo_sub (by omega), Nat.add_sub_cancel_left]
    unfold F_18_comes_538 B_18_comes_538
    rw [sR_421_4 hs, d3, sR_456_7 hs, sR_421_42 hs, hB.1, p_e8, jo_nat (n := 8 * ps.length + i) (by omega), jo_nat (n := i) (by omega), g1, esub, e1]
    refine jT_g (k18 hs) (jT_g (k17 hs) (jT_neg (by rw [jo_le (by omega) (by omega)]; omega) (jT_g (k18 hs) (jT_g (k18 hs) (jT_g (k18 hs) (jT_g (k17 hs) (jT_g (gA (sK_457 hs) (jo_in (by omega) (by omega))) (jT_g (gIw (sK_501 hs) (by decide) (jo_in (by omega) (by omega))) (jT_l ?_)))))))))
    have s1 : jsh (jsI H 501 (8 * ps.length + i) (Int32.ofNat (x.2.2.1.getD i (0, 0)).1)) := jsh_sI hs (by decide)
    have f1 : jfr (fun a j => (a = 501 ∨ a = 502) ∧ j = 8 * ps.length + i) H (jsI H 501 (8 * ps.length + i) (Int32.ofNat (x.2.2.1.getD i (0, 0)).1)) := jfr_sI jfr_refl ⟨Or.inl rfl, rfl⟩
    have v1 : jI (jsI H 501 (8 * ps.length + i) (Int32.ofNat (x.2.2.1.getD i (0, 0)).1)) 501 (8 * ps.length + i) = Int32.ofNat (x.2.2.1.getD i (0, 0)).1 := jI_sIe
    generalize jsI H 501 (8 * ps.length + i) (Int32.ofNat (x.2.2.1.getD i (0, 0)).1) = H1 at *
    have w36 : jI H1 421 36 = Int32.ofNat ps.length := (jfr_I f1 (by omega)).trans hB.1
    have w2 : jL H1 458 i = Int64.ofNat (w_in2 x.2.1 x.2.2 i) := (jfr_L f1 (by omega)).trans g2
    rw [sR_421_4 s1, sR_456_8 s1, sR_421_43 s1, w36, p_e8, jo_nat (n := 8 * ps.length + i) (by omega), w2]
    refine jT_g (k18 s1) (jT_g (k18 s1) (jT_g (k18 s1) (jT_g (k17 s1) (jT_g (gA (sK_458 s1) (jo_in (by omega) (by omega))) (jT_g (gA (sK_502 s1) (jo_in (by omega) (by omega))) (jT_l (jT_l ?_)))))))
    have f2 : jfr (fun a j => (a = 501 ∨ a = 502) ∧ j = 8 * ps.length + i) H (jsL H1 502 (8 * ps.length + i) (Int64.ofNat (w_in2 x.2.1 x.2.2 i))) := jfr_sL f1 ⟨Or.inr rfl, rfl⟩
    have s2 : jsh (jsL H1 502 (8 * ps.length + i) (Int64.ofNat (w_in2 x.2.1 x.2.2 i))) := jsh_sL s1
    have u1 : jI (jsL H1 502 (8 * ps.length + i) (Int64.ofNat (w_in2 x.2.1 x.2.2 i))) 501 (8 * ps.length + i) = Int32.ofNat (x.2.2.1.getD i (0, 0)).1 := v1
    have u2 : jL (jsL H1 502 (8 * ps.length + i) (Int64.ofNat (w_in2 x.2.1 x.2.2 i))) 502 (8 * ps.length + i) = Int64.ofNat (w_in2 x.2.1 x.2.2 i) := jL_sLe
    generalize jsL H1 502 (8 * ps.length + i) (Int64.ofNat (w_in2 x.2.1 x.2.2 i)) = H2 at *
    have mT : ∀ a j, ((a = 501 ∨ a = 502) ∧ j = 8 * ps.length + i) → p_Tm ps.length a j := fun a j w => by unfold p_Tm; omega
    have hB2 : p_PB ps H2 := ⟨(jfr_I f2 (by omega)).trans hB.1, fun k e' he' => by
      have hl' := (List.getElem?_eq_some_iff.mp he').1
      exact p_eb_fr (hok.2.1 k e' he').1 (hok.2.1 k e' he').2 (hB.2 k e' he') f2 fun a j w => Or.inr ⟨ps.length, by omega, mT a j w⟩⟩
    refine ih (i + 1) fu H2 (by omega) (by omega) s2 (jfr_trans hf (jfr_mono f2 fun a j w => by unfold p_TE; omega)) ?_ (zRow_eq hn fun i _ => jfr_B f2 (by omega)) hB2 ⟨zRow_eq h4.1 fun i _ => jfr_B f2 (by omega), (jfr_I f2 (by omega)).trans h4.2.1, zRow_eq h4.2.2.1 fun i _ => jfr_B f2 (by omega), (jfr_L f2 (by omega)).trans h4.2.2.2⟩ ((jfr_I f2 (by omega)).trans h5) fun j hj => ?_
    · have hrow : jB H2 row = jB H row := funext fun j => by
        by_cases c : row = 501 ∨ row = 502
        · exfalso
          have := hx.1.2.1
          rcases c with c | c
          · rw [c, sK_501 hs] at this
            exact absurd (congrArg Prod.fst this) (show ¬ (100 : Nat) = 101 by decide)
          · rw [c, sK_502 hs] at this
            exact absurd (congrArg Prod.fst this) (show ¬ (103 : Nat) = 101 by decide)
        · exact jfr_B f2 fun w => c w.1
      obtain ⟨⟨c1, c2, c3, c4, c5, c6⟩, ⟨d1, d2, d3, d4⟩, x1, x2⟩ := hx
      have n4 : ∀ a j, a ≤ 464 → ¬ ((a = 501 ∨ a = 502) ∧ j = 8 * ps.length + i) := fun a j q w => by omega
      refine ⟨⟨(jfr_R f2 (n4 _ _ (by decide))).trans c1, by rw [jfr_K f2]; exact c2, c3, c4, c5, zRow_eq c6 fun j _ => by rw [hrow]⟩, ⟨(jfr_I f2 (n4 _ _ (by decide))).trans d1, (jfr_I f2 (n4 _ _ (by decide))).trans d2, (jfr_I f2 (n4 _ _ (by decide))).trans d3, (jfr_I f2 (n4 _ _ (by decide))).trans d4⟩, fun k hk' => ?_, fun k hk' => ?_⟩
      · obtain ⟨q1, q2, q3, q4, q5⟩ := x1 k hk'
        rw [hrow]
        exact ⟨(jfr_I f2 (n4 _ _ (by decide))).trans q1, (jfr_I f2 (n4 _ _ (by decide))).trans q2, (jfr_I f2 (n4 _ _ (by decide))).trans q3, (jfr_I f2 (n4 _ _ (by decide))).trans q4, (jfr_L f2 (n4 _ _ (by decide))).trans q5⟩
      · obtain ⟨q1, q2, q3⟩ := x2 k hk'
        rw [hrow]
        exact ⟨(jfr_L f2 (n4 _ _ (by decide))).trans q1, (jfr_I f2 (n4 _ _ (by decide))).trans q2, (jfr_I f2 (n4 _ _ (by decide))).trans q3⟩
    · by_cases c : j = i
      · rw [c]
        exact ⟨u1, u2⟩
      · obtain ⟨q1, q2⟩ := h6 j (by omega)
        exact ⟨(jfr_I f2 (by omega)).trans q1, (jfr_L f2 (by omega)).trans q2⟩
/-- it is laid in -/
theorem y18_in (hr : p_row row) (hs : jsh H0) (hok : p_ok ps) (h40 : ps.length ≤ 40) (hy : w_ty x.2.1 x.2.2) (hn0 : p_fi ps x.1 = none) (h32 : x.1.length = 32) (hx : w_rx row s len x.2.1 x.2.2 H0) (hn : zRow H0 507 0 x.1) (hB : p_PB ps H0)
    (hk : ∀ v H', jsh H' → jfr p_TE H0 H' → (if (ps ++ [p_new cs ps x]).length ≤ 40 then v = 0 ∧ p_PB (ps ++ [p_new cs ps x]) H' else (v = if (p_evi (ps ++ [p_new cs ps x])).2 = true then 11 else 0) ∧ p_PB (p_evi (ps ++ [p_new cs ps x])).1 H') → Q v H') : jT (F_18_comes_418 jfuel 421 row (Int32.ofNat s) (Int32.ofNat x.2.1.length) (p_tt cs ps x x.2.2.1.length) 0 H0) Q := by
  have l8 : x.2.2.1.length ≤ 8 := (ztx_spec hy.1).1
  have l2000 := hy.2.2
  have k18 : ∀ {H}, jsh H → (jK H 421).1 = 18 := fun hs => gT (sK_421 hs)
  have k17 : ∀ {H}, jsh H → (jK H 456).1 = 17 := fun hs => gT (sK_456 hs)
  have hkr := hx.1.2.1
  have hse := hx.1.2.2.1
  have clen : len < 2000000 := hx.1.2.2.2.1
  have hz := hx.1.2.2.2.2.2
  unfold p_row at hr
  have pbk : ∀ {T : Nat → Nat → Prop} {H : jH}, jfr T H0 H → (∀ a j, T a j → (a < 496 ∨ 502 < a) ∧ ¬ (a = 421 ∧ j = 36) ∨ p_Tm ps.length a j) → p_PB ps H := fun {T H} hf hT => ⟨(jfr_I hf fun w => by have := hT _ _ w; unfold p_Tm at this; omega).trans hB.1, fun k e' he' => by
    have hl' := (List.getElem?_eq_some_iff.mp he').1
    exact p_eb_fr (hok.2.1 k e' he').1 (hok.2.1 k e' he').2 (hB.2 k e' he') hf fun a j w => by
      rcases hT a j w with q | q
      · exact Or.inl q.1
      · exact Or.inr ⟨ps.length, by omega, q⟩⟩
  refine y_copy (F := fun fu i H => F_18_comes_418 fu 421 row (Int32.ofNat s) (Int32.ofNat x.2.1.length) (p_tt cs ps x x.2.2.1.length) i H) (dst := 496) (src := row) (d0 := 2000 * ps.length) (s0 := s) (m := x.2.1.length) hs (by omega) (fun fu i H hi hs hf => ?_) (fun fu H1 s1 f1 v1 => ?_) jfuel (by unfold jfuel; omega)
  · have e1 : Int32.ofNat i + 1 = Int32.ofNat (i + 1) := jo_add (a := i) (b := 1)
    have e2 : jI H 421 36 = Int32.ofNat ps.length := (jfr_I hf (by unfold b_Tc; omega)).trans hB.1
    show B_18_comes_418 (F_18_comes_418 fu) 421 row (Int32.ofNat s) (Int32.ofNat x.2.1.length) (p_tt cs ps x x.2.2.1.length) (Int32.ofNat i) H = _
    unfold B_18_comes_418
    rw [if_neg (by rw [jo_le (by omega) (by omega)]; omega), jg_t (k18 hs), jg_t (k18 hs), e2, sR_421_37 hs, p_e2k, show Int32.ofNat s + Int32.ofNat i = Int32.ofNat (s + i) from jo_add, jg_t (gA (by rw [jfr_K hf]; exact hkr) (jo_in (by omega) (by omega))), jg_t (gA (sK_496 hs) (jo_in (by omega) (by omega))), jo_nat (n := 2000 * ps.length + i) (by omega), jo_nat (n := s + i) (by omega), jbu_b, e1]
    rfl
  · have z1 : zRow H1 496 (2000 * ps.length) x.2.1 := fun i u hi => (v1 i (List.getElem?_eq_some_iff.mp hi).1).trans (hz i u hi)
    have hn1 : zRow H1 507 0 x.1 := zRow_eq hn fun i _ => jfr_B f1 (by unfold b_Tc; omega)
    have e36 : jI H1 421 36 = Int32.ofNat ps.length := (jfr_I f1 (by unfold b_Tc; omega)).trans hB.1
    show jT (B_18_comes_418 (F_18_comes_418 fu) 421 row (Int32.ofNat s) (Int32.ofNat x.2.1.length) (p_tt cs ps x x.2.2.1.length) (Int32.ofNat x.2.1.length) H1) Q
    unfold B_18_comes_418
    refine jT_pos (by rw [jo_le (by omega) (by omega)]; exact Nat.le_refl _) ?_
    refine y_copy (F := fun fu i H => F_18_comes_455 fu 421 (Int32.ofNat s) (Int32.ofNat x.2.1.length) (p_tt cs ps x x.2.2.1.length) i H) (dst := 498) (src := 507) (d0 := 32 * ps.length) (s0 := 0) (m := 32) s1 (by decide) (fun fu i H hi hs hf => ?_) (fun fu H2 s2 f2 v2 => ?_) jfuel (by unfold jfuel; omega)
    · have e1 : Int32.ofNat i + 1 = Int32.ofNat (i + 1) := jo_add (a := i) (b := 1)
      have e2 : jI H 421 36 = Int32.ofNat ps.length := (jfr_I hf (by unfold b_Tc; omega)).trans e36
      have x2 : (32 : Int32) * Int32.ofNat ps.length + Int32.ofNat i = Int32.ofNat (32 * ps.length + i) := by rw [p_e32, jo_add]
      show B_18_comes_455 (F_18_comes_455 fu) 421 (Int32.ofNat s) (Int32.ofNat x.2.1.length) (p_tt cs ps x x.2.2.1.length) (Int32.ofNat i) H = _
      unfold B_18_comes_455
      rw [if_neg (by rw [show (32 : Int32) = Int32.ofNat 32 from rfl, jo_le (by decide) (by omega)]; omega), jg_t (k18 hs), jg_t (k18 hs), jg_t (k18 hs), e2, sR_421_49 hs, sR_421_39 hs, x2, jg_t (gA (sK_507 hs) (jo_in (by omega) (by omega))), jg_t (gA (sK_498 hs) (jo_in (by omega) (by omega))), jo_nat (n := 32 * ps.length + i) (by omega), jo_nat (n := i) (by omega), jbu_b, e1, Nat.zero_add]
      rfl
    · have z2 : zRow H2 498 (32 * ps.length) x.1 := fun i u hi => (v2 i (by have := (List.getElem?_eq_some_iff.mp hi).1; omega)).trans (hn1 i u hi)
      have z1' : zRow H2 496 (2000 * ps.length) x.2.1 := zRow_eq z1 fun i _ => jfr_B f2 (by unfold b_Tc; omega)
      have hn2 : zRow H2 507 0 x.1 := zRow_eq hn1 fun i _ => jfr_B f2 (by unfold b_Tc; omega)
      have g2 : jfr (fun a j => (a = 496 ∧ 2000 * ps.length ≤ j ∧ j < 2000 * ps.length + 2000) ∨ (a = 498 ∧ 32 * ps.length ≤ j ∧ j < 32 * ps.length + 32)) H0 H2 := jfr_trans (jfr_mono f1 fun a j w => by unfold b_Tc at w; omega) (jfr_mono f2 fun a j w => by unfold b_Tc at w; omega)
      have w36 : jI H2 421 36 = Int32.ofNat ps.length := (jfr_I g2 (by omega)).trans hB.1
      have hx2 : w_rx row s len x.2.1 x.2.2 H2 := w_rx_T hx g2 (fun j w => by omega) fun a j w => by omega
      show jT (B_18_comes_455 (F_18_comes_455 fu) 421 (Int32.ofNat s) (Int32.ofNat x.2.1.length) (p_tt cs ps x x.2.2.1.length) 32 H2) Q
      unfold B_18_comes_455
      rw [w36, sR_421_38 s2, jo_nat (n := ps.length) (by omega)]
      refine jT_pos (by decide) (jT_g (k18 s2) (jT_g (k18 s2) (jT_g (gIw (sK_497 s2) (by decide) (jo_in (by omega) (by omega))) (jT_l ?_))))
      have s3 : jsh (jsI H2 497 ps.length (Int32.ofNat x.2.1.length)) := jsh_sI s2 (by decide)
      have g3 : jfr (fun a j => a = 497 ∧ j = ps.length) H2 (jsI H2 497 ps.length (Int32.ofNat x.2.1.length)) := jfr_sI jfr_refl ⟨rfl, rfl⟩
      have b2 : jI (jsI H2 497 ps.length (Int32.ofNat x.2.1.length)) 497 ps.length = Int32.ofNat x.2.1.length := jI_sIe
      generalize jsI H2 497 ps.length (Int32.ofNat x.2.1.length) = H3 at *
      have hx3 : w_rx row s len x.2.1 x.2.2 H3 := w_rx_T hx2 g3 (fun j w => by omega) fun a j w => by omega
      have w363 : jI H3 421 36 = Int32.ofNat ps.length := (jfr_I g3 (by omega)).trans w36
      rw [sR_421_4 s3, z17_sumx s3 hy hx3, w363]
      refine jT_g (k18 s3) (jT_g (k18 s3) (jT_g (k18 s3) (jT_g (k17 s3) ?_)))
      rw [jb_ok, sR_421_40 s3, jo_nat (n := ps.length) (by omega)]
      refine jT_g (gA (sK_499 s3) (jo_in (by omega) (by omega))) (jT_l ?_)
      have s4 : jsh (jsL H3 499 ps.length (p_tt cs ps x x.2.2.1.length - w_sum x.2.1 x.2.2)) := jsh_sL s3
      have g4 : jfr (fun a j => (a = 497 ∨ a = 499) ∧ j = ps.length) H2 (jsL H3 499 ps.length (p_tt cs ps x x.2.2.1.length - w_sum x.2.1 x.2.2)) := jfr_sL (jfr_mono g3 fun a j w => by omega) ⟨Or.inr rfl, rfl⟩
      have d2 : jI (jsL H3 499 ps.length (p_tt cs ps x x.2.2.1.length - w_sum x.2.1 x.2.2)) 497 ps.length = Int32.ofNat x.2.1.length := b2
      have d4 : jL (jsL H3 499 ps.length (p_tt cs ps x x.2.2.1.length - w_sum x.2.1 x.2.2)) 499 ps.length = p_tt cs ps x x.2.2.1.length - w_sum x.2.1 x.2.2 := jL_sLe
      generalize jsL H3 499 ps.length (p_tt cs ps x x.2.2.1.length - w_sum x.2.1 x.2.2) = H4 at *
      have hx4 : w_rx row s len x.2.1 x.2.2 H4 := w_rx_T hx2 g4 (fun j w => by omega) fun a j w => by omega
      have w364 : jI H4 421 36 = Int32.ofNat ps.length := (jfr_I g4 (by omega)).trans w36
      rw [sR_421_41 s4, sR_421_4 s4, hx4.2.1.2.2.1, w364, jo_nat (n := ps.length) (by omega)]
      refine jT_g (k18 s4) (jT_g (k18 s4) (jT_g (k18 s4) (jT_g (k17 s4) (jT_g (gIw (sK_500 s4) (by decide) (jo_in (by omega) (by omega))) (jT_l ?_)))))
      have s5 : jsh (jsI H4 500 ps.length (Int32.ofNat x.2.2.1.length)) := jsh_sI s4 (by decide)
      have g5 : jfr (fun a j => (a = 497 ∨ a = 499 ∨ a = 500) ∧ j = ps.length) H2 (jsI H4 500 ps.length (Int32.ofNat x.2.2.1.length)) := jfr_sI (jfr_mono g4 fun a j w => by omega) ⟨Or.inr (Or.inr rfl), rfl⟩
      have x2 : jI (jsI H4 500 ps.length (Int32.ofNat x.2.2.1.length)) 497 ps.length = Int32.ofNat x.2.1.length := (jI_sIa (by decide)).trans d2
      have x4 : jL (jsI H4 500 ps.length (Int32.ofNat x.2.2.1.length)) 499 ps.length = p_tt cs ps x x.2.2.1.length - w_sum x.2.1 x.2.2 := d4
      have x5 : jI (jsI H4 500 ps.length (Int32.ofNat x.2.2.1.length)) 500 ps.length = Int32.ofNat x.2.2.1.length := jI_sIe
      generalize jsI H4 500 ps.length (Int32.ofNat x.2.2.1.length) = H5 at *
      have f5 : jfr (fun a j => (a = 496 ∧ 2000 * ps.length ≤ j ∧ j < 2000 * ps.length + 2000) ∨ (a = 498 ∧ 32 * ps.length ≤ j ∧ j < 32 * ps.length + 32) ∨ ((a = 497 ∨ a = 499 ∨ a = 500) ∧ j = ps.length)) H0 H5 := jfr_trans (jfr_mono g2 fun a j w => by omega) (jfr_mono g5 fun a j w => by omega)
      exact y18_538 (H0 := H0) (row := row) (s := s) (len := len) hok h40 hy hn0 h32 rfl hk x.2.2.1.length 0 jfuel H5 (Nat.zero_add _) (by unfold jfuel; omega) s5 (jfr_mono f5 fun a j w => by unfold p_TE; omega) (w_rx_T hx2 g5 (fun j w => by omega) fun a j w => by omega) (zRow_eq hn2 fun i _ => jfr_B g5 (by omega)) (pbk f5 fun a j w => by unfold p_Tm; omega) ⟨zRow_eq z1' fun i _ => jfr_B g5 (by omega), x2, zRow_eq z2 fun i _ => jfr_B g5 (by omega), x4⟩ x5 fun j hj => absurd hj (Nat.not_lt_zero j)
end CI18
