/-! The reference drops the family that pays least: moving entries. -/
theorem y_copy3 {α : Type} {Q : α → jH → Prop} {F : Nat → Int32 → jH → Option (α × jH)} {dst d0 s0 m : Nat} {H0 : jH} (hs0 : jsh H0) (hds : d0 ≤ s0)
    (step : ∀ fu i H, i < m → jsh H → jfr (b_Tc dst d0 m) H0 H → F (fu + 1) (Int32.ofNat i) H = F fu (Int32.ofNat (i + 1)) (jsB H dst (d0 + i) (jB H dst (s0 + i))))
    (stop : ∀ fu H, jsh H → jfr (b_Tc dst d0 m) H0 H → (∀ j, j < m → jB H dst (d0 + j) = jB H0 dst (s0 + j)) → jT (F (fu + 1) (Int32.ofNat m) H) Q) : ∀ fu, m < fu → jT (F fu 0 H0) Q := by
  have loop : ∀ (d i fu : Nat) (H : jH), i + d = m → d < fu → jsh H → jfr (b_Tc dst d0 i) H0 H → (∀ j, j < i → jB H dst (d0 + j) = jB H0 dst (s0 + j)) → jT (F fu (Int32.ofNat i) H) Q := by
    intro d
    induction d with
    | zero =>
      intro i fu H hi hfu hs hf hv
      obtain ⟨fu, rfl⟩ : ∃ k, fu = k + 1 := ⟨fu - 1, by omega⟩
      obtain rfl : i = m := by omega
      exact stop fu H hs hf hv
    | succ d ih =>
      intro i fu H hi hfu hs hf hv
      obtain ⟨fu, rfl⟩ : ∃ k, fu = k + 1 := ⟨fu - 1, by omega⟩
      rw [step fu i H (by omega) hs (jfr_mono hf fun a j w => by unfold b_Tc at w ⊢; omega)]
      refine ih (i + 1) fu _ (by omega) (by omega) (jsh_sB hs) (jfr_sB (jfr_mono hf fun a j w => by unfold b_Tc at w ⊢; omega) ⟨rfl, by omega, by omega⟩) fun j hj => ?_
      by_cases c : j = i
      · rw [c]
        exact jB_sBe.trans (jfr_B hf fun w => by unfold b_Tc at w; omega)
      · exact (jB_sBn (by omega)).trans (hv j (by omega))
  intro fu hfu
  exact loop m 0 fu H0 (Nat.zero_add _) hfu hs0 jfr_refl fun j hj => absurd hj (Nat.not_lt_zero j)
/-- one entry of the reference's pool -/
def p_eb (e : p_e) (k : Nat) (H : jH) : Prop := (zRow H 496 (2000 * k) e.1.2.1 ∧ jI H 497 k = Int32.ofNat e.1.2.1.length ∧ zRow H 498 (32 * k) e.1.1 ∧ jL H 499 k = e.2) ∧ jI H 500 k = Int32.ofNat e.1.2.2.1.length ∧ ∀ i, i < e.1.2.2.1.length → jI H 501 (8 * k + i) = Int32.ofNat (e.1.2.2.1.getD i (0, 0)).1 ∧ jL H 502 (8 * k + i) = Int64.ofNat (w_in2 e.1.2.1 e.1.2.2 i)
def p_Tm (t : Nat) : Nat → Nat → Prop := fun a j => (a = 496 ∧ 2000 * t ≤ j ∧ j < 2000 * t + 2000) ∨ (a = 498 ∧ 32 * t ≤ j ∧ j < 32 * t + 32) ∨ ((a = 497 ∨ a = 499 ∨ a = 500) ∧ j = t) ∨ ((a = 501 ∨ a = 502) ∧ 8 * t ≤ j ∧ j < 8 * t + 8)
theorem p_eb_fr {e : p_e} {k : Nat} {T : Nat → Nat → Prop} {H H' : jH} (hy : w_ty e.1.2.1 e.1.2.2) (h32 : e.1.1.length = 32) (h : p_eb e k H) (hf : jfr T H H') (hT : ∀ a j, T a j → (a < 496 ∨ 502 < a) ∨ ∃ t, t ≠ k ∧ p_Tm t a j) : p_eb e k H' := by
  have l8 : e.1.2.2.1.length ≤ 8 := (ztx_spec hy.1).1
  have l2 := hy.2.2
  obtain ⟨⟨h1, h2, h3, h4⟩, h5, h6⟩ := h
  have n : ∀ a j, p_Tm k a j → ¬ T a j := fun a j w q => by
    rcases hT a j q with q | ⟨t, q1, q2⟩
    · unfold p_Tm at w
      omega
    · unfold p_Tm at w q2
      omega
  refine ⟨⟨zRow_eq h1 fun i hi => jfr_B hf (n _ _ (by unfold p_Tm; omega)), (jfr_I hf (n _ _ (by unfold p_Tm; omega))).trans h2, zRow_eq h3 fun i hi => jfr_B hf (n _ _ (by unfold p_Tm; omega)), (jfr_L hf (n _ _ (by unfold p_Tm; omega))).trans h4⟩, (jfr_I hf (n _ _ (by unfold p_Tm; omega))).trans h5, fun i hi => ?_⟩
  obtain ⟨q1, q2⟩ := h6 i hi
  exact ⟨(jfr_I hf (n _ _ (by unfold p_Tm; omega))).trans q1, (jfr_L hf (n _ _ (by unfold p_Tm; omega))).trans q2⟩
theorem p_Te {t a j : Nat} (h : p_Tm t a j) : (a < 496 ∨ 502 < a) ∨ ∃ t', t' = t ∧ p_Tm t' a j := Or.inr ⟨t, rfl, h⟩
section EV18
variable {Q : Unit → jH → Prop} {e : p_e} {t k : Nat} {k175 : Nat → Int32 → Int32 → jH → Option (Unit × jH)}
/-- places and numbers of the inputs -/
theorem y18_mv333 {H0 : jH} (hy : w_ty e.1.2.1 e.1.2.2) (htk : t ≤ k) (hk41 : k < 41) (h5 : jI H0 500 k = Int32.ofNat e.1.2.2.1.length) (h6 : ∀ i, i < e.1.2.2.1.length → jI H0 501 (8 * k + i) = Int32.ofNat (e.1.2.2.1.getD i (0, 0)).1 ∧ jL H0 502 (8 * k + i) = Int64.ofNat (w_in2 e.1.2.1 e.1.2.2 i))
    (hk : ∀ H', jsh H' → jfr (fun a j => (a = 501 ∨ a = 502) ∧ 8 * t ≤ j ∧ j < 8 * t + 8) H0 H' → (∀ i, i < e.1.2.2.1.length → jI H' 501 (8 * t + i) = Int32.ofNat (e.1.2.2.1.getD i (0, 0)).1 ∧ jL H' 502 (8 * t + i) = Int64.ofNat (w_in2 e.1.2.1 e.1.2.2 i)) → jT (k175 421 (Int32.ofNat (t + 1)) (Int32.ofNat (k + 1)) H') Q) :
    ∀ (d i fu : Nat) (H : jH), i + d = e.1.2.2.1.length → d < fu → jsh H → jfr (fun a j => (a = 501 ∨ a = 502) ∧ 8 * t ≤ j ∧ j < 8 * t + i) H0 H → (∀ j, j < i → jI H 501 (8 * t + j) = Int32.ofNat (e.1.2.2.1.getD j (0, 0)).1 ∧ jL H 502 (8 * t + j) = Int64.ofNat (w_in2 e.1.2.1 e.1.2.2 j)) → jT (F_18_evict_333 k175 fu 421 (Int32.ofNat t) (Int32.ofNat k) (Int32.ofNat i) H) Q := by
  have l8 : e.1.2.2.1.length ≤ 8 := (ztx_spec hy.1).1
  have k18 : ∀ {H}, jsh H → (jK H 421).1 = 18 := fun hs => gT (sK_421 hs)
  intro d
  induction d with
  | zero =>
    intro i fu H hl hfu hs hf hv
    obtain ⟨fu, rfl⟩ : ∃ k, fu = k + 1 := ⟨fu - 1, by omega⟩
    obtain rfl : i = e.1.2.2.1.length := by omega
    have e5 : jI H 500 k = Int32.ofNat e.1.2.2.1.length := (jfr_I hf (by omega)).trans h5
    have e1 : Int32.ofNat t + 1 = Int32.ofNat (t + 1) := jo_add (a := t) (b := 1)
    have e1k : Int32.ofNat k + 1 = Int32.ofNat (k + 1) := jo_add (a := k) (b := 1)
    unfold F_18_evict_333 B_18_evict_333 B_18_evict_406
    rw [sR_421_41 hs, jo_nat (n := k) (by omega), e5, e1, e1k]
    exact jT_g (k18 hs) (jT_g (gA (sK_500 hs) (jo_in (by omega) (by omega))) (jT_pos (by rw [jo_le (by omega) (by omega)]; exact Nat.le_refl _) (jT_l (jT_l (hk H hs (jfr_mono hf fun a j w => by omega) hv)))))
  | succ d ih =>
    intro i fu H hl hfu hs hf hv
    obtain ⟨fu, rfl⟩ : ∃ k, fu = k + 1 := ⟨fu - 1, by omega⟩
    have hi : i < e.1.2.2.1.length := by omega
    obtain ⟨g1, g2⟩ := h6 i hi
    have e5 : jI H 500 k = Int32.ofNat e.1.2.2.1.length := (jfr_I hf (by omega)).trans h5
    have f1 : jI H 501 (8 * k + i) = Int32.ofNat (e.1.2.2.1.getD i (0, 0)).1 := (jfr_I hf (by omega)).trans g1
    have f2 : jL H 502 (8 * k + i) = Int64.ofNat (w_in2 e.1.2.1 e.1.2.2 i) := (jfr_L hf (by omega)).trans g2
    have e1 : Int32.ofNat i + 1 = Int32.ofNat (i + 1) := jo_add (a := i) (b := 1)
    unfold F_18_evict_333 B_18_evict_333
    rw [sR_421_41 hs, jo_nat (n := k) (by omega), e5, sR_421_42 hs, p_e8, p_e8, jo_nat (n := 8 * k + i) (by omega), jo_nat (n := 8 * t + i) (by omega), f1, e1]
    refine jT_g (k18 hs) (jT_g (gA (sK_500 hs) (jo_in (by omega) (by omega))) (jT_neg (by rw [jo_le (by omega) (by omega)]; omega) (jT_g (k18 hs) (jT_g (k18 hs) (jT_g (gA (sK_501 hs) (jo_in (by omega) (by omega))) (jT_g (gIw (sK_501 hs) (by decide) (jo_in (by omega) (by omega))) (jT_l ?_)))))))
    have s1 : jsh (jsI H 501 (8 * t + i) (Int32.ofNat (e.1.2.2.1.getD i (0, 0)).1)) := jsh_sI hs (by decide)
    have j1 : jfr (fun a j => (a = 501 ∨ a = 502) ∧ 8 * t ≤ j ∧ j < 8 * t + (i + 1)) H0 (jsI H 501 (8 * t + i) (Int32.ofNat (e.1.2.2.1.getD i (0, 0)).1)) := jfr_sI (jfr_mono hf fun a j w => by omega) ⟨Or.inl rfl, by omega, by omega⟩
    have v1 : jI (jsI H 501 (8 * t + i) (Int32.ofNat (e.1.2.2.1.getD i (0, 0)).1)) 501 (8 * t + i) = Int32.ofNat (e.1.2.2.1.getD i (0, 0)).1 := jI_sIe
    have v1n : ∀ j, j ≠ 8 * t + i → jI (jsI H 501 (8 * t + i) (Int32.ofNat (e.1.2.2.1.getD i (0, 0)).1)) 501 j = jI H 501 j := fun j hj => jI_sIn hj
    have v2 : ∀ j, jL (jsI H 501 (8 * t + i) (Int32.ofNat (e.1.2.2.1.getD i (0, 0)).1)) 502 j = jL H 502 j := fun j => rfl
    generalize jsI H 501 (8 * t + i) (Int32.ofNat (e.1.2.2.1.getD i (0, 0)).1) = H1 at *
    rw [sR_421_43 s1, (v2 _).trans f2]
    refine jT_g (k18 s1) (jT_g (k18 s1) (jT_g (gA (sK_502 s1) (jo_in (by omega) (by omega))) (jT_g (gA (sK_502 s1) (jo_in (by omega) (by omega))) (jT_l (jT_l ?_)))))
    refine ih (i + 1) fu _ (by omega) (by omega) (jsh_sL s1) (jfr_sL j1 ⟨Or.inr rfl, by omega, by omega⟩) fun j hj => ?_
    by_cases c : j = i
    · rw [c]
      exact ⟨v1, jL_sLe⟩
    · obtain ⟨q1, q2⟩ := hv j (by omega)
      exact ⟨(v1n _ (by omega)).trans q1, (jL_sLn (by omega)).trans ((v2 _).trans q2)⟩
/-- one entry comes forward -/
theorem y18_mv {H0 : jH} (hs0 : jsh H0) (hy : w_ty e.1.2.1 e.1.2.2) (h32 : e.1.1.length = 32) (htk : t ≤ k) (hk41 : k < 41) (h : p_eb e k H0)
    (hk : ∀ H', jsh H' → jfr (p_Tm t) H0 H' → p_eb e t H' → jT (k175 421 (Int32.ofNat (t + 1)) (Int32.ofNat (k + 1)) H') Q) : jT (F_18_evict_200 k175 jfuel 421 (Int32.ofNat t) (Int32.ofNat k) 0 H0) Q := by
  have l2 := hy.2.2
  have k18 : ∀ {H}, jsh H → (jK H 421).1 = 18 := fun hs => gT (sK_421 hs)
  obtain ⟨⟨h1, h2, h3, h4⟩, h5, h6⟩ := h
  refine y_copy3 (F := fun fu i H => F_18_evict_200 k175 fu 421 (Int32.ofNat t) (Int32.ofNat k) i H) (dst := 496) (d0 := 2000 * t) (s0 := 2000 * k) (m := e.1.2.1.length) hs0 (by omega) (fun fu i H hi hs hf => ?_) (fun fu H1 s1 f1 v1 => ?_) jfuel (by unfold jfuel; omega)
  · have e1 : Int32.ofNat i + 1 = Int32.ofNat (i + 1) := jo_add (a := i) (b := 1)
    have e2 : jI H 497 k = Int32.ofNat e.1.2.1.length := (jfr_I hf (by unfold b_Tc; omega)).trans h2
    show B_18_evict_200 k175 (F_18_evict_200 k175 fu) 421 (Int32.ofNat t) (Int32.ofNat k) (Int32.ofNat i) H = _
    unfold B_18_evict_200
    rw [jg_t (k18 hs), sR_421_38 hs, jg_t (gA (sK_497 hs) (jo_in (by omega) (by omega))), jo_nat (n := k) (by omega), e2, if_neg (by rw [jo_le (by omega) (by omega)]; omega), jg_t (k18 hs), jg_t (k18 hs), sR_421_37 hs, p_e2k, p_e2k, jg_t (gA (sK_496 hs) (jo_in (by omega) (by omega))), jg_t (gA (sK_496 hs) (jo_in (by omega) (by omega))), jo_nat (n := 2000 * k + i) (by omega), jo_nat (n := 2000 * t + i) (by omega), jbu_b, e1]
    rfl
  · have e2 : jI H1 497 k = Int32.ofNat e.1.2.1.length := (jfr_I f1 (by unfold b_Tc; omega)).trans h2
    show jT (B_18_evict_200 k175 (F_18_evict_200 k175 fu) 421 (Int32.ofNat t) (Int32.ofNat k) (Int32.ofNat e.1.2.1.length) H1) Q
    unfold B_18_evict_200
    rw [sR_421_38 s1, jo_nat (n := k) (by omega), e2]
    refine jT_g (k18 s1) (jT_g (gA (sK_497 s1) (jo_in (by omega) (by omega))) (jT_pos (by rw [jo_le (by omega) (by omega)]; exact Nat.le_refl _) ?_))
    have z1 : zRow H1 496 (2000 * t) e.1.2.1 := fun i u hi => (v1 i (List.getElem?_eq_some_iff.mp hi).1).trans (h1 i u hi)
    have h3a : zRow H1 498 (32 * k) e.1.1 := zRow_eq h3 fun i _ => jfr_B f1 (by unfold b_Tc; omega)
    refine y_copy3 (F := fun fu i H => F_18_evict_249 k175 fu 421 (Int32.ofNat t) (Int32.ofNat k) i H) (dst := 498) (d0 := 32 * t) (s0 := 32 * k) (m := 32) s1 (by omega) (fun fu i H hi hs hf => ?_) (fun fu H2 s2 f2 v2 => ?_) jfuel (by unfold jfuel; omega)
    · have e1 : Int32.ofNat i + 1 = Int32.ofNat (i + 1) := jo_add (a := i) (b := 1)
      have x1 : (32 : Int32) * Int32.ofNat k + Int32.ofNat i = Int32.ofNat (32 * k + i) := by rw [p_e32, jo_add]
      have x2 : (32 : Int32) * Int32.ofNat t + Int32.ofNat i = Int32.ofNat (32 * t + i) := by rw [p_e32, jo_add]
      show B_18_evict_249 k175 (F_18_evict_249 k175 fu) 421 (Int32.ofNat t) (Int32.ofNat k) (Int32.ofNat i) H = _
      unfold B_18_evict_249
      rw [if_neg (by rw [show (32 : Int32) = Int32.ofNat 32 from rfl, jo_le (by decide) (by omega)]; omega), jg_t (k18 hs), jg_t (k18 hs), sR_421_39 hs, x1, x2, jg_t (gA (sK_498 hs) (jo_in (by omega) (by omega))), jg_t (gA (sK_498 hs) (jo_in (by omega) (by omega))), jo_nat (n := 32 * k + i) (by omega), jo_nat (n := 32 * t + i) (by omega), jbu_b, e1]
      rfl
    · have z2 : zRow H2 498 (32 * t) e.1.1 := fun i u hi => (v2 i (by have := (List.getElem?_eq_some_iff.mp hi).1; omega)).trans (h3a i u hi)
      have f12 : jfr (p_Tm t) H0 H2 := jfr_trans (jfr_mono f1 fun a j w => by unfold b_Tc at w; unfold p_Tm; omega) (jfr_mono f2 fun a j w => by unfold b_Tc at w; unfold p_Tm; omega)
      have g12 : jfr (fun a _ => a = 496 ∨ a = 498) H0 H2 := jfr_trans (jfr_mono f1 fun a j w => by unfold b_Tc at w; omega) (jfr_mono f2 fun a j w => by unfold b_Tc at w; omega)
      have z1' : zRow H2 496 (2000 * t) e.1.2.1 := zRow_eq z1 fun i _ => jfr_B f2 (by unfold b_Tc; omega)
      have a2 : jI H2 497 k = Int32.ofNat e.1.2.1.length := (jfr_I g12 (by omega)).trans h2
      have a4 : jL H2 499 k = e.2 := (jfr_L g12 (by omega)).trans h4
      have a5 : jI H2 500 k = Int32.ofNat e.1.2.2.1.length := (jfr_I g12 (by omega)).trans h5
      have a6 : ∀ i, i < e.1.2.2.1.length → jI H2 501 (8 * k + i) = Int32.ofNat (e.1.2.2.1.getD i (0, 0)).1 ∧ jL H2 502 (8 * k + i) = Int64.ofNat (w_in2 e.1.2.1 e.1.2.2 i) := fun i hi => ⟨(jfr_I g12 (by omega)).trans (h6 i hi).1, (jfr_L g12 (by omega)).trans (h6 i hi).2⟩
      show jT (B_18_evict_249 k175 (F_18_evict_249 k175 fu) 421 (Int32.ofNat t) (Int32.ofNat k) 32 H2) Q
      unfold B_18_evict_249
      rw [sR_421_38 s2, jo_nat (n := k) (by omega), jo_nat (n := t) (by omega), a2]
      refine jT_pos (by decide) (jT_g (k18 s2) (jT_g (k18 s2) (jT_g (gA (sK_497 s2) (jo_in (by omega) (by omega))) (jT_g (gIw (sK_497 s2) (by decide) (jo_in (by omega) (by omega))) (jT_l ?_)))))
      have s3 : jsh (jsI H2 497 t (Int32.ofNat e.1.2.1.length)) := jsh_sI s2 (by decide)
      have f3 : jfr (p_Tm t) H0 (jsI H2 497 t (Int32.ofNat e.1.2.1.length)) := jfr_sI f12 (Or.inr (Or.inr (Or.inl ⟨Or.inl rfl, rfl⟩)))
      have g3 : jfr (fun a _ => a = 497) H2 (jsI H2 497 t (Int32.ofNat e.1.2.1.length)) := jfr_sI jfr_refl rfl
      have b2 : jI (jsI H2 497 t (Int32.ofNat e.1.2.1.length)) 497 t = Int32.ofNat e.1.2.1.length := jI_sIe
      generalize jsI H2 497 t (Int32.ofNat e.1.2.1.length) = H3 at *
      have c4 : jL H3 499 k = e.2 := (jfr_L g3 (by omega)).trans a4
      rw [sR_421_40 s3, c4]
      refine jT_g (k18 s3) (jT_g (k18 s3) (jT_g (gA (sK_499 s3) (jo_in (by omega) (by omega))) (jT_g (gA (sK_499 s3) (jo_in (by omega) (by omega))) (jT_l ?_))))
      have s4 : jsh (jsL H3 499 t e.2) := jsh_sL s3
      have f4 : jfr (p_Tm t) H0 (jsL H3 499 t e.2) := jfr_sL f3 (Or.inr (Or.inr (Or.inl ⟨Or.inr (Or.inl rfl), rfl⟩)))
      have g4 : jfr (fun a _ => a = 497 ∨ a = 499) H2 (jsL H3 499 t e.2) := jfr_sL (jfr_mono g3 fun a j w => Or.inl w) (Or.inr rfl)
      have d2 : jI (jsL H3 499 t e.2) 497 t = Int32.ofNat e.1.2.1.length := b2
      have d4 : jL (jsL H3 499 t e.2) 499 t = e.2 := jL_sLe
      generalize jsL H3 499 t e.2 = H4 at *
      have c5 : jI H4 500 k = Int32.ofNat e.1.2.2.1.length := (jfr_I g4 (by omega)).trans a5
      rw [sR_421_41 s4, c5]
      refine jT_g (k18 s4) (jT_g (k18 s4) (jT_g (gA (sK_500 s4) (jo_in (by omega) (by omega))) (jT_g (gIw (sK_500 s4) (by decide) (jo_in (by omega) (by omega))) (jT_l ?_))))
      have s5 : jsh (jsI H4 500 t (Int32.ofNat e.1.2.2.1.length)) := jsh_sI s4 (by decide)
      have f5 : jfr (p_Tm t) H0 (jsI H4 500 t (Int32.ofNat e.1.2.2.1.length)) := jfr_sI f4 (Or.inr (Or.inr (Or.inl ⟨Or.inr (Or.inr rfl), rfl⟩)))
      have g5 : jfr (fun a _ => a = 497 ∨ a = 499 ∨ a = 500) H2 (jsI H4 500 t (Int32.ofNat e.1.2.2.1.length)) := jfr_sI (jfr_mono g4 fun a j w => by omega) (Or.inr (Or.inr rfl))
      have x2 : jI (jsI H4 500 t (Int32.ofNat e.1.2.2.1.length)) 497 t = Int32.ofNat e.1.2.1.length := (jI_sIa (by decide)).trans d2
      have x4 : jL (jsI H4 500 t (Int32.ofNat e.1.2.2.1.length)) 499 t = e.2 := d4
      have x5 : jI (jsI H4 500 t (Int32.ofNat e.1.2.2.1.length)) 500 t = Int32.ofNat e.1.2.2.1.length := jI_sIe
      have x5k : jI (jsI H4 500 t (Int32.ofNat e.1.2.2.1.length)) 500 k = Int32.ofNat e.1.2.2.1.length := by
        by_cases c : k = t
        · rw [c]
          exact jI_sIe
        · exact (jI_sIn c).trans c5
      generalize jsI H4 500 t (Int32.ofNat e.1.2.2.1.length) = H5 at *
      refine y18_mv333 (e := e) (t := t) (k := k) (H0 := H5) hy htk hk41 x5k (fun i hi => ⟨(jfr_I g5 (by omega)).trans (a6 i hi).1, (jfr_L g5 (by omega)).trans (a6 i hi).2⟩) (fun H6 s6 f6 v6 => ?_) e.1.2.2.1.length 0 jfuel H5 (Nat.zero_add _) (by have := (ztx_spec hy.1).1; unfold jfuel; omega) s5 jfr_refl fun j hj => absurd hj (Nat.not_lt_zero j)
      refine hk H6 s6 (jfr_trans f5 (jfr_mono f6 fun a j w => by unfold p_Tm; omega)) ⟨⟨zRow_eq z1' fun i _ => (jfr_B f6 (by omega)).trans (jfr_B g5 (by omega)), (jfr_I f6 (by omega)).trans x2, zRow_eq z2 fun i _ => (jfr_B f6 (by omega)).trans (jfr_B g5 (by omega)), (jfr_L f6 (by omega)).trans x4⟩, (jfr_I f6 (by omega)).trans x5, v6⟩
end EV18
