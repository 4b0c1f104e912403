/-! The class: the scripts of all inputs. -/
/-- the scripts of d inputs from the i-th on: what is left of the signatures -/
def w_pas (fit : Nat → List UInt8 → List UInt8 → Bool) (tb : List UInt8) (y : w_y) (lks : Nat → List UInt8) : Nat → Nat → Nat → Option Nat
  | 0, _, l => some l
  | d + 1, i, l => (w_two (fit i) (w_sl tb ((y.1.getD i (0, 0)).1 + 37) (y.1.getD i (0, 0)).2) (lks i) l).bind fun l' => w_pas fit tb y lks d (i + 1) l'
/-- a transaction with the makers of its inputs' coins -/
def w_J2 (o a2 a3 : Nat) (tb : List UInt8) (y : w_y) (lks : Nat → List UInt8) (H : jH) : Prop :=
  (∃ row s len nm, w_x o row s len tb y nm H) ∧ w_ty tb y ∧ ((jK H a2).1 = 113 ∧ y.1.length ≤ (jK H a2).2 ∧ (jK H a2).2 < 2147483648 ∧ (jK H a3).1 = 100 ∧ y.1.length ≤ (jK H a3).2 ∧ (jK H a3).2 < 2147483648 ∧ 392 ≤ a2 ∧ 392 ≤ a3) ∧
  ∀ i, i < y.1.length → ∃ kk row s len tb' y' nm, jI H a3 i = Int32.ofNat kk ∧ w_x (jR H a2 i) row s len tb' y' nm H ∧ w_ty tb' y' ∧ kk < y'.2.1.length ∧ lks i = w_sl tb' ((y'.2.1.getD kk (0, 0)).1 + 9) (y'.2.1.getD kk (0, 0)).2
def w_J (o a2 a3 : Nat) (tb : List UInt8) (y : w_y) (lks : Nat → List UInt8) (mx tn : Nat) (H : jH) : Prop := (∃ st sd, w_M st sd H) ∧ zBase H ∧ jI H 49 6 = Int32.ofNat tn ∧ jI H 49 7 = Int32.ofNat mx ∧ w_J2 o a2 a3 tb y lks H
theorem w_J2_fr {o a2 a3 : Nat} {tb : List UInt8} {y : w_y} {lks : Nat → List UInt8} {T : Nat → Nat → Prop} {H H' : jH} (h : w_J2 o a2 a3 tb y lks H) (hf : jfr T H H') (hT : ∀ a j, 392 ≤ a → ¬ T a j) : w_J2 o a2 a3 tb y lks H' := by
  obtain ⟨⟨row, s, len, nm, hx⟩, hy, ⟨k1, k2, k3, k4, k5, k6, k7, k8⟩, hm⟩ := h
  have h513 : ∀ a j, 422 ≤ a → ¬ T a j := fun a j q => hT a j (by omega)
  refine ⟨⟨row, s, len, nm, w_x_jfr hx hf h513⟩, hy, ⟨by rw [jfr_K hf]; exact k1, by rw [jfr_K hf]; exact k2, by rw [jfr_K hf]; exact k3, by rw [jfr_K hf]; exact k4, by rw [jfr_K hf]; exact k5, by rw [jfr_K hf]; exact k6, k7, k8⟩, fun i hi => ?_⟩
  obtain ⟨kk, row, s, len, tb', y', nm, e1, e2, e3⟩ := hm i hi
  rw [jfr_R hf (hT a2 i k7), jfr_I hf (hT a3 i k8)]
  exact ⟨kk, row, s, len, tb', y', nm, e1, w_x_jfr e2 hf h513, e3⟩
theorem w_lk_of {o row s len : Nat} {tb nm : List UInt8} {y : w_y} {H : jH} (h : w_x o row s len tb y nm H) (hy : w_ty tb y) {kk : Nat} (hk : kk < y.2.1.length) : w_lk o row (s + (y.2.1.getD kk (0, 0)).1 + 9) len (w_sl tb ((y.2.1.getD kk (0, 0)).1 + 9) (y.2.1.getD kk (0, 0)).2) H ∧ (w_sl tb ((y.2.1.getD kk (0, 0)).1 + 9) (y.2.1.getD kk (0, 0)).2).length ≤ 200 := by
  obtain ⟨⟨a1, a2, a3, a4, a5, a6⟩, -, -, -, -, -, -, -, -, -, d7, d8⟩ := h
  obtain ⟨m1, m2, m3, m4⟩ := w_out y tb hy hk
  have sl : (w_sl tb ((y.2.1.getD kk (0, 0)).1 + 9) (y.2.1.getD kk (0, 0)).2).length = (y.2.1.getD kk (0, 0)).2 := w_sl_len (by omega)
  refine ⟨⟨a1, a2, a3, by omega, by rw [sl]; omega, a5, w_sl_row a6 (by omega), ?_, d7, d8⟩, by omega⟩
  have := a6 ((y.2.1.getD kk (0, 0)).1 + 8) _ (getD_of (by omega))
  rw [sl, m3, show s + (y.2.1.getD kk (0, 0)).1 + 9 - 1 = s + ((y.2.1.getD kk (0, 0)).1 + 8) by omega, this]
section PASS7
variable {o a2 a3 mx : Nat} {tb : List UInt8} {y : w_y} {lks : Nat → List UInt8} {Q : Int32 → jH → Prop} {fit : Nat → List UInt8 → List UInt8 → Bool}
theorem z7_in (hfit : ∀ i sg ky, fit i sg ky = true ↔ w_fit tb y i (lks i) sg ky) (hmx : mx ≤ 100) {k3 : Nat → Nat → Nat → Nat → Int32 → jH → Option (Int32 × jH)} {i tn : Nat} {H : jH} (h : w_J o a2 a3 tb y lks mx tn H) (hi : i < y.1.length) (htn : tn ≤ mx)
    (hk1 : ∀ tn' H', tn' ≤ mx → w_two (fit i) (w_sl tb ((y.1.getD i (0, 0)).1 + 37) (y.1.getD i (0, 0)).2) (lks i) (mx - tn) = some (mx - tn') → w_J o a2 a3 tb y lks mx tn' H' → jfr w_FC H H' → jT (k3 49 o a2 a3 (Int32.ofNat (i + 1)) H') Q)
    (hk0 : ∀ H', w_two (fit i) (w_sl tb ((y.1.getD i (0, 0)).1 + 37) (y.1.getD i (0, 0)).2) (lks i) (mx - tn) = none → (∃ st sd, w_M st sd H') → zBase H' → jfr w_FC H H' → Q 0 H') : jT (B_7_pass_3 k3 49 o a2 a3 (Int32.ofNat i) H) Q := by
  obtain ⟨⟨st, sd, hM⟩, hB, e6, e7, hJ⟩ := h
  have hJ' := hJ
  obtain ⟨⟨row, s, len, nm, hx⟩, hy, ⟨k1, k2, k3', k4, k5, k6, k7, k8⟩, hm⟩ := hJ
  obtain ⟨kk, row', s', len', tb', y', nm', q1, q2, q3, q4, q5⟩ := hm i hi
  have l8 : y.1.length ≤ 8 := (ztx_spec hy.1).1
  obtain ⟨m1, m2, m3, m4⟩ := w_in y tb hy hi
  have t2000 := hy.2.2
  have hs := hM.1
  have hxx := hx
  obtain ⟨⟨a1, a2', a3', a4, a5, a6⟩, ⟨b1, b2, b3, b4, b5, b6⟩, -⟩ := hx
  have k10 : (jK H (jR H a2 i)).1 = 10 := q2.1.1
  have h513 : 422 ≤ jR H a2 i := q2.2.2.2.2.2.2.2.2.2.2.1
  obtain ⟨hlk, hlkl⟩ := w_lk_of q2 q3 q4
  rw [← q5] at hlk hlkl
  unfold B_7_pass_3
  rw [b3, b4, jo_nat (n := i) (by omega), q1]
  have ei : (Int32.ofNat (jK H a2).2 ≤ Int32.ofNat i) ↔ (jK H a2).2 ≤ i := jo_le k3' (by omega)
  have ei3 : (Int32.ofNat (jK H a3).2 ≤ Int32.ofNat i) ↔ (jK H a3).2 ≤ i := jo_le k6 (by omega)
  refine jT_g a1 (jT_g rfl (jT_neg (by show ¬ Int32.ofNat y.1.length ≤ Int32.ofNat i; rw [jo_le (by omega) (by omega)]; omega) (jT_g k1 (jT_neg (by rw [ei]; omega) (jT_g k4 (jT_neg (by rw [ei3]; omega) (jT_g ⟨k1, jo_in (by omega) (by omega)⟩ (jT_pos (by omega) (jT_g ⟨k1, jo_in (by omega) (by omega)⟩ (jT_l (jT_g ⟨k4, jo_in (by omega) (by omega)⟩ (jT_g k10 ?_))))))))))))
  rw [z10_outputScript q2 q3 q4, jb_ok, sR_49_1 hs]
  generalize hmk : jR H a2 i = mk at *
  -- cleared
  have M1 := w_M_A0 hM
  have f1 : jfr (fun a j => a = 171 ∨ a = 170 ∧ j = 8) H (jsI H 171 2 0) := jfr_sI jfr_refl (Or.inl rfl)
  unfold F_4_clear
  rw [sR_170_1 hs]
  refine jT_g (k49 hs) (jT_g (k170 hs) (jT_b (jT_g (k170 hs) (jT_g (gT (sK_171 hs)) (jT_l ?_)))))
  generalize jsI H 171 2 0 = H1 at *
  have M2 : w_M [] sd (jsI H1 170 8 0) := w_M_f M1
  have f2 : jfr (fun a j => a = 171 ∨ a = 170 ∧ j = 8) H (jsI H1 170 8 0) := jfr_sI f1 (Or.inr ⟨rfl, rfl⟩)
  have c8 : jI (jsI H1 170 8 0) 170 8 = 0 := jI_sIe
  refine jT_g ⟨k170 M1.1, Or.inl rfl⟩ (jT_l (jT_ret ?_))
  generalize jsI H1 170 8 0 = H2 at *
  have n513 : ∀ a j, 422 ≤ a → ¬ (a = 171 ∨ a = 170 ∧ j = 8) := fun a j q w => by omega
  have X2 := w_x_jfr hxx f2 n513
  have hlk2 := w_lk_jfr hlk f2 n513
  have s2 := M2.1
  have e1 := z10_inputScript X2 hy hi
  have X2' := X2
  obtain ⟨⟨d1, d2, d3, d4, d5, d6⟩, -⟩ := X2
  have e2 := z10_scriptSize (o := o) (p := s + (y.1.getD i (0, 0)).1 + 37) d1 d2 d3 d5 (by omega) (by omega)
  have hby := d6 ((y.1.getD i (0, 0)).1 + 36) _ (getD_of (by omega))
  rw [show s + ((y.1.getD i (0, 0)).1 + 36) = s + (y.1.getD i (0, 0)).1 + 37 - 1 by omega] at hby
  rw [hby, ← m3] at e2
  rw [e1, jb_ok, sR_49_1 s2]
  refine jT_g (k49 s2) (jT_g d1 (jT_g d1 (jT_g d1 ?_)))
  rw [e1, jb_ok]
  refine jT_g d1 ?_
  rw [e2, jb_ok, d2]
  have sl : (w_sl tb ((y.1.getD i (0, 0)).1 + 37) (y.1.getD i (0, 0)).2).length = (y.1.getD i (0, 0)).2 := w_sl_len (by omega)
  have hz : zRow H2 row (s + (y.1.getD i (0, 0)).1 + 37) (w_sl tb ((y.1.getD i (0, 0)).1 + 37) (y.1.getD i (0, 0)).2) := w_sl_row d6 (by omega)
  have d8 : 422 ≤ row := hxx.2.2.2.2.2.2.2.2.2.2.2
  generalize w_sl tb ((y.1.getD i (0, 0)).1 + 37) (y.1.getD i (0, 0)).2 = sc at *
  refine jT_g (k170 s2) (z4_open (scr := sc) (p := s + (y.1.getD i (0, 0)).1 + 37) rfl (by rw [sl]) M2 d3 hz (by omega) d5 d8 (by omega) fun H3 f3 g3 => ?_)
  have n3 : ∀ a j, 422 ≤ a → ¬ w_To a j := fun a j q w => by unfold w_To at w; omega
  have fC : jfr w_FC H H3 := jfr_trans (jfr_mono f2 fun a j q => by unfold w_FC; omega) (jfr_mono f3 fun a j q => by unfold w_To at q; unfold w_FC; omega)
  have hB3 : zBase H3 := zBase_T (zBase_T hB f2 fun a j q => by omega) f3 fun a j q => by unfold w_To at q; omega
  have hC3 : w_C7 o mk (s' + (y'.2.1.getD kk (0, 0)).1 + 9) tb y (lks i) H3 := ⟨row, s, len, row', len', nm, ⟨g3.1.1, w_x_jfr X2' f3 n3, w_lk_jfr hlk2 f3 n3⟩, hy, hlkl⟩
  have i6 : jI H3 49 6 = Int32.ofNat tn := (jfr_I f3 (by unfold w_To; omega)).trans ((jfr_I f2 (by omega)).trans e6)
  have i7 : jI H3 49 7 = Int32.ofNat mx := (jfr_I f3 (by unfold w_To; omega)).trans ((jfr_I f2 (by omega)).trans e7)
  have i8 : jI H3 170 8 = 0 := (jfr_I f3 (by unfold w_To; omega)).trans c8
  have nC : ∀ a j, 392 ≤ a → ¬ w_FC a j := fun a j q w => by unfold w_FC at w; omega
  refine z7_loop (hfit i) hi (by omega) (w_two (fit i) sc (lks i) (mx - tn)) (fun tn' H' t1 ev hZ g6 g7 => ?_) (fun H' ev hZ => hk0 H' ev hZ.1 hZ.2.2.1 hZ.2.1) (mx - tn + 1) false tn row (s + (y.1.getD i (0, 0)).1 + 37) len sc (sc.length + 1) 0 ([], [], 0, []) 0 jfuel H3 (by show mx - tn + 1 ≤ _; omega) htn (by omega) (by unfold jfuel; omega) (by omega) (Nat.zero_le _) (Nat.zero_le _) (Or.inl ⟨⟨g3, fC, hB3, hC3, i6, i7, i8⟩, rfl⟩)
  rw [show Int32.ofNat i + 1 = Int32.ofNat (i + 1) from jo_add (a := i) (b := 1)]
  exact hk1 tn' H' t1 ev ⟨hZ.1, hZ.2.2.1, g6, g7, w_J2_fr hJ' hZ.2.1 nC⟩ hZ.2.1
/-- the scripts of all inputs -/
theorem z7_pass3 (hfit : ∀ i sg ky, fit i sg ky = true ↔ w_fit tb y i (lks i) sg ky) (hmx : mx ≤ 100) {Hs : jH} (V : Option Nat)
    (hk1 : ∀ tn' H', tn' ≤ mx → V = some (mx - tn') → w_J o a2 a3 tb y lks mx tn' H' → jfr w_FC Hs H' → Q 1 H')
    (hk0 : ∀ H', V = none → (∃ st sd, w_M st sd H') → zBase H' → jfr w_FC Hs H' → Q 0 H') :
    ∀ (d i tn fu : Nat) (H : jH), i + d = y.1.length → d < fu → tn ≤ mx → w_J o a2 a3 tb y lks mx tn H → jfr w_FC Hs H → V = w_pas fit tb y lks d i (mx - tn) → jT (F_7_pass_3 fu 49 o a2 a3 (Int32.ofNat i) H) Q := by
  intro d
  induction d with
  | zero =>
    intro i tn fu H hi hfu htn h hf hV
    obtain ⟨fu, rfl⟩ : ∃ k, fu = k + 1 := ⟨fu - 1, by omega⟩
    have hJ := h.2.2.2.2
    obtain ⟨⟨row, s, len, nm, hx⟩, hy, -⟩ := hJ
    have l8 : y.1.length ≤ 8 := (ztx_spec hy.1).1
    obtain ⟨⟨a1, -⟩, ⟨-, -, b3, b4, -⟩, -⟩ := hx
    unfold F_7_pass_3 B_7_pass_3
    rw [b3, b4]
    exact jT_g a1 (jT_g rfl (jT_pos (by show Int32.ofNat y.1.length ≤ Int32.ofNat i; rw [jo_le (by omega) (by omega)]; omega) (jT_g (Or.inr rfl) (jT_ret (hk1 tn H htn hV h hf)))))
  | succ d ih =>
    intro i tn fu H hi hfu htn h hf hV
    obtain ⟨fu, rfl⟩ : ∃ k, fu = k + 1 := ⟨fu - 1, by omega⟩
    unfold F_7_pass_3
    refine z7_in hfit hmx h (by omega) htn (fun tn' H' t1 ev hJ hf' => ih (i + 1) tn' fu H' (by omega) (by omega) t1 hJ (jfr_trans hf hf') ?_) fun H' ev hM hB hf' => hk0 H' ?_ hM hB (jfr_trans hf hf')
    · rw [hV, w_pas, ev]
      rfl
    · rw [hV, w_pas, ev]
      rfl
theorem z7_pass {α : Type} {Q : α → jH → Prop} {k : Int32 → jH → Option (α × jH)} {tn : Nat} {H : jH} (hfit : ∀ i sg ky, fit i sg ky = true ↔ w_fit tb y i (lks i) sg ky) (hmx : mx ≤ 100) (h : w_J o a2 a3 tb y lks mx tn H) (htn : tn ≤ mx)
    (hk1 : ∀ tn' H', tn' ≤ mx → w_pas fit tb y lks y.1.length 0 (mx - tn) = some (mx - tn') → w_J o a2 a3 tb y lks mx tn' H' → jfr w_FC H H' → jT (k 1 H') Q)
    (hk0 : ∀ H', w_pas fit tb y lks y.1.length 0 (mx - tn) = none → (∃ st sd, w_M st sd H') → zBase H' → jfr w_FC H H' → jT (k 0 H') Q) : jT (jb (F_7_pass 49 o a2 a3 H) k) Q := by
  have l8 : y.1.length ≤ 8 := (ztx_spec h.2.2.2.2.2.1.1).1
  unfold F_7_pass
  exact jT_b (z7_pass3 hfit hmx (w_pas fit tb y lks y.1.length 0 (mx - tn)) hk1 hk0 y.1.length 0 tn jfuel H (by omega) (by unfold jfuel; omega) htn h jfr_refl rfl)
end PASS7
