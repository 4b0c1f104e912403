/-! The reference's scripts: a signature against a key. -/
def w_FS : Nat → Nat → Prop := fun a j => w_F14 a j ∨ w_S15 a j
/-- what is being signed stands in the reference's Signing -/
def w_C (tb : List UInt8) (y : w_y) (inp : Nat) (lk : List UInt8) (H : jH) : Prop := ∃ row s len lr la llen, w_c15 row s len lr la llen inp tb y lk H ∧ 445 ≤ row ∧ 445 ≤ lr ∧ w_ty tb y ∧ lk.length ≤ 200
def w_U (tb : List UInt8) (y : w_y) (inp : Nat) (lk : List UInt8) (scr : List UInt8) (S : w_S4) (lf : Nat) (Hs H : jH) : Prop := w_Z scr S lf H H ∧ jfr w_FS Hs H ∧ w_p13 H ∧ w_C tb y inp lk H
def w_V (tb : List UInt8) (y : w_y) (inp : Nat) (lk : List UInt8) (Hs H : jH) : Prop := w_Yf H H ∧ jfr w_FS Hs H ∧ w_p13 H ∧ w_C tb y inp lk H
theorem w_C_fr {tb lk : List UInt8} {y : w_y} {inp : Nat} {H H' : jH} (h : w_C tb y inp lk H) (hs : jsh H') (hf : jfr w_FS H H') : w_C tb y inp lk H' := by
  obtain ⟨row, s, len, lr, la, llen, ⟨⟨a1, a2, a3, a4, a5, a6⟩, ⟨b1, b2, b3, b4, b5⟩, ⟨c1, c2, c3, c4, c5, c6⟩, ⟨d1, d2, d3, d4⟩, e1, e2, e3⟩, g1, g2, g3⟩ := h
  have n : ∀ a j, 445 ≤ a → ¬ w_FS a j := fun a j q w => by unfold w_FS w_F14 w_S15 at w; omega
  have n427 : ∀ j, j ≠ 8 → ¬ w_FS 427 j := fun j q w => by unfold w_FS w_F14 w_S15 at w; omega
  refine ⟨row, s, len, lr, la, llen, ⟨⟨hs, (jfr_R hf (n427 2 (by decide))).trans a2, (jfr_I hf (n427 3 (by decide))).trans a3, (jfr_R hf (n427 4 (by decide))).trans a4, (jfr_I hf (n427 5 (by decide))).trans a5, (jfr_I hf (n427 6 (by decide))).trans a6⟩, ⟨by rw [jfr_K hf]; exact b1, b2, b3, zRow_eq b4 fun i _ => jfr_B hf (n lr _ g2), b5⟩, ⟨(jfr_R hf (n 456 0 (by decide))).trans c1, by rw [jfr_K hf]; exact c2, c3, c4, c5, zRow_eq c6 fun i _ => jfr_B hf (n row _ g1)⟩, ⟨(jfr_I hf (n 456 1 (by decide))).trans d1, (jfr_I hf (n 456 3 (by decide))).trans d2, (jfr_I hf (n 456 4 (by decide))).trans d3, (jfr_I hf (n 456 5 (by decide))).trans d4⟩, fun k hk => ?_, fun k hk => ?_, e3⟩, g1, g2, g3⟩
  · exact ⟨(jfr_I hf (n 457 k (by decide))).trans (e1 k hk).1, (jfr_I hf (n 461 k (by decide))).trans (e1 k hk).2⟩
  · have eB : jB H' row = jB H row := funext fun j => jfr_B hf (n row j g1)
    rw [eB]
    exact ⟨(jfr_L hf (n 462 k (by decide))).trans (e2 k hk).1, (jfr_I hf (n 463 k (by decide))).trans (e2 k hk).2.1, (jfr_I hf (n 464 k (by decide))).trans (e2 k hk).2.2⟩
theorem w_p13_fr {H H' : jH} (h : w_p13 H) (hf : jfr w_F14 H H') : w_p13 H' := by
  obtain ⟨a, b, ⟨t, c⟩, d⟩ := h
  have n : ∀ i j, 428 ≤ i → i ≤ 436 → jI H' i j = jI H i j := fun i j q1 q2 => jfr_I hf fun w => by unfold w_F14 at w; omega
  exact ⟨z13C_I a (fun j => n 429 j (by decide) (by decide)) fun j => n 432 j (by decide) (by decide), z25_I b fun j => n 429 j (by decide) (by decide), ⟨t, fun j hj => (n 434 j (by decide) (by decide)).trans (c j hj)⟩, (n 428 6 (by decide) (by decide)).trans d⟩
section FIT14
variable {tb lk scr : List UInt8} {y : w_y} {inp : Nat} {S : w_S4} {lf : Nat} {Hs H0 H : jH} {α : Type} {Q : α → jH → Prop}
theorem w_Z_move {T : Nat → Nat → Prop} {lf' : Nat} {H' : jH} (h : w_Z scr S lf H0 H) (hs : jsh H') (hf : jfr T H H') (hT : ∀ a j, T a j → a < 437 ∨ 441 < a ∨ (a = 437 ∧ j = 8)) (h8 : jI H' 437 8 = Int32.ofNat lf') (hl : lf' < 1000) : w_Z scr S lf' H' H' := by
  obtain ⟨⟨a1, a2⟩, ⟨b1, b2, b3, b4, b5, b6, b7⟩, ⟨c1, c2, c3, c4⟩, d1, d2, d3, d4, d5, d6⟩ := h
  have n437 : ∀ j, j ≠ 8 → ¬ T 437 j := fun j q w => by have := hT _ _ w; omega
  have n44 : ∀ a j, 438 ≤ a → a ≤ 441 → ¬ T a j := fun a j q1 q2 w => by have := hT _ _ w; omega
  exact ⟨⟨hs, jfr_refl⟩, ⟨(jfr_I hf (n437 2 (by decide))).trans b1, (jfr_I hf (n437 3 (by decide))).trans b2, (jfr_I hf (n437 5 (by decide))).trans b3, (jfr_I hf (n437 6 (by decide))).trans b4, (jfr_I hf (n437 7 (by decide))).trans b5, h8, (jfr_I hf (n437 9 (by decide))).trans b7⟩, ⟨zIts_fr c1 hf fun a j k hkl q => by have := hT _ _ q; omega, zIts_fr c2 hf fun a j k hkl q => by have := hT _ _ q; omega, c3, c4⟩, fun k hk => (jfr_I hf (n44 441 k (by decide) (by decide))).trans (d1 k hk), fun k hk => (jfr_I hf (n44 440 k (by decide) (by decide))).trans (d2 k hk), d3, d4, d5, hl⟩
theorem w_FS_14 {H H' : jH} (h : jfr w_F14 H H') : jfr w_FS H H' := jfr_mono h fun _ _ q => Or.inl q
/-- after a step without signatures -/
theorem w_U_Z {S' : w_S4} {H' : jH} (h : w_U tb y inp lk scr S lf Hs H) (h' : w_Z scr S' lf H H') : w_U tb y inp lk scr S' lf Hs H' := by
  obtain ⟨a, b, c, d⟩ := h
  obtain ⟨⟨e1, e2⟩, e3⟩ := h'
  exact ⟨⟨⟨e1, jfr_refl⟩, e3⟩, jfr_trans b (w_FS_14 e2), w_p13_fr c e2, w_C_fr d e1 (w_FS_14 e2)⟩
theorem w_U_Y {H' : jH} (h : w_U tb y inp lk scr S lf Hs H) (h' : w_Yf H H') : w_V tb y inp lk Hs H' := by
  obtain ⟨a, b, c, d⟩ := h
  obtain ⟨⟨e1, e2⟩, e3⟩ := h'
  exact ⟨⟨⟨e1, jfr_refl⟩, e3⟩, jfr_trans b (w_FS_14 e2), w_p13_fr c e2, w_C_fr d e1 (w_FS_14 e2)⟩
theorem w_V_I {j : Nat} {v : Int32} (h : w_V tb y inp lk Hs H) (hj : j ≠ 6) : w_V tb y inp lk Hs (jsI H 437 j v) := by
  obtain ⟨⟨⟨e1, e2⟩, f, f1, f2, f3⟩, b, c, d⟩ := h
  have hs := jsh_sI (i := j) (v := v) e1 (a := 437) (by decide)
  have e : jfr w_F14 H (jsI H 437 j v) := jfr_sI jfr_refl (w_F437 (by decide) (by decide))
  exact ⟨⟨⟨hs, jfr_refl⟩, f, f1, f2, (jI_sIn (fun q => hj q.symm)).trans f3⟩, jfr_trans b (w_FS_14 e), w_p13_fr c e, w_C_fr d hs (w_FS_14 e)⟩
def w_T3 : Nat → Nat → Prop := fun a j => (a = 437 ∧ j = 8) ∨ a = 442 ∨ a = 443
theorem w_fit14 {k : Int32 → jH → Option (α × jH)} {q r : Nat} {q' r' : Int32} {sg ky : List UInt8} {fit : List UInt8 → List UInt8 → Bool} (hfit : ∀ sg ky, fit sg ky = true ↔ w_fit tb y inp lk sg ky) (h : w_U tb y inp lk scr S lf Hs H) (eq : q' = Int32.ofNat q) (er : r' = Int32.ofNat r) (hq : q < 140) (hr : r < 140) (rq : w_row H q sg) (rr : w_row H r ky)
    (hk1 : 0 < lf → ∀ x H', x = (if fit sg ky = true then 1 else 0) → w_U tb y inp lk scr S (lf - 1) Hs H' → jT (k x H') Q) (hk0 : lf = 0 → ∀ H', w_V tb y inp lk Hs H' → jT (k 0 H') Q) : jT (jb (F_14_fit 437 q' r' H) k) Q := by
  subst eq
  subst er
  obtain ⟨hz, hfS, hp, hC⟩ := h
  have llf := hz.2.2.2.2.2.2.2.2
  have e8 := hz.2.1.2.2.2.2.2.1
  unfold F_14_fit
  rw [e8]
  refine jT_b (jT_g (w_Zk hz) ?_)
  by_cases c0 : lf = 0
  · subst c0
    exact jT_neg (fun w => w rfl) (jT_g (w_Zk hz) (w_fails (n := 13) hz rfl (by decide) (by decide) fun H' hy => jT_g (Or.inl rfl) (jT_ret (hk0 rfl H' (w_U_Y ⟨hz, hfS, hp, hC⟩ hy)))))
  have s1 : jsh (jsI H 437 8 (Int32.ofNat (lf - 1))) := jsh_sI hz.1.1 (by decide)
  rw [w_sub1 (by omega)]
  refine jT_pos (fun w => c0 ((jo_eq (a := lf) (b := 0) (by omega) (by decide)).mp w)) (jT_g (w_Zk hz) (jT_g (w_Zk hz) (jT_l ?_)))
  have loop : ∀ (d i fu : Nat) (H1 : jH), i + d = 120 → d < fu → jsh H1 → jfr w_T3 H H1 → jI H1 437 8 = Int32.ofNat (lf - 1) → (∀ j, j < i → j < sg.length → jB H1 442 j = sg.getD j 0) → (∀ j, j < i → j < ky.length → jB H1 443 j = ky.getD j 0) → jT (F_14_fit_27 fu 437 (Int32.ofNat q) (Int32.ofNat r) (Int32.ofNat i) H1) (fun x h => jT (k x h) Q) := by
    intro d
    induction d with
    | zero =>
      intro i fu H1 hi hfu hs hf h8 hd1 hd2
      obtain ⟨fu, rfl⟩ : ∃ k, fu = k + 1 := ⟨fu - 1, by omega⟩
      have r1 := w_row_fr rq hf fun a j w => by unfold w_T3 at w; omega
      have r2 := w_row_fr rr hf fun a j w => by unfold w_T3 at w; omega
      have z1 : zRow H1 442 0 sg := fun j u hj => by
        obtain ⟨hl2, -⟩ := List.getElem?_eq_some_iff.mp hj
        rw [Nat.zero_add, hd1 j (by have := r1.1; omega) (by omega), List.getD_eq_getElem?_getD, hj]
        rfl
      have z2 : zRow H1 443 0 ky := fun j u hj => by
        obtain ⟨hl2, -⟩ := List.getElem?_eq_some_iff.mp hj
        rw [Nat.zero_add, hd2 j (by have := r2.1; omega) (by omega), List.getD_eq_getElem?_getD, hj]
        rfl
      have f14 : jfr w_F14 H H1 := jfr_mono hf fun a j w => by unfold w_T3 at w; unfold w_F14; omega
      have hC1 := w_C_fr hC hs (w_FS_14 f14)
      obtain ⟨row, s, len, lr, la, llen, hc, g1, g2, g3, g4⟩ := hC1
      unfold F_14_fit_27 B_14_fit_27
      rw [sR_437_1 hs, sR_437_12 hs, sR_437_13 hs, sR_437_16 hs, jo_nat (n := q) (by omega), jo_nat (n := r) (by omega), r1.2.1, r2.2.1]
      refine jT_pos (by rw [show (120 : Int32) = Int32.ofNat 120 from rfl, jo_le (by omega) (by omega)]; omega) (jT_g (k14 hs) (jT_g (k14 hs) (jT_g (k14 hs) (jT_g (gA (sK_439 hs) (jo_in (by omega) hq)) (jT_g (k14 hs) (jT_g (k14 hs) (jT_g (gA (sK_439 hs) (jo_in (by omega) hr)) (jT_g (gT (sK_427 hs)) (jT_b (z15_fits g3 g4 hc (w_p13_fr hp f14) z1 z2 r1.1 r2.1 fun H2 v hs2 hp2 hf2 hv => ?_))))))))))
      have fS : jfr w_FS H H2 := jfr_trans (w_FS_14 f14) (jfr_mono hf2 fun _ _ w => Or.inr w)
      have hz2 : w_Z scr S (lf - 1) H2 H2 := w_Z_move (T := fun a j => w_T3 a j ∨ w_S15 a j) hz hs2 (jfr_trans (jfr_mono hf fun _ _ w => Or.inl w) (jfr_mono hf2 fun _ _ w => Or.inr w)) (fun a j w => by unfold w_T3 w_S15 at w; omega) ((jfr_I hf2 (by unfold w_S15; omega)).trans h8) (by omega)
      have hU : w_U tb y inp lk scr S (lf - 1) Hs H2 := ⟨hz2, jfr_trans hfS fS, hp2, w_C_fr hC hs2 fS⟩
      refine jT_g ?_ (jT_ret (hk1 (by omega) v H2 ?_ hU))
      · rcases hv with ⟨rfl, -⟩ | ⟨rfl, -⟩
        · exact Or.inr rfl
        · exact Or.inl rfl
      · rcases hv with ⟨rfl, w⟩ | ⟨rfl, w⟩
        · rw [if_pos ((hfit sg ky).mpr w)]
        · rw [if_neg fun z => w ((hfit sg ky).mp z)]
    | succ d ih =>
      intro i fu H1 hi hfu hs hf h8 hd1 hd2
      obtain ⟨fu, rfl⟩ : ∃ k, fu = k + 1 := ⟨fu - 1, by omega⟩
      have r1 := w_row_fr rq hf fun a j w => by unfold w_T3 at w; omega
      have r2 := w_row_fr rr hf fun a j w => by unfold w_T3 at w; omega
      have e1 : Int32.ofNat i + 1 = Int32.ofNat (i + 1) := jo_add (a := i) (b := 1)
      unfold F_14_fit_27 B_14_fit_27
      rw [sR_437_0 hs, sR_437_12 hs, w_em14, w_em14, jo_nat (n := i) (by omega), jo_nat (n := 120 * q + i) (by omega), jo_nat (n := 120 * r + i) (by omega), e1]
      refine jT_neg (by rw [show (120 : Int32) = Int32.ofNat 120 from rfl, jo_le (by omega) (by omega)]; omega) (jT_g (k14 hs) (jT_g (k14 hs) (jT_g (gA (sK_438 hs) (jo_in (by omega) (by omega))) (jT_g (gA (sK_442 hs) (jo_in (by omega) (by omega))) (jT_l ?_)))))
      have f2 : jfr w_T3 H (jsB H1 442 i (jbu (ji2b (jI H1 438 (120 * q + i))))) := jfr_sB hf (Or.inr (Or.inl rfl))
      have hs2 : jsh (jsB H1 442 i (jbu (ji2b (jI H1 438 (120 * q + i))))) := jsh_sB hs
      have k1 : ∀ j, j < i + 1 → j < sg.length → jB (jsB H1 442 i (jbu (ji2b (jI H1 438 (120 * q + i))))) 442 j = sg.getD j 0 := fun j j1 j2 => by
        by_cases cc : j = i
        · rw [cc, jB_sBe, r1.2.2 i _ (getD_of (by omega)), jbu_ub]
        · rw [jB_sBn cc]
          exact hd1 j (by omega) j2
      have k2 : ∀ j, j < i → j < ky.length → jB (jsB H1 442 i (jbu (ji2b (jI H1 438 (120 * q + i))))) 443 j = ky.getD j 0 := fun j j1 j2 => by
        rw [jB_sBa (by decide)]
        exact hd2 j j1 j2
      have h82 : jI (jsB H1 442 i (jbu (ji2b (jI H1 438 (120 * q + i))))) 437 8 = Int32.ofNat (lf - 1) := jI_sBx.trans h8
      generalize jsB H1 442 i (jbu (ji2b (jI H1 438 (120 * q + i)))) = H2 at *
      have r3 := w_row_fr rr f2 fun a j w => by unfold w_T3 at w; omega
      rw [sR_437_0 hs2, sR_437_13 hs2]
      refine jT_g (k14 hs2) (jT_g (k14 hs2) (jT_g (gA (sK_438 hs2) (jo_in (by omega) (by omega))) (jT_g (gA (sK_443 hs2) (jo_in (by omega) (by omega))) (jT_l (jT_l (ih (i + 1) fu _ (by omega) (by omega) (jsh_sB hs2) (jfr_sB f2 (Or.inr (Or.inr rfl))) (jI_sBx.trans h82) (fun j j1 j2 => ?_) fun j j1 j2 => ?_))))))
      · rw [jB_sBa (by decide)]
        exact k1 j j1 j2
      · by_cases cc : j = i
        · rw [cc, jB_sBe, r3.2.2 i _ (getD_of (by omega)), jbu_ub]
        · rw [jB_sBn cc]
          exact k2 j (by omega) j2
  exact loop 120 0 jfuel _ rfl (by unfold jfuel; omega) s1 (jfr_sI jfr_refl (Or.inl ⟨rfl, rfl⟩)) jI_sIe (fun j hj => absurd hj (Nat.not_lt_zero j)) fun j hj => absurd hj (Nat.not_lt_zero j)
end FIT14
