/-! Coins: those that a transaction makes; the class's change. -/
def w_ads (nm tb : List UInt8) (y : w_y) (h : Nat) : Nat → Nat → List w_cn → List w_cn
  | 0, _, cs => cs
  | d + 1, j, cs => w_ads nm tb y h d (j + 1) (cs ++ [(nm, j, tb, y, h)])
theorem w_ads_len {nm tb : List UInt8} {y : w_y} {h : Nat} : ∀ {d j : Nat} {cs : List w_cn}, (w_ads nm tb y h d j cs).length = cs.length + d
  | 0, _, _ => rfl
  | d + 1, j, cs => by
    rw [w_ads, w_ads_len, List.length_append]
    show cs.length + 1 + d = cs.length + (d + 1)
    omega
section CH2B
variable {o row s len h : Nat} {tb nm : List UInt8} {y : w_y} {Hs : jH} {Q : Unit → jH → Prop}
theorem z2_adds (hy : w_ty tb y) (hx0 : w_x o row s len tb y nm Hs) : ∀ (d j fu : Nat) (cs : List w_cn) (H : jH), j + d = y.2.1.length → d < fu → cs.length + d ≤ 1500 → jsh H → jfr w_T3c Hs H → w_CA cs H → jL H 392 5 = w_sumc cs →
    (∀ H', jsh H' → jfr w_T3c Hs H' → w_CA (w_ads nm tb y h d j cs) H' → jL H' 392 5 = w_sumc (w_ads nm tb y h d j cs) → jI H' 392 4 = jI H 392 4 → Q () H') → jT (F_2_change_148 fu 392 o (Int32.ofNat h) (Int32.ofNat j) H) Q := by
  have l8 : y.2.1.length ≤ 8 := (ztx_spec hy.1).2.1
  have n5 : ∀ a j, 422 ≤ a → ¬ w_T3c a j := fun a j q w => by unfold w_T3c at w; omega
  intro d
  induction d with
  | zero =>
    intro j fu cs H hj hfu hl hs hf hCA h5 hk
    obtain ⟨fu, rfl⟩ : ∃ k, fu = k + 1 := ⟨fu - 1, by omega⟩
    have hx := w_x_jfr hx0 hf n5
    obtain ⟨⟨k10, -⟩, ⟨-, -, -, -, b5, b6⟩, -⟩ := hx
    unfold F_2_change_148 B_2_change_148 B_2_change_230
    rw [b5, b6]
    exact jT_g k10 (jT_g rfl (jT_pos (by show Int32.ofNat y.2.1.length ≤ Int32.ofNat j; rw [jo_le (by omega) (by omega)]; omega) (jT_ret (hk H hs hf hCA h5 rfl))))
  | succ d ih =>
    intro j fu cs H hj hfu hl hs hf hCA h5 hk
    obtain ⟨fu, rfl⟩ : ∃ k, fu = k + 1 := ⟨fu - 1, by omega⟩
    have hjj : j < y.2.1.length := by omega
    have hx := w_x_jfr hx0 hf n5
    have hxx := hx
    have k2 : ∀ {H}, jsh H → (jK H 392).1 = 2 := fun hs => gT (sK_392 hs)
    have e1' : Int32.ofNat j + 1 = Int32.ofNat (j + 1) := jo_add (a := j) (b := 1)
    have en1 : Int32.ofNat cs.length + 1 = Int32.ofNat (cs.length + 1) := jo_add (a := cs.length) (b := 1)
    have h32 : nm.length = 32 := hx.2.2.2.2.2.2.2.1
    obtain ⟨⟨k10, -⟩, ⟨-, -, -, -, b5, b6⟩, -⟩ := hx
    obtain ⟨h3, hcn, hrows⟩ := hCA
    have nC : ∀ a j, w_T3c a j → a < 396 := fun a j w => by unfold w_T3c at w; omega
    unfold F_2_change_148 B_2_change_148
    rw [b5, b6, h3, sR_392_0 hs, jo_nat (n := cs.length) (by omega)]
    have s1 : jsh (jsR H 393 cs.length o) := jsh_sRn hs jRs_393
    refine jT_g k10 (jT_g rfl (jT_neg (by show ¬ Int32.ofNat y.2.1.length ≤ Int32.ofNat j; rw [jo_le (by omega) (by omega)]; omega) (jT_g (k2 hs) (jT_neg (by rw [show (1500 : Int32) = Int32.ofNat 1500 from rfl, jo_le (by decide) (by omega)]; omega) (jT_g (k2 hs) (jT_g (k2 hs) (jT_g ⟨gT (sK_393 hs), by rw [sK_393 hs]; exact jo_in (by omega) (by show cs.length < 1500; omega), Or.inr k10⟩ (jT_l ?_))))))))
    have f1 : jfr w_T3c H (jsR H 393 cs.length o) := jfr_sR jfr_refl (Or.inr ⟨by decide, by decide⟩)
    have I1 : ∀ a j, jI (jsR H 393 cs.length o) a j = jI H a j := fun a j => rfl
    have L1 : jL (jsR H 393 cs.length o) 392 5 = w_sumc cs := h5
    have R1 : ∀ i, jR (jsR H 393 cs.length o) 393 i = if i = cs.length then o else jR H 393 i := fun i => by
      by_cases q : i = cs.length
      · rw [q, if_pos rfl, jR_sRe]
      · rw [if_neg q, jR_sRn q]
    generalize jsR H 393 cs.length o = H1 at *
    rw [I1, h3, sR_392_1 s1, jo_nat (n := cs.length) (by omega)]
    have s2 : jsh (jsI H1 394 cs.length (Int32.ofNat j)) := jsh_sI s1 (by decide)
    refine jT_g (k2 s1) (jT_g (k2 s1) (jT_g (gIw (sK_394 s1) (by decide) (jo_in (by omega) (by omega))) (jT_l ?_)))
    have f2 : jfr w_T3c H (jsI H1 394 cs.length (Int32.ofNat j)) := jfr_sI f1 (Or.inr ⟨by decide, by decide⟩)
    have I2 : ∀ a i, a ≠ 394 → jI (jsI H1 394 cs.length (Int32.ofNat j)) a i = jI H a i := fun a i q => (jI_sIa q).trans (I1 a i)
    have J2 : ∀ i, jI (jsI H1 394 cs.length (Int32.ofNat j)) 394 i = if i = cs.length then Int32.ofNat j else jI H 394 i := fun i => by
      by_cases q : i = cs.length
      · rw [q, if_pos rfl, jI_sIe]
      · rw [if_neg q, jI_sIn q, I1]
    have L2 : jL (jsI H1 394 cs.length (Int32.ofNat j)) 392 5 = w_sumc cs := L1
    have R2 : ∀ i, jR (jsI H1 394 cs.length (Int32.ofNat j)) 393 i = if i = cs.length then o else jR H 393 i := R1
    generalize jsI H1 394 cs.length (Int32.ofNat j) = H2 at *
    rw [I2 392 3 (by decide), h3, sR_392_2 s2, jo_nat (n := cs.length) (by omega)]
    have s3 : jsh (jsI H2 395 cs.length (Int32.ofNat h)) := jsh_sI s2 (by decide)
    refine jT_g (k2 s2) (jT_g (k2 s2) (jT_g (gIw (sK_395 s2) (by decide) (jo_in (by omega) (by omega))) (jT_l ?_)))
    have f3 : jfr w_T3c H (jsI H2 395 cs.length (Int32.ofNat h)) := jfr_sI f2 (Or.inr ⟨by decide, by decide⟩)
    have I3 : ∀ i, jI (jsI H2 395 cs.length (Int32.ofNat h)) 392 i = jI H 392 i := fun i => (jI_sIa (by decide)).trans (I2 392 i (by decide))
    have J3 : ∀ i, jI (jsI H2 395 cs.length (Int32.ofNat h)) 394 i = if i = cs.length then Int32.ofNat j else jI H 394 i := fun i => (jI_sIa (by decide)).trans (J2 i)
    have K3 : ∀ i, jI (jsI H2 395 cs.length (Int32.ofNat h)) 395 i = if i = cs.length then Int32.ofNat h else jI H 395 i := fun i => by
      by_cases q : i = cs.length
      · rw [q, if_pos rfl, jI_sIe]
      · rw [if_neg q, jI_sIn q, I2 395 _ (by decide)]
    have L3 : jL (jsI H2 395 cs.length (Int32.ofNat h)) 392 5 = w_sumc cs := L2
    have R3 : ∀ i, jR (jsI H2 395 cs.length (Int32.ofNat h)) 393 i = if i = cs.length then o else jR H 393 i := R2
    generalize jsI H2 395 cs.length (Int32.ofNat h) = H3 at *
    rw [I3, h3, en1]
    have s4 : jsh (jsI H3 392 3 (Int32.ofNat (cs.length + 1))) := jsh_sI s3 (by decide)
    refine jT_g (k2 s3) (jT_g (k2 s3) (jT_l ?_))
    have f4 : jfr w_T3c H (jsI H3 392 3 (Int32.ofNat (cs.length + 1))) := jfr_sI f3 (Or.inl ⟨rfl, by decide⟩)
    have C4 : jI (jsI H3 392 3 (Int32.ofNat (cs.length + 1))) 392 3 = Int32.ofNat (cs.length + 1) := jI_sIe
    have D4 : jI (jsI H3 392 3 (Int32.ofNat (cs.length + 1))) 392 4 = jI H 392 4 := (jI_sIn (by decide)).trans (I3 4)
    have J4 : ∀ i, jI (jsI H3 392 3 (Int32.ofNat (cs.length + 1))) 394 i = if i = cs.length then Int32.ofNat j else jI H 394 i := fun i => (jI_sIa (by decide)).trans (J3 i)
    have K4 : ∀ i, jI (jsI H3 392 3 (Int32.ofNat (cs.length + 1))) 395 i = if i = cs.length then Int32.ofNat h else jI H 395 i := fun i => (jI_sIa (by decide)).trans (K3 i)
    have L4 : jL (jsI H3 392 3 (Int32.ofNat (cs.length + 1))) 392 5 = w_sumc cs := L3
    have R4 : ∀ i, jR (jsI H3 392 3 (Int32.ofNat (cs.length + 1))) 393 i = if i = cs.length then o else jR H 393 i := R3
    generalize jsI H3 392 3 (Int32.ofNat (cs.length + 1)) = H4 at *
    have hx4 := w_x_jfr hxx f4 n5
    rw [L4, z10_worthx s4 hy hx4 hjj]
    refine jT_g (k2 s4) (jT_g hx4.1.1 ?_)
    rw [jb_ok, e1']
    have ecv : w_cv (nm, j, tb, y, h) = Int64.ofNat (zho (fun i => tb.getD i 0) ((y.2.1.getD j (0, 0)).1 + 8) 8) := rfl
    rw [← ecv]
    have es : w_sumc (cs ++ [(nm, j, tb, y, h)]) = w_sumc cs + w_cv (nm, j, tb, y, h) := by
      rw [w_sumc_app]
      show w_sumc cs + (w_cv (nm, j, tb, y, h) + 0) = _
      grind
    rw [← es]
    have s5 : jsh (jsL H4 392 5 (w_sumc (cs ++ [(nm, j, tb, y, h)]))) := jsh_sL s4
    have f5 : jfr w_T3c H (jsL H4 392 5 (w_sumc (cs ++ [(nm, j, tb, y, h)]))) := jfr_sL f4 (Or.inl ⟨rfl, by decide⟩)
    refine jT_g (k2 s4) (jT_l (jT_l ?_))
    have ll : (cs ++ [(nm, j, tb, y, h)]).length = cs.length + 1 := List.length_append
    refine ih (j + 1) fu (cs ++ [(nm, j, tb, y, h)]) _ (by omega) (by omega) (by omega) s5 (jfr_trans hf f5) ⟨by rw [ll]; exact C4, by omega, fun k c hk2 => ?_⟩ jL_sLe fun H' g1 g2 g3 g4 g5 => hk H' g1 g2 g3 g4 (g5.trans D4)
    have J5 : jI (jsL H4 392 5 (w_sumc (cs ++ [(nm, j, tb, y, h)]))) 394 k = if k = cs.length then Int32.ofNat j else jI H 394 k := J4 k
    have K5 : jI (jsL H4 392 5 (w_sumc (cs ++ [(nm, j, tb, y, h)]))) 395 k = if k = cs.length then Int32.ofNat h else jI H 395 k := K4 k
    have R5 : jR (jsL H4 392 5 (w_sumc (cs ++ [(nm, j, tb, y, h)]))) 393 k = if k = cs.length then o else jR H 393 k := R4 k
    rw [J5, K5, R5]
    by_cases q : k < cs.length
    · rw [List.getElem?_append_left q] at hk2
      obtain ⟨t1, ⟨r1, r2, r3, t2⟩, t3, t4⟩ := hrows k c hk2
      rw [if_neg (by omega), if_neg (by omega), if_neg (by omega)]
      exact ⟨t1, ⟨r1, r2, r3, w_x_jfr t2 f5 n5⟩, t3, t4⟩
    · obtain ⟨hkl, -⟩ := List.getElem?_eq_some_iff.mp hk2
      rw [ll] at hkl
      obtain rfl : k = cs.length := by omega
      rw [List.getElem?_append_right (Nat.le_refl _), Nat.sub_self] at hk2
      have hc : (nm, j, tb, y, h) = c := Option.some.inj hk2
      subst hc
      rw [if_pos rfl, if_pos rfl, if_pos rfl]
      exact ⟨⟨h32, hy, hjj⟩, ⟨row, s, len, w_x_jfr hxx f5 n5⟩, rfl, rfl⟩
/-- the coins after a transaction -/
def w_chg (nm tb : List UInt8) (y : w_y) (h : Nat) (rt : Bool) (cs : List w_cn) (m : Nat) : List w_cn × Nat :=
  if rt = true then (w_ads nm tb y h y.2.1.length 0 cs, m) else (w_ads nm tb y h y.2.1.length 0 (w_drp tb y y.1.length 0 cs m).1, (w_drp tb y y.1.length 0 cs m).2)
theorem z2_change {α : Type} {Q : α → jH → Prop} {k : Unit → jH → Option (α × jH)} {cs : List w_cn} {m : Nat} {a3 : Int32} (rt : Bool) (ert : a3 = if rt = true then 1 else 0) (hy : w_ty tb y) (hs : jsh Hs) (hx : w_x o row s len tb y nm Hs) (hCA : w_CA cs Hs) (h5 : jL Hs 392 5 = w_sumc cs) (h4 : jI Hs 392 4 = Int32.ofNat m) (hl : (w_chg nm tb y h rt cs m).1.length ≤ 1500)
    (hk : ∀ H', jsh H' → jfr w_T3c Hs H' → w_CA (w_chg nm tb y h rt cs m).1 H' → jL H' 392 5 = w_sumc (w_chg nm tb y h rt cs m).1 → jI H' 392 4 = Int32.ofNat (w_chg nm tb y h rt cs m).2 → jT (k () H') Q) : jT (jb (F_2_change 392 o (Int32.ofNat h) a3 Hs) k) Q := by
  have l8 : y.1.length ≤ 8 := (ztx_spec hy.1).1
  have l9 : y.2.1.length ≤ 8 := (ztx_spec hy.1).2.1
  unfold F_2_change
  cases rt with
  | true =>
    have e : w_chg nm tb y h true cs m = (w_ads nm tb y h y.2.1.length 0 cs, m) := if_pos rfl
    rw [e] at hl hk
    have hl' : (w_ads nm tb y h y.2.1.length 0 cs).length ≤ 1500 := hl
    rw [w_ads_len] at hl'
    obtain ⟨fu, efu⟩ : ∃ fu, jfuel = fu + 1 := ⟨jfuel - 1, by unfold jfuel; omega⟩
    rw [efu]
    unfold F_2_change_3 B_2_change_3 B_2_change_145
    refine jT_b (jT_pos (by rw [ert]; decide) ?_)
    exact z2_adds hy hx y.2.1.length 0 jfuel cs Hs (Nat.zero_add _) (by unfold jfuel; omega) (by omega) hs jfr_refl hCA h5 fun H' g1 g2 g3 g4 g5 => hk H' g1 g2 g3 g4 (g5.trans h4)
  | false =>
    have e : w_chg nm tb y h false cs m = (w_ads nm tb y h y.2.1.length 0 (w_drp tb y y.1.length 0 cs m).1, (w_drp tb y y.1.length 0 cs m).2) := if_neg (by decide)
    rw [e] at hl hk
    have hl' : (w_ads nm tb y h y.2.1.length 0 (w_drp tb y y.1.length 0 cs m).1).length ≤ 1500 := hl
    rw [w_ads_len] at hl'
    have ea : a3 = 0 := ert
    rw [ea]
    refine jT_b (z2_drops hy hx y.1.length 0 jfuel m cs Hs (Nat.zero_add _) (by unfold jfuel; omega) hs jfr_refl hCA h5 h4 fun H' g1 g2 g3 g4 g5 => ?_)
    unfold B_2_change_145
    exact z2_adds hy hx y.2.1.length 0 jfuel _ H' (Nat.zero_add _) (by unfold jfuel; omega) (by omega) g1 g2 g3 g4 fun H2 t1 t2 t3 t4 t5 => hk H2 t1 t2 t3 t4 (t5.trans g5)
end CH2B
