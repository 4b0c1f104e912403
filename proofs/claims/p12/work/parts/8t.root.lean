/-! Point.root: the power with (P + 1) / 4. -/
def rtT : List (Nat × Nat × Nat) := [(0, 1, 0), (1, 1, 0), (2, 3, 2), (3, 3, 2), (4, 2, 1), (5, 11, 5), (6, 22, 6), (7, 44, 7), (8, 88, 8), (9, 44, 7), (10, 3, 2), (11, 23, 6), (12, 6, 1)]
def rtE : Nat → Nat := fun k => [1, 3, 7, 63, 511, 2047, 4194303, 17592186044415, 309485009821345068724781055, 95780971304118053647396689196894323976171195136475135, 1684996666696914987166688442938726917102321526408785780068975640575, 13479973333575319897333507543509815336818572211270286240551805124607, 113078212145816597093331040047546785012958969400039613319782796882723471359, 7237005577332262213973186563042994240829374041602535252466099000494302166979].getD k 0
def RB : Int := 205520904
theorem rt_ok : ∀ i, i < 13 → (rtT.getD i (0, 0, 0)).1 ≤ i ∧ (rtT.getD i (0, 0, 0)).2.2 ≤ i ∧ (rtT.getD i (0, 0, 0)).2.1 < 100 ∧ rtE (i + 1) = rtE (rtT.getD i (0, 0, 0)).1 * 2 ^ (rtT.getD i (0, 0, 0)).2.1 + rtE (rtT.getD i (0, 0, 0)).2.2 := by decide +kernel
theorem rt_rows {H : jH} (hs : jsh H) {i : Nat} (hi : i < 13) : jI H 12 (4 * i) = Int32.ofNat (rtT.getD i (0, 0, 0)).1 ∧ jI H 12 (4 * i + 1) = Int32.ofNat (rtT.getD i (0, 0, 0)).2.1 ∧ jI H 12 (4 * i + 2) = Int32.ofNat (rtT.getD i (0, 0, 0)).2.2 ∧ jI H 12 (4 * i + 3) = Int32.ofNat (i + 1) := by
  have h : ∀ i, i < 13 → (jvals.getD 12 []).getD (4 * i) 0 = Int32.ofNat (rtT.getD i (0, 0, 0)).1 ∧ (jvals.getD 12 []).getD (4 * i + 1) 0 = Int32.ofNat (rtT.getD i (0, 0, 0)).2.1 ∧ (jvals.getD 12 []).getD (4 * i + 2) 0 = Int32.ofNat (rtT.getD i (0, 0, 0)).2.2 ∧ (jvals.getD 12 []).getD (4 * i + 3) 0 = Int32.ofNat (i + 1) := by decide +kernel
  rw [hs.2.2.1 12 (by decide), hs.2.2.1 12 (by decide), hs.2.2.1 12 (by decide), hs.2.2.1 12 (by decide)]
  exact h i hi
theorem ef_1w (w a : ef) : ef_i 1 * w + ef_i 0 * a = w := by
  rw [ef_c1, ef_c0]
  grind
section ROOT
variable {Q : Unit → jH → Prop} {to : Nat} {H0 : jH} {a : ef}
def zSw : Nat → Prop := fun r => 76 ≤ r ∧ r < 90
theorem z5_root59 {k20 : Nat → Nat → Nat → Int32 → jH → Option (Unit × jH)} {i : Nat} {e : Nat} (hi : i < 13) (hs : jsh H0) (hw : ∀ k, k ≤ i → zL H0 (76 + k) (ef_p a (rtE k)) RB)
    (hk : ∀ H', jfL (· = 76 + (i + 1)) H0 H' → zL H' (76 + (i + 1)) (ef_p a (e * 2 ^ (rtT.getD i (0, 0, 0)).2.1 + rtE (rtT.getD i (0, 0, 0)).2.2)) RB → jT (k20 to 90 75 (Int32.ofNat (4 * (i + 1))) H') Q) :
    ∀ (d j fu : Nat) (H : jH), j + d = (rtT.getD i (0, 0, 0)).2.1 → d < fu → jfL (· = 76 + (i + 1)) H0 H → zL H (76 + (i + 1)) (ef_p a (e * 2 ^ j)) RB → jT (F_5_root_59 k20 fu to 90 75 (Int32.ofNat (4 * i)) (76 + (i + 1)) (Int32.ofNat j) H) Q := by
  obtain ⟨q1, q2, q3, q4⟩ := rt_ok i hi
  intro d
  induction d with
  | zero =>
    intro j fu H hj hfu hfr hv
    obtain ⟨fu, rfl⟩ : ∃ k, fu = k + 1 := ⟨fu - 1, by omega⟩
    unfold F_5_root_59 B_5_root_59
    have hsH := jsh_fL hs hfr
    obtain ⟨r0, r1, r2, r3⟩ := rt_rows hsH hi
    have e1 : Int32.ofNat (4 * i) + 1 = Int32.ofNat (4 * i + 1) := jo_add (a := 4 * i) (b := 1)
    have e2 : Int32.ofNat (4 * i) + 2 = Int32.ofNat (4 * i + 2) := jo_add (a := 4 * i) (b := 2)
    have e4 : Int32.ofNat (4 * i) + 4 = Int32.ofNat (4 * (i + 1)) := (jo_add (a := 4 * i) (b := 4)).trans (by rw [show 4 * i + 4 = 4 * (i + 1) by omega])
    have k12 : jK H 12 = (100, 52) := sK hsH (a := 12) rfl (by decide) (by decide)
    rw [e1, e2, e4, jo_nat (n := 4 * i + 1) (by omega), jo_nat (n := 4 * i + 2) (by omega), r1, r2, jo_nat (n := (rtT.getD i (0, 0, 0)).2.2) (by omega)]
    refine jT_g (gI k12 (jo_in (by omega) (by omega))) (jT_pos (by rw [jo_le (by omega) (by omega)]; omega) (jT_g (gI k12 (jo_in (by omega) (by omega))) (jT_g (by rw [sK75 hsH]; exact ⟨rfl, jo_in (by omega) (by show _ < 16; omega)⟩) (jT_b (z5_mulE (a0 := 76 + (i + 1)) (a1 := 76 + (i + 1)) (a2 := 76 + (rtT.getD i (0, 0, 0)).2.2) rfl rfl (sWk hsH (by omega)).2 (sWk hsH (by omega)).1 (sWk hsH (by omega)).1 (sWk hsH (by omega)).1 hv (zL_fL (hw _ q2) hfr (by show ¬ _ = _; omega)) (by decide) fun H1 f1 v1 => jT_l (hk H1 (jfL_trans hfr f1) ?_))))))
    rw [← ef_padd, show j = (rtT.getD i (0, 0, 0)).2.1 by omega] at v1
    exact zL_mono v1 (by decide)
  | succ d ih =>
    intro j fu H hj hfu hfr hv
    obtain ⟨fu, rfl⟩ : ∃ k, fu = k + 1 := ⟨fu - 1, by omega⟩
    unfold F_5_root_59 B_5_root_59
    have hsH := jsh_fL hs hfr
    obtain ⟨r0, r1, r2, r3⟩ := rt_rows hsH hi
    have e1 : Int32.ofNat (4 * i) + 1 = Int32.ofNat (4 * i + 1) := jo_add (a := 4 * i) (b := 1)
    have ej : Int32.ofNat j + 1 = Int32.ofNat (j + 1) := jo_add (a := j) (b := 1)
    have k12 : jK H 12 = (100, 52) := sK hsH (a := 12) rfl (by decide) (by decide)
    rw [e1, jo_nat (n := 4 * i + 1) (by omega), r1]
    refine jT_g (gI k12 (jo_in (by omega) (by omega))) (jT_neg (by rw [jo_le (by omega) (by omega)]; omega) (jT_b (z5_mulE (a0 := 76 + (i + 1)) (a1 := 76 + (i + 1)) (a2 := 76 + (i + 1)) rfl rfl rfl (sWk hsH (by omega)).1 (sWk hsH (by omega)).1 (sWk hsH (by omega)).1 hv hv (by decide) fun H1 f1 v1 => jT_l ?_)))
    rw [ej]
    refine ih (j + 1) fu H1 (by omega) (by omega) (jfL_trans hfr f1) ?_
    rw [← ef_padd, ← Nat.two_mul, Nat.mul_comm 2, Nat.mul_assoc, ← Nat.pow_succ] at v1
    exact zL_mono v1 (by decide)
theorem z5_root20 (hs : jsh H0) (ht : to = 106 + 4 * ((to - 106) / 4)) (ktt : jK H0 to = (103, 10)) (ht2 : 92 ≤ to) (ha : zL H0 90 a RB)
    (hk : ∀ H', jfL (fun r => zSw r ∨ r = to) H0 H' → zL H' to (ef_p a (4 * rtE 13)) zRb → Q () H') :
    ∀ (d i fu : Nat) (H : jH), i + d = 13 → d < fu → jfL zSw H0 H → (∀ k, k ≤ i → zL H (76 + k) (ef_p a (rtE k)) RB) → jT (F_5_root_20 fu to 90 75 (Int32.ofNat (4 * i)) H) Q := by
  intro d
  induction d with
  | zero =>
    intro i fu H hi hfu hfr hw
    obtain ⟨fu, rfl⟩ : ∃ k, fu = k + 1 := ⟨fu - 1, by omega⟩
    obtain rfl : i = 13 := by omega
    unfold F_5_root_20 B_5_root_20
    have hsH := jsh_fL hs hfr
    have k12 : jK H 12 = (100, 52) := sK hsH (a := 12) rfl (by decide) (by decide)
    have ktH : jK H to = (103, 10) := by rw [hfr.1, ktt]
    have k89 := sWk hsH (k := 13) (by decide)
    have g13 : (jK H 75).1 = 112 ∧ jin (13) (jK H 75).2 := by rw [sK75 hsH]; exact ⟨rfl, by decide⟩
    rw [k12]
    refine jT_g rfl (jT_pos (by decide) (jT_g g13 (jT_g g13 (jT_b (z5_mulE (a0 := to) (a1 := 76 + 13) (a2 := 76 + 13) rfl k89.2 k89.2 ktH k89.1 k89.1 (hw 13 (by omega)) (hw 13 (by omega)) (by decide) fun H1 f1 v1 => ?_)))))
    have kt1 : jK H1 to = (103, 10) := by rw [f1.1, ktH]
    refine jT_b (z5_mulE (a0 := to) (a1 := to) (a2 := to) rfl rfl rfl kt1 kt1 kt1 v1 v1 (by decide) fun H2 f2 v2 => jT_ret (hk H2 (jfL_trans (jfL_mono hfr fun r hr => Or.inl hr) (jfL_mono (jfL_trans f1 f2) fun r hr => Or.inr hr)) ?_))
    rw [← ef_padd, ← ef_padd, show rtE 13 + rtE 13 + (rtE 13 + rtE 13) = 4 * rtE 13 by omega] at v2
    exact v2
  | succ d ih =>
    intro i fu H hi hfu hfr hw
    obtain ⟨fu, rfl⟩ : ∃ k, fu = k + 1 := ⟨fu - 1, by omega⟩
    unfold F_5_root_20 B_5_root_20
    have hsH := jsh_fL hs hfr
    have hi13 : i < 13 := by omega
    obtain ⟨q1, q2, q3, q4⟩ := rt_ok i hi13
    obtain ⟨r0, r1, r2, r3⟩ := rt_rows hsH hi13
    have k12 : jK H 12 = (100, 52) := sK hsH (a := 12) rfl (by decide) (by decide)
    have e3 : Int32.ofNat (4 * i) + 3 = Int32.ofNat (4 * i + 3) := jo_add (a := 4 * i) (b := 3)
    rw [e3, k12]
    refine jT_g rfl (jT_neg (by show ¬ Int32.ofNat 52 ≤ _; rw [jo_le (by omega) (by omega)]; omega) (jT_g ⟨rfl, jo_in (by omega) (by show 4 * i + 3 < 52; omega)⟩ ?_))
    rw [jo_nat (n := 4 * i + 3) (by omega), jo_nat (n := 4 * i) (by omega), r3, r0, jo_nat (n := i + 1) (by omega), jo_nat (n := (rtT.getD i (0, 0, 0)).1) (by omega), (sWk hsH (k := i + 1) (by omega)).2]
    refine jT_g (by rw [sK75 hsH]; exact ⟨rfl, jo_in (by omega) (by show i + 1 < 16; omega)⟩) (jT_l (jT_g ⟨rfl, jo_in (by omega) (by show 4 * i < 52; omega)⟩ (jT_g (by rw [sK75 hsH]; exact ⟨rfl, jo_in (by omega) (by show _ < 16; omega)⟩) ?_)))
    have hv90 : zL H 90 a RB := zL_fL ha hfr (by unfold zSw; omega)
    refine jT_b (z5_mixE (a0 := 76 + (i + 1)) (a1 := 76 + (rtT.getD i (0, 0, 0)).1) (a2 := 90) (m := 1) (n := 0) (C := RB) rfl (sWk hsH (by omega)).2 rfl (sWk hsH (by omega)).1 (sWk hsH (by omega)).1 (sWk hsH (k := 14) (by decide)).1 (hw _ q1) hv90 rfl rfl (fun x y h1 h2 h3 h4 => by unfold RB at *; omega) fun H1 f1 v1 => ?_)
    rw [ef_1w] at v1
    have s1 := jsh_fL hsH f1
    have w1 : ∀ k, k ≤ i → zL H1 (76 + k) (ef_p a (rtE k)) RB := fun k hk2 => zL_fL (hw k hk2) f1 (by show ¬ _ = _; omega)
    have v1' : zL H1 (76 + (i + 1)) (ef_p a (rtE (rtT.getD i (0, 0, 0)).1 * 2 ^ 0)) RB := by
      rw [Nat.pow_zero, Nat.mul_one]
      exact v1
    refine z5_root59 (a := a) (i := i) hi13 s1 w1 (fun H2 f2 v2 => ?_) (rtT.getD i (0, 0, 0)).2.1 0 jfuel H1 (by omega) (by unfold jfuel; omega) jfL_refl v1'
    rw [← q4] at v2
    refine ih (i + 1) fu H2 (by omega) (by omega) (jfL_trans hfr (jfL_mono (jfL_trans f1 f2) fun r hr => by unfold zSw; omega)) fun k hk2 => ?_
    by_cases e : k = i + 1
    · rw [e]
      exact v2
    · exact zL_fL (w1 k (by omega)) f2 (by show ¬ _ = _; omega)
theorem z5_root {t0 t1 t2 : Nat} (e0 : t0 = to) (e1 : t1 = 90) (e2 : t2 = 75) (hs : jsh H0) (ht : to = 106 + 4 * ((to - 106) / 4)) (ktt : jK H0 to = (103, 10)) (ht2 : 92 ≤ to) (ha : zL H0 90 a RB)
    (hk : ∀ H', jfL (fun r => zSw r ∨ r = to) H0 H' → zL H' to (ef_p a (4 * rtE 13)) zRb → Q () H') : jT (F_5_root t0 t1 t2 H0) Q := by
  subst e0
  subst e1
  subst e2
  unfold F_5_root
  have k0 := sWk hs (k := 0) (by decide)
  rw [sK75 hs]
  refine jT_g rfl (jT_pos (by decide) (jT_g ⟨rfl, by decide⟩ (jT_b (z5_mixE (a0 := 76 + 0) (a1 := 90) (a2 := 90) (m := 1) (n := 0) (C := RB) k0.2 rfl rfl k0.1 (sWk hs (k := 14) (by decide)).1 (sWk hs (k := 14) (by decide)).1 ha ha rfl rfl (fun x y h1 h2 h3 h4 => by unfold RB at *; omega) fun H1 f1 v1 => ?_))))
  rw [ef_1w] at v1
  have hf : jfL zSw H0 H1 := jfL_mono f1 fun r hr => by unfold zSw; omega
  refine z5_root20 hs ht ktt ht2 ha hk 13 0 jfuel H1 rfl (by unfold jfuel; omega) hf fun k hk2 => ?_
  obtain rfl : k = 0 := by omega
  have : ef_p a (rtE 0) = a := ef_p1 a
  rw [this]
  exact v1
end ROOT
theorem rt_end : 4 * rtE 13 = (np_P + 1) / 4 := by decide +kernel
