/-! holds: digit by digit. -/
/-- the number of the m topmost of 257 digits -/
def dtp (d : Nat → Int) : Nat → Int
  | 0 => 0
  | m + 1 => 2 * dtp d m + d (256 - m)
theorem dtp_sum (d : Nat → Int) : ∀ m, m ≤ 257 → dsum d (257 - m) + dtp d m * 2 ^ (257 - m) = dsum d 257
  | 0, _ => by
    show dsum d 257 + 0 * _ = _
    omega
  | m + 1, h => by
    have ih := dtp_sum d m (by omega)
    rw [← ih, show 257 - m = 257 - (m + 1) + 1 by omega]
    show dsum d (257 - (m + 1)) + (2 * dtp d m + d (256 - m)) * 2 ^ (257 - (m + 1)) = dsum d (257 - (m + 1)) + d (257 - (m + 1)) * 2 ^ (257 - (m + 1)) + dtp d m * 2 ^ (257 - (m + 1) + 1)
    rw [show 257 - (m + 1) = 256 - m by omega, Int.pow_succ, Int.add_mul, Int.mul_comm (2 ^ (256 - m)) 2, ← Int.mul_assoc, Int.mul_comm (dtp d m) 2]
    omega
theorem dtp_all (d : Nat → Int) : dtp d 257 = dsum d 257 := by
  have := dtp_sum d 257 (Nat.le_refl _)
  rw [← this]
  show _ = (0 : Int) + dtp d 257 * 1
  omega
theorem dg_facts {x : Int} (h : dOk x) : jabsI (Int32.ofInt x) / 2 = Int32.ofNat (x.natAbs / 2) ∧ (Int32.ofInt x = 0 ↔ x = 0) ∧ (0 ≤ Int32.ofInt x ↔ 0 ≤ x) ∧ (x ≠ 0 → x.natAbs / 2 < 8 ∧ 2 * (x.natAbs / 2) + 1 = x.natAbs) := by
  have hb : -15 ≤ x ∧ x ≤ 15 := by
    rcases h with h | h <;> omega
  refine ⟨?_, ?_, ?_, ?_⟩
  · have key : ∀ k : Nat, k < 16 → jabsI (Int32.ofInt (k : Int)) / 2 = Int32.ofNat ((k : Int).natAbs / 2) ∧ jabsI (Int32.ofInt (-(k : Int))) / 2 = Int32.ofNat ((-(k : Int)).natAbs / 2) := by decide
    rcases (show 0 ≤ x ∨ x < 0 by omega) with q | q
    · have := (key x.toNat (by omega)).1
      rw [Int.toNat_of_nonneg q] at this
      exact this
    · have := (key (-x).toNat (by omega)).2
      rw [Int.toNat_of_nonneg (by omega), Int.neg_neg] at this
      exact this
  · refine ⟨fun e => ?_, fun e => by rw [e]; rfl⟩
    have := congrArg Int32.toInt e
    rw [Int32.toInt_ofInt_of_le (by omega) (by omega)] at this
    exact this
  · rw [Int32.le_iff_toInt_le, Int32.toInt_ofInt_of_le (by omega) (by omega)]
    exact Iff.rfl
  · intro h0
    rcases h with h | ⟨h1, h2, h3⟩
    · exact absurd h h0
    · omega
noncomputable def eZ (k : Int) (P : ef × ef) : Option (ef × ef) := eg_z ef_iv k (some P)
theorem eZ_on {P : ef × ef} (hP : eg_c e7 P) (k : Int) : eg_on e7 (eZ k P) := eg_on_z ef_fld (p := some P) hP k
theorem eZ_abs {P : ef × ef} (hP : eg_c e7 P) (x : Int) (h0 : x ≠ 0) : zsg (if 0 ≤ x then 0 else 1) (eN x.natAbs P) = eZ x P := by
  unfold zsg eZ
  by_cases h : 0 ≤ x
  · rw [if_pos h, if_pos rfl]
    have : eg_z ef_iv ((x.natAbs : Nat) : Int) (some P) = eN x.natAbs P := rfl
    rw [← this, Int.natAbs_of_nonneg h]
  · rw [if_neg h, if_neg (by decide)]
    have e : x = -((x.natAbs : Nat) : Int) := by omega
    have : eg_z ef_iv (-((x.natAbs : Nat) : Int)) (some P) = eg_neg (eN x.natAbs P) := eg_z_neg ef_fld (p := some P) hP _
    rw [← this, ← e]
/-- what the sum is worth -/
noncomputable def eS (a b : Int) (G Q : ef × ef) : Option (ef × ef) := eg_add ef_iv (eZ a G) (eZ b Q)
theorem eS_twice {G Q : ef × ef} (hG : eg_c e7 G) (hQ : eg_c e7 Q) (a b : Int) : eg_add ef_iv (eS a b G Q) (eS a b G Q) = eS (2 * a) (2 * b) G Q := by
  unfold eS
  rw [eg_sw ef_fld (eZ_on hG a) (eZ_on hQ b) (eZ_on hG a) (eZ_on hQ b)]
  unfold eZ
  rw [← eg_z_twice ef_fld (p := some G) hG, ← eg_z_twice ef_fld (p := some Q) hQ]
theorem eS_add1 {G Q : ef × ef} (hG : eg_c e7 G) (hQ : eg_c e7 Q) (a b x : Int) : eg_add ef_iv (eS a b G Q) (eZ x G) = eS (a + x) b G Q := by
  unfold eS
  rw [eg_assoc ef_fld (eZ_on hG a) (eZ_on hQ b) (eZ_on hG x), eg_comm ef_fld (eZ_on hQ b) (eZ_on hG x), ← eg_assoc ef_fld (eZ_on hG a) (eZ_on hG x) (eZ_on hQ b)]
  unfold eZ
  rw [← eg_z_add ef_fld (p := some G) hG]
theorem eS_add2 {G Q : ef × ef} (hG : eg_c e7 G) (hQ : eg_c e7 Q) (a b x : Int) : eg_add ef_iv (eS a b G Q) (eZ x Q) = eS a (b + x) G Q := by
  unfold eS
  rw [eg_assoc ef_fld (eZ_on hG a) (eZ_on hQ b) (eZ_on hQ x)]
  unfold eZ
  rw [← eg_z_add ef_fld (p := some Q) hQ]
section HOLDS
variable {R : Int32 → jH → Prop} {H0 : jH} {Qk : ef × ef}
def zSs : Nat → Prop := fun a => (76 ≤ a ∧ a < 92) ∨ (100 ≤ a ∧ a < 104)
theorem zSs_18 : ∀ a, a < 18 → ¬ zSs a := fun a ha q => by
  unfold zSs at q
  omega
theorem z100 : zpt 100 := ⟨1, by decide, rfl⟩
theorem zSs_of {a : Nat} (h : zS5 100 a) : zSs a := by
  unfold zS5 at h
  unfold zSs
  omega
theorem zodds_fs {H H' : jH} {o : Nat} {P : ef × ef} {n : Nat} (ho : o = 104 ∨ o = 108) (hn : n ≤ 8) (h : zodds H o P n) (hf : jfJ zSs H H') : zodds H' o P n := fun i hi => by
  refine zP5_fJ hf ?_ ?_ ?_ ?_ (h i hi)
  all_goals (unfold zSs; omega)
/-- one digit of one side -/
theorem z8_digit {k129 : Nat → Int32 → Int32 → jH → Option (Int32 × jH)} {H : jH} {a3 a4 : Int32} {x : Int} {o : Nat} {P : ef × ef} {S0 : Option (ef × ef)} (hs : jsh H) (hx : dOk x) (ho : (a4 ≠ 0 ∧ o = 108) ∨ (a4 = 0 ∧ o = 104)) (hod : zodds H o P 8) (hP : eg_c e7 P) (hS : zP5 H 100 S0)
    (hk : ∀ H', jfJ zSs H H' → zP5 H' 100 (eg_add ef_iv S0 (eZ x P)) → jT (k129 50 a3 (a4 + 1) H') R) : jT (B_8_holds_155 k129 50 a3 a4 (Int32.ofInt x) H) R := by
  obtain ⟨g1, g2, g3, g4⟩ := dg_facts hx
  have ho2 : o = 104 ∨ o = 108 := ho.elim (fun h => Or.inr h.2) fun h => Or.inl h.2
  have k50 : (jK H 50).1 = 8 := by rw [sK_50 hs]
  have g100 : ∀ H, jsh H → (jK H 100).1 = 5 := fun H hs => by rw [(sPt hs z100).1]
  have end239 : ∀ H', jfJ zSs H H' → zP5 H' 100 (eg_add ef_iv S0 (eZ x P)) → jT (B_8_holds_239 k129 50 a3 a4 H') R := fun H' f h => by
    unfold B_8_holds_239
    exact jT_l (hk H' f h)
  unfold B_8_holds_155
  refine jT_g (by decide) ?_
  rw [g1]
  refine jT_l ?_
  by_cases hx0 : x = 0
  · refine jT_pos (g2.mpr hx0) (end239 H jfJ_refl ?_)
    rw [hx0]
    show zP5 H 100 (eg_add ef_iv S0 none)
    rw [eg_add_none]
    exact hS
  · obtain ⟨p1, p2⟩ := g4 hx0
    have hod2 := hod (x.natAbs / 2) p1
    rw [p2] at hod2
    have hpq : (100 : Nat) ≠ o + 8 * (x.natAbs / 2) := by omega
    have tail : jT (B_8_holds_200 k129 50 a3 a4 (Int32.ofInt x) (o + 8 * (x.natAbs / 2)) H) R := by
      have go : ∀ m : Int32, m = (if 0 ≤ x then 0 else 1) → jT (B_8_holds_218 k129 50 a3 a4 100 (o + 8 * (x.natAbs / 2)) m H) R := fun m hm => by
        unfold B_8_holds_218
        refine jT_g k50 (jT_g (g100 H hs) ?_)
        rw [sR_50_9 hs]
        refine jT_b (z5_add hs z100 (zpt_o ho2 p1) hpq hS hod2 fun r H1 f1 v1 => ?_)
        have f1' : jfJ zSs H H1 := jfJ_mono f1 fun a ha => zSs_of ha
        rw [hm, eZ_abs hP x hx0] at v1
        rcases v1 with ⟨e1, v1⟩ | ⟨e1, e2, e3, v1⟩
        · exact jT_pos (by rw [e1]; decide) (end239 H1 f1' v1)
        · have s1 := jsh_fJ hs f1' zSs_18
          refine jT_neg (by rw [e1]; decide) (jT_g (by rw [sK_50 s1]) (jT_g (by rw [sK_50 s1]) ?_))
          rw [sR_50_15 s1, sR_50_9 s1]
          refine jT_g (g100 H1 s1) (jT_b (z5_twice s1 z100 v1 fun H2 f2 v2 => end239 H2 (jfJ_trans f1' (jfJ_mono f2 fun a ha => zSs_of ha)) ?_))
          rw [← e2]
          exact v2
      unfold B_8_holds_200
      refine jT_g k50 ?_
      rw [sR_50_15 hs]
      by_cases h0 : 0 ≤ x
      · exact jT_pos (g3.mpr h0) (go 0 (by rw [if_pos h0]))
      · exact jT_neg (fun q => h0 (g3.mp q)) (go 1 (by rw [if_neg h0]))
    refine jT_neg (fun q => hx0 (g2.mp q)) (jT_neg (by rw [show (8 : Int32) = Int32.ofNat 8 from rfl, jo_le (by omega) (by omega)]; omega) ?_)
    rcases ho with ⟨h4, rfl⟩ | ⟨h4, rfl⟩
    · refine jT_pos h4 (jT_g k50 ?_)
      rw [sR_50_13 hs, jo_nat (n := x.natAbs / 2) (by omega), (sOdd hs p1).2]
      exact jT_g (by rw [(sK94 hs).2]; exact ⟨rfl, jo_in (by omega) p1⟩) tail
    · refine jT_neg (fun q => q h4) (jT_g k50 ?_)
      rw [sR_50_12 hs, jo_nat (n := x.natAbs / 2) (by omega), (sOdd hs p1).1]
      exact jT_g (by rw [(sK94 hs).1]; exact ⟨rfl, jo_in (by omega) p1⟩) tail
/-- the digits, from the highest on -/
theorem z8_holds111 {r : Nat} {d e : Nat → Int} (hs : jsh H0) (hQ : eg_c e7 Qk) (hb : zodds H0 104 eB 8) (hq : zodds H0 108 Qk 8) (hd : ∀ k, k < 257 → jI H0 92 k = Int32.ofInt (d k) ∧ dOk (d k)) (he : ∀ k, k < 257 → jI H0 93 k = Int32.ofInt (e k) ∧ dOk (e k)) (hr : zN8 H0 51 r) (hrN : r < nN)
    (hk : ∀ H' v, jfJ (fun a => zSs a ∨ zSx a) H0 H' → (v = 1 ∧ hl_ok (eS (dsum d 257) (dsum e 257) eB Qk) r ∨ v = 0 ∧ ¬ hl_ok (eS (dsum d 257) (dsum e 257) eB Qk) r) → R v H') :
    ∀ (i m fu : Nat) (H : jH), i + m = 257 → i < fu → jfJ zSs H0 H → zP5 H 100 (eS (dtp d m) (dtp e m) eB Qk) → jT (F_8_holds_111 fu 50 (Int32.ofNat i + (-1)) H) R := by
  intro i
  induction i with
  | zero =>
    intro m fu H hi hfu hfr hS
    obtain ⟨fu, rfl⟩ : ∃ k, fu = k + 1 := ⟨fu - 1, by omega⟩
    obtain rfl : m = 257 := by omega
    unfold F_8_holds_111 B_8_holds_111 B_8_holds_272 B_8_holds_273
    rw [dtp_all, dtp_all] at hS
    have sH := jsh_fJ hs hfr zSs_18
    have k50 : (jK H 50).1 = 8 := by rw [sK_50 sH]
    have k100 : (jK H 100).1 = 5 := by rw [(sPt sH z100).1]
    refine jT_pos (by decide) (jT_g k50 ?_)
    rw [sR_50_15 sH]
    refine jT_g k100 ?_
    cases hc : eS (dsum d 257) (dsum e 257) eB Qk with
    | none =>
      rw [hc] at hS hk
      change jI H 100 3 = 1 at hS
      refine jT_pos (by rw [hS]; decide) (jT_g (by decide) (jT_ret (hk H 0 (jfJ_mono hfr fun a ha => Or.inl ha) (Or.inr ⟨rfl, fun h => ?_⟩))))
      obtain ⟨q, q1, -⟩ := h
      exact absurd q1 (by simp)
    | some q =>
      rw [hc] at hS hk
      have hr2 := zN8_fJ hr hfr (by unfold zSs; decide)
      refine jT_neg (fun h => h hS.1) (jT_g k50 (jT_b (z8_isAtX sH hS hr2 hrN fun H1 f1 => ?_)))
      have F1 : jfJ (fun a => zSs a ∨ zSx a) H0 H1 := jfJ_trans (jfJ_mono hfr fun a ha => Or.inl ha) (jfJ_mono f1 fun a ha => Or.inr ha)
      by_cases hx : q.1.val % nN = r
      · rw [if_pos hx]
        exact jT_neg (by decide) (jT_g (by decide) (jT_ret (hk H1 1 F1 (Or.inl ⟨rfl, q, rfl, hx⟩))))
      · rw [if_neg hx]
        refine jT_pos rfl (jT_g (by decide) (jT_ret (hk H1 0 F1 (Or.inr ⟨rfl, fun h => ?_⟩))))
        obtain ⟨q', e1, e2⟩ := h
        rw [← Option.some.inj e1] at e2
        exact hx e2
  | succ i ih =>
    intro m fu H hi hfu hfr hS
    obtain ⟨fu, rfl⟩ : ∃ k, fu = k + 1 := ⟨fu - 1, by omega⟩
    unfold F_8_holds_111 B_8_holds_111
    have ep : Int32.ofNat (i + 1) + (-1) = Int32.ofNat i := by
      rw [← jo_add, Int32.add_assoc, show Int32.ofNat 1 + (-1) = 0 from by decide, Int32.add_zero]
    have sH := jsh_fJ hs hfr zSs_18
    have k50 : ∀ H, jsh H → (jK H 50).1 = 8 := fun H hs => by rw [sK_50 hs]
    have k100 : (jK H 100).1 = 5 := by rw [(sPt sH z100).1]
    rw [ep]
    refine jT_neg (by rw [show (0 : Int32) = Int32.ofNat 0 from rfl, jo_lt (by omega) (by omega)]; omega) (jT_g (k50 H sH) (jT_g (k50 H sH) ?_))
    rw [sR_50_15 sH, sR_50_9 sH]
    refine jT_g k100 (jT_b (z5_twice sH z100 hS fun H1 f1 v1 => ?_))
    rw [eS_twice eB_c hQ] at v1
    have F1 : jfJ zSs H0 H1 := jfJ_trans hfr (jfJ_mono f1 fun a ha => zSs_of ha)
    have s1 := jsh_fJ hs F1 zSs_18
    have ei : 256 - m = i := by omega
    have n92 : ∀ H', jfJ zSs H0 H' → jI H' 92 i = Int32.ofInt (d i) ∧ jI H' 93 i = Int32.ofInt (e i) := fun H' f => ⟨((f.2.2.2.2.2 92 (by unfold zSs; decide) i).2).trans (hd i (by omega)).1, ((f.2.2.2.2.2 93 (by unfold zSs; decide) i).2).trans (he i (by omega)).1⟩
    obtain ⟨g, eg⟩ : ∃ f, jfuel = f + 1 + 1 + 1 := ⟨4294967293, rfl⟩
    rw [eg]
    unfold F_8_holds_129 B_8_holds_129
    refine jT_neg (by decide) (jT_neg (fun q => q rfl) (jT_g (k50 H1 s1) ?_))
    rw [sR_50_10 s1, jo_nat (n := i) (by omega), (n92 H1 F1).1]
    refine jT_g (gI (sK s1 (a := 92) (q := (100, 257)) rfl (by decide) (by decide)) (jo_in (by omega) (by omega))) (z8_digit (o := 104) (P := eB) s1 (hd i (by omega)).2 (Or.inr ⟨rfl, rfl⟩) (zodds_fs (Or.inl rfl) (Nat.le_refl 8) hb F1) eB_c v1 fun H2 f2 v2 => ?_)
    rw [eS_add1 eB_c hQ] at v2
    have F2 := jfJ_trans F1 f2
    have s2 := jsh_fJ hs F2 zSs_18
    unfold F_8_holds_129 B_8_holds_129
    refine jT_neg (by decide) (jT_pos (by decide) (jT_g (k50 H2 s2) ?_))
    rw [sR_50_11 s2, jo_nat (n := i) (by omega), (n92 H2 F2).2]
    refine jT_g (gI (sK s2 (a := 93) (q := (100, 257)) rfl (by decide) (by decide)) (jo_in (by omega) (by omega))) (z8_digit (o := 108) (P := Qk) s2 (he i (by omega)).2 (Or.inl ⟨by decide, rfl⟩) (zodds_fs (Or.inr rfl) (Nat.le_refl 8) hq F2) hQ v2 fun H3 f3 v3 => ?_)
    rw [eS_add2 eB_c hQ] at v3
    have F3 := jfJ_trans F2 f3
    unfold F_8_holds_129 B_8_holds_129
    refine jT_pos (by decide) (jT_l (ih (m + 1) fu H3 (by omega) (by omega) F3 ?_))
    have q1 : dtp d (m + 1) = 2 * dtp d m + d i := by
      show 2 * dtp d m + d (256 - m) = _
      rw [ei]
    have q2 : dtp e (m + 1) = 2 * dtp e m + e i := by
      show 2 * dtp e m + e (256 - m) = _
      rw [ei]
    rw [q1, q2]
    exact v3
def zSh : Nat → Prop := fun a => (51 ≤ a ∧ a < 58) ∨ (59 ≤ a ∧ a < 75) ∨ (76 ≤ a ∧ a < 94) ∨ (100 ≤ a ∧ a < 104)
theorem zSh_18 : ∀ a, a < 18 → ¬ zSh a := fun a ha q => by
  unfold zSh at q
  omega
/-- whether a signature fits: its numbers, the number of what is signed, the key's point -/
noncomputable def sg_ok (r s z : Nat) (Q : ef × ef) : Prop := hl_ok (eS ((z * (s ^ (nN - 2) % nN) % nN : Nat) : Int) ((r * (s ^ (nN - 2) % nN) % nN : Nat) : Int) eB Q) r
theorem z8_holds35 {r s z z0 : Nat} {x y : Int32} {H : jH} (hs : jsh H) (hf : jfJ zSh H0 H) (hQ : eg_c e7 Qk) (hb : zodds H 104 eB 8) (hq : zodds H 108 Qk 8) (hr : zN8 H 51 r) (hrN : r < nN) (hss : zN8 H 52 s)
    (hz : zN8 (jsI H 55 0 (x ||| y)) 55 z) (hk : ∀ H' v, jfJ zSh H0 H' → (v = 1 ∧ sg_ok r s z Qk ∨ v = 0 ∧ ¬ sg_ok r s z Qk) → R v H') : jT (B_8_holds_35 50 55 0 x y H) R := by
  have k50 : ∀ H, jsh H → (jK H 50).1 = 8 := fun H hs => by rw [sK_50 hs]
  unfold B_8_holds_35
  refine jT_g (gIw (sK_55 hs) (by decide) (by decide)) (jT_l ?_)
  have f1 : jfJ (· = 55) H (jsI H 55 (0 : Int32).toNatClampNeg (x ||| y)) := jfJ_sI jfJ_refl rfl
  have r1 : zN8 (jsI H 55 (0 : Int32).toNatClampNeg (x ||| y)) 51 r := zN8_fJ hr f1 (by show ¬ (51 : Nat) = 55; decide)
  have s1 : zN8 (jsI H 55 (0 : Int32).toNatClampNeg (x ||| y)) 52 s := zN8_fJ hss f1 (by show ¬ (52 : Nat) = 55; decide)
  have hz1 : zN8 (jsI H 55 (0 : Int32).toNatClampNeg (x ||| y)) 55 z := hz
  generalize jsI H 55 (0 : Int32).toNatClampNeg (x ||| y) = H1 at f1 r1 s1 hz1
  have F1 : jfJ zSh H H1 := jfJ_mono f1 fun a ha => by unfold zSh; omega
  have S1 := jsh_fJ hs F1 zSh_18
  refine jT_g (k50 H1 S1) (jT_g (k50 H1 S1) (jT_b (z8_invert (a := 52) (sR_50_2 S1) (by decide) (by unfold zSm; decide) (by decide) (sK_52 S1) S1 s1 fun H2 f2 v2 => ?_)))
  have F2 : jfJ zSh H H2 := jfJ_trans F1 (jfJ_mono f2 fun a ha => by unfold zSv zSm at ha; unfold zSh; omega)
  have S2 := jsh_fJ hs F2 zSh_18
  have r2 := zN8_fJ r1 f2 (by unfold zSv zSm; decide)
  have z2 := zN8_fJ hz1 f2 (by unfold zSv zSm; decide)
  refine jT_g (k50 H2 S2) (jT_g (k50 H2 S2) (jT_g (k50 H2 S2) (jT_g (k50 H2 S2) (jT_b (z8_mulE (to := 53) (ra := 55) (rb := 52) (sR_50_3 S2) (sR_50_5 S2) (sR_50_2 S2) S2 (sK_53 S2) (by decide) (by unfold zSm; decide) (sK_55 S2) (sK_52 S2) (by unfold zSm; decide) (by unfold zSm; decide) z2 v2 fun H3 f3 v3 => ?_)))))
  have F3 : jfJ zSh H H3 := jfJ_trans F2 (jfJ_mono f3 fun a ha => by unfold zSm at ha; unfold zSh; omega)
  have S3 := jsh_fJ hs F3 zSh_18
  have r3 := zN8_fJ r2 f3 (by unfold zSm; decide)
  have s3 := zN8_fJ v2 f3 (by unfold zSm; decide)
  refine jT_g (k50 H3 S3) (jT_g (k50 H3 S3) (jT_g (k50 H3 S3) (jT_g (k50 H3 S3) (jT_b (z8_mulE (to := 54) (ra := 51) (rb := 52) (sR_50_4 S3) (sR_50_1 S3) (sR_50_2 S3) S3 (sK_54 S3) (by decide) (by unfold zSm; decide) (sK_51 S3) (sK_52 S3) (by unfold zSm; decide) (by unfold zSm; decide) r3 s3 fun H4 f4 v4 => ?_)))))
  have F4 : jfJ zSh H H4 := jfJ_trans F3 (jfJ_mono f4 fun a ha => by unfold zSm at ha; unfold zSh; omega)
  have S4 := jsh_fJ hs F4 zSh_18
  have r4 := zN8_fJ r3 f4 (by unfold zSm; decide)
  have x4 := zN8_fJ v3 f4 (by unfold zSm; decide)
  have k92 : ∀ H, jsh H → jK H 92 = (100, 257) ∧ jK H 93 = (100, 257) := fun H h => ⟨sK h (a := 92) rfl (by decide) (by decide), sK h (a := 93) rfl (by decide) (by decide)⟩
  refine jT_g (k50 H4 S4) (jT_g (k50 H4 S4) (jT_b (z8_setDigits (t := 92) (r := 53) (sR_50_10 S4) (sR_50_3 S4) (sK_53 S4) (k92 H4 S4).1 (by decide) (by decide) x4 fun H5 d f5 d5 e5 => ?_)))
  have F5 : jfJ zSh H H5 := jfJ_trans F4 (jfJ_mono f5 fun a ha => by unfold zSh; omega)
  have S5 := jsh_fJ hs F5 zSh_18
  have r5 := zN8_fJ r4 f5 (by show ¬ (51 : Nat) = 92; decide)
  have y5 := zN8_fJ v4 f5 (by show ¬ (54 : Nat) = 92; decide)
  refine jT_g (k50 H5 S5) (jT_g (k50 H5 S5) (jT_b (z8_setDigits (t := 93) (r := 54) (sR_50_11 S5) (sR_50_4 S5) (sK_54 S5) (k92 H5 S5).2 (by decide) (by decide) y5 fun H6 e f6 d6 e6 => ?_)))
  have F6 : jfJ zSh H H6 := jfJ_trans F5 (jfJ_mono f6 fun a ha => by unfold zSh; omega)
  have S6 := jsh_fJ hs F6 zSh_18
  have r6 := zN8_fJ r5 f6 (by show ¬ (51 : Nat) = 93; decide)
  refine jT_g (k50 H6 S6) ?_
  rw [sR_50_15 S6]
  refine jT_g ⟨by rw [(sPt S6 z100).1], Or.inr rfl⟩ (jT_l ?_)
  have f7 : jfJ (· = 100) H6 (jsI H6 100 3 1) := jfJ_sI jfJ_refl rfl
  have hS7 : zP5 (jsI H6 100 3 1) 100 (eS (dtp d 0) (dtp e 0) eB Qk) := jI_sIe
  have hd7 : ∀ k, k < 257 → jI (jsI H6 100 3 1) 92 k = Int32.ofInt (d k) ∧ dOk (d k) := fun k hk2 => ⟨(jI_sIa (by decide)).trans (((f6.2.2.2.2.2 92 (by show ¬ (92 : Nat) = 93; decide) k).2).trans (d5 k hk2).1), (d5 k hk2).2⟩
  have he7 : ∀ k, k < 257 → jI (jsI H6 100 3 1) 93 k = Int32.ofInt (e k) ∧ dOk (e k) := fun k hk2 => ⟨(jI_sIa (by decide)).trans (d6 k hk2).1, (d6 k hk2).2⟩
  have r7 := zN8_fJ r6 f7 (by show ¬ (51 : Nat) = 100; decide)
  generalize jsI H6 100 3 1 = H7 at f7 hS7 hd7 he7 r7
  have F7 : jfJ zSh H H7 := jfJ_trans F6 (jfJ_mono f7 fun a ha => by unfold zSh; omega)
  have S7 := jsh_fJ hs F7 zSh_18
  have odd : ∀ o P, (o = 104 ∨ o = 108) → zodds H o P 8 → zodds H7 o P 8 := fun o P ho h i hi => by
    refine zP5_fJ F7 ?_ ?_ ?_ ?_ (h i hi)
    all_goals (unfold zSh; omega)
  refine z8_holds111 (H0 := H7) (r := r) (d := d) (e := e) S7 hQ (odd _ _ (Or.inl rfl) hb) (odd _ _ (Or.inr rfl) hq) hd7 he7 r7 hrN (fun H' v f' h' => hk H' v (jfJ_trans hf (jfJ_trans F7 (jfJ_mono f' fun a ha => by unfold zSs zSx at ha; unfold zSh; omega))) ?_) 257 0 jfuel H7 rfl (by unfold jfuel; omega) jfJ_refl hS7
  unfold sg_ok
  rw [e5, e6] at h'
  exact h'
/-- from the name on -/
theorem z8_holds {r s a1 len : Nat} {a2 : Int32} (h2 : a2 = 0 ∨ a2 = 1) (hs : jsh H0) (ha1 : jK H0 a1 = (101, len)) (hlen : len < 2147483648) (hl : 32 ≤ len) (hQ : eg_c e7 Qk) (hb : zodds H0 104 eB 8) (hq : zodds H0 108 Qk 8) (hr : zN8 H0 51 r) (hrN : r < nN) (hss : zN8 H0 52 s)
    (hk : ∀ H' v, jfJ zSh H0 H' → (v = 1 ∧ sg_ok r s (if a2 = 0 then bgn (jB H0 a1) 0 32 else 1) Qk ∨ v = 0 ∧ ¬ sg_ok r s (if a2 = 0 then bgn (jB H0 a1) 0 32 else 1) Qk) → R v H') : jT (F_8_holds 50 a1 a2 H0) R := by
  have k50 : ∀ H, jsh H → (jK H 50).1 = 8 := fun H hs => by rw [sK_50 hs]
  have a55 : a1 ≠ 55 := fun e => by rw [e, sK_55 hs] at ha1; exact absurd ha1 (by simp)
  have odd : ∀ H1 o P, (o = 104 ∨ o = 108) → jfJ (· = 55) H0 H1 → zodds H0 o P 8 → zodds H1 o P 8 := fun H1 o P ho hf h i hi => by
    refine zP5_fJ hf ?_ ?_ ?_ ?_ (h i hi)
    all_goals (show ¬ _ = 55; omega)
  unfold F_8_holds B_8_holds_16
  refine jT_g (k50 H0 hs) ?_
  rw [sR_50_5 hs]
  by_cases h0 : a2 = 0
  · refine jT_pos h0 (jT_b (z8_set (r := 55) (f := 0) (n := 32) (len := len) rfl rfl rfl (sK_55 hs) (by decide) ha1 hlen (by omega) a55 fun H1 f1 v1 => ?_))
    rw [nv_bgn] at v1
    have s1 := jsh_fJ hs f1 (fun a ha q => by omega)
    rw [if_pos h0] at hk
    refine jT_g (k50 H1 s1) ?_
    rw [sR_50_5 s1]
    refine jT_g (gI (sK_55 s1) (by decide)) (jT_pos h0 ?_)
    refine z8_holds35 (z0 := 0) s1 (jfJ_mono f1 fun a ha => by unfold zSh; omega) hQ (odd H1 _ _ (Or.inl rfl) f1 hb) (odd H1 _ _ (Or.inr rfl) f1 hq) (zN8_fJ hr f1 (by show ¬ (51 : Nat) = 55; decide)) hrN (zN8_fJ hss f1 (by show ¬ (52 : Nat) = 55; decide)) ?_ hk
    obtain ⟨w, w1, w2⟩ := v1
    have e : jI H1 55 (0 : Int32).toNatClampNeg ||| 0 = Int32.ofNat (w 0) := by
      rw [Int32.or_zero]
      exact (w1 0 (by omega)).1
    rw [e]
    refine ⟨nup w 0 (w 0), zw8_up w1 (w1 0 (by omega)).2, ?_⟩
    rw [nv_ext (u := w) fun j hj => by unfold nup; split <;> simp [*], w2]
  · have h1 : a2 = 1 := h2.resolve_left h0
    refine jT_neg h0 (jT_b (z8_set (r := 55) (f := 0) (n := 0) (len := len) rfl rfl rfl (sK_55 hs) (by decide) ha1 hlen (by omega) a55 fun H1 f1 v1 => ?_))
    have s1 := jsh_fJ hs f1 (fun a ha q => by omega)
    rw [if_neg h0] at hk
    refine jT_g (k50 H1 s1) ?_
    rw [sR_50_5 s1]
    refine jT_g (gI (sK_55 s1) (by decide)) (jT_neg h0 ?_)
    refine z8_holds35 (z0 := 0) s1 (jfJ_mono f1 fun a ha => by unfold zSh; omega) hQ (odd H1 _ _ (Or.inl rfl) f1 hb) (odd H1 _ _ (Or.inr rfl) f1 hq) (zN8_fJ hr f1 (by show ¬ (51 : Nat) = 55; decide)) hrN (zN8_fJ hss f1 (by show ¬ (52 : Nat) = 55; decide)) ?_ hk
    obtain ⟨w, w1, w2⟩ := v1
    have w20 : nv 4294967296 w 8 = 0 := w2
    have hz : ∀ j, j < 8 → w j = 0 := fun j hj => by
      have := nv_digit (b := 4294967296) (w := w) (n := 8) (i := j) (fun k hk => (w1 k hk).2) (by decide) hj
      rw [w20, Nat.zero_div, Nat.zero_mod] at this
      exact this.symm
    have e : jI H1 55 (0 : Int32).toNatClampNeg ||| 1 = 1 := by
      rw [show jI H1 55 (0 : Int32).toNatClampNeg = Int32.ofNat (w 0) from (w1 0 (by omega)).1, hz 0 (by omega)]
      rfl
    rw [e]
    exact zN8_one fun j hj => by rw [(w1 j hj).1, hz j hj]; rfl
end HOLDS
