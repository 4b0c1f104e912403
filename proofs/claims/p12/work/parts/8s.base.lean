/-! The odd multiples: setBase, and the key's. -/
theorem eN_odd {Q : ef × ef} (hQ : eg_c e7 Q) {i : Nat} (h1 : 1 ≤ i) (h8 : i < 8) : eN (2 * i - 1) Q ≠ eN 2 Q := by
  obtain ⟨t2, t3, t5, t7, t11⟩ := ef_tors hQ
  have t9 : eN 9 Q ≠ none := fun h => by
    cases h3 : eN 3 Q with
    | none => exact t3 h3
    | some q3 =>
      have c3 : eg_c e7 q3 := by
        have := ef_onN hQ 3
        rw [h3] at this
        exact this
      refine (ef_tors c3).2.1 ?_
      rw [show (9 : Nat) = 3 + 3 + 3 from rfl, ef_Nadd hQ, ef_Nadd hQ, h3] at h
      exact h
  have key : ∀ k, eN k Q ≠ none → eN (2 + k) Q ≠ eN 2 Q := fun k hk e => by
    rw [ef_Nadd hQ] at e
    have : eN 2 Q = eg_add ef_iv (eN 2 Q) none := (eg_add_none _).symm
    rw [this] at e
    rw [eg_add_none] at e
    exact hk (eg_cancel ef_fld (ef_onN hQ 2) (ef_onN hQ k) trivial (e.trans (eg_add_none _).symm))
  have n1 : eN 1 Q ≠ none := by
    show (some Q : Option (ef × ef)) ≠ none
    simp
  rcases (show i = 1 ∨ i = 2 ∨ i = 3 ∨ i = 4 ∨ i = 5 ∨ i = 6 ∨ i = 7 by omega) with rfl | rfl | rfl | rfl | rfl | rfl | rfl
  · intro e
    have e2 : eN 2 Q = eg_add ef_iv (eN 1 Q) (eN 1 Q) := ef_Nadd hQ 1 1
    have e3 : eg_add ef_iv (eN 1 Q) (eN 1 Q) = eg_add ef_iv (eN 1 Q) none := by
      rw [eg_add_none, ← e2]
      exact e.symm
    exact n1 (eg_cancel ef_fld (ef_onN hQ 1) (ef_onN hQ 1) trivial e3)
  · exact key 1 n1
  · exact key 3 t3
  · exact key 5 t5
  · exact key 7 t7
  · exact key 9 t9
  · exact key 11 t11
/-- the base, and the key: where their odd multiples lie -/
def zodds (H : jH) (o : Nat) (Q : ef × ef) (n : Nat) : Prop := ∀ i, i < n → zP5 H (o + 8 * i) (eN (2 * i + 1) Q)
def zSb (o : Nat) : Nat → Prop := fun a => (76 ≤ a ∧ a < 92) ∨ (96 ≤ a ∧ a < 100) ∨ (o ≤ a ∧ a < o + 60 ∧ (a - o) % 8 < 4)
theorem zpt_o {o i : Nat} (ho : o = 104 ∨ o = 108) (hi : i < 8) : zpt (o + 8 * i) := by
  rcases ho with rfl | rfl
  · exact ⟨2 + 2 * i, by omega, by omega⟩
  · exact ⟨3 + 2 * i, by omega, by omega⟩
theorem zpt_96 : zpt 96 := ⟨0, by decide, rfl⟩
theorem sOdd {H : jH} (hs : jsh H) {i : Nat} (hi : i < 8) : jR H 94 i = 104 + 8 * i ∧ jR H 95 i = 108 + 8 * i := by
  have hz : ((List.range 8).all fun k => decide ((94, k, 104 + 8 * k) ∈ jRs ∧ (95, k, 108 + 8 * k) ∈ jRs)) = true := by decide +kernel
  rw [List.all_eq_true] at hz
  obtain ⟨m1, m2⟩ := of_decide_eq_true (hz i (List.mem_range.mpr hi))
  exact ⟨hs.2.2.2.1 _ m1 (Or.inl rfl), hs.2.2.2.1 _ m2 (Or.inl rfl)⟩
theorem sK94 {H : jH} (hs : jsh H) : jK H 94 = (115, 8) ∧ jK H 95 = (115, 8) := ⟨sK hs (a := 94) rfl (by decide) (by decide), sK hs (a := 95) rfl (by decide) (by decide)⟩
theorem zSb_18 {o : Nat} (ho : o = 104 ∨ o = 108) : ∀ a, a < 18 → ¬ zSb o a := fun a ha q => by
  unfold zSb at q
  omega
theorem zodds_snoc {H : jH} {o n : Nat} {Q : ef × ef} (h : zodds H o Q n) (h1 : zP5 H (o + 8 * n) (eN (2 * n + 1) Q)) : zodds H o Q (n + 1) := fun i hi => by
  by_cases e : i = n
  · rw [e]
    exact h1
  · exact h i (by omega)
section ODD
variable {Q : ef × ef} {o : Nat}
/-- one more of them: first a copy .. -/
theorem z5_odd1 {α : Type} {R : α → jH → Prop} {K : Unit → jH → Option (α × jH)} {H0 H : jH} {i t0 t1 : Nat} (ho : o = 104 ∨ o = 108) (h1 : 1 ≤ i) (h8 : i < 8) (e0 : t0 = o + 8 * i) (e1 : t1 = o + 8 * (i - 1)) (hs : jsh H) (hf : jfJ (zSb o) H0 H) (hod : zodds H o Q i) (h2 : zP5 H 96 (eN 2 Q))
    (hk : ∀ H', jsh H' → jfJ (zSb o) H0 H' → zodds H' o Q i → zP5 H' 96 (eN 2 Q) → zP5 H' (o + 8 * i) (eN (2 * i - 1) Q) → jT (K () H') R) : jT (jb (F_5_set t0 t1 0 H) K) R := by
  subst e0
  subst e1
  refine jT_b (z5_set hs (zpt_o ho h8) (zpt_o ho (by omega)) (by omega) (hod (i - 1) (by omega)) fun H' f v => ?_)
  have g : ∀ a, zS4 (o + 8 * i) a → zSb o a := fun a ha => by
    unfold zS4 at ha
    unfold zSb
    omega
  have f2 := jfJ_mono f g
  refine hk H' (jsh_fJ hs f2 (zSb_18 ho)) (jfJ_trans hf f2) (fun k hk2 => zP5_fJ f ?_ ?_ ?_ ?_ (hod k hk2)) (zP5_fJ f ?_ ?_ ?_ ?_ h2) ?_
  any_goals (unfold zS4; omega)
  rw [if_pos rfl, show 2 * (i - 1) + 1 = 2 * i - 1 by omega] at v
  exact v
/-- .. then the sum -/
theorem z5_odd2 {α : Type} {R : α → jH → Prop} {K : Int32 → jH → Option (α × jH)} {H0 H : jH} {i t0 t1 t2 : Nat} (hQ : eg_c e7 Q) (ho : o = 104 ∨ o = 108) (h1 : 1 ≤ i) (h8 : i < 8) (e0 : t0 = o + 8 * i) (e1 : t1 = 96) (e2 : t2 = 75) (hs : jsh H) (hf : jfJ (zSb o) H0 H) (hod : zodds H o Q i) (h2 : zP5 H 96 (eN 2 Q)) (hp : zP5 H (o + 8 * i) (eN (2 * i - 1) Q))
    (hk : ∀ r H', jsh H' → jfJ (zSb o) H0 H' → zodds H' o Q (i + 1) → zP5 H' 96 (eN 2 Q) → jT (K r H') R) : jT (jb (F_5_add t0 t1 0 t2 H) K) R := by
  subst e0
  subst e1
  subst e2
  refine jT_b (z5_add hs (zpt_o ho h8) zpt_96 (by omega) hp h2 fun r H' f v => ?_)
  have g : ∀ a, zS5 (o + 8 * i) a → zSb o a := fun a ha => by
    unfold zS5 at ha
    unfold zSb
    omega
  have f2 := jfJ_mono f g
  have e3 : zsg 0 (eN 2 Q) = eN 2 Q := if_pos rfl
  rw [e3] at v
  have hv : zP5 H' (o + 8 * i) (eN (2 * i + 1) Q) := by
    rcases v with v | v
    · rw [← ef_Nadd hQ, show 2 * i - 1 + 2 = 2 * i + 1 by omega] at v
      exact v.2
    · exact absurd v.2.1 (eN_odd hQ h1 h8)
  refine hk r H' (jsh_fJ hs f2 (zSb_18 ho)) (jfJ_trans hf f2) (zodds_snoc (fun k hk2 => zP5_fJ f ?_ ?_ ?_ ?_ (hod k hk2)) hv) (zP5_fJ f ?_ ?_ ?_ ?_ h2)
  all_goals (unfold zS5; omega)
end ODD
def eBx : Nat := 55066263022277343669578718895168534326250603453777594175500187360389116729240
def eBy : Nat := 32670510020758816978083085130507043184471273380659243275938904335757337482424
def eB : ef × ef := (ef_i eBx, ef_i eBy)
theorem eB_c : eg_c e7 eB := by
  unfold eg_c
  decide +kernel
theorem sBx {H : jH} (hs : jsh H) : zN8 H 10 eBx ∧ zN8 H 11 eBy := by
  refine ⟨⟨fun i => eBx / 4294967296 ^ i % 4294967296, fun i hi => ⟨?_, Nat.mod_lt _ (by decide)⟩, by decide +kernel⟩, ⟨fun i => eBy / 4294967296 ^ i % 4294967296, fun i hi => ⟨?_, Nat.mod_lt _ (by decide)⟩, by decide +kernel⟩⟩
  · rw [hs.2.2.1 10 (by decide) i]
    have : ∀ i, i < 8 → (jvals.getD 10 []).getD i 0 = Int32.ofNat (eBx / 4294967296 ^ i % 4294967296) := by decide +kernel
    exact this i hi
  · rw [hs.2.2.1 11 (by decide) i]
    have : ∀ i, i < 8 → (jvals.getD 11 []).getD i 0 = Int32.ofNat (eBy / 4294967296 ^ i % 4294967296) := by decide +kernel
    exact this i hi
/-- the base's multiples are there, if it is said so -/
def zBase (H : jH) : Prop := jI H 50 16 = 0 ∨ (jI H 50 16 = 1 ∧ zodds H 104 eB 8)
def zSB : Nat → Prop := fun a => a = 50 ∨ zSb 104 a
section BASE
variable {R : Unit → jH → Prop}
theorem z8_base74 {H0 : jH} (hk : ∀ H', jfJ zSB H0 H' → jI H' 50 16 = 1 → (∀ j, j ≠ 16 → jI H' 50 j = jI H0 50 j) → zodds H' 104 eB 8 → R () H') :
    ∀ (d i fu : Nat) (H : jH), i + d = 8 → d < fu → 1 ≤ i → jsh H → jfJ (zSb 104) H0 H → zodds H 104 eB i → zP5 H 96 (eN 2 eB) → jT (F_8_setBase_74 fu 50 (Int32.ofNat i) H) R := by
  intro d
  induction d with
  | zero =>
    intro i fu H hi hfu h1 hs hf hod h2
    obtain ⟨fu, rfl⟩ : ∃ k, fu = k + 1 := ⟨fu - 1, by omega⟩
    obtain rfl : i = 8 := by omega
    unfold F_8_setBase_74 B_8_setBase_74
    refine jT_pos (by decide) (jT_g ⟨by rw [sK_50 hs], Or.inr rfl⟩ (jT_l (jT_ret (hk _ (jfJ_sI (jfJ_mono hf fun a ha => Or.inr ha) (Or.inl rfl)) jI_sIe (fun j hj => (jI_sIn hj).trans (hf.2.2.2.2.2 50 (by unfold zSb; omega) j).2) fun k hk2 => ?_))))
    have f1 : jfJ (· = 50) H (jsI H 50 16 1) := jfJ_sI jfJ_refl rfl
    exact zP5_fJ f1 (by show ¬ _ = 50; omega) (by show ¬ _ = 50; omega) (by show ¬ _ = 50; omega) (by show ¬ _ = 50; omega) (hod k hk2)
  | succ d ih =>
    intro i fu H hi hfu h1 hs hf hod h2
    obtain ⟨fu, rfl⟩ : ∃ k, fu = k + 1 := ⟨fu - 1, by omega⟩
    unfold F_8_setBase_74 B_8_setBase_74
    have e1 : Int32.ofNat i + 1 = Int32.ofNat (i + 1) := jo_add (a := i) (b := 1)
    have em : Int32.ofNat i - 1 = Int32.ofNat (i - 1) := jo_sub (a := i) (b := 1) h1
    have k50 : ∀ H, jsh H → (jK H 50).1 = 8 := fun H hs => by rw [sK_50 hs]
    have ho : (104 : Nat) = 104 ∨ (104 : Nat) = 108 := Or.inl rfl
    have hp5 : ∀ H, jsh H → (jK H (104 + 8 * i)).1 = 5 := fun H hs => by rw [(sPt hs (zpt_o (i := i) ho (by omega))).1]
    refine jT_neg (by rw [show (8 : Int32) = Int32.ofNat 8 from rfl, jo_le (by omega) (by omega)]; omega) (jT_g (k50 H hs) ?_)
    rw [sR_50_12 hs, em, jo_nat (n := i) (by omega), jo_nat (n := i - 1) (by omega), (sOdd hs (i := i) (by omega)).1]
    refine jT_g (by rw [(sK94 hs).1]; exact ⟨rfl, jo_in (by omega) (by show i < 8; omega)⟩) (jT_g (k50 H hs) (jT_g (by rw [(sK94 hs).1]; exact ⟨rfl, jo_in (by omega) (by show i - 1 < 8; omega)⟩) (jT_g (hp5 H hs) ?_)))
    refine z5_odd1 (o := 104) ho h1 (by omega) rfl (sOdd hs (by omega)).1 hs hf hod h2 fun H1 s1 f1 o1 t1 p1 => ?_
    refine jT_g (k50 H1 s1) ?_
    rw [sR_50_12 s1, (sOdd s1 (i := i) (by omega)).1]
    refine jT_g (by rw [(sK94 s1).1]; exact ⟨rfl, jo_in (by omega) (by show i < 8; omega)⟩) (jT_g (k50 H1 s1) (jT_g (k50 H1 s1) (jT_g (hp5 H1 s1) ?_)))
    refine z5_odd2 (o := 104) eB_c ho h1 (by omega) rfl (sR_50_14 s1) (sR_50_9 s1) s1 f1 o1 t1 p1 fun r H2 s2 f2 o2 t2 => jT_l ?_
    rw [e1]
    exact ih (i + 1) fu H2 (by omega) (by omega) (by omega) s2 f2 o2 t2
theorem z8_setBase {H : jH} (hs : jsh H) (hb : zBase H) (hk : ∀ H', jfJ zSB H H' → (∀ j, j ≠ 16 → jI H' 50 j = jI H 50 j) → jI H' 50 16 = 1 → zodds H' 104 eB 8 → R () H') : jT (F_8_setBase 50 H) R := by
  have k50 : ∀ H, jsh H → (jK H 50).1 = 8 := fun H hs => by rw [sK_50 hs]
  have z104 : zpt 104 := ⟨2, by decide, rfl⟩
  unfold F_8_setBase
  refine jT_g (k50 H hs) ?_
  rcases hb with hb | ⟨hb, hod⟩
  rotate_left
  · exact jT_neg (by rw [hb]; decide) (jT_ret (hk H jfJ_refl (fun _ _ => rfl) hb hod))
  refine jT_pos hb (jT_g (k50 H hs) ?_)
  have go : ∀ H1, jsh H1 → jfJ (zSb 104) H H1 → (jK H1 50).1 = 8 ∧ jR H1 50 12 = 94 ∧ ((jK H1 94).1 = 115 ∧ jin (0) (jK H1 94).2) ∧ jR H1 94 (0 : Int32).toNatClampNeg = 104 ∧ (jK H1 104).1 = 5 ∧ jR H1 104 0 = 105 ∧ jR H1 104 1 = 106 ∧ jR H1 104 2 = 107 ∧ jK H1 105 = (103, 10) ∧ jK H1 106 = (103, 10) ∧ jK H1 107 = (103, 10) := fun H1 h1 _ => by
    obtain ⟨a1, ⟨a2, a3, a4⟩, a5, a6, a7⟩ := sPt h1 z104
    exact ⟨k50 H1 h1, sR_50_12 h1, by rw [(sK94 h1).1]; exact ⟨rfl, by decide⟩, (sOdd h1 (i := 0) (by decide)).1, by rw [a1], a2, a3, a4, a5, a6, a7⟩
  obtain ⟨a1, a2, a3, a4, a5, a6, a7, a8, a9, a10, a11⟩ := go H hs jfJ_refl
  rw [a2]
  refine jT_g a3 ?_
  rw [a4]
  refine jT_g a5 (jT_b (z8_spread (r := 10) (t := 105) rfl a6 (sK hs (a := 10) (q := (100, 8)) rfl (by decide) (by decide)) a9 (sBx hs).1 fun H1 f1 v1 => ?_))
  have f1' : jfJ (zSb 104) H H1 := jfL_J (jfL_mono f1 fun a ha => by unfold zSb; omega)
  have s1 := jsh_fJ hs f1' (zSb_18 (Or.inl rfl))
  obtain ⟨b1, b2, b3, b4, b5, b6, b7, b8, b9, b10, b11⟩ := go H1 s1 f1'
  refine jT_g b1 ?_
  rw [b2]
  refine jT_g b3 ?_
  rw [b4]
  refine jT_g b5 (jT_b (z8_spread (r := 11) (t := 106) rfl b7 (sK s1 (a := 11) (q := (100, 8)) rfl (by decide) (by decide)) b10 (sBx s1).2 fun H2 f2 v2 => ?_))
  have f2' : jfJ (zSb 104) H H2 := jfJ_L f1' f2 fun a ha => by unfold zSb; omega
  have s2 := jsh_fJ hs f2' (zSb_18 (Or.inl rfl))
  obtain ⟨c1, c2, c3, c4, c5, c6, c7, c8, c9, c10, c11⟩ := go H2 s2 f2'
  refine jT_g c1 ?_
  rw [c2]
  refine jT_g c3 ?_
  rw [c4]
  have v1' : zL H2 105 (ef_i eBx) 67108863 := zL_fL v1 f2 (by show ¬ (105 : Nat) = 106; decide)
  refine jT_g c5 (jT_b (z5_unit (p := 104) (x := ef_i eBx) (y := ef_i eBy) s2 z104 v1' (by decide) v2 (by decide) eB_c fun H3 f3 v3 => ?_))
  have f3' : jfJ (zSb 104) H H3 := jfJ_trans f2' (jfJ_mono f3 fun a ha => by unfold zS4 at ha; unfold zSb; omega)
  have s3 := jsh_fJ hs f3' (zSb_18 (Or.inl rfl))
  obtain ⟨d1, d2, d3, d4, d5, d6, d7, d8, d9, d10, d11⟩ := go H3 s3 f3'
  have g96 : ∀ H, jsh H → (jK H 96).1 = 5 := fun H hs => by rw [(sPt hs zpt_96).1]
  refine jT_g d1 (jT_g d1 ?_)
  rw [d2]
  refine jT_g d3 ?_
  rw [d4, sR_50_14 s3]
  refine jT_g (g96 H3 s3) (jT_b (z5_set s3 zpt_96 z104 (by decide) v3 fun H4 f4 v4 => ?_))
  rw [if_pos rfl] at v4
  have v34 : zP5 H4 104 (some (ef_i eBx, ef_i eBy)) := zP5_fJ f4 (by unfold zS4; omega) (by unfold zS4; omega) (by unfold zS4; omega) (by unfold zS4; omega) v3
  have f4' : jfJ (zSb 104) H H4 := jfJ_trans f3' (jfJ_mono f4 fun a ha => by unfold zS4 at ha; unfold zSb; omega)
  have s4 := jsh_fJ hs f4' (zSb_18 (Or.inl rfl))
  refine jT_g (k50 H4 s4) (jT_g (k50 H4 s4) ?_)
  rw [sR_50_14 s4, sR_50_9 s4]
  refine jT_g (g96 H4 s4) (jT_b (z5_twice s4 zpt_96 v4 fun H5 f5 v5 => ?_))
  have v35 : zP5 H5 104 (eN 1 eB) := zP5_fJ f5 (by unfold zS5; omega) (by unfold zS5; omega) (by unfold zS5; omega) (by unfold zS5; omega) v34
  have f5' : jfJ (zSb 104) H H5 := jfJ_trans f4' (jfJ_mono f5 fun a ha => by unfold zS5 at ha; unfold zSb; omega)
  have s5 := jsh_fJ hs f5' (zSb_18 (Or.inl rfl))
  have e2 : eg_add ef_iv (some eB) (some eB) = eN 2 eB := rfl
  refine z8_base74 (H0 := H) (fun H' hf h1 hj ho => hk H' hf hj h1 ho) 7 1 jfuel H5 rfl (by unfold jfuel; omega) (by omega) s5 f5' (fun i hi => ?_) v5
  obtain rfl : i = 0 := by omega
  exact v35
end BASE
