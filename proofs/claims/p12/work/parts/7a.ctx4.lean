/-! The class reads a transaction. -/
theorem z10_init {t row : Nat} {s : Int32} {H : jH} (hs : jsh H) (ht : t < jn H) (h5 : 422 ≤ t) (hk : (jK H t).1 = 10) (hz : ∀ j, jI H t j = 0 ∧ jL H t j = 0) :
    jT (F_10_init t row s H) (fun _ h => jsh h ∧ jgx (fun a _ => a = t) 3 32 H h ∧ jn h = jn H + 3 ∧ jR h t 0 = row ∧ jR h t 3 = jn H ∧ jK h (jn H) = (101, 32) ∧ jI h t 1 = s ∧ (∀ j, j ≠ 1 → jI h t j = 0) ∧ (∀ j, jL h t j = 0)) := by
  unfold F_10_init
  refine jT_g (by unfold jF0; omega) (jT_g (by decide) ?_)
  refine st_new hs (kk := 32) rfl fun H1 hs1 n1 m1 k1 ko1 o1 z1 => ?_
  have c1 : (jK H1 t).1 = 10 := by rw [ko1 t ht]; exact hk
  refine st_sR hs1 c1 h5 fun H2 hs2 n2 m2 k2 i2 l2 b2 r2 o2 => jT_g (by decide) ?_
  refine st_new hs2 (kk := 0) rfl fun H3 hs3 n3 m3 k3 ko3 o3 z3 => ?_
  have c3 : (jK H3 t).1 = 10 := by rw [ko3 t (by omega), k2]; exact c1
  refine st_sR hs3 c3 h5 fun H4 hs4 n4 m4 k4 i4 l4 b4 r4 o4 => jT_g (by decide) ?_
  refine st_new hs4 (kk := 0) rfl fun H5 hs5 n5 m5 k5 ko5 o5 z5' => ?_
  have c5 : (jK H5 t).1 = 10 := by rw [ko5 t (by omega), k4]; exact c3
  refine st_sR hs5 c5 h5 fun H6 hs6 n6 m6 k6 i6 l6 b6 r6 o6 => ?_
  have c6 : (jK H6 t).1 = 10 := by rw [k6]; exact c5
  refine st_sR hs6 c6 h5 fun H7 hs7 n7 m7 k7 i7 l7 b7 r7 o7 => ?_
  have c7 : (jK H7 t).1 = 10 := by rw [k7]; exact c6
  have hI : ∀ a j, a < jn H → jI H7 a j = jI H a j := fun a j ha => by
    rw [i7, i6, (o5 a j (by omega)).1, i4, (o3 a j (by omega)).1, i2]
    exact (o1 a j ha).1
  have hL : ∀ a j, a < jn H → jL H7 a j = jL H a j := fun a j ha => by
    rw [l7, l6, (o5 a j (by omega)).2.1, l4, (o3 a j (by omega)).2.1, l2]
    exact (o1 a j ha).2.1
  have hB : ∀ a j, a < jn H → jB H7 a j = jB H a j := fun a j ha => by
    rw [b7, b6, (o5 a j (by omega)).2.2.2, b4, (o3 a j (by omega)).2.2.2, b2]
    exact (o1 a j ha).2.2.2
  have hR : ∀ a j, a < jn H → a ≠ t → jR H7 a j = jR H a j := fun a j ha hne => by
    rw [o7 a j (fun w => hne w.1), o6 a j (fun w => hne w.1), (o5 a j (by omega)).2.2.1, o4 a j (fun w => hne w.1), (o3 a j (by omega)).2.2.1, o2 a j (fun w => hne w.1)]
    exact (o1 a j ha).2.2.1
  have hK : ∀ a, a < jn H → jK H7 a = jK H a := fun a ha => by
    rw [k7, k6, ko5 a (by omega), k4, ko3 a (by omega), k2]
    exact ko1 a ha
  refine jT_g c7 (jT_l (jT_ret ⟨jsh_sI hs7 (by omega), ⟨?_, ?_, ?_, hK, fun a j ha hn => ⟨?_, hL a j ha, hR a j ha hn, hB a j ha⟩⟩, ?_, r7, ?_, ?_, jI_sIe, fun j hj => ?_, fun j => ?_⟩))
  · show jn H ≤ jn H7
    omega
  · show jn H7 ≤ jn H + 3
    omega
  · show js H7 ≤ js H + 32
    omega
  · exact (jI_sIa hn).trans (hI a j ha)
  · show jn H7 = jn H + 3
    omega
  · show jR H7 t 3 = jn H
    rw [o7 t 3 (by omega), o6 t 3 (by omega), (o5 t 3 (by omega)).2.2.1, o4 t 3 (by omega), (o3 t 3 (by omega)).2.2.1]
    exact r2
  · show jK H7 (jn H) = (101, 32)
    rw [k7, k6, ko5 (jn H) (by omega), k4, ko3 (jn H) (by omega), k2]
    exact k1
  · exact (jI_sIn hj).trans ((hI t j ht).trans (hz j).1)
  · exact (hL t j ht).trans (hz j).2
/-- a transaction's object that stands for what was read -/
def zTx10 (t row len s : Nat) (b : Nat → UInt8) (x : List (Nat × Nat) × List (Nat × Nat) × Nat) (h : jH) : Prop :=
  (jK h t).1 = 10 ∧ jR h t 0 = row ∧ jI h t 1 = Int32.ofNat s ∧ jI h t 2 = Int32.ofNat (x.2.2 - s) ∧ jR h t 3 = t + 1 ∧ jK h (t + 1) = (101, 32) ∧
  jR h t 4 = t + 4 ∧ jK h (t + 4) = (100, x.1.length) ∧ zPl h (t + 4) (x.1.map (·.1)) ∧ jR h t 5 = t + 5 ∧ jK h (t + 5) = (100, x.2.1.length) ∧ zPl h (t + 5) (x.2.1.map (·.1)) ∧
  jL h t 6 = zsumv b len (x.2.1.map (·.1)) ∧ jI h t 7 = zany b len (x.1.map (·.1)) ∧ jn h = t + 6
theorem z10_read {row len s : Nat} {b : Nat → UInt8} {H : jH} (hs : jsh H) (hk : jK H row = (101, len)) (hrow : row < jn H) (hlen : len < 2000000) (hss : s ≤ len) (hb : jB H row = b) :
    jT (F_10_read row (Int32.ofNat s) H) (fun r h => jsh h ∧ jgx (fun _ _ => False) 6 56 H h ∧ ((∃ x, ztx b s len = some x ∧ r = jn H ∧ zTx10 (jn H) row len s b x h) ∨ (ztx b s len = none ∧ r = 0))) := by
  unfold F_10_read
  have h513 : 422 ≤ jn H := hs.2.2.2.2.1
  refine st_new hs (kk := 8) rfl fun H1 hs1 n1 m1 k1 ko1 o1 z1 => ?_
  generalize ht : jn H = t at *
  have hg1 : jgx (fun _ _ => False) 1 8 H H1 := ⟨by omega, by omega, by omega, fun a ha => ko1 a (by omega), fun a j ha _ => o1 a j (by omega)⟩
  refine jT_g (by unfold jF0; omega) (jT_b (jT_imp (z10_init (row := row) (s := Int32.ofNat s) hs1 (by omega) h513 (by rw [k1]) (fun j => ⟨(z1 j).1, (z1 j).2.1⟩)) fun _ H2 q => ?_))
  obtain ⟨hs2, g2, n2, r20, r23, k2n, i21, i2z, l2z⟩ := q
  rw [n1] at r23 k2n n2
  have hO2 : zO10 t row len H2 := ⟨hs2, by rw [jgx_K g2 (by omega), k1], r20, by rw [jgx_K g2 (by omega), ko1 row (by omega)]; exact hk, hlen, h513, by omega⟩
  have b2 : jB H2 row = b := by
    rw [← hb]
    exact funext fun j => (jgx_B g2 (by omega) (by omega)).trans ((o1 row j (by omega)).2.2.2)
  have e4 : Int32.ofNat s + 4 = Int32.ofNat (s + 4) := jo_add (a := s) (b := 4)
  rw [e4]
  refine jT_g hO2.2.1 (jT_b (jT_imp (z10_readInputs (b := b) (p := s + 4) hO2 b2 (by omega) (i2z 7 (by decide)) (by omega) (by omega)) fun r3 H3 q => ?_))
  obtain ⟨hO3, g3, q3⟩ := q
  have g13 : jgx (fun a _ => a = t) 5 48 H H3 := by
    have := jgx_trans (jgx_trans (S := fun a _ => a = t) (jgx_mono hg1 (fun a j _ w => absurd w id) (Nat.le_refl _) (Nat.le_refl _)) g2) (jgx_mono (S' := fun a _ => a = t) g3 (fun a j _ w => w.1) (Nat.le_refl _) (Nat.le_refl _))
    exact jgx_mono this (fun a j _ w => w) (by decide) (by decide)
  have fin0 : ∀ {H' : jH} {c d : Nat}, jsh H' → jgx (fun a _ => a = t) c d H H' → c ≤ 6 → d ≤ 56 → jgx (fun _ _ => False) 6 56 H H' := fun _ g hc hd => jgx_mono g (fun a j ha w => by omega) hc hd
  rcases q3 with ⟨l1, p1, w1, w2, w3, rfl, hp1, n3, r34, k34, pl3, i37⟩ | ⟨hno, rfl⟩
  · have hp1' : ¬ Int32.ofNat p1 = -1 := by
      intro w
      have := congrArg Int32.toInt w
      rw [jo_int (by omega)] at this
      have h1 : (-1 : Int32).toInt = -1 := rfl
      omega
    have b3 : jB H3 row = b := by
      rw [← b2]
      exact funext fun j => jgx_B g3 (by omega) (fun w => by have := w.1; omega)
    refine jT_pos hp1' (jT_g hO3.2.1 (jT_b (jT_imp (z10_readOutputs (b := b) (p := p1) hO3 b3 hp1 ?_ (by omega) (by omega)) fun r4 H4 q => ?_)))
    · exact (jgx_L g3 (by omega) (fun w => by have := w.2; omega)).trans (l2z 6)
    obtain ⟨hO4, g4, q4⟩ := q
    have g14 : jgx (fun a _ => a = t) 6 56 H H4 := jgx_trans g13 (jgx_mono (S' := fun a _ => a = t) g4 (fun a j _ w => w.1) (Nat.le_refl _) (Nat.le_refl _))
    unfold B_10_read_32 B_10_read_46
    rcases q4 with ⟨l2, p2, v1, v2, v3, rfl, hp2, n4, r45, k45, pl4, l46⟩ | ⟨hno, rfl⟩
    · have hp2' : ¬ Int32.ofNat p2 = -1 := by
        intro w
        have := congrArg Int32.toInt w
        rw [jo_int (by omega)] at this
        have h1 : (-1 : Int32).toInt = -1 := rfl
        omega
      have e44 : Int32.ofNat p2 + 4 = Int32.ofNat (p2 + 4) := jo_add (a := p2) (b := 4)
      have hkr : jK H4 row = (101, len) := hO4.2.2.2.1
      rw [hkr, e44]
      refine jT_neg hp2' (jT_g rfl ?_)
      have hle1 := zcxi_le w3
      have hle2 := zcxo_le v3
      by_cases hq : p2 + 4 ≤ len
      · obtain ⟨l1', hl1⟩ := zcxi_ztxi w3 (by omega)
        obtain ⟨l2', hl2⟩ := zcxo_ztxo v3 (by omega)
        have m1 : l1 = l1'.map (·.1) := by
          have := ztxi_zcxi hl1
          rw [w3] at this
          exact congrArg Prod.fst (Option.some.inj this)
        have m2 : l2 = l2'.map (·.1) := by
          have := ztxo_zcxo hl2
          rw [v3] at this
          exact congrArg Prod.fst (Option.some.inj this)
        have hx : ztx b s len = some (l1', l2', p2 + 4) := by
          unfold ztx
          rw [if_pos ⟨by omega, w2⟩, show s + 5 = s + 4 + 1 by omega, hl1, Option.bind_some, if_pos ⟨by omega, v2⟩, hl2, Option.bind_some, if_pos hq]
        refine jT_pos (by rw [jo_le (by omega) (by omega)]; exact hq) (jT_g hO4.2.1 (jT_l (jT_ret ?_)))
        have n3' : jn H3 = t + 5 := by omega
        have n2' : jn H2 = t + 4 := by omega
        rw [n2'] at r34 k34 pl3
        rw [n3'] at r45 k45 pl4
        have es : Int32.ofNat (p2 + 4) - Int32.ofNat s = Int32.ofNat (p2 + 4 - s) := jo_sub (by omega)
        rw [es]
        have hg : jgx (fun _ _ => False) 6 56 H (jsI H4 t 2 (Int32.ofNat (p2 + 4 - s))) := by
          obtain ⟨a1, a2, a3, a4, a5⟩ := g14
          exact ⟨a1, a2, a3, a4, fun a j ha _ => ⟨(jI_sIa (by omega)).trans (a5 a j ha (by omega)).1, (a5 a j ha (by omega)).2⟩⟩
        refine ⟨jsh_sI hO4.1 (by omega), hg, Or.inl ⟨(l1', l2', p2 + 4), hx, rfl, ?_⟩⟩
        refine ⟨hO4.2.1, hO4.2.2.1, ?_, jI_sIe, ?_, ?_, ?_, ?_, ?_, r45, ?_, ?_, ?_, ?_, ?_⟩
        · refine (jI_sIn (by decide)).trans ((jgx_I g4 (by omega) (fun w => by have := w.2; omega)).trans ((jgx_I g3 (by omega) (fun w => by have := w.2; omega)).trans i21))
        · exact (jgx_R g4 (by omega) (fun w => by have := w.2; omega)).trans ((jgx_R g3 (by omega) (fun w => by have := w.2; omega)).trans r23)
        · show jK H4 (t + 1) = (101, 32)
          rw [jgx_K g4 (by omega), jgx_K g3 (by omega)]
          exact k2n
        · exact (jgx_R g4 (by omega) (fun w => by have := w.2; omega)).trans r34
        · show jK H4 (t + 4) = (100, l1'.length)
          rw [jgx_K g4 (by omega), k34, ztxi_len hl1]
        · rw [m1] at pl3
          intro k q hkq
          exact (jI_sIa (by omega)).trans ((jgx_I g4 (by omega) (fun w => by have := w.1; omega)).trans (pl3 k q hkq))
        · show jK H4 (t + 5) = (100, l2'.length)
          rw [k45, ztxo_len hl2]
        · rw [m2] at pl4
          intro k q hkq
          exact (jI_sIa (by omega)).trans (pl4 k q hkq)
        · rw [m2] at l46
          exact l46
        · rw [m1] at i37
          exact (jI_sIn (by decide)).trans ((jgx_I g4 (by omega) (fun w => by have := w.2; omega)).trans i37)
        · show jn H4 = t + 6
          omega
      · refine jT_neg (by rw [jo_le (by omega) (by omega)]; exact hq) (jT_ret ⟨hO4.1, fin0 hO4.1 g14 (by decide) (by decide), Or.inr ⟨?_, rfl⟩⟩)
        cases hx : ztx b s len with
        | none => rfl
        | some x =>
          exfalso
          unfold ztx at hx
          rw [if_pos ⟨by omega, w2⟩] at hx
          obtain ⟨a, ha, hx⟩ := Option.bind_eq_some_iff.mp hx
          have e1 := ztxi_zcxi (l := a.1) (q := a.2) ha
          rw [show s + 5 = s + 4 + 1 by omega, w3] at e1
          have ep : p1 = a.2 := congrArg Prod.snd (Option.some.inj e1)
          rw [← ep, if_pos ⟨by omega, v2⟩] at hx
          obtain ⟨c, hc, hx⟩ := Option.bind_eq_some_iff.mp hx
          have e2 := ztxo_zcxo (l := c.1) (q := c.2) hc
          rw [v3] at e2
          have eq : p2 = c.2 := congrArg Prod.snd (Option.some.inj e2)
          rw [← eq, if_neg hq] at hx
          exact absurd hx (by simp)
    · refine jT_pos rfl (jT_ret ⟨hO4.1, fin0 hO4.1 g14 (by decide) (by decide), Or.inr ⟨?_, rfl⟩⟩)
      cases hx : ztx b s len with
      | none => rfl
      | some x =>
        exfalso
        unfold ztx at hx
        rw [if_pos ⟨by omega, w2⟩] at hx
        obtain ⟨a, ha, hx⟩ := Option.bind_eq_some_iff.mp hx
        have e1 := ztxi_zcxi (l := a.1) (q := a.2) ha
        rw [show s + 5 = s + 4 + 1 by omega, w3] at e1
        have ep : p1 = a.2 := congrArg Prod.snd (Option.some.inj e1)
        rw [← ep] at hx
        by_cases hc2 : p1 + 1 ≤ len ∧ (b p1).toNat ≤ 8
        · rw [if_pos hc2] at hx
          obtain ⟨c, hc, hx⟩ := Option.bind_eq_some_iff.mp hx
          exact hno ⟨_, c.2, by omega, hc2.2, ztxo_zcxo (l := c.1) (q := c.2) hc⟩
        · rw [if_neg hc2] at hx
          exact absurd hx (by simp)
  · unfold B_10_read_32 B_10_read_46
    refine jT_neg (fun w => w rfl) (jT_pos rfl (jT_ret ⟨hO3.1, fin0 hO3.1 g13 (by decide) (by decide), Or.inr ⟨?_, rfl⟩⟩))
    cases hx : ztx b s len with
    | none => rfl
    | some x =>
      exfalso
      unfold ztx at hx
      by_cases hc : s + 5 ≤ len ∧ (b (s + 4)).toNat ≤ 8
      · rw [if_pos hc] at hx
        obtain ⟨a, ha, hx⟩ := Option.bind_eq_some_iff.mp hx
        have e1 := ztxi_zcxi (l := a.1) (q := a.2) ha
        exact hno ⟨_, a.2, by omega, hc.2, by rw [show s + 4 + 1 = s + 5 by omega]; exact e1⟩
      · rw [if_neg hc] at hx
        exact absurd hx (by simp)
