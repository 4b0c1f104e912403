/-! A block of a message: the class reads it, whole. -/
def b_fn (l : List UInt8) : Nat → UInt8 := fun i => l.getD i 0
/-- bits and time of a block's bytes -/
def b_b4 (by_ : List UInt8) : Nat := zho (b_fn by_) 76 4
def b_t4 (by_ : List UInt8) : Nat := zho (b_fn by_) 72 4
theorem b_row_fn {H : jH} {r p : Nat} {l : List UInt8} (h : zRow H r p l) : zag (b_fn l) 0 (jB H r) p l.length := fun i hi => by
  rw [Nat.zero_add]
  exact h i _ (getD_of hi)
theorem b_zho_row {H : jH} {r p q k : Nat} {l : List UInt8} (h : zRow H r p l) (hq : q ≤ l.length) (hk : k ≤ q) : zho (jB H r) (p + q) k = zho (b_fn l) q k := by
  have := zho_move (b_row_fn h) hq k hk
  rw [this, Nat.zero_add]
/-- what the class's object of a block that was read is -/
def b_nb (B row len : Nat) (by_ : List UInt8) (txs : List b_t) (H : jH) : Prop :=
  ((jK H B).1 = 0 ∧ jR H B 0 = row ∧ jR H B 1 = B + 1 ∧ jR H B 4 = B + 4 ∧ jR H B 5 = 0 ∧ jR H B 8 = B + 3) ∧ (jI H B 2 = Int32.ofNat (b_b4 by_) ∧ jL H B 3 = Int64.ofNat (b_t4 by_) ∧ jI H B 6 = 0 ∧ jI H B 7 = 0) ∧
  (jK H (B + 1) = (101, 32) ∧ jK H (B + 3) = (100, 8) ∧ jK H (B + 4) = (113, txs.length) ∧ jK H row = (101, len)) ∧ zRow H row 1 by_ ∧ zRow H (B + 1) 0 (b_hs (by_.take 80)) ∧ b_rdx (B + 5) (B + 4) row len txs H ∧ B + 5 ≤ jn H
section RD1
variable {Q : Nat → jH → Prop} {H0 : jH} {row len : Nat} {by_ : List UInt8}
theorem z0_read (hs : jsh H0) (hkr : jK H0 row = (101, len)) (hrow : 422 ≤ row ∧ row < jn H0) (hlen : by_.length + 1 = len) (hl : len ≤ 2000) (hz : zRow H0 row 1 by_)
    (hk : ∀ txs H, b_lay by_ txs → (∀ x ∈ txs, w_ty x.2.1 x.2.2 ∧ x.1 = b_hs x.2.1) → jsh H → jgx b_Th3 77 800 H0 H → b_nb (jn H0) row len by_ txs H → Q (jn H0) H)
    (hk0 : ∀ H, (∀ txs, b_lay by_ txs → (∀ x ∈ txs, w_ty x.2.1 x.2.2) → False) → jsh H → jgx b_Th3 77 800 H0 H → Q 0 H) : jT (F_0_read row 43 H0) Q := by
  have hb : ∀ i, i < by_.length → jB H0 row (1 + i) = by_.getD i 0 := fun i hi => hz i _ (getD_of hi)
  have h513 : 422 ≤ jn H0 := hs.2.2.2.2.1
  unfold F_0_read
  refine jT_b (jT_eq (z10_sizeAt (at_ := 81) (most := 12) hkr (by omega) (by decide) (by decide)) (jT_ret ?_))
  unfold zsz
  by_cases c : 81 < len ∧ (jB H0 row 81).toNat ≤ 12
  · obtain ⟨c1, c2⟩ := c
    rw [if_pos (show 81 < len ∧ (jB H0 row 81).toNat ≤ 12 from ⟨c1, c2⟩)]
    obtain ⟨cn, hcn⟩ : ∃ cn, (jB H0 row 81).toNat = cn := ⟨_, rfl⟩
    rw [hcn] at c2 ⊢
    have e80 : (by_.getD 80 0).toNat = cn := by rw [← hcn, ← hb 80 (by omega)]
    refine jT_pos (by show Int32.ofNat 0 ≤ _; rw [jo_le (by decide) (by omega)]; omega) ?_
    refine st_new hs (kk := 9) rfl fun H1 s1 n1 m1 k1 ko1 o1 z1 => ?_
    obtain ⟨t, ht⟩ : ∃ t, t = jn H0 := ⟨_, rfl⟩
    rw [← ht] at k1 z1 hk n1 ⊢
    have eB1 : jB H1 row = jB H0 row := funext fun j => (o1 row j hrow.2).2.2.2
    have kr1 : jK H1 row = (101, len) := (ko1 row hrow.2).trans hkr
    refine jT_g (by unfold jF0; omega) (jT_b (jT_imp (z0_init s1 (by omega) (by omega) (by rw [k1]) kr1 (by omega) (by omega) (by omega) (by omega) fun j => ⟨(z1 j).1, (z1 j).2.1, (z1 j).2.2.1⟩) fun _ H2 q => ?_))
    obtain ⟨s2, g2, n2, ⟨r0, r1, r4, r8, r5⟩, ⟨q1, q2, q3⟩, i2, l3, iz⟩ := q
    rw [n1] at r1 r4 r8 q1 q2 q3 n2
    have hgn : jgn (Int32.ofNat cn) := by
      have : ∀ u, u ≤ 12 → jgn (Int32.ofNat u) := by decide
      exact this cn c2
    refine jT_g hgn ?_
    refine st_new s2 (kk := cn) (jo_nat (by omega)) fun H3 s3 n3 m3 k3 ko3 o3 z3 => ?_
    have en2 : jn H2 = t + 4 := by omega
    rw [en2] at k3 z3 n3 ⊢
    have kt3 : (jK H3 t).1 = 0 := by rw [ko3 t (by omega), jgx_K g2 (by omega), k1]
    refine jT_g kt3 (jT_l ?_)
    have s4 : jsh (jsR H3 t 4 (t + 4)) := jsh_sR s3 (by omega)
    have g4 : jgx (fun _ _ => False) 5 61 H0 (jsR H3 t 4 (t + 4)) := by
      refine ⟨?_, ?_, ?_, fun a ha => ?_, fun a j ha _ => ?_⟩
      · show jn H0 ≤ jn H3
        omega
      · show jn H3 ≤ _
        omega
      · have := g2.2.2.1
        show js H3 ≤ _
        omega
      · exact (ko3 a (by omega)).trans ((jgx_K g2 (by omega)).trans (ko1 a ha))
      · have e3 := o3 a j (by omega)
        have e2 := g2.2.2.2.2 a j (by omega) (by omega)
        have e1 := o1 a j ha
        exact ⟨e3.1.trans (e2.1.trans e1.1), e3.2.1.trans (e2.2.1.trans e1.2.1), (jup_a (by omega)).trans (e3.2.2.1.trans (e2.2.2.1.trans e1.2.2.1)), e3.2.2.2.trans (e2.2.2.2.trans e1.2.2.2)⟩
    have w4 : jR (jsR H3 t 4 (t + 4)) t 4 = t + 4 := jR_sRe
    have wn : ∀ j, j ≠ 4 → jR (jsR H3 t 4 (t + 4)) t j = jR H2 t j := fun j hj => (jR_sRn hj).trans (o3 t j (by omega)).2.2.1
    have wi : ∀ j, jI (jsR H3 t 4 (t + 4)) t j = jI H2 t j := fun j => (o3 t j (by omega)).1
    have wl : ∀ j, jL (jsR H3 t 4 (t + 4)) t j = jL H2 t j := fun j => (o3 t j (by omega)).2.1
    have kq1 : jK (jsR H3 t 4 (t + 4)) (t + 1) = (101, 32) := (ko3 _ (by omega)).trans q1
    have kq3 : jK (jsR H3 t 4 (t + 4)) (t + 3) = (100, 8) := (ko3 _ (by omega)).trans q3
    have kA : jK (jsR H3 t 4 (t + 4)) (t + 4) = (113, cn) := k3
    have kt4 : (jK (jsR H3 t 4 (t + 4)) t).1 = 0 := kt3
    have n4 : jn (jsR H3 t 4 (t + 4)) = t + 5 := n3
    obtain ⟨H4, e4⟩ : ∃ H4, H4 = jsR H3 t 4 (t + 4) := ⟨_, rfl⟩
    rw [← e4] at s4 g4 w4 wn wi wl kq1 kq3 kA kt4 n4 ⊢
    have eB4 : jB H4 row = jB H0 row := funext fun j => jgx_B g4 hrow.2 id
    have hz4 : zRow H4 row 1 by_ := zRow_eq hz fun i _ => by rw [eB4]
    have big : ∀ {S : Nat → Nat → Prop} {H : jH}, jgx S (6 * cn) (56 * cn) H4 H → (∀ a j, a < jn H0 → S a j → b_Th3 a j) → jgx b_Th3 77 800 H0 H := fun hg hS => by
      have h1 := jgx_trans (jgx_mono (S' := fun a j => b_Th3 a j ∨ jn H0 ≤ a) g4 (fun a j _ w => absurd w id) (Nat.le_refl _) (Nat.le_refl _)) (jgx_mono (S' := fun a j => b_Th3 a j ∨ jn H0 ≤ a) hg (fun a j _ w => by
        by_cases q : a < jn H0
        · exact Or.inl (hS a j q w)
        · exact Or.inr (by omega)) (Nat.le_refl _) (Nat.le_refl _))
      exact jgx_mono h1 (fun a j ha w => w.resolve_right (by omega)) (by omega) (by omega)
    refine z0_rd39 (t := t) (A := t + 4) (nmr := t + 1) s4 ((jgx_K g4 hrow.2).trans hkr) (by omega) ⟨hrow.1, by omega⟩ ⟨by omega, by omega, kA⟩ (by omega) c2 ⟨by omega, by omega, kt4, w4, (wn 1 (by decide)).trans r1⟩ (by omega) ⟨by omega, by omega, kq1⟩ ⟨by omega, by omega⟩ (fun txs H t1 t2 t3 t4 t5 t6 t7 t8 => ?_) (fun H h0 h1 h2 => hk0 H (fun txs hlay hty => ?_) h1 (big h2 fun a j ha w => by unfold b_Trd at w; unfold b_Th3 at w ⊢; omega)) (by omega) cn 0 jfuel 82 H4 [] (Nat.zero_add _) (by unfold jfuel; omega) s4 (jgx_mono jgx_refl (fun a j _ w => w) (Nat.zero_le _) (Nat.zero_le _)) rfl rfl (by omega) (fun i u hi => by cases hi) (fun x hx => by cases hx) (fun j x hj => by cases hj) ?_
    · have hlay : b_lay by_ txs := by
        refine ⟨by omega, by omega, by omega, by rw [e80, t1], ?_⟩
        refine List.ext_getElem? fun i => ?_
        by_cases ci : i < b_tot txs
        · have h3 := t3 i _ (getD_of (l := b_fl txs) (by rw [b_fl_len]; exact ci))
          rw [eB4, show 82 + i = 1 + (81 + i) by omega, hb (81 + i) (by omega)] at h3
          rw [List.getElem?_drop, getD_of (l := by_) (i := 81 + i) (by omega), getD_of (l := b_fl txs) (i := i) (by rw [b_fl_len]; exact ci), h3]
        · rw [List.getElem?_eq_none (by rw [List.length_drop]; omega), List.getElem?_eq_none (by rw [b_fl_len]; omega)]
      refine hk txs H hlay t4 t5 (big t6 fun a j ha w => by unfold b_Trd at w; unfold b_Th3 at w ⊢; omega) ?_
      have nS : ∀ j, ¬ (b_Trd (t + 4) t j ∨ (t = t + 1 ∧ j < 32)) := fun j w => by unfold b_Trd b_Th3 at w; omega
      have nA : ∀ j, ¬ (b_Trd (t + 4) row j ∨ (row = t + 1 ∧ j < 32)) := fun j w => by unfold b_Trd b_Th3 at w; omega
      have fR : ∀ j, jR H t j = jR H4 t j := fun j => jgx_R t6 (by omega) (nS j)
      have fI : ∀ j, jI H t j = jI H4 t j := fun j => jgx_I t6 (by omega) (nS j)
      refine ⟨⟨by rw [jgx_K t6 (by omega)]; exact kt4, (fR 0).trans ((wn 0 (by decide)).trans r0), (fR 1).trans ((wn 1 (by decide)).trans r1), (fR 4).trans w4, (fR 5).trans ((wn 5 (by decide)).trans r5), (fR 8).trans ((wn 8 (by decide)).trans r8)⟩, ⟨?_, ?_, (fI 6).trans ((wi 6).trans (iz 6 (by decide))), (fI 7).trans ((wi 7).trans (iz 7 (by decide)))⟩, ⟨(jgx_K t6 (by omega)).trans kq1, (jgx_K t6 (by omega)).trans kq3, by rw [t1]; exact (jgx_K t6 (by omega)).trans kA, (jgx_K t6 (by omega)).trans ((jgx_K g4 hrow.2).trans hkr)⟩, zRow_eq hz4 fun i _ => jgx_B t6 (by omega) (nA _), fun i u hi => ?_, by rw [← n4]; exact t7, by have := t6.1; omega⟩
      · refine (fI 2).trans ((wi 2).trans (i2.trans ?_))
        rw [eB1, zlow_zho]
        exact congrArg Int32.ofNat (b_zho_row (q := 76) hz (by omega) (by decide))
      · refine (jgx_L t6 (by omega) (nS 3)).trans ((wl 3).trans (l3.trans ?_))
        rw [eB1, zlow_zho, b_zho_row (q := 72) hz (by omega) (by decide)]
        exact lw_of (zho_lt _ _ 4)
      · obtain ⟨q1, q2⟩ := b_hs_at hi
        rw [Nat.zero_add, q2, t8 i q1]
        have l80 : (by_.take 80).length = 80 := by rw [List.length_take]; omega
        rw [l80]
        refine congrFun (znm_eq fun k hk => ?_) i
        rw [eB4, hb k (by omega), List.getD_eq_getElem?_getD, List.getD_eq_getElem?_getD, List.getElem?_take, if_pos hk]
    · have e1 := b_lay_len hlay
      have e5 := hlay.2.2.2.1
      rw [e80] at e5
      have := b_prs_of (b := jB H4 row) (e := len) (txs := txs) (s := 82) hty (fun i u hi => ?_) (by omega)
      · rw [← e5] at this
        exact h0 _ (this.trans (by rw [show 82 + b_tot txs = len by omega]))
      · have hi2 := hi
        rw [← hlay.2.2.2.2, List.getElem?_drop] at hi2
        rw [eB4, show 82 + i = 1 + (81 + i) by omega]
        exact hz _ u hi2
    · cases b_prs (jB H4 row) len cn 82 with
      | none => rfl
      | some q => rfl
  · rw [if_neg c]
    refine jT_neg (by decide) (jT_ret (hk0 H0 (fun txs hlay _ => c ⟨by have := hlay.1; omega, ?_⟩) hs (jgx_mono jgx_refl (fun a j _ w => w) (Nat.zero_le _) (Nat.zero_le _))))
    have := hlay.2.2.2.1
    have := hlay.2.2.1
    have := hlay.1
    rw [hb 80 (by omega)]
    omega
end RD1
