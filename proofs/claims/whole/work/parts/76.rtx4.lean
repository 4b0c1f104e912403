/-! The reference's whole reading of a transaction. -/
def ztx (b : Nat → UInt8) (s e : Nat) : Option (List (Nat × Nat) × List (Nat × Nat) × Nat) :=
  if s + 5 ≤ e ∧ (b (s + 4)).toNat ≤ 8 then
    (ztxi b e (b (s + 4)).toNat (s + 5)).bind fun a =>
      if a.2 + 1 ≤ e ∧ (b a.2).toNat ≤ 8 then (ztxo b e (b a.2).toNat (a.2 + 1)).bind fun c => if c.2 + 4 ≤ e then some (a.1, c.1, c.2 + 4) else none else none
  else none
def zS17 (t : Nat) : Nat → Nat → Prop := fun a _ => t ≤ a ∧ a ≤ t + 8
theorem zSp_17 {t a j : Nat} (h : zSp t a j) : zS17 t a j := by
  unfold zSp at h
  unfold zS17
  omega
theorem zSo_17 {t a j : Nat} (h : zSo t a j) : zS17 t a j := by
  unfold zSo at h
  unfold zS17
  omega
theorem zSi_17 {t a j : Nat} (h : zSi t a j) : zS17 t a j := by
  unfold zSi at h
  unfold zS17
  omega
theorem ztxi_len {b : Nat → UInt8} {e : Nat} : ∀ {k p : Nat} {l : List (Nat × Nat)} {q : Nat}, ztxi b e k p = some (l, q) → l.length = k
  | 0, p, l, q, h => by
    have hl : [] = l := congrArg Prod.fst (Option.some.inj h)
    rw [← hl]
    rfl
  | k + 1, p, l, q, h => by
    unfold ztxi at h
    by_cases hc : p + 37 ≤ e ∧ (b (p + 36)).toNat ≤ 200 ∧ p + 41 + (b (p + 36)).toNat ≤ e
    · rw [if_pos hc] at h
      obtain ⟨w, hw, hq⟩ := Option.map_eq_some_iff.mp h
      have h1 : (p, (b (p + 36)).toNat) :: w.1 = l := congrArg Prod.fst hq
      rw [← h1, List.length_cons, ztxi_len (l := w.1) (q := w.2) hw]
    · rw [if_neg hc] at h
      exact absurd h (by simp)
theorem ztxo_len {b : Nat → UInt8} {e : Nat} : ∀ {k p : Nat} {l : List (Nat × Nat)} {q : Nat}, ztxo b e k p = some (l, q) → l.length = k
  | 0, p, l, q, h => by
    have hl : [] = l := congrArg Prod.fst (Option.some.inj h)
    rw [← hl]
    rfl
  | k + 1, p, l, q, h => by
    unfold ztxo at h
    by_cases hc : p + 9 ≤ e ∧ (b (p + 8)).toNat ≤ 200 ∧ p + 9 + (b (p + 8)).toNat ≤ e
    · rw [if_pos hc] at h
      obtain ⟨w, hw, hq⟩ := Option.map_eq_some_iff.mp h
      have h1 : (p, (b (p + 8)).toNat) :: w.1 = l := congrArg Prod.fst hq
      rw [← h1, List.length_cons, ztxo_len (l := w.1) (q := w.2) hw]
    · rw [if_neg hc] at h
      exact absurd h (by simp)
section RTX5
variable {t row len e : Nat} {b : Nat → UInt8} {H0 : jH}
/-- what is known where a transaction was read -/
def zTx17 (t row len s e : Nat) (b : Nat → UInt8) (x : List (Nat × Nat) × List (Nat × Nat) × Nat) (h : jH) : Prop :=
  zRd t row len e x.2.2 1 h ∧ jI h t 1 = Int32.ofNat s ∧ jI h t 4 = Int32.ofNat x.1.length ∧ jI h t 5 = Int32.ofNat x.2.1.length ∧ zRi t b h x.1 ∧ zRo t b h x.2.1
/-- what comes of the rest, from the outputs' number on -/
def zrest (b : Nat → UInt8) (e : Nat) (ins : List (Nat × Nat)) (p : Nat) : Option (List (Nat × Nat) × List (Nat × Nat) × Nat) :=
  if p + 1 ≤ e ∧ (b p).toNat ≤ 8 then (ztxo b e (b p).toNat (p + 1)).bind fun c => if c.2 + 4 ≤ e then some (ins, c.1, c.2 + 4) else none else none
def zRes (t row len s e : Nat) (b : Nat → UInt8) (H0 : jH) (o : Option (List (Nat × Nat) × List (Nat × Nat) × Nat)) (r : Int32) (h : jH) : Prop :=
  jsh h ∧ jfr (zS17 t) H0 h ∧ ((∃ x, o = some x ∧ r = Int32.ofNat x.2.2 ∧ zTx17 t row len s e b x h) ∨ (o = none ∧ r = -1))
theorem zRi_fr {S : Nat → Nat → Prop} {H H' : jH} {l : List (Nat × Nat)} (h : zRi t b H l) (hf : jfr S H H') (hS : ∀ a j, t < a → a ≤ t + 5 → ¬ S a j) : zRi t b H' l := by
  intro k q hk
  obtain ⟨a1, a2, a3, a4, a5⟩ := h k q hk
  exact ⟨(jfr_I hf (hS _ _ (by omega) (by omega))).trans a1, (jfr_L hf (hS _ _ (by omega) (by omega))).trans a2, (jfr_I hf (hS _ _ (by omega) (by omega))).trans a3, (jfr_I hf (hS _ _ (by omega) (by omega))).trans a4, (jfr_I hf (hS _ _ (by omega) (by omega))).trans a5⟩
theorem z17_43 {n s : Nat} (ht : zT t) (hn : n ≤ 8) : ∀ (d i f p : Nat) (g : Int32) (dn : List (Nat × Nat)) (H : jH), i + d = n → d < f → zRd t row len e p g H → (g = 0 ∨ g = 1) → jI H t 4 = Int32.ofNat n → jI H t 1 = Int32.ofNat s → jB H row = b → jfr (zS17 t) H0 H → (g = 1 → dn.length = i ∧ zRi t b H dn) →
    jT (F_17_read_43 f t (Int32.ofNat i) H) (zRes t row len s e b H0 (if g = 1 then (ztxi b e d p).bind fun a => zrest b e (dn ++ a.1) a.2 else none)) := by
  have htl := zT_le ht
  have nso : ∀ j, j = 1 ∨ j = 4 ∨ j = 5 → ¬ zSo t t j := fun j hj q => by unfold zSo at q; omega
  have nso2 : ∀ a j, t < a → a ≤ t + 5 → ¬ zSo t a j := fun a j h1 h2 q => by unfold zSo at q; omega
  have nsi : ∀ j, j = 1 ∨ j = 4 ∨ j = 5 → ¬ zSi t t j := fun j hj q => by unfold zSi at q; omega
  have nsp : ∀ j, j = 1 ∨ j = 4 ∨ j = 5 → ¬ zSp t t j := fun j hj q => by unfold zSp at q; omega
  have nsp2 : ∀ a j, t < a → a ≤ t + 5 → ¬ zSp t a j := fun a j h1 h2 q => by unfold zSp at q; omega
  intro d
  induction d with
  | zero =>
    intro i f p g dn H hi hf h hg h4 h1 hb hfr hdn
    obtain rfl : i = n := by omega
    obtain ⟨f, rfl⟩ : ∃ k, f = k + 1 := ⟨f - 1, by omega⟩
    unfold F_17_read_43 B_17_read_43
    rw [h4]
    have hrow := h.2.2.2.2.2.2.2.2.2
    refine jT_g (t_k h.1 ht) (jT_pos (by rw [jo_le (by omega) (by omega)]; omega) (jT_g (t_k h.1 ht) (z17_size_any (mo := 8) (Or.inl rfl) ht h hg fun m H1 p1 g1 hm h1' hg1 q1 w1 f1 => jT_g (t_k h1'.1 ht) (jT_l ?_))))
    have hA : zRd t row len e p1 g1 (jsI H1 t 5 (Int32.ofNat m)) := by
      obtain ⟨hs, b0, bk, b2, b3, b6, br⟩ := h1'
      exact ⟨jsh_sI hs (by omega), b0, bk, (jI_sIn (by decide)).trans b2, (jI_sIn (by decide)).trans b3, (jI_sIn (by decide)).trans b6, br⟩
    have hA4 : jI (jsI H1 t 5 (Int32.ofNat m)) t 4 = Int32.ofNat i := (jI_sIn (by decide)).trans ((jfr_I f1 (nsp 4 (by decide))).trans h4)
    have hA1 : jI (jsI H1 t 5 (Int32.ofNat m)) t 1 = Int32.ofNat s := (jI_sIn (by decide)).trans ((jfr_I f1 (nsp 1 (by decide))).trans h1)
    have hA5 : jI (jsI H1 t 5 (Int32.ofNat m)) t 5 = Int32.ofNat m := jI_sIe
    have hAb : jB (jsI H1 t 5 (Int32.ofNat m)) row = b := by
      rw [← hb]
      exact funext fun j => jfr_B f1 (fun q => by have := q.1; omega)
    have hAf : jfr (zS17 t) H0 (jsI H1 t 5 (Int32.ofNat m)) := jfr_sI (jfr_trans hfr (jfr_mono f1 fun a j q => zSp_17 q)) (by unfold zS17; omega)
    have hAi : g = 1 → zRi t b (jsI H1 t 5 (Int32.ofNat m)) dn := fun q => by
      have z := zRi_fr (hdn q).2 f1 nsp2
      intro k w hk
      obtain ⟨a1, a2, a3, a4, a5⟩ := z k w hk
      exact ⟨(jI_sIa (by omega)).trans a1, a2, (jI_sIa (by omega)).trans a3, (jI_sIa (by omega)).trans a4, (jI_sIa (by omega)).trans a5⟩
    generalize jsI H1 t 5 (Int32.ofNat m) = HA at *
    by_cases hg1' : g1 = 1
    · subst hg1'
      obtain ⟨hg0, c1, c2⟩ := q1.mp rfl
      obtain ⟨e1, e2⟩ := w1 rfl
      rw [hb] at c2 e2
      refine jT_imp (z17_152 (b := b) ht hm hA5 hAb m 0 jfuel p1 [] HA (by omega) (by unfold jfuel; omega) rfl hA jfr_refl (fun k q hk => absurd hk (by simp))) fun r h' q => ?_
      rw [if_pos hg0]
      have ez : ztxi b e 0 p = some ([], p) := rfl
      rw [ez, Option.bind_some, List.append_nil]
      unfold zrest
      rw [if_pos ⟨c1, c2⟩, ← e1, ← e2]
      rcases q with ⟨os, q, ho, r1, r2, r3, r4, r5⟩ | ⟨r1, r2, r3, r4⟩
      · rw [ho]
        refine ⟨r3.1, jfr_trans hAf (jfr_mono r5 fun a j q => zSo_17 q), Or.inl ⟨(dn, os, q + 4), ?_, r2, r3, ?_, ?_, ?_, ?_, ?_⟩⟩
        · rw [Option.bind_some, if_pos r1]
        · exact (jfr_I r5 (nso 1 (by decide))).trans hA1
        · rw [(hdn hg0).1]
          exact (jfr_I r5 (nso 4 (by decide))).trans hA4
        · rw [ztxo_len ho]
          exact (jfr_I r5 (nso 5 (by decide))).trans hA5
        · exact zRi_fr (hAi hg0) r5 nso2
        · exact r4
      · refine ⟨r3, jfr_trans hAf (jfr_mono r4 fun a j q => zSo_17 q), Or.inr ⟨?_, r2⟩⟩
        match hz : ztxo b e m p1 with
        | none => rfl
        | some w =>
          rw [Option.bind_some, if_neg]
          have := r1 w.1 w.2 hz
          omega
    · have hg10 : g1 = 0 := hg1.resolve_right hg1'
      subst hg10
      refine jT_imp (z17_152_bad ht hm hA5 m 0 jfuel p1 HA (by omega) (by unfold jfuel; omega) hA jfr_refl) fun r h' q => ?_
      refine ⟨q.2.1, jfr_trans hAf (jfr_mono q.2.2 fun a j q => zSo_17 q), Or.inr ⟨?_, q.1⟩⟩
      by_cases hg0 : g = 1
      · rw [if_pos hg0]
        have ez : ztxi b e 0 p = some ([], p) := rfl
        rw [ez, Option.bind_some]
        unfold zrest
        rw [if_neg]
        intro hc
        rw [hb] at q1
        exact hg1' (q1.mpr ⟨hg0, hc⟩)
      · rw [if_neg hg0]
  | succ d ih =>
    intro i f p g dn H hi hf h hg h4 h1 hb hfr hdn
    obtain ⟨f, rfl⟩ : ∃ k, f = k + 1 := ⟨f - 1, by omega⟩
    unfold F_17_read_43
    have hrow := h.2.2.2.2.2.2.2.2.2
    refine z17_in ht (by omega) hn h4 hb h hg fun H' p' g' h' hg' qc f' v o => ?_
    have hb' : jB H' row = b := by
      rw [← hb]
      exact funext fun j => jfr_B f' (fun q => by unfold zSi at q; omega)
    have := ih (i + 1) f p' g' (dn ++ [(p, (b (p + 36)).toNat)]) H' (by omega) (by omega) h' hg' ((jfr_I f' (nsi 4 (by decide))).trans h4) ((jfr_I f' (nsi 1 (by decide))).trans h1) hb' (jfr_trans hfr (jfr_mono f' fun a j q => zSi_17 q)) (fun q => ?_)
    · refine jT_imp this fun r h2 q => ?_
      have e : (if g' = 1 then (ztxi b e d p').bind fun a => zrest b e ((dn ++ [(p, (b (p + 36)).toNat)]) ++ a.1) a.2 else none) = (if g = 1 then (ztxi b e (d + 1) p).bind fun a => zrest b e (dn ++ a.1) a.2 else none) := by
        by_cases hg1 : g' = 1
        · obtain ⟨g0, hc⟩ := qc.mp hg1
          obtain ⟨ep, -⟩ := v hg1
          rw [if_pos hg1, if_pos g0, ep]
          conv => rhs; unfold ztxi
          rw [if_pos hc]
          cases ztxi b e d (p + 41 + (b (p + 36)).toNat) with
          | none => rfl
          | some w =>
            rw [Option.bind_some, Option.map_some, Option.bind_some, List.append_assoc]
            rfl
        · rw [if_neg hg1]
          by_cases g0 : g = 1
          · rw [if_pos g0]
            unfold ztxi
            rw [if_neg (fun hc => hg1 (qc.mpr ⟨g0, hc⟩))]
            rfl
          · rw [if_neg g0]
      rw [← e]
      exact q
    · obtain ⟨g0, hc⟩ := qc.mp q
      obtain ⟨ep, v1, v2, v3, v4, v5⟩ := v q
      obtain ⟨hl, hri⟩ := hdn g0
      refine ⟨by rw [List.length_append, hl]; rfl, fun k w hk => ?_⟩
      by_cases hki : k < dn.length
      · rw [List.getElem?_append_left hki] at hk
        obtain ⟨a1, a2, a3, a4, a5⟩ := hri k w hk
        exact ⟨((o (t + 1) k (by omega) (by omega)).1).trans a1, ((o (t + 2) k (by omega) (by omega)).2).trans a2, ((o (t + 3) k (by omega) (by omega)).1).trans a3, ((o (t + 4) k (by omega) (by omega)).1).trans a4, ((o (t + 5) k (by omega) (by omega)).1).trans a5⟩
      · rw [List.getElem?_append_right (by omega)] at hk
        have hki2 : k = i := by
          by_cases h0 : k - dn.length = 0
          · omega
          · obtain ⟨w2, hw⟩ : ∃ w, k - dn.length = w + 1 := ⟨k - dn.length - 1, by omega⟩
            rw [hw] at hk
            exact absurd hk (by simp)
        subst hki2
        rw [hl, Nat.sub_self] at hk
        have hq : (p, (b (p + 36)).toNat) = w := Option.some.inj hk
        rw [← hq]
        exact ⟨v1, v2, v3, v4, v5⟩
/-- the reference reads a transaction from a place on -/
theorem z17_read {s : Nat} {H : jH} (ht : zT t) (hs : jsh H) (hrow : row < t ∨ t + 8 < row) (hk : jK H row = (101, len)) (hse : s ≤ e) (hel : e ≤ len) (hlen : len < 2000000) (hb : jB H row = b) :
    jT (F_17_read t row (Int32.ofNat s) (Int32.ofNat e) H) (zRes t row len s e b H (ztx b s e)) := by
  have htl := zT_le ht
  unfold F_17_read
  refine jT_g (t_k hs ht) (jT_l ?_)
  have hR : jsh (jsR H t 0 row) := by
    obtain ⟨a0, a1, a2, a3, a4⟩ := hs
    refine ⟨a0, a1, a2, fun q hq hc => ?_, a4⟩
    have hne : ¬ (q.1 = t ∧ q.2.1 = 0) := by
      have hall : ∀ q ∈ jRs, ¬ ((q.1 = 456 ∨ q.1 = 465) ∧ q.2.1 = 0) := by decide +kernel
      exact fun w => hall q hq ⟨by rcases ht with h | h <;> omega, w.2⟩
    exact (jup_ne hne).trans (a3 q hq hc)
  have fR : jfr (zS17 t) H (jsR H t 0 row) := jfr_sR jfr_refl (by unfold zS17; omega)
  have vR : jR (jsR H t 0 row) t 0 = row := jup_eq
  have kR : jK (jsR H t 0 row) row = (101, len) := hk
  have bR : jB (jsR H t 0 row) row = b := hb
  generalize jsR H t 0 row = H1 at *
  have hS : ∀ a j, (fun a j : Nat => a = t ∧ (j = 1 ∨ j = 2 ∨ j = 3 ∨ j = 6)) a j → zS17 t a j := fun a j q => by
    have q2 : a = t ∧ (j = 1 ∨ j = 2 ∨ j = 3 ∨ j = 6) := q
    unfold zS17
    omega
  refine jset (S := fun a j => a = t ∧ (j = 1 ∨ j = 2 ∨ j = 3 ∨ j = 6)) hR jfr_refl t 1 (t_k hR ht) rfl rfl (by omega) ⟨rfl, by decide⟩ fun H2 hs2 f2 v2 o2 => ?_
  refine jset hs2 f2 t 3 (t_k hs2 ht) rfl rfl (by omega) ⟨rfl, by decide⟩ fun H3 hs3 f3 v3 o3 => ?_
  refine jset hs3 f3 t 2 (t_k hs3 ht) rfl rfl (by omega) ⟨rfl, by decide⟩ fun H4 hs4 f4 v4 o4 => ?_
  refine jset hs4 f4 t 6 ⟨t_k hs4 ht, Or.inr rfl⟩ rfl rfl (by omega) ⟨rfl, by decide⟩ fun H5 hs5 f5 v5 o5 => ?_
  have h5 : zRd t row len e s 1 H5 := by
    refine ⟨hs5, (jfr_R f5 (fun q => absurd q.2 (by decide))).trans vR, (jfr_K f5 row).trans kR, ?_, ?_, v5, hel, hlen, hse, hrow⟩
    · exact (o5 t 2 (by omega)).trans v4
    · exact (o5 t 3 (by omega)).trans ((o4 t 3 (by omega)).trans v3)
  have h51 : jI H5 t 1 = Int32.ofNat s := (o5 t 1 (by omega)).trans ((o4 t 1 (by omega)).trans ((o3 t 1 (by omega)).trans v2))
  have h5b : jB H5 row = b := by
    rw [← bR]
    exact funext fun j => jfr_B f5 (fun q => by have := q.1; omega)
  have f5' : jfr (zS17 t) H H5 := jfr_trans fR (jfr_mono f5 hS)
  have nsp : ¬ zSp t t 1 := fun q => by unfold zSp at q; omega
  have spB : ∀ {H1 H2 : jH}, jfr (zSp t) H1 H2 → jB H2 row = jB H1 row := fun hf => funext fun j => jfr_B hf (fun q => by have := q.1; omega)
  refine jT_g (t_k hs5 ht) (z17_pass_any (n := 4) ht h5 (Or.inr rfl) (by decide) fun H6 p1 g1 h6 hg1 q1 w1 f6 => ?_)
  refine jT_g (t_k h6.1 ht) (z17_size_any (mo := 8) (Or.inl rfl) ht h6 hg1 fun n H7 p2 g2 hn h7 hg2 q2 w2 f7 => ?_)
  rw [(spB f6).trans h5b] at q2 w2
  refine jT_g (t_k h7.1 ht) (jT_l ?_)
  have hA : zRd t row len e p2 g2 (jsI H7 t 4 (Int32.ofNat n)) := by
    obtain ⟨hs, b0, bk, b2, b3, b6, br⟩ := h7
    exact ⟨jsh_sI hs (by omega), b0, bk, (jI_sIn (by decide)).trans b2, (jI_sIn (by decide)).trans b3, (jI_sIn (by decide)).trans b6, br⟩
  have hA1 : jI (jsI H7 t 4 (Int32.ofNat n)) t 1 = Int32.ofNat s := (jI_sIn (by decide)).trans ((jfr_I f7 nsp).trans ((jfr_I f6 nsp).trans h51))
  have hAb : jB (jsI H7 t 4 (Int32.ofNat n)) row = b := (spB f7).trans ((spB f6).trans h5b)
  have hAf : jfr (zS17 t) H (jsI H7 t 4 (Int32.ofNat n)) := jfr_sI (jfr_trans (jfr_trans f5' (jfr_mono f6 fun a j q => zSp_17 q)) (jfr_mono f7 fun a j q => zSp_17 q)) (by unfold zS17; omega)
  have e : (if g2 = 1 then (ztxi b e n p2).bind fun a => zrest b e ([] ++ a.1) a.2 else none) = ztx b s e := by
    unfold ztx
    by_cases hg : g2 = 1
    · obtain ⟨a1, a2, a3⟩ := q2.mp hg
      obtain ⟨-, a4⟩ := q1.mp a1
      have e1 := w1 a1
      obtain ⟨e2, e3⟩ := w2 hg
      rw [e1] at a3 e3
      rw [if_pos hg, if_pos ⟨by omega, a3⟩, e3, show p2 = s + 5 by omega]
      rfl
    · rw [if_neg hg, if_neg]
      rintro ⟨c1, c2⟩
      have a1 := q1.mpr ⟨rfl, by omega⟩
      have e1 := w1 a1
      rw [e1] at q2
      exact hg (q2.mpr ⟨a1, by omega, c2⟩)
  rw [← e]
  exact z17_43 ht hn n 0 jfuel p2 g2 [] _ (by omega) (by unfold jfuel; omega) hA hg2 jI_sIe hA1 hAb hAf (fun _ => ⟨rfl, fun k q hk => absurd hk (by simp)⟩)
end RTX5
