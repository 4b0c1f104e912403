/-! The reference: whether an input's scripts fail. -/
theorem jsh_sRj {H : jH} {a i v : Nat} (h : jsh H) (ha : ∀ q ∈ jRs, ¬ (q.1 = a ∧ q.2.1 = i)) : jsh (jsR H a i v) := by
  obtain ⟨a0, a1, a2, a3, a4⟩ := h
  exact ⟨a0, a1, a2, fun q hq hc => (jup_ne (fun w => ha q hq w)).trans (a3 q hq hc), a4⟩
theorem jRs_427 : ∀ q ∈ jRs, ¬ (q.1 = 427 ∧ q.2.1 = 2) ∧ ¬ (q.1 = 427 ∧ q.2.1 = 4) := by decide +kernel
/-- both scripts of an input: what is left of the signatures -/
def w_two (fit : List UInt8 → List UInt8 → Bool) (sc lk : List UInt8) (left : Nat) : Option Nat :=
  (w_run fit sc (sc.length + 1) 0 ([], [], 0, []) left).bind fun q => (w_run fit lk (lk.length + 1) 0 (q.1, [], 0, []) q.2).bind fun r => if r.1.length ≠ 0 ∧ ztrue (w_tp r.1 1) = true then some r.2 else none
/-- the reference's Tx holds a transaction -/
def w_rx (row s len : Nat) (tb : List UInt8) (y : w_y) (H : jH) : Prop :=
  (jR H 456 0 = row ∧ jK H row = (101, len) ∧ s + tb.length ≤ len ∧ len < 2000000 ∧ 445 ≤ row ∧ zRow H row s tb) ∧
  (jI H 456 1 = Int32.ofNat s ∧ jI H 456 3 = Int32.ofNat (s + tb.length) ∧ jI H 456 4 = Int32.ofNat y.1.length ∧ jI H 456 5 = Int32.ofNat y.2.1.length) ∧
  (∀ k, k < y.1.length → jI H 457 k = Int32.ofNat (s + (y.1.getD k (0, 0)).1) ∧ jI H 459 k = Int32.ofNat (s + (y.1.getD k (0, 0)).1 + 37) ∧ jI H 460 k = Int32.ofNat (y.1.getD k (0, 0)).2 ∧ jI H 461 k = Int32.ofNat (s + (y.1.getD k (0, 0)).1 + 37 + (y.1.getD k (0, 0)).2) ∧ jL H 458 k = Int64.ofNat (zho (jB H row) (s + (y.1.getD k (0, 0)).1 + 36) 4)) ∧
  (∀ k, k < y.2.1.length → jL H 462 k = Int64.ofNat (zho (jB H row) (s + (y.2.1.getD k (0, 0)).1 + 8) 8) ∧ jI H 463 k = Int32.ofNat (s + (y.2.1.getD k (0, 0)).1 + 9) ∧ jI H 464 k = Int32.ofNat (y.2.1.getD k (0, 0)).2)
theorem w_rx_fr {row s len : Nat} {tb : List UInt8} {y : w_y} {T : Nat → Nat → Prop} {H H' : jH} (h : w_rx row s len tb y H) (hf : jfr T H H') (hT : ∀ a j, 445 ≤ a → ¬ T a j) : w_rx row s len tb y H' := by
  obtain ⟨⟨c1, c2, c3, c4, c5, c6⟩, ⟨d1, d2, d3, d4⟩, e1, e2⟩ := h
  have eB : jB H' row = jB H row := funext fun j => jfr_B hf (hT row j c5)
  refine ⟨⟨(jfr_R hf (hT 456 0 (by decide))).trans c1, by rw [jfr_K hf]; exact c2, c3, c4, c5, zRow_eq c6 fun i _ => by rw [eB]⟩, ⟨(jfr_I hf (hT 456 1 (by decide))).trans d1, (jfr_I hf (hT 456 3 (by decide))).trans d2, (jfr_I hf (hT 456 4 (by decide))).trans d3, (jfr_I hf (hT 456 5 (by decide))).trans d4⟩, fun k hk => ?_, fun k hk => ?_⟩
  · obtain ⟨a, b, c, d, e⟩ := e1 k hk
    rw [eB]
    exact ⟨(jfr_I hf (hT 457 k (by decide))).trans a, (jfr_I hf (hT 459 k (by decide))).trans b, (jfr_I hf (hT 460 k (by decide))).trans c, (jfr_I hf (hT 461 k (by decide))).trans d, (jfr_L hf (hT 458 k (by decide))).trans e⟩
  · rw [eB]
    obtain ⟨a, b, c⟩ := e2 k hk
    exact ⟨(jfr_L hf (hT 462 k (by decide))).trans a, (jfr_I hf (hT 463 k (by decide))).trans b, (jfr_I hf (hT 464 k (by decide))).trans c⟩
section F18
variable {tb lk scr : List UInt8} {y : w_y} {inp : Nat} {Hs H : jH} {α : Type} {fit : List UInt8 → List UInt8 → Bool}
theorem w_D_fr {T : Nat → Nat → Prop} {st : w_R} {lf : Nat} {H' : jH} (h : w_D tb y inp lk st lf Hs H) (hs : jsh H') (hf : jfr T H H') (hT : ∀ a j, T a j → a = 440 ∨ a = 441 ∨ (a = 437 ∧ j ≠ 2 ∧ j ≠ 8)) : w_D tb y inp lk st lf Hs H' := by
  obtain ⟨a, b, c, d, e, f, g, i, j⟩ := h
  have f14 : jfr w_F14 H H' := jfr_mono hf fun a j q => by have := hT a j q; exact w_F437 (by omega) (by omega)
  exact ⟨hs, jfr_trans b (w_FS_14 f14), w_p13_fr c f14, w_C_fr d hs (w_FS_14 f14), (jfr_I hf (fun q => by have := hT _ _ q; omega)).trans e, (jfr_I hf (fun q => by have := hT _ _ q; omega)).trans f, zIts_fr g hf (fun a j k hkl q => by have := hT _ _ q; omega), i, j⟩
def w_Tl : Nat → Nat → Prop := fun a j => a = 440 ∨ (a = 437 ∧ j = 5)
theorem z14_load {Q : α → jH → Prop} {k : Unit → jH → Option (α × jH)} {r len p : Nat} {p' n' : Int32} (ep : p' = Int32.ofNat p) (en : n' = Int32.ofNat scr.length) (hs : jsh H) (hkr : jK H r = (101, len)) (hp : p + scr.length ≤ len) (hlen : len < 2147483648) (hz : zRow H r p scr) (hl : scr.length ≤ 200)
    (hk : ∀ H', jsh H' → jfr w_Tl H H' → jI H' 437 5 = Int32.ofNat scr.length → (∀ j, j < scr.length → jI H' 440 j = Int32.ofNat (scr.getD j 0).toNat) → jT (k () H') Q) : jT (jb (F_14_load 437 r p' n' H) k) Q := by
  subst ep
  subst en
  have hr440 : r ≠ 440 := fun q => by
    rw [q, sK_440 hs] at hkr
    exact absurd (show (100 : Nat) = 101 from congrArg Prod.fst hkr) (by decide)
  have loop : ∀ (d i fu : Nat) (H1 : jH), i + d = scr.length → d < fu → jsh H1 → jfr w_Tl H H1 → jI H1 437 5 = Int32.ofNat scr.length → (∀ j, j < i → jI H1 440 j = Int32.ofNat (scr.getD j 0).toNat) → jT (F_14_load_8 fu 437 r (Int32.ofNat p) (Int32.ofNat scr.length) (Int32.ofNat i) H1) (fun x h => jT (k x h) Q) := by
    intro d
    induction d with
    | zero =>
      intro i fu H1 hi hfu hs1 hf h5 hd
      obtain ⟨fu, rfl⟩ : ∃ k, fu = k + 1 := ⟨fu - 1, by omega⟩
      unfold F_14_load_8 B_14_load_8
      exact jT_pos (by rw [jo_le (by omega) (by omega)]; omega) (jT_ret (hk H1 hs1 hf h5 fun j hj => hd j (by omega)))
    | succ d ih =>
      intro i fu H1 hi hfu hs1 hf h5 hd
      obtain ⟨fu, rfl⟩ : ∃ k, fu = k + 1 := ⟨fu - 1, by omega⟩
      have e1 : Int32.ofNat i + 1 = Int32.ofNat (i + 1) := jo_add (a := i) (b := 1)
      have hkr1 : jK H1 r = (101, len) := (jfr_K hf r).trans hkr
      have ev : jB H1 r (p + i) = scr.getD i 0 := (jfr_B hf fun q => by unfold w_Tl at q; rcases q with q | ⟨q, -⟩; exact hr440 q; rw [q, sK_437 hs] at hkr; exact absurd (show (14 : Nat) = 101 from congrArg Prod.fst hkr) (by decide)).trans (hz i _ (getD_of (by omega)))
      unfold F_14_load_8 B_14_load_8
      rw [jo_add, sR_437_4 hs1, jo_nat (n := p + i) (by omega), jo_nat (n := i) (by omega), ev, jb_and, e1]
      refine jT_neg (by rw [jo_le (by omega) (by omega)]; omega) (jT_g (k14 hs1) (jT_g (gA hkr1 (jo_in (by omega) (by omega))) (jT_g (gIw (sK_440 hs1) (by decide) (jo_in (by omega) (by omega))) (jT_l (jT_l (ih (i + 1) fu _ (by omega) (by omega) (jsh_sI hs1 (by decide)) (jfr_sI hf (Or.inl rfl)) ((jI_sIa (by decide)).trans h5) fun j hj => ?_))))))
      by_cases c : j = i
      · rw [c, jI_sIe]
      · rw [jI_sIn c]
        exact hd j (by omega)
  unfold F_14_load
  exact jT_b (jT_g (k14 hs) (jT_l (loop scr.length 0 jfuel _ (by omega) (by unfold jfuel; omega) (jsh_sI hs (by decide)) (jfr_sI jfr_refl (Or.inr ⟨rfl, rfl⟩)) jI_sIe fun j hj => absurd hj (Nat.not_lt_zero j))))
theorem w_run14 {Q : α → jH → Prop} {k : Int32 → jH → Option (α × jH)} {st : w_R} {lf : Nat} (hfit : ∀ sg ky, fit sg ky = true ↔ w_fit tb y inp lk sg ky) (h : w_D tb y inp lk st lf Hs H) (h5 : jI H 437 5 = Int32.ofNat scr.length) (h440 : ∀ j, j < scr.length → jI H 440 j = Int32.ofNat (scr.getD j 0).toNat) (hl : scr.length ≤ 200)
    (hk1 : ∀ st' lf' H', w_run fit scr (scr.length + 1) 0 (st, [], 0, []) lf = some (st', lf') → w_D tb y inp lk st' lf' Hs H' → jT (k 1 H') Q) (hk0 : ∀ x H', w_run fit scr (scr.length + 1) 0 (st, [], 0, []) lf = none → w_B tb y inp lk Hs H' → x ≠ 1 → jT (k x H') Q) : jT (jb (F_14_run 437 H) k) Q := by
  have hs := h.1
  have s1 : jsh (jsI H 437 3 0) := jsh_sI hs (by decide)
  have s2 : jsh (jsI (jsI H 437 3 0) 437 9 0) := jsh_sI s1 (by decide)
  have s3 : jsh (jsI (jsI (jsI H 437 3 0) 437 9 0) 437 6 0) := jsh_sI s2 (by decide)
  have s4 : jsh (jsI (jsI (jsI (jsI H 437 3 0) 437 9 0) 437 6 0) 437 7 0) := jsh_sI s3 (by decide)
  have f4 : jfr (fun a j => a = 437 ∧ (j = 3 ∨ j = 9 ∨ j = 6 ∨ j = 7)) H (jsI (jsI (jsI (jsI H 437 3 0) 437 9 0) 437 6 0) 437 7 0) := jfr_sI (jfr_sI (jfr_sI (jfr_sI jfr_refl ⟨rfl, Or.inl rfl⟩) ⟨rfl, Or.inr (Or.inl rfl)⟩) ⟨rfl, Or.inr (Or.inr (Or.inl rfl))⟩) ⟨rfl, Or.inr (Or.inr (Or.inr rfl))⟩
  have e3 : jI (jsI (jsI (jsI (jsI H 437 3 0) 437 9 0) 437 6 0) 437 7 0) 437 3 = 0 := (jI_sIn (by decide)).trans ((jI_sIn (by decide)).trans ((jI_sIn (by decide)).trans jI_sIe))
  have e9 : jI (jsI (jsI (jsI (jsI H 437 3 0) 437 9 0) 437 6 0) 437 7 0) 437 9 = 0 := (jI_sIn (by decide)).trans ((jI_sIn (by decide)).trans jI_sIe)
  have e6 : jI (jsI (jsI (jsI (jsI H 437 3 0) 437 9 0) 437 6 0) 437 7 0) 437 6 = 0 := (jI_sIn (by decide)).trans jI_sIe
  have e7 : jI (jsI (jsI (jsI (jsI H 437 3 0) 437 9 0) 437 6 0) 437 7 0) 437 7 = 0 := jI_sIe
  unfold F_14_run
  refine jT_b (jT_g (k14 hs) (jT_l (jT_g (k14 s1) (jT_l (jT_g (k14 s2) (jT_l (jT_g (k14 s3) (jT_l ?_))))))))
  generalize jsI (jsI (jsI (jsI H 437 3 0) 437 9 0) 437 6 0) 437 7 0 = H1 at *
  have h1 := w_D_fr h s4 f4 (fun a j q => by omega)
  have hU : w_U tb y inp lk scr (st, [], 0, []) lf Hs H1 := by
    obtain ⟨a, b, c, d, e, f, g, i, j⟩ := h1
    refine ⟨⟨⟨s4, jfr_refl⟩, ⟨e, e3, (jfr_I f4 (by omega)).trans h5, e6, e7, f, e9⟩, ⟨g, fun k it hk => absurd (show ([] : w_R)[k]? = some it from hk) (by simp), by show st.length ≤ 66; omega, Nat.zero_le _⟩, fun k hk => absurd hk (Nat.not_lt_zero k), fun k hk => (jfr_I f4 (by omega)).trans (h440 k hk), hl, Nat.zero_le _, Nat.zero_le _, j⟩, b, c, d⟩
  obtain ⟨fu, efu⟩ : ∃ fu, jfuel = fu + 1 := ⟨jfuel - 1, by unfold jfuel; omega⟩
  rw [efu]
  exact w_run22 (Q := fun x h => jT (k x h) Q) hfit (scr.length + 1) 0 (st, [], 0, []) lf fu H1 (by omega) (Nat.zero_le _) (by unfold jfuel at efu; omega) hU (by show st.length + 0 ≤ 60; have := h.2.2.2.2.2.2.2.1; omega) (Nat.le_refl _) (Nat.zero_le _) hk1 hk0
theorem w_isTrue14 {st : w_R} {lf : Nat} (h : w_D tb y inp lk st lf Hs H) : F_14_isTrue 437 H = some ((if st.length ≠ 0 ∧ ztrue (w_tp st 1) = true then 1 else 0), H) := by
  obtain ⟨a, b, c, d, e, f, g, i, j⟩ := h
  unfold F_14_isTrue B_14_isTrue_24 B_14_isTrue_25
  rw [jg_t (k14 a), e]
  by_cases c0 : st.length = 0
  · rw [if_pos (by rw [c0]; decide), jg_t (Or.inl rfl), if_neg fun q => q.1 c0]
  · have hn : ¬ Int32.ofNat st.length ≤ 0 := fun q => by
      have := (jo_le (a := st.length) (b := 0) (by omega) (by decide)).mp q
      omega
    have rr : w_row H (st.length - 1) (w_tp st 1) := by
      have := g (st.length - 1) _ (w_tp_at (st := st) (k := 1) (Nat.le_refl 1) (by omega))
      rw [Nat.zero_add] at this
      exact this
    rw [if_neg hn, jg_t (k14 a), jg_t (k14 a), w_sub1 (by omega), z14_isT a rfl (by omega) rr, jb_ok]
    by_cases t : ztrue (w_tp st 1) = true
    · rw [if_pos t, if_neg (by decide), jg_t (Or.inr rfl), if_pos ⟨c0, t⟩]
    · rw [if_neg t, if_pos rfl, jg_t (Or.inl rfl), if_neg fun q => t q.2]
end F18
