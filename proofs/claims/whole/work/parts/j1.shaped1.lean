/-! Whether a block is shaped: the reference. -/
section SHT
variable {row s len : Nat} {tb : List UInt8} {y : w_y} {H : jH}
theorem w_rx_Ri (h : w_rx row s len tb y H) : zRi 456 (jB H row) H (zsh1 s y.1) := fun k q hq => by
  obtain ⟨-, -, e1, -⟩ := h
  have hk : k < y.1.length := by
    have := (List.getElem?_eq_some_iff.mp hq).1
    rwa [zsh1_len] at this
  rw [zsh1_at hk] at hq
  have e := Option.some.inj hq
  subst e
  obtain ⟨d1, d2, d3, d4, d5⟩ := e1 k hk
  exact ⟨d1, d5.trans (zle_zho _ _ _).symm, d2, d3, d4⟩
theorem w_rx_in (h : w_rx row s len tb y H) (hy : w_ty tb y) : ∀ w ∈ zsh1 s y.1, w.1 + 41 ≤ len := by
  have sp := ztx_spec hy.1
  have := h.1.2.2.1
  have b1 : ∀ w ∈ y.1, w.1 + 41 ≤ tb.length := fun w hw => by have := sp.2.2.2.2.1 w hw; omega
  exact zsh1_in b1 this
theorem w_rx_any (h : w_rx row s len tb y H) (hy : w_ty tb y) : zany (jB H row) len ((zsh1 s y.1).map (·.1)) = w_rt tb y := by
  have sp := ztx_spec hy.1
  have hz := h.1.2.2.2.2.2
  have b1 : ∀ w ∈ y.1, w.1 + 41 ≤ tb.length := fun w hw => by have := sp.2.2.2.2.1 w hw; omega
  have ag : zag (fun i => tb.getD i 0) 0 (jB H row) s tb.length := fun i hi => by
    rw [Nat.zero_add]
    exact hz i _ (getD_of hi)
  have := zany_move ag b1 (len := tb.length) (len' := len) (by omega) h.1.2.2.1
  rw [zsh1_0] at this
  exact this
theorem w_rx_hasRoot (hs : jsh H) (h : w_rx row s len tb y H) (hy : w_ty tb y) : F_17_hasRoot 456 H = some (w_rt tb y, H) := by
  have l8 := (ztx_spec hy.1).1
  rw [← w_rx_any h hy]
  exact z17_hasRoot (ins := zsh1 s y.1) (by unfold zT; decide) hs h.1.1 h.1.2.1 h.1.2.2.2.1 rfl (by rw [zsh1_len]; exact h.2.1.2.2.1) (by rw [zsh1_len]; exact l8) (w_rx_Ri h) (w_rx_in h hy)
theorem w_rx_isRoot1 (hs : jsh H) (h : w_rx row s len tb y H) (hy : w_ty tb y) (h1 : y.1.length = 1) : F_17_isRoot 456 0 H = some (w_rt tb y, H) := by
  have e := z17_isRoot (t := 456) (i := 0) (ins := zsh1 s y.1) (by unfold zT; decide) hs h.1.1 h.1.2.1 h.1.2.2.2.1 rfl (by rw [zsh1_len]; omega) (w_rx_Ri h) (w_rx_in h hy) (by rw [zsh1_len]; omega)
  have e2 := w_rx_any h hy
  have hl : (zsh1 s y.1).length = 1 := by rw [zsh1_len]; exact h1
  generalize zsh1 s y.1 = l at e e2 hl
  match l, hl with
  | [p], _ =>
    refine e.trans ?_
    rw [← e2]
    show some ((if zrt (jB H row) len p.1 = true then (1 : Int32) else 0), H) = some ((if (zrt (jB H row) len p.1 || false) = true then 1 else 0), H)
    rw [Bool.or_false]
end SHT
/-- a block on the tape, as it was found -/
def b_tp (by_ : List UInt8) (txs : List b_t) (H : jH) : Prop := zRow H 506 1 by_ ∧ b_lay by_ txs ∧ (∀ x ∈ txs, w_ty x.2.1 x.2.2) ∧ jI H 421 14 = Int32.ofNat txs.length ∧ ∀ t, t ≤ txs.length → jI H 481 t = Int32.ofNat (82 + b_tot (txs.take t))
theorem b_tp_fr {by_ : List UInt8} {txs : List b_t} {T : Nat → Nat → Prop} {H H' : jH} (h : b_tp by_ txs H) (hf : jfr T H H') (hT : ∀ a j, T a j → a ≠ 506 ∧ a ≠ 481 ∧ ¬ (a = 421 ∧ j = 14)) : b_tp by_ txs H' := by
  obtain ⟨h1, h2, h3, h4, h5⟩ := h
  exact ⟨zRow_eq h1 fun i _ => jfr_B hf fun w => (hT _ _ w).1 rfl, h2, h3, (jfr_I hf fun w => (hT _ _ w).2.2 ⟨rfl, rfl⟩).trans h4, fun t ht => (jfr_I hf fun w => (hT _ _ w).2.1 rfl).trans (h5 t ht)⟩
section SH18
variable {by_ : List UInt8} {txs : List b_t} {H0 : jH}
theorem b_rdT {β : Type} {R : β → jH → Prop} {H : jH} {i : Nat} {x : b_t} {k : Int32 → jH → Option (β × jH)} (h : b_tp by_ txs H) (hs : jsh H) (hx : txs[i]? = some x)
    (hk : ∀ v H', jsh H' → jfr (zS17 456) H H' → w_rx 506 (82 + b_tot (txs.take i)) 2000 x.2.1 x.2.2 H' → jT (k v H') R) : jT (jb (F_17_read 456 506 (jI H 481 i) (jI H 481 (i + 1)) H) k) R := by
  obtain ⟨hz, hlay, hty, h14, h81⟩ := h
  have hl := (List.getElem?_eq_some_iff.mp hx).1
  have hll := b_lay_len hlay
  have h1999 := hlay.2.1
  have hle : b_tot (txs.take (i + 1)) ≤ b_tot txs := b_tot_le
  rw [b_tot_take hx] at hle
  rw [h81 i (by omega), h81 (i + 1) (by omega), b_tot_take hx]
  refine b_read18 hs (by decide) (sK_506 hs) (by decide) (by omega) ?_ (hty x (List.mem_of_getElem? hx)) (by omega) fun H' g1 g2 g3 => hk _ H' g1 g2 g3
  have := b_lay_row hlay hz hx
  rwa [show 1 + 81 + b_tot (txs.take i) = 82 + b_tot (txs.take i) by omega] at this
theorem y18_isFramed {Q : Int32 → jH → Prop} (hs0 : jsh H0) (h0 : b_tp by_ txs H0) (hk : ∀ H', jsh H' → jfr (zS17 456) H0 H' → Q (if b_shp txs = true then 1 else 0) H') : jT (F_18_isFramed 421 H0) Q := by
  have hl := h0.2.1.2.2.1
  have hty := h0.2.2.1
  have k18 : ∀ {H}, jsh H → (jK H 421).1 = 18 := fun hs => gT (sK_421 hs)
  have k17 : ∀ {H}, jsh H → (jK H 456).1 = 17 := fun hs => gT (sK_456 hs)
  have nT : ∀ a j, zS17 456 a j → a ≠ 506 ∧ a ≠ 481 ∧ ¬ (a = 421 ∧ j = 14) := fun a j w => by unfold zS17 at w; omega
  have loop : ∀ (d i fu : Nat) (H : jH), i + d = txs.length → d < fu → jsh H → jfr (zS17 456) H0 H → (∀ H', jsh H' → jfr (zS17 456) H0 H' → Q (if (txs.drop i).all (fun z => decide (w_rt z.2.1 z.2.2 = 0)) = true then 1 else 0) H') → jT (F_18_isFramed_86 fu 421 (Int32.ofNat i) H) Q := by
    intro d
    induction d with
    | zero =>
      intro i fu H hi hfu hs hf hq
      obtain ⟨fu, rfl⟩ : ∃ k, fu = k + 1 := ⟨fu - 1, by omega⟩
      have h1 := b_tp_fr h0 hf nT
      have hq1 := hq H hs hf
      rw [List.drop_of_length_le (by omega)] at hq1
      unfold F_18_isFramed_86 B_18_isFramed_86
      rw [h1.2.2.2.1]
      exact jT_g (k18 hs) (jT_pos (by rw [jo_le (by omega) (by omega)]; omega) (jT_g (by decide) (jT_ret hq1)))
    | succ d ih =>
      intro i fu H hi hfu hs hf hq
      obtain ⟨fu, rfl⟩ : ∃ k, fu = k + 1 := ⟨fu - 1, by omega⟩
      have hil : i < txs.length := by omega
      have h1 := b_tp_fr h0 hf nT
      have e1 : Int32.ofNat i + 1 = Int32.ofNat (i + 1) := jo_add (a := i) (b := 1)
      have hy := hty _ (List.getElem_mem hil)
      rw [List.drop_eq_getElem_cons hil] at hq
      unfold F_18_isFramed_86 B_18_isFramed_86
      rw [h1.2.2.2.1, sR_421_15 hs, sR_421_4 hs, sR_421_47 hs, sK_481 hs, e1, jo_nat (n := i) (by omega), jo_nat (n := i + 1) (by omega)]
      refine jT_g (k18 hs) (jT_neg (by rw [jo_le (by omega) (by omega)]; omega) (jT_g (k18 hs) (jT_g (k18 hs) (jT_g (k18 hs) (jT_g ⟨rfl, jo_in (by omega) (by show i < 13; omega)⟩ (jT_g (k18 hs) (jT_g ⟨rfl, jo_in (by omega) (by show i + 1 < 13; omega)⟩ (jT_g (k17 hs) ?_))))))))
      refine b_rdT h1 hs (List.getElem?_eq_getElem hil) fun v H2 s2 f2 x2 => ?_
      have f2' := jfr_trans hf f2
      rw [sR_421_4 s2, w_rx_hasRoot s2 x2 hy]
      refine jT_g (k18 s2) (jT_g (k17 s2) (jT_b (jT_ret ?_)))
      by_cases c : w_rt txs[i].2.1 txs[i].2.2 = 0
      · refine jT_pos c (jT_l (ih (i + 1) fu H2 (by omega) (by omega) s2 f2' fun H' g1 g2 => ?_))
        have := hq H' g1 g2
        rw [List.all_cons, decide_eq_true c, Bool.true_and] at this
        exact this
      · refine jT_neg c (jT_g (by decide) (jT_ret ?_))
        have := hq H2 s2 f2'
        rw [List.all_cons, decide_eq_false c, Bool.false_and] at this
        exact this
  unfold F_18_isFramed B_18_isFramed_82
  cases txs with
  | nil =>
    rw [h0.2.2.2.1]
    exact jT_g (k18 hs0) (jT_neg (by decide) (jT_g (by decide) (jT_ret (hk H0 hs0 jfr_refl))))
  | cons x r =>
    have hy := hty x List.mem_cons_self
    have l8 := (ztx_spec hy.1).1
    have hl' : r.length + 1 ≤ 12 := hl
    have eS : b_shp (x :: r) = (decide (x.2.2.1.length = 1) && decide (w_rt x.2.1 x.2.2 ≠ 0) && decide (2 ≤ (x.2.2.1.getD 0 (0, 0)).2) && decide ((x.2.2.1.getD 0 (0, 0)).2 ≤ 100) && r.all fun z => decide (w_rt z.2.1 z.2.2 = 0)) := rfl
    rw [eS] at hk
    rw [h0.2.2.2.1, sR_421_15 hs0, sR_421_4 hs0, sR_421_47 hs0, sK_481 hs0]
    refine jT_g (k18 hs0) (jT_pos (fun w => absurd ((jo_eq (a := r.length + 1) (b := 0) (by omega) (by decide)).mp w) (by omega)) (jT_g (k18 hs0) (jT_g (k18 hs0) (jT_g (k18 hs0) (jT_g (by decide) (jT_g (k18 hs0) (jT_g (by decide) (jT_g (k17 hs0) ?_))))))))
    refine b_rdT (i := 0) (x := x) h0 hs0 rfl fun v H2 s2 f2 x2 => ?_
    rw [sR_421_4 s2, x2.2.1.2.2.1]
    refine jT_g (k18 s2) (jT_g (k17 s2) ?_)
    by_cases c1 : x.2.2.1.length = 1
    · rw [decide_eq_true c1, Bool.true_and] at hk
      refine jT_neg (fun w => w (by rw [c1]; rfl)) (jT_g (k18 s2) (jT_g (k17 s2) ?_))
      rw [w_rx_isRoot1 s2 x2 hy c1]
      refine jT_b (jT_ret ?_)
      by_cases c2 : w_rt x.2.1 x.2.2 = 0
      · rw [decide_eq_false (fun w => w c2), Bool.false_and, Bool.false_and, Bool.false_and] at hk
        exact jT_pos c2 (jT_g (by decide) (jT_ret (hk H2 s2 f2)))
      · rw [decide_eq_true c2, Bool.true_and] at hk
        have v0 : jI H2 460 0 = Int32.ofNat (x.2.2.1.getD 0 (0, 0)).2 := (x2.2.2.1 0 (by omega)).2.2.1
        have s200 := (w_in x.2.2 x.2.1 hy (i := 0) (by omega)).2.2.2
        have v0' : jI H2 460 (0 : Int32).toNatClampNeg = Int32.ofNat (x.2.2.1.getD 0 (0, 0)).2 := v0
        refine jT_neg c2 ?_
        rw [sR_421_4 s2, sR_456_10 s2, sK_460 s2, v0']
        refine jT_g (k18 s2) (jT_g (k17 s2) ?_)
        generalize (x.2.2.1.getD 0 (0, 0)).2 = n at s200 hk
        refine jT_g (by decide) ?_
        by_cases c3 : 2 ≤ n
        · rw [decide_eq_true c3, Bool.true_and] at hk
          refine jT_neg (by show ¬ _ < Int32.ofNat 2; rw [jo_lt (by omega) (by decide)]; omega) (jT_g (k18 s2) (jT_g (k17 s2) (jT_g (by decide) ?_)))
          by_cases c4 : n ≤ 100
          · rw [decide_eq_true c4, Bool.true_and] at hk
            exact jT_pos (by show _ ≤ Int32.ofNat 100; rw [jo_le (by omega) (by decide)]; exact c4) (loop r.length 1 jfuel H2 (Nat.add_comm _ _) (by unfold jfuel; omega) s2 f2 hk)
          · rw [decide_eq_false c4, Bool.false_and] at hk
            exact jT_neg (by show ¬ _ ≤ Int32.ofNat 100; rw [jo_le (by omega) (by decide)]; exact c4) (jT_g (by decide) (jT_ret (hk H2 s2 f2)))
        · rw [decide_eq_false c3, Bool.false_and, Bool.false_and] at hk
          exact jT_pos (by show _ < Int32.ofNat 2; rw [jo_lt (by omega) (by decide)]; omega) (jT_g (by decide) (jT_ret (hk H2 s2 f2)))
    · rw [decide_eq_false c1, Bool.false_and, Bool.false_and, Bool.false_and, Bool.false_and] at hk
      exact jT_pos (fun w => c1 ((jo_eq (b := 1) (by omega) (by decide)).mp w)) (jT_g (by decide) (jT_ret (hk H2 s2 f2)))
end SH18
