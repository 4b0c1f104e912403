/-! Whether a transaction of a block is faulty by itself: both. -/
def b_bd1 (x : b_t) : Bool := decide (x.2.2.2.1.length = 0) || ztm (zvs (fun i => x.2.1.getD i 0) x.2.2.2.1) 0
def b_bd2 (x : b_t) : Bool := decide (zfl (fun i => x.2.1.getD i 0) x.2.2.1 x.2.2.2.1 ≠ 0)
def b_bdi (i : Nat) (x : b_t) : Bool := if i = 0 then b_bd1 x else b_bd2 x
/-- from a place on -/
def b_flf : Nat → List b_t → Bool
  | _, [] => false
  | i, x :: r => b_bdi i x || b_flf (i + 1) r
theorem b_zfl_pos {b : Nat → UInt8} {i o : List (Nat × Nat)} : zfl b i o ≤ 0 ↔ zfl b i o = 0 := by
  unfold zfl
  split
  · decide
  · split
    · decide
    · split <;> decide
section FX
variable {o row s len : Nat} {tb nm : List UInt8} {y : w_y} {H : jH}
theorem w_x_O (hs : jsh H) (h : w_x o row s len tb y nm H) : zO10 o row len H := by
  obtain ⟨⟨a1, a2, a3, a4, a5, a6⟩, -, -, -, -, -, -, -, -, -, d7, d8⟩ := h
  exact ⟨hs, a1, a2, a3, a5, d7, fun w => by rw [w] at a3; rw [a3] at a1; exact absurd (show (101 : Nat) = 10 from a1) (by decide)⟩
theorem w_x_ag (h : w_x o row s len tb y nm H) : zag (fun i => tb.getD i 0) 0 (jB H row) s tb.length := fun i hi => by
  rw [Nat.zero_add]
  exact h.1.2.2.2.2.2 i _ (getD_of hi)
theorem w_ty_b (hy : w_ty tb y) : y.1.length ≤ 8 ∧ y.2.1.length ≤ 8 ∧ (∀ w ∈ y.1, w.1 + 41 ≤ tb.length) ∧ (∀ w ∈ y.2.1, w.1 + 9 ≤ tb.length) := by
  have sp := ztx_spec hy.1
  exact ⟨sp.1, sp.2.1, fun w hw => by have := sp.2.2.2.2.1 w hw; omega, fun w hw => by have := sp.2.2.2.2.2 w hw; omega⟩
theorem w_x_pl1 (h : w_x o row s len tb y nm H) : zPl H (o + 4) ((zsh1 s y.1).map (·.1)) := fun k q hq => by
  obtain ⟨-, -, c1, -⟩ := h
  rw [List.getElem?_map] at hq
  obtain ⟨w, hw, rfl⟩ := Option.map_eq_some_iff.mp hq
  have hk : k < y.1.length := by
    have := (List.getElem?_eq_some_iff.mp hw).1
    rwa [zsh1_len] at this
  rw [zsh1_at hk] at hw
  rw [c1 k hk, ← Option.some.inj hw]
theorem w_x_pl2 (h : w_x o row s len tb y nm H) : zPl H (o + 5) ((zsh1 s y.2.1).map (·.1)) := fun k q hq => by
  obtain ⟨-, -, -, c2, -⟩ := h
  rw [List.getElem?_map] at hq
  obtain ⟨w, hw, rfl⟩ := Option.map_eq_some_iff.mp hq
  have hk : k < y.2.1.length := by
    have := (List.getElem?_eq_some_iff.mp hw).1
    rwa [zsh1_len] at this
  rw [zsh1_at hk] at hw
  rw [c2 k hk, ← Option.some.inj hw]
theorem w_x_much (hs : jsh H) (h : w_x o row s len tb y nm H) (hy : w_ty tb y) : F_10_isTooMuch o H = some ((if ztm (zvs (fun i => tb.getD i 0) y.2.1) 0 = true then 1 else 0), H) := by
  obtain ⟨q1, q2, b1, b2⟩ := w_ty_b hy
  have e := zvs_move (w_x_ag h) b2
  rw [zsh1_0] at e
  rw [← e]
  exact z10_isTooMuch (outs := zsh1 s y.2.1) (w_x_O hs h) rfl h.2.1.2.2.2.2.1 (by rw [zsh1_len]; exact h.2.1.2.2.2.2.2) (by rw [zsh1_len]; exact q2) (w_x_pl2 h) (zsh1_in b2 h.1.2.2.2.1)
theorem w_x_fault (hs : jsh H) (h : w_x o row s len tb y nm H) (hy : w_ty tb y) : F_10_fault o H = some (zfl (fun i => tb.getD i 0) y.1 y.2.1, H) := by
  obtain ⟨q1, q2, b1, b2⟩ := w_ty_b hy
  have e := zfl_move (w_x_ag h) b1 b2
  rw [zsh1_0, zsh1_0] at e
  rw [← e]
  exact z10_fault (ins := zsh1 s y.1) (outs := zsh1 s y.2.1) (w_x_O hs h) rfl h.2.1.2.2.1 (by rw [zsh1_len]; exact h.2.1.2.2.2.1) (by rw [zsh1_len]; exact q1) (w_x_pl1 h) (zsh1_in b1 h.1.2.2.2.1) h.2.1.2.2.2.2.1 (by rw [zsh1_len]; exact h.2.1.2.2.2.2.2) (by rw [zsh1_len]; exact q2) (w_x_pl2 h) (zsh1_in b2 h.1.2.2.2.1)
theorem w_rx_ag (h : w_rx row s len tb y H) : zag (fun i => tb.getD i 0) 0 (jB H row) s tb.length := fun i hi => by
  rw [Nat.zero_add]
  exact h.1.2.2.2.2.2 i _ (getD_of hi)
theorem w_rx_Ro (h : w_rx row s len tb y H) : zRo 456 (jB H row) H (zsh1 s y.2.1) := fun k q hq => by
  obtain ⟨-, -, -, e2⟩ := h
  have hk : k < y.2.1.length := by
    have := (List.getElem?_eq_some_iff.mp hq).1
    rwa [zsh1_len] at this
  rw [zsh1_at hk] at hq
  have e := Option.some.inj hq
  subst e
  obtain ⟨d1, d2, d3⟩ := e2 k hk
  exact ⟨d1.trans (zle_zho _ _ _).symm, d2, d3⟩
theorem w_rx_fault (hs : jsh H) (h : w_rx row s len tb y H) (hy : w_ty tb y) : F_17_fault 456 H = some (zfl (fun i => tb.getD i 0) y.1 y.2.1, H) := by
  obtain ⟨q1, q2, b1, b2⟩ := w_ty_b hy
  have e := zfl_move (w_rx_ag h) b1 b2
  rw [zsh1_0, zsh1_0] at e
  rw [← e]
  exact z17_fault (ins := zsh1 s y.1) (outs := zsh1 s y.2.1) (by unfold zT; decide) hs h.1.1 h.1.2.1 h.1.2.2.2.1 rfl (by rw [zsh1_len]; exact h.2.1.2.2.1) (by rw [zsh1_len]; exact q1) (w_rx_Ri h) (w_rx_in h hy) (by rw [zsh1_len]; exact h.2.1.2.2.2) (by rw [zsh1_len]; exact q2) (w_rx_Ro h)
theorem w_rx_large (hs : jsh H) (h : w_rx row s len tb y H) (hy : w_ty tb y) : F_17_isLarge 456 H = some ((if ztm (zvs (fun i => tb.getD i 0) y.2.1) 0 = true then 1 else 0), H) := by
  obtain ⟨q1, q2, b1, b2⟩ := w_ty_b hy
  have e := zvs_move (w_rx_ag h) b2
  rw [zsh1_0] at e
  have lv : (zvs (jB H row) (zsh1 s y.2.1)).length = y.2.1.length := (List.length_map _).trans zsh1_len
  rw [← e]
  refine z17_isLarge (by unfold zT; decide) hs (by rw [lv]; exact h.2.1.2.2.2) (by rw [lv]; exact q2) fun k v hkv => ?_
  unfold zvs at hkv
  rw [List.getElem?_map] at hkv
  obtain ⟨w, hw, rfl⟩ := Option.map_eq_some_iff.mp hkv
  exact (w_rx_Ro h k w hw).1
end FX
section FB
variable {txs : List b_t} {A B : Nat} {H H0 : jH} {by_ : List UInt8}
theorem z0_isFaulty (hs : jsh H) (kB : (jK H B).1 = 0) (r4 : jR H B 4 = A) (hA : b_tr A txs H) (hty : ∀ x ∈ txs, w_ty x.2.1 x.2.2) (hl : txs.length ≤ 12) : F_0_isFaulty B H = some (if b_flf 0 txs = true then 1 else 0, H) := by
  obtain ⟨kA, hx⟩ := hA
  have loop : ∀ (d i fu : Nat), i + d = txs.length → d < fu → F_0_isFaulty_2 fu B (Int32.ofNat i) H = some (if b_flf i (txs.drop i) = true then 1 else 0, H) := by
    intro d
    induction d with
    | zero =>
      intro i fu hi hfu
      obtain ⟨fu, rfl⟩ : ∃ k, fu = k + 1 := ⟨fu - 1, by omega⟩
      unfold F_0_isFaulty_2 B_0_isFaulty_2
      rw [jg_t kB, r4, kA, jg_t rfl, if_pos (by rw [jo_le (by omega) (by omega)]; omega), jg_t (by decide), List.drop_of_length_le (by omega)]
      rfl
    | succ d ih =>
      intro i fu hi hfu
      obtain ⟨fu, rfl⟩ : ∃ k, fu = k + 1 := ⟨fu - 1, by omega⟩
      have hil : i < txs.length := by omega
      have e1 : Int32.ofNat i + 1 = Int32.ofNat (i + 1) := jo_add (a := i) (b := 1)
      obtain ⟨row, s, len, w⟩ := hx i _ (List.getElem?_eq_getElem hil)
      have hy := hty _ (List.getElem_mem hil)
      have ko := w.1.1
      have q2 := (w_ty_b hy).2.1
      have nxt := ih (i + 1) fu (by omega) (by omega)
      have eF : b_flf i (txs[i] :: txs.drop (i + 1)) = (b_bdi i txs[i] || b_flf (i + 1) (txs.drop (i + 1))) := rfl
      unfold F_0_isFaulty_2 B_0_isFaulty_2 B_0_isFaulty_37 B_0_isFaulty_57
      rw [jg_t kB, r4, kA, jg_t rfl, if_neg (by rw [jo_le (by omega) (by omega)]; omega), jg_t kB, jg_t ⟨rfl, jo_in (by omega) hil⟩, jo_nat (n := i) (by omega), e1, List.drop_eq_getElem_cons hil, eF]
      dsimp only [jl]
      by_cases c0 : i = 0
      · rw [if_neg (fun w => w (by rw [c0]; rfl)), jg_t ko, w.2.1.2.2.2.2.1, w.2.1.2.2.2.2.2, jg_t rfl]
        show (if Int32.ofNat txs[i].2.2.2.1.length = 0 then _ else _) = _
        have eb : b_bdi i txs[i] = (decide (txs[i].2.2.2.1.length = 0) || ztm (zvs (fun k => txs[i].2.1.getD k 0) txs[i].2.2.2.1) 0) := if_pos c0
        rw [eb]
        by_cases c1 : txs[i].2.2.2.1.length = 0
        · rw [if_pos (by rw [c1]; rfl), if_neg (by decide), jg_t (by decide), decide_eq_true c1, Bool.true_or, Bool.true_or]
          rfl
        · rw [if_neg (show ¬ Int32.ofNat txs[i].2.2.2.1.length = 0 from fun w => c1 ((jo_eq (b := 0) (by omega) (by decide)).mp w)), jg_t ko, w_x_much hs w hy, jb_ok, decide_eq_false c1, Bool.false_or]
          cases ztm (zvs (fun k => txs[i].2.1.getD k 0) txs[i].2.2.2.1) 0 with
          | true =>
            rw [if_neg (by decide), if_neg (by decide), jg_t (by decide), Bool.true_or]
            rfl
          | false =>
            rw [if_pos (by decide), if_pos rfl, Bool.false_or]
            exact nxt
      · have eb : b_bdi i txs[i] = decide (zfl (fun k => txs[i].2.1.getD k 0) txs[i].2.2.1 txs[i].2.2.2.1 ≠ 0) := if_neg c0
        rw [if_pos (show ¬ Int32.ofNat i = 0 from fun w => c0 ((jo_eq (b := 0) (by omega) (by decide)).mp w)), jg_t ko, w_x_fault hs w hy, jb_ok, eb]
        by_cases c1 : zfl (fun k => txs[i].2.1.getD k 0) txs[i].2.2.1 txs[i].2.2.2.1 = 0
        · rw [if_pos c1, if_pos rfl, decide_eq_false (fun w => w c1), Bool.false_or]
          exact nxt
        · rw [if_neg c1, if_neg (by decide), jg_t (by decide), decide_eq_true c1, Bool.true_or]
          rfl
  unfold F_0_isFaulty
  exact loop txs.length 0 jfuel (Nat.zero_add _) (by unfold jfuel; omega)
theorem y18_isFaulty {Q : Int32 → jH → Prop} (hs0 : jsh H0) (h0 : b_tp by_ txs H0) (hk : ∀ H', jsh H' → jfr (zS17 456) H0 H' → Q (if b_flf 0 txs = true then 1 else 0) H') : jT (F_18_isFaulty 421 H0) Q := by
  have hl := h0.2.1.2.2.1
  have hty := h0.2.2.1
  have k18 : ∀ {H}, jsh H → (jK H 421).1 = 18 := fun hs => gT (sK_421 hs)
  have k17 : ∀ {H}, jsh H → (jK H 456).1 = 17 := fun hs => gT (sK_456 hs)
  have nT : ∀ a j, zS17 456 a j → a ≠ 506 ∧ a ≠ 481 ∧ ¬ (a = 421 ∧ j = 14) := fun a j w => by unfold zS17 at w; omega
  have loop : ∀ (d i fu : Nat) (H : jH), i + d = txs.length → d < fu → jsh H → jfr (zS17 456) H0 H → (∀ H', jsh H' → jfr (zS17 456) H0 H' → Q (if b_flf i (txs.drop i) = true then 1 else 0) H') → jT (F_18_isFaulty_2 fu 421 (Int32.ofNat i) H) Q := by
    intro d
    induction d with
    | zero =>
      intro i fu H hi hfu hs hf hq
      obtain ⟨fu, rfl⟩ : ∃ k, fu = k + 1 := ⟨fu - 1, by omega⟩
      have h1 := b_tp_fr h0 hf nT
      have hq1 := hq H hs hf
      rw [List.drop_of_length_le (by omega)] at hq1
      unfold F_18_isFaulty_2 B_18_isFaulty_2
      rw [h1.2.2.2.1]
      exact jT_g (k18 hs) (jT_pos (by rw [jo_le (by omega) (by omega)]; omega) (jT_g (by decide) (jT_ret hq1)))
    | succ d ih =>
      intro i fu H hi hfu hs hf hq
      obtain ⟨fu, rfl⟩ : ∃ k, fu = k + 1 := ⟨fu - 1, by omega⟩
      have hil : i < txs.length := by omega
      have h1 := b_tp_fr h0 hf nT
      have e1 : Int32.ofNat i + 1 = Int32.ofNat (i + 1) := jo_add (a := i) (b := 1)
      have hy := hty _ (List.getElem_mem hil)
      have q2 := (w_ty_b hy).2.1
      have eF : b_flf i (txs[i] :: txs.drop (i + 1)) = (b_bdi i txs[i] || b_flf (i + 1) (txs.drop (i + 1))) := rfl
      rw [List.drop_eq_getElem_cons hil, eF] at hq
      unfold F_18_isFaulty_2 B_18_isFaulty_2 B_18_isFaulty_73 B_18_isFaulty_75
      rw [h1.2.2.2.1, sR_421_15 hs, sR_421_4 hs, sR_421_47 hs, sK_481 hs, e1, jo_nat (n := i) (by omega), jo_nat (n := i + 1) (by omega)]
      refine jT_g (k18 hs) (jT_neg (by rw [jo_le (by omega) (by omega)]; omega) (jT_g (k18 hs) (jT_g (k18 hs) (jT_g (k18 hs) (jT_g ⟨rfl, jo_in (by omega) (by show i < 13; omega)⟩ (jT_g (k18 hs) (jT_g ⟨rfl, jo_in (by omega) (by show i + 1 < 13; omega)⟩ (jT_g (k17 hs) ?_))))))))
      refine b_rdT h1 hs (List.getElem?_eq_getElem hil) fun v H2 s2 f2 x2 => ?_
      have f2' := jfr_trans hf f2
      rw [sR_421_4 s2]
      by_cases c0 : i = 0
      · have eb : b_bdi i txs[i] = (decide (txs[i].2.2.2.1.length = 0) || ztm (zvs (fun k => txs[i].2.1.getD k 0) txs[i].2.2.2.1) 0) := if_pos c0
        rw [eb] at hq
        rw [w_rx_large s2 x2 hy]
        refine jT_neg (fun w => w (by rw [c0]; rfl)) (jT_g (k18 s2) (jT_g (k17 s2) (jT_b (jT_ret ?_))))
        cases cz : ztm (zvs (fun k => txs[i].2.1.getD k 0) txs[i].2.2.2.1) 0 with
        | true =>
          rw [cz, Bool.or_true, Bool.true_or] at hq
          exact jT_pos (by decide) (jT_g (by decide) (jT_ret (hq H2 s2 f2')))
        | false =>
          rw [cz, Bool.or_false] at hq
          rw [sR_421_4 s2, x2.2.1.2.2.2]
          refine jT_neg (fun w => w rfl) (jT_g (k18 s2) (jT_g (k17 s2) ?_))
          by_cases c1 : txs[i].2.2.2.1.length = 0
          · rw [decide_eq_true c1, Bool.true_or] at hq
            exact jT_neg (fun w => w (by rw [c1]; rfl)) (jT_g (by decide) (jT_ret (hq H2 s2 f2')))
          · rw [decide_eq_false c1, Bool.false_or] at hq
            exact jT_pos (fun w => c1 ((jo_eq (b := 0) (by omega) (by decide)).mp w)) (jT_l (ih (i + 1) fu H2 (by omega) (by omega) s2 f2' hq))
      · have eb : b_bdi i txs[i] = decide (zfl (fun k => txs[i].2.1.getD k 0) txs[i].2.2.1 txs[i].2.2.2.1 ≠ 0) := if_neg c0
        rw [eb] at hq
        rw [w_rx_fault s2 x2 hy]
        refine jT_pos (fun w => c0 ((jo_eq (b := 0) (by omega) (by decide)).mp w)) (jT_g (k18 s2) (jT_g (k17 s2) (jT_b (jT_ret ?_))))
        by_cases c1 : zfl (fun k => txs[i].2.1.getD k 0) txs[i].2.2.1 txs[i].2.2.2.1 = 0
        · rw [decide_eq_false (fun w => w c1), Bool.false_or] at hq
          exact jT_pos (b_zfl_pos.mpr c1) (jT_l (ih (i + 1) fu H2 (by omega) (by omega) s2 f2' hq))
        · rw [decide_eq_true c1, Bool.true_or] at hq
          exact jT_neg (fun w => c1 (b_zfl_pos.mp w)) (jT_g (by decide) (jT_ret (hq H2 s2 f2')))
  unfold F_18_isFaulty
  exact loop txs.length 0 jfuel H0 (Nat.zero_add _) (by unfold jfuel; omega) hs0 jfr_refl hk
end FB
/-- a block that is shaped and not faulty has transactions as they must be -/
theorem b_toks_of {txs : List b_t} (h : ∀ x ∈ txs, w_ty x.2.1 x.2.2 ∧ x.1 = b_hs x.2.1) (hsh : b_shp txs = true) (hf : b_flf 0 txs = false) : b_toks true txs ∧ txs ≠ [] := by
  have w01 : ∀ x : b_t, w_rt x.2.1 x.2.2 = 0 ∨ w_rt x.2.1 x.2.2 = 1 := fun x => by
    unfold w_rt zany
    split
    · exact Or.inr rfl
    · exact Or.inl rfl
  have tail : ∀ (r : List b_t) (i : Nat), 1 ≤ i → (∀ x ∈ r, w_ty x.2.1 x.2.2 ∧ x.1 = b_hs x.2.1) → (r.all fun z => decide (w_rt z.2.1 z.2.2 = 0)) = true → b_flf i r = false → b_toks false r := by
    intro r
    induction r with
    | nil => intro i _ _ _ _; trivial
    | cons x r ih =>
      intro i hi h ha hf
      obtain ⟨q1, q2⟩ := h x List.mem_cons_self
      rw [List.all_cons, Bool.and_eq_true] at ha
      have hf' : (b_bdi i x || b_flf (i + 1) r) = false := hf
      rw [Bool.or_eq_false_iff] at hf'
      have eb : b_bdi i x = decide (zfl (fun k => x.2.1.getD k 0) x.2.2.1 x.2.2.2.1 ≠ 0) := if_neg (by omega)
      rw [eb] at hf'
      have z0 : zfl (fun k => x.2.1.getD k 0) x.2.2.1 x.2.2.2.1 = 0 := Classical.not_not.mp (of_decide_eq_false hf'.1)
      refine ⟨⟨by rw [q2]; exact b_hs_len, q1, of_decide_eq_true ha.1, fun _ => ?_⟩, ih (i + 1) (by omega) (fun z hz => h z (List.mem_cons_of_mem _ hz)) ha.2 hf'.2⟩
      cases ct : ztw (fun i => x.2.1.getD i 0) x.2.2.1 with
      | false => rfl
      | true =>
        unfold zfl at z0
        split at z0
        · exact absurd z0 (by decide)
        · split at z0
          · exact absurd z0 (by decide)
          · exact absurd z0 (by decide)
  cases txs with
  | nil => exact absurd hsh (by decide)
  | cons x r =>
    obtain ⟨q1, q2⟩ := h x List.mem_cons_self
    have eS : b_shp (x :: r) = (decide (x.2.2.1.length = 1) && decide (w_rt x.2.1 x.2.2 ≠ 0) && decide (2 ≤ (x.2.2.1.getD 0 (0, 0)).2) && decide ((x.2.2.1.getD 0 (0, 0)).2 ≤ 100) && r.all fun z => decide (w_rt z.2.1 z.2.2 = 0)) := rfl
    rw [eS, Bool.and_eq_true, Bool.and_eq_true, Bool.and_eq_true, Bool.and_eq_true] at hsh
    obtain ⟨⟨⟨⟨a1, a2⟩, a3⟩, a4⟩, a5⟩ := hsh
    have hf' : (b_bdi 0 x || b_flf 1 r) = false := hf
    rw [Bool.or_eq_false_iff] at hf'
    exact ⟨⟨⟨by rw [q2]; exact b_hs_len, q1, (w01 x).resolve_left (of_decide_eq_true a2), fun w => by cases w⟩, tail r 1 (Nat.le_refl _) (fun z hz => h z (List.mem_cons_of_mem _ hz)) a5 hf'.2⟩, fun w => by cases w⟩
