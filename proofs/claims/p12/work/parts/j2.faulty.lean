/-! Whether a transaction of a block is faulty by itself: both. -/
def b_bd1 (x : b_t) : Bool := decide (x.2.2.2.1.length = 0) || ztm (zvs (fun i => x.2.1.getD i 0) x.2.2.2.1) 0
def b_bd2 (x : b_t) : Bool := decide (zfl (fun i => x.2.1.getD i 0) x.2.2.1 x.2.2.2.1 ≠ 0)
def b_bdi (i : Nat) (x : b_t) : Bool := if i = 0 then b_bd1 x else b_bd2 x
/-- from a place on -/
def b_flf : Nat → List b_t → Bool
  | _, [] => false
  | i, x :: r => b_bdi i x || b_flf (i + 1) r
section FX
variable {o row s len : Nat} {tb nm : List UInt8} {y : w_y} {H : jH}
theorem w_x_O (hs : jsh H) (h : w_x o row s len tb y nm H) : zO10 o row len H := by
  obtain ⟨⟨a1, a2, a3, a4, a5, a6⟩, -, -, -, -, -, -, -, -, -, d7, d8⟩ := h
  exact ⟨hs, a1, a2, a3, a5, d7, fun w => by rw [w] at a3; rw [a3] at a1; exact absurd (show (101 : Nat) = 10 from a1) (by decide)⟩
theorem w_x_ag (h : w_x o row s len tb y nm H) : zag (fun i => tb.getD i 0) 0 (jB H row) s tb.length := fun i hi => by
  rw [Nat.zero_add]
  exact h.1.2.2.2.2.2 i _ (getD_of hi)
theorem w_ty_b (hy : w_ty tb y) : y.1.length ≤ 8 ∧ y.2.1.length ≤ 8 ∧ (∀ w ∈ y.1, w.1 + 41 ≤ tb.length) ∧ (∀ w ∈ y.2.1, w.1 + 9 ≤ tb.length) := by
  have sp := ztx_spec hy.1
  exact ⟨sp.1, sp.2.1, fun w hw => by have := sp.2.2.2.2.1 w hw; omega, fun w hw => by have := sp.2.2.2.2.2 w hw; omega⟩
theorem w_x_pl1 (h : w_x o row s len tb y nm H) : zPl H (o + 4) ((zsh1 s y.1).map (·.1)) := fun k q hq => by
  obtain ⟨-, -, c1, -⟩ := h
  rw [List.getElem?_map] at hq
  obtain ⟨w, hw, rfl⟩ := Option.map_eq_some_iff.mp hq
  have hk : k < y.1.length := by
    have := (List.getElem?_eq_some_iff.mp hw).1
    rwa [zsh1_len] at this
  rw [zsh1_at hk] at hw
  rw [c1 k hk, ← Option.some.inj hw]
theorem w_x_pl2 (h : w_x o row s len tb y nm H) : zPl H (o + 5) ((zsh1 s y.2.1).map (·.1)) := fun k q hq => by
  obtain ⟨-, -, -, c2, -⟩ := h
  rw [List.getElem?_map] at hq
  obtain ⟨w, hw, rfl⟩ := Option.map_eq_some_iff.mp hq
  have hk : k < y.2.1.length := by
    have := (List.getElem?_eq_some_iff.mp hw).1
    rwa [zsh1_len] at this
  rw [zsh1_at hk] at hw
  rw [c2 k hk, ← Option.some.inj hw]
theorem w_x_much (hs : jsh H) (h : w_x o row s len tb y nm H) (hy : w_ty tb y) : F_10_isTooMuch o H = some ((if ztm (zvs (fun i => tb.getD i 0) y.2.1) 0 = true then 1 else 0), H) := by
  obtain ⟨q1, q2, b1, b2⟩ := w_ty_b hy
  have e := zvs_move (w_x_ag h) b2
  rw [zsh1_0] at e
  rw [← e]
  exact z10_isTooMuch (outs := zsh1 s y.2.1) (w_x_O hs h) rfl h.2.1.2.2.2.2.1 (by rw [zsh1_len]; exact h.2.1.2.2.2.2.2) (by rw [zsh1_len]; exact q2) (w_x_pl2 h) (zsh1_in b2 h.1.2.2.2.1)
theorem w_x_fault (hs : jsh H) (h : w_x o row s len tb y nm H) (hy : w_ty tb y) : F_10_fault o H = some (zfl (fun i => tb.getD i 0) y.1 y.2.1, H) := by
  obtain ⟨q1, q2, b1, b2⟩ := w_ty_b hy
  have e := zfl_move (w_x_ag h) b1 b2
  rw [zsh1_0, zsh1_0] at e
  rw [← e]
  exact z10_fault (ins := zsh1 s y.1) (outs := zsh1 s y.2.1) (w_x_O hs h) rfl h.2.1.2.2.1 (by rw [zsh1_len]; exact h.2.1.2.2.2.1) (by rw [zsh1_len]; exact q1) (w_x_pl1 h) (zsh1_in b1 h.1.2.2.2.1) h.2.1.2.2.2.2.1 (by rw [zsh1_len]; exact h.2.1.2.2.2.2.2) (by rw [zsh1_len]; exact q2) (w_x_pl2 h) (zsh1_in b2 h.1.2.2.2.1)
end FX
section FB
variable {txs : List b_t} {A B : Nat} {H H0 : jH} {by_ : List UInt8}
theorem z0_isFaulty (hs : jsh H) (kB : (jK H B).1 = 0) (r4 : jR H B 4 = A) (hA : b_tr A txs H) (hty : ∀ x ∈ txs, w_ty x.2.1 x.2.2) (hl : txs.length ≤ 12) : F_0_isFaulty B H = some (if b_flf 0 txs = true then 1 else 0, H) := by
  obtain ⟨kA, hx⟩ := hA
  have loop : ∀ (d i fu : Nat), i + d = txs.length → d < fu → F_0_isFaulty_2 fu B (Int32.ofNat i) H = some (if b_flf i (txs.drop i) = true then 1 else 0, H) := by
    intro d
    induction d with
    | zero =>
      intro i fu hi hfu
      obtain ⟨fu, rfl⟩ : ∃ k, fu = k + 1 := ⟨fu - 1, by omega⟩
      unfold F_0_isFaulty_2 B_0_isFaulty_2
      rw [jg_t kB, r4, kA, jg_t rfl, if_pos (by rw [jo_le (by omega) (by omega)]; omega), jg_t (by decide), List.drop_of_length_le (by omega)]
      rfl
    | succ d ih =>
      intro i fu hi hfu
      obtain ⟨fu, rfl⟩ : ∃ k, fu = k + 1 := ⟨fu - 1, by omega⟩
      have hil : i < txs.length := by omega
      have e1 : Int32.ofNat i + 1 = Int32.ofNat (i + 1) := jo_add (a := i) (b := 1)
      obtain ⟨row, s, len, w⟩ := hx i _ (List.getElem?_eq_getElem hil)
      have hy := hty _ (List.getElem_mem hil)
      have ko := w.1.1
      have q2 := (w_ty_b hy).2.1
      have nxt := ih (i + 1) fu (by omega) (by omega)
      have eF : b_flf i (txs[i] :: txs.drop (i + 1)) = (b_bdi i txs[i] || b_flf (i + 1) (txs.drop (i + 1))) := rfl
      unfold F_0_isFaulty_2 B_0_isFaulty_2 B_0_isFaulty_37 B_0_isFaulty_57
      rw [jg_t kB, r4, kA, jg_t rfl, if_neg (by rw [jo_le (by omega) (by omega)]; omega), jg_t kB, jg_t ⟨rfl, jo_in (by omega) hil⟩, jo_nat (n := i) (by omega), e1, List.drop_eq_getElem_cons hil, eF]
      dsimp only [jl]
      by_cases c0 : i = 0
      · rw [if_neg (fun w => w (by rw [c0]; rfl)), jg_t ko, w.2.1.2.2.2.2.1, w.2.1.2.2.2.2.2, jg_t rfl]
        show (if Int32.ofNat txs[i].2.2.2.1.length = 0 then _ else _) = _
        have eb : b_bdi i txs[i] = (decide (txs[i].2.2.2.1.length = 0) || ztm (zvs (fun k => txs[i].2.1.getD k 0) txs[i].2.2.2.1) 0) := if_pos c0
        rw [eb]
        by_cases c1 : txs[i].2.2.2.1.length = 0
        · rw [if_pos (by rw [c1]; rfl), if_neg (by decide), jg_t (by decide), decide_eq_true c1, Bool.true_or, Bool.true_or]
          rfl
        · rw [if_neg (show ¬ Int32.ofNat txs[i].2.2.2.1.length = 0 from fun w => c1 ((jo_eq (b := 0) (by omega) (by decide)).mp w)), jg_t ko, w_x_much hs w hy, jb_ok, decide_eq_false c1, Bool.false_or]
          cases ztm (zvs (fun k => txs[i].2.1.getD k 0) txs[i].2.2.2.1) 0 with
          | true =>
            rw [if_neg (by decide), if_neg (by decide), jg_t (by decide), Bool.true_or]
            rfl
          | false =>
            rw [if_pos (by decide), if_pos rfl, Bool.false_or]
            exact nxt
      · have eb : b_bdi i txs[i] = decide (zfl (fun k => txs[i].2.1.getD k 0) txs[i].2.2.1 txs[i].2.2.2.1 ≠ 0) := if_neg c0
        rw [if_pos (show ¬ Int32.ofNat i = 0 from fun w => c0 ((jo_eq (b := 0) (by omega) (by decide)).mp w)), jg_t ko, w_x_fault hs w hy, jb_ok, eb]
        by_cases c1 : zfl (fun k => txs[i].2.1.getD k 0) txs[i].2.2.1 txs[i].2.2.2.1 = 0
        · rw [if_pos c1, if_pos rfl, decide_eq_false (fun w => w c1), Bool.false_or]
          exact nxt
        · rw [if_neg c1, if_neg (by decide), jg_t (by decide), decide_eq_true c1, Bool.true_or]
          rfl
  unfold F_0_isFaulty
  exact loop txs.length 0 jfuel (Nat.zero_add _) (by unfold jfuel; omega)
end FB
/-- a block that is shaped and not faulty has transactions as they must be -/
theorem b_toks_of {txs : List b_t} (h : ∀ x ∈ txs, w_ty x.2.1 x.2.2 ∧ x.1 = b_hs x.2.1) (hsh : b_shp txs = true) (hf : b_flf 0 txs = false) : b_toks true txs ∧ txs ≠ [] := by
  have w01 : ∀ x : b_t, w_rt x.2.1 x.2.2 = 0 ∨ w_rt x.2.1 x.2.2 = 1 := fun x => by
    unfold w_rt zany
    split
    · exact Or.inr rfl
    · exact Or.inl rfl
  have tail : ∀ (r : List b_t) (i : Nat), 1 ≤ i → (∀ x ∈ r, w_ty x.2.1 x.2.2 ∧ x.1 = b_hs x.2.1) → (r.all fun z => decide (w_rt z.2.1 z.2.2 = 0)) = true → b_flf i r = false → b_toks false r := by
    intro r
    induction r with
    | nil => intro i _ _ _ _; trivial
    | cons x r ih =>
      intro i hi h ha hf
      obtain ⟨q1, q2⟩ := h x List.mem_cons_self
      rw [List.all_cons, Bool.and_eq_true] at ha
      have hf' : (b_bdi i x || b_flf (i + 1) r) = false := hf
      rw [Bool.or_eq_false_iff] at hf'
      have eb : b_bdi i x = decide (zfl (fun k => x.2.1.getD k 0) x.2.2.1 x.2.2.2.1 ≠ 0) := if_neg (by omega)
      rw [eb] at hf'
      have z0 : zfl (fun k => x.2.1.getD k 0) x.2.2.1 x.2.2.2.1 = 0 := Classical.not_not.mp (of_decide_eq_false hf'.1)
      refine ⟨⟨by rw [q2]; exact b_hs_len, q1, of_decide_eq_true ha.1, fun _ => ?_⟩, ih (i + 1) (by omega) (fun z hz => h z (List.mem_cons_of_mem _ hz)) ha.2 hf'.2⟩
      cases ct : ztw (fun i => x.2.1.getD i 0) x.2.2.1 with
      | false => rfl
      | true =>
        unfold zfl at z0
        split at z0
        · exact absurd z0 (by decide)
        · split at z0
          · exact absurd z0 (by decide)
          · exact absurd z0 (by decide)
  cases txs with
  | nil => exact absurd hsh (by decide)
  | cons x r =>
    obtain ⟨q1, q2⟩ := h x List.mem_cons_self
    have eS : b_shp (x :: r) = (decide (x.2.2.1.length = 1) && decide (w_rt x.2.1 x.2.2 ≠ 0) && decide (2 ≤ (x.2.2.1.getD 0 (0, 0)).2) && decide ((x.2.2.1.getD 0 (0, 0)).2 ≤ 100) && r.all fun z => decide (w_rt z.2.1 z.2.2 = 0)) := rfl
    rw [eS, Bool.and_eq_true, Bool.and_eq_true, Bool.and_eq_true, Bool.and_eq_true] at hsh
    obtain ⟨⟨⟨⟨a1, a2⟩, a3⟩, a4⟩, a5⟩ := hsh
    have hf' : (b_bdi 0 x || b_flf 1 r) = false := hf
    rw [Bool.or_eq_false_iff] at hf'
    exact ⟨⟨⟨by rw [q2]; exact b_hs_len, q1, (w01 x).resolve_left (of_decide_eq_true a2), fun w => by cases w⟩, tail r 1 (Nat.le_refl _) (fun z hz => h z (List.mem_cons_of_mem _ hz)) a5 hf'.2⟩, fun w => by cases w⟩
