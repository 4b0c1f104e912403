/-! Whether a block is shaped: the class. -/
def b_shp : List b_t → Bool
  | [] => false
  | x :: r => decide (x.2.2.1.length = 1) && decide (w_rt x.2.1 x.2.2 ≠ 0) && decide (2 ≤ (x.2.2.1.getD 0 (0, 0)).2) && decide ((x.2.2.1.getD 0 (0, 0)).2 ≤ 100) && r.all fun z => decide (w_rt z.2.1 z.2.2 = 0)
/-- the class's row of a block's transactions -/
def b_tr (A : Nat) (txs : List b_t) (H : jH) : Prop := jK H A = (113, txs.length) ∧ ∀ j x, txs[j]? = some x → ∃ row s len, w_x (jR H A j) row s len x.2.1 x.2.2 x.1 H
section SH0
variable {txs : List b_t} {A B : Nat} {H : jH}
theorem z0_isShaped (kB : (jK H B).1 = 0) (r4 : jR H B 4 = A) (hA : b_tr A txs H) (hty : ∀ x ∈ txs, w_ty x.2.1 x.2.2) (hl : txs.length ≤ 12) : F_0_isShaped B H = some (if b_shp txs = true then 1 else 0, H) := by
  obtain ⟨kA, hx⟩ := hA
  have loop : ∀ (d i fu : Nat), i + d = txs.length → d < fu → F_0_isShaped_71 fu B (Int32.ofNat i) H = some (if (txs.drop i).all (fun z => decide (w_rt z.2.1 z.2.2 = 0)) = true then 1 else 0, H) := by
    intro d
    induction d with
    | zero =>
      intro i fu hi hfu
      obtain ⟨fu, rfl⟩ : ∃ k, fu = k + 1 := ⟨fu - 1, by omega⟩
      unfold F_0_isShaped_71 B_0_isShaped_71
      rw [jg_t kB, r4, kA, jg_t rfl, if_pos (by rw [jo_le (by omega) (by omega)]; omega), jg_t (by decide), List.drop_of_length_le (by omega)]
      rfl
    | succ d ih =>
      intro i fu hi hfu
      obtain ⟨fu, rfl⟩ : ∃ k, fu = k + 1 := ⟨fu - 1, by omega⟩
      have hil : i < txs.length := by omega
      have e1 : Int32.ofNat i + 1 = Int32.ofNat (i + 1) := jo_add (a := i) (b := 1)
      obtain ⟨row, s, len, w⟩ := hx i _ (List.getElem?_eq_getElem hil)
      have ko := w.1.1
      have w7 : jI H (jR H A i) 7 = w_rt txs[i].2.1 txs[i].2.2 := w.2.2.2.2.2.2.2.2.2.1
      unfold F_0_isShaped_71 B_0_isShaped_71
      rw [jg_t kB, r4, kA, jg_t rfl, if_neg (by rw [jo_le (by omega) (by omega)]; omega), jg_t kB, jg_t ⟨rfl, jo_in (by omega) hil⟩, jo_nat (n := i) (by omega), jg_t ko, w7, e1, List.drop_eq_getElem_cons hil, List.all_cons]
      by_cases c : w_rt txs[i].2.1 txs[i].2.2 = 0
      · rw [if_pos c, decide_eq_true c, Bool.true_and]
        exact ih (i + 1) fu (by omega) (by omega)
      · rw [if_neg c, jg_t (by decide), decide_eq_false c, Bool.false_and]
        rfl
  unfold F_0_isShaped B_0_isShaped_34 B_0_isShaped_67
  rw [jg_t kB, r4, kA, jg_t rfl]
  cases txs with
  | nil =>
    rw [if_pos (by decide), jg_t (by decide)]
    rfl
  | cons x r =>
    obtain ⟨row, s, len, w⟩ := hx 0 x rfl
    have hy := hty x List.mem_cons_self
    have l8 := (ztx_spec hy.1).1
    have ko := w.1.1
    have w7 : jI H (jR H A 0) 7 = w_rt x.2.1 x.2.2 := w.2.2.2.2.2.2.2.2.2.1
    have w4 : jR H (jR H A 0) 4 = jR H A 0 + 4 := w.2.1.2.2.1
    have k4 : jK H (jR H A 0 + 4) = (100, x.2.2.1.length) := w.2.1.2.2.2.1
    have hl' : r.length + 1 ≤ 12 := hl
    have g0 : jin 0 (x :: r).length := jo_in (n := 0) (by decide) (Nat.succ_pos _)
    have jn0 : (0 : Int32).toNatClampNeg = 0 := rfl
    rw [if_neg (show ¬ Int32.ofNat (113, (x :: r).length).2 = 0 from fun w => absurd ((jo_eq (a := r.length + 1) (b := 0) (by omega) (by decide)).mp w) (by omega)), jg_t kB, jg_t ⟨rfl, g0⟩, jn0, jg_t ko, w4, k4, jg_t rfl]
    show (if ¬ Int32.ofNat x.2.2.1.length = 1 then _ else _) = _
    have eS : b_shp (x :: r) = (decide (x.2.2.1.length = 1) && decide (w_rt x.2.1 x.2.2 ≠ 0) && decide (2 ≤ (x.2.2.1.getD 0 (0, 0)).2) && decide ((x.2.2.1.getD 0 (0, 0)).2 ≤ 100) && r.all fun z => decide (w_rt z.2.1 z.2.2 = 0)) := rfl
    rw [eS]
    by_cases c1 : x.2.2.1.length = 1
    · rw [if_neg (fun w => w (by rw [c1]; rfl)), jg_t kB, jg_t ⟨rfl, g0⟩, jg_t ko, w7, decide_eq_true c1, Bool.true_and]
      by_cases c2 : w_rt x.2.1 x.2.2 = 0
      · rw [if_neg (fun w => w c2), jg_t (by decide), decide_eq_false (fun w => w c2), Bool.false_and, Bool.false_and, Bool.false_and]
        rfl
      · have es := w_x_si (i := 0) w hy (by omega)
        have ei := z10_inputScript (i := 0) w hy (by omega)
        have s256 : (x.2.2.1.getD 0 (0, 0)).2 < 256 := by
          obtain ⟨w1, w2, w3, w4⟩ := w_in x.2.2 x.2.1 hy (i := 0) (by omega)
          have := UInt8.toNat_lt (x.2.1.getD ((x.2.2.1.getD 0 (0, 0)).1 + 36) 0)
          omega
        rw [if_pos c2, jg_t kB, jg_t ⟨rfl, g0⟩, jg_t kB, jg_t ⟨rfl, g0⟩, jg_t ko]
        show jb (F_10_inputScript (jR H A 0) (Int32.ofNat 0) H) _ = _
        rw [ei, jb_ok, jg_t ko, es, jb_ok, decide_eq_true c2, Bool.true_and]
        generalize (x.2.2.1.getD 0 (0, 0)).2 = n at s256
        by_cases c3 : 2 ≤ n
        · rw [if_neg (by show ¬ _ < Int32.ofNat 2; rw [jo_lt (by omega) (by decide)]; omega), decide_eq_true c3, Bool.true_and]
          by_cases c4 : n ≤ 100
          · rw [if_pos (by show _ ≤ Int32.ofNat 100; rw [jo_le (by omega) (by decide)]; exact c4), decide_eq_true c4, Bool.true_and]
            exact loop r.length 1 jfuel (Nat.add_comm _ _) (by unfold jfuel; omega)
          · rw [if_neg (by show ¬ _ ≤ Int32.ofNat 100; rw [jo_le (by omega) (by decide)]; exact c4), jg_t (by decide), decide_eq_false c4, Bool.false_and]
            rfl
        · rw [if_pos (by show _ < Int32.ofNat 2; rw [jo_lt (by omega) (by decide)]; omega), jg_t (by decide), decide_eq_false c3, Bool.false_and, Bool.false_and]
          rfl
    · rw [if_pos (show ¬ Int32.ofNat x.2.2.1.length = 1 from fun w => c1 ((jo_eq (b := 1) (by omega) (by decide)).mp w)), jg_t (by decide), decide_eq_false c1, Bool.false_and, Bool.false_and, Bool.false_and, Bool.false_and]
      rfl
end SH0
