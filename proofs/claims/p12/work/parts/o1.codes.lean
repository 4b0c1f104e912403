/-! Codes: which there can be. -/
theorem b_seq_30 {h : Nat} : ∀ {r : List b_t} {rt : Bool} {S : b_st}, (b_seq h rt r S).1 = 0 ∨ 30 < (b_seq h rt r S).1
  | [], _, _ => Or.inl rfl
  | x :: r, rt, S => by
    unfold b_seq
    by_cases c : (b_one h rt x S).1 = 0
    · rw [if_pos c]
      exact b_seq_30
    · rw [if_neg c]
      refine Or.inr ?_
      have mk : ∀ d m, b_mk S.1 x d m = 0 ∨ 30 < b_mk S.1 x d m := fun d m => by
        unfold b_mk
        by_cases c1 : ∃ j, j < x.2.2.2.1.length ∧ w_fd S.1 x.1 j 0 ≠ none
        · rw [b_pos c1]
          exact Or.inr (by decide)
        · rw [b_neg c1]
          unfold w_mk37
          split
          · exact Or.inr (by decide)
          · split
            · exact Or.inl rfl
            · exact Or.inr (by decide)
      unfold b_one at c ⊢
      by_cases c1 : rt = true
      · rw [if_pos c1] at c ⊢
        by_cases c2 : b_mk S.1 x 0 S.2.1 = 0
        · rw [if_pos c2] at c
          exact absurd rfl c
        · rw [if_neg c2]
          exact (mk _ _).resolve_left c2
      · rw [if_neg c1] at c ⊢
        by_cases c2 : b_jd (Int32.ofNat h) S.1 x.2.1 x.2.2 = 0
        · rw [if_pos c2] at c ⊢
          cases hs : b_scr S.1 x.2.1 x.2.2 S.2.2.2 with
          | none => exact show (30 : Int32) < 34 by decide
          | some l =>
            rw [hs] at c
            show 30 < (if b_mk S.1 x x.2.2.1.length S.2.1 = 0 then ((0 : Int32), b_nxt h rt x S l) else (b_mk S.1 x x.2.2.1.length S.2.1, S)).1
            have c' : ¬ (if b_mk S.1 x x.2.2.1.length S.2.1 = 0 then ((0 : Int32), b_nxt h rt x S l) else (b_mk S.1 x x.2.2.1.length S.2.1, S)).1 = 0 := c
            by_cases c3 : b_mk S.1 x x.2.2.1.length S.2.1 = 0
            · rw [if_pos c3] at c'
              exact absurd rfl c'
            · rw [if_neg c3]
              exact (mk _ _).resolve_left c3
        · rw [if_neg c2]
          show 30 < b_jd (Int32.ofNat h) S.1 x.2.1 x.2.2
          unfold b_jd at c2 ⊢
          by_cases d1 : ∃ i, i < x.2.2.1.length ∧ w_cf S.1 x.2.1 x.2.2 i = none
          · rw [b_pos d1]
            decide
          · rw [b_neg d1] at c2 ⊢
            by_cases d2 : ∃ i c, i < x.2.2.1.length ∧ w_cf S.1 x.2.1 x.2.2 i = some c ∧ w_unr (Int32.ofNat h) c
            · rw [b_pos d2]
              decide
            · rw [b_neg d2] at c2 ⊢
              by_cases d3 : w_sum x.2.1 x.2.2 ≤ w_tot S.1 x.2.1 x.2.2 x.2.2.1.length
              · rw [b_pos d3] at c2
                exact absurd rfl c2
              · rw [b_neg d3]
                decide
theorem b_all_30 {h : Nat} {txs : List b_t} {cs : List w_cn} {m : Nat} : (b_all h txs cs m).1 = 0 ∨ 30 < (b_all h txs cs m).1 := by
  unfold b_all
  by_cases c : (b_seq h true txs (cs, m, 0, 24)).1 = 0
  · rw [if_pos c]
    split
    · exact Or.inl rfl
    · exact Or.inr (show (30 : Int32) < 35 by decide)
  · rw [if_neg c]
    exact b_seq_30
theorem b_cho_22 {bs : List b_k} {W : Nat → Nat} {bad bad' : Nat → Bool} {tip n tip' : Nat} {code : Int32} (h : b_cho bs W bad tip n tip' bad' code) : code = 0 ∨ 22 ≤ code := by
  rcases h with ⟨-, -, -, c⟩ | ⟨-, f, -, (⟨-, -, -, c⟩ | ⟨g, -, -, -, c⟩)⟩
  · exact Or.inl c
  · exact Or.inl c
  · rw [c]
    unfold b_cod
    split
    · rcases b_all_30 (h := b_ht bs n) (txs := b_tx bs n) (cs := (b_co bs n (b_ht bs n - 1)).1) (m := (b_co bs n (b_ht bs n - 1)).2) with q | q
      · exact Or.inl q
      · refine Or.inr ?_
        show (22 : Int32) ≤ (b_all (b_ht bs n) (b_tx bs n) (b_co bs n (b_ht bs n - 1)).1 (b_co bs n (b_ht bs n - 1)).2).1
        have := Int32.lt_iff_toInt_lt.mp q
        rw [Int32.le_iff_toInt_le]
        have e1 : (30 : Int32).toInt = 30 := by decide
        have e2 : (22 : Int32).toInt = 22 := by decide
        omega
    · exact Or.inr (by decide)
theorem b_tip_n {bs : List b_k} {W : Nat → Nat} {bad bad' : Nat → Bool} {tip n tip' : Nat} {code : Int32} (h : b_cho bs W bad tip n tip' bad' code) (hne : tip' ≠ tip) : tip' = n ∧ code = 0 := by
  rcases h with ⟨-, c, -, -⟩ | ⟨-, f, -, (⟨-, c, -, d⟩ | ⟨g, -, c, -, -⟩)⟩
  · exact absurd c hne
  · exact ⟨c, d⟩
  · exact absurd c hne
