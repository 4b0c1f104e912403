/-! The law on scripts of at most ten ints. -/
def jFIN : Int32 → jH → Prop := fun r h => r = 1 ∧ jn h ≤ 600032 ∧ js h ≤ 7302250
theorem l_end {H : jH} {n : Nat} (h18 : jK H 18 = (100, 10)) (h1 : jn H = 513) (h2 : js H = 1173692) : jT (B_L_law_492 (F_L_law_18 (n + 1)) 18 32 421 0 H) jFIN := by
  unfold B_L_law_492
  refine jT_l ?_
  unfold F_L_law_18 B_L_law_18
  rw [h18]
  refine jT_g rfl (jT_pos (by decide) (jT_g (by decide) (jT_ret ⟨rfl, ?_, ?_⟩)))
  · rw [h1]
    decide
  · rw [h2]
    decide
theorem l_g {h : jH} {i : Int32} (e : jK h 18 = (100, 10)) (hi : jin i 10) : (jK h 18).1 = 100 ∧ jin i (jK h 18).2 := by
  rw [e]
  exact ⟨rfl, hi⟩
theorem jSc18 (j : Nat) : ¬ jSc 18 j := fun h => absurd h.1 (by decide)
theorem k_law10 {xs : Nat → Int32} {H : jH} (h : jst0 10 xs H) {n : Nat} : jT (F_L_law_18 (n + 2) 18 32 421 0 H) jFIN := by
  have hs := f_sh h
  have h18 : jK H 18 = (100, 10) := h.2.2.2.1
  have hn := h.2.1
  have hj := h.2.2.1
  have fin : jT (B_L_law_492 (F_L_law_18 (n + 1)) 18 32 421 0 H) jFIN := l_end h18 hn hj
  have fin2 : ∀ {S T : Nat → Nat → Prop} {H1 H2 : jH}, jfr S H H1 → jfr T H1 H2 → jT (B_L_law_492 (F_L_law_18 (n + 1)) 18 32 421 0 H2) jFIN := fun f1 f2 => l_end (((jfr_K f2 18).trans (jfr_K f1 18)).trans h18) ((f2.2.1.trans f1.2.1).trans hn) ((f2.2.2.1.trans f1.2.2.1).trans hj)
  have c11 : ∀ {h : jH}, jsh h → (jK h 32).1 = 11 := fun h => by rw [sK_32 h]
  have c18 : ∀ {h : jH}, jsh h → (jK h 421).1 = 18 := fun h => by rw [sK_421 h]
  unfold F_L_law_18 B_L_law_18
  refine jT_g (by rw [h18]) (jT_neg (by rw [h18]; decide) (jT_g (l_g h18 (by decide)) ?_))
  refine jT_if (fun _ => ?_) (fun _ => jT_if (fun _ => ?_) (fun _ => jT_if (fun _ => ?_) (fun _ => jT_if (fun _ => ?_) (fun _ => jT_if (fun _ => ?_) (fun _ => jT_if (fun _ => ?_) (fun _ => jT_if (fun _ => ?_) (fun _ => jT_if (fun _ => ?_) (fun _ => jT_if (fun _ => ?_) (fun _ => fin)))))))))
  · iterate 5 refine jT_g (l_g h18 (by decide)) ?_
    refine jT_g (c11 hs) (jT_bi (f_feed h _ _ _ _ _) fun r H1 q => ?_)
    obtain ⟨rfl, hs1, f1⟩ := q
    have k18 : jK H1 18 = (100, 10) := (jfr_K f1 18).trans h18
    iterate 5 refine jT_g (l_g k18 (by decide)) ?_
    refine jT_g (c18 hs1) (jT_b (z18_feed (t := 0) hs1 (by decide) ((jfr_I f1 (fun h => absurd h.2 (by decide))).trans (f_I h (by decide +kernel))) (fun h => absurd h (by decide)) fun H2 _ hs2 f2 _ _ => ?_))
    exact jT_pos rfl (fin2 f1 f2)
  · iterate 2 refine jT_g (l_g h18 (by decide)) ?_
    obtain ⟨q1, q2⟩ := f_send h (jI H 18 ((0 : Int32) + 1).toNatClampNeg) (jI H 18 ((0 : Int32) + 2).toNatClampNeg)
    refine jT_g (c11 hs) (jT_bi q1 fun r H1 q => ?_)
    obtain ⟨rfl, rfl⟩ := q
    iterate 2 refine jT_g (l_g h18 (by decide)) ?_
    refine jT_g (c18 hs) (jT_bi (q2 _ hs (f_I h (by decide +kernel))) fun r H2 q => ?_)
    obtain ⟨rfl, rfl⟩ := q
    exact jT_pos rfl fin
  · refine jT_g (l_g h18 (by decide)) ?_
    obtain ⟨q1, q2⟩ := f_fetch h (jI H 18 ((0 : Int32) + 1).toNatClampNeg)
    refine jT_g (c11 hs) (jT_bi q1 fun r H1 q => ?_)
    obtain ⟨rfl, hs1, f1⟩ := q
    have k18 : jK H1 18 = (100, 10) := (jfr_K f1 18).trans h18
    refine jT_g (l_g k18 (by decide)) (jT_g (c18 hs1) ?_)
    rw [jfr_I f1 (jSc18 _)]
    refine jT_bi (q2 H1 hs1 fun p _ => (jfr_I f1 (fun h => absurd h.2 (by decide))).trans (f_I h ⟨by decide, rfl⟩)) fun r H2 q => ?_
    obtain ⟨rfl, f2⟩ := q
    exact jT_pos rfl (fin2 f1 f2)
  · iterate 2 refine jT_g (l_g h18 (by decide)) ?_
    obtain ⟨v, q1, q2⟩ := f_block h (jI H 18 ((0 : Int32) + 1).toNatClampNeg) (jI H 18 ((0 : Int32) + 2).toNatClampNeg)
    refine jT_g (c11 hs) (jT_bi q1 fun r H1 q => ?_)
    obtain ⟨rfl, rfl⟩ := q
    iterate 2 refine jT_g (l_g h18 (by decide)) ?_
    refine jT_g (c18 hs) (jT_bi q2 fun r2 H2 q => ?_)
    obtain ⟨rfl, rfl⟩ := q
    exact jT_pos rfl fin
  · iterate 9 refine jT_g (l_g h18 (by decide)) ?_
    refine jT_g (c11 hs) (jT_bi (f_key h _ _ _ _ _).1 fun r H1 q => ?_)
    obtain ⟨hs1, f1⟩ := q
    have k18 : jK H1 18 = (100, 10) := (jfr_K f1 18).trans h18
    iterate 9 refine jT_g (l_g k18 (by decide)) ?_
    refine jT_g (c18 hs1) (jT_bi ((f_key h _ _ _ _ _).2 H1 hs1) fun r H2 f2 => ?_)
    exact fin2 f1 f2
  · obtain ⟨q1, q2⟩ := f_value h
    refine jT_g (c11 hs) (jT_bi q1 fun r H1 q => ?_)
    obtain ⟨rfl, rfl⟩ := q
    refine jT_g (c18 hs) (jT_bi q2 fun r2 H2 q => ?_)
    obtain ⟨rfl, rfl⟩ := q
    exact jT_pos rfl fin
  · obtain ⟨q1, q2⟩ := f_total h
    refine jT_g (c11 hs) (jT_bi q1 fun r H1 q => ?_)
    obtain ⟨rfl, rfl⟩ := q
    refine jT_g (c18 hs) (jT_bi q2 fun r2 H2 q => ?_)
    obtain ⟨rfl, rfl⟩ := q
    exact jT_pos rfl fin
  · refine jT_g (l_g h18 (by decide)) ?_
    obtain ⟨q1, q2⟩ := f_count h (jI H 18 ((0 : Int32) + 1).toNatClampNeg)
    refine jT_g (c11 hs) (jT_bi q1 fun r H1 q => ?_)
    obtain ⟨rfl, rfl⟩ := q
    refine jT_g (l_g h18 (by decide)) ?_
    refine jT_g (c18 hs) (jT_bi q2 fun r2 H2 q => ?_)
    obtain ⟨rfl, rfl⟩ := q
    exact jT_pos rfl fin
  · obtain ⟨q1, q2⟩ := f_fees h
    refine jT_g (c11 hs) (jT_bi q1 fun r H1 q => ?_)
    obtain ⟨rfl, rfl⟩ := q
    refine jT_g (c18 hs) (jT_bi q2 fun r2 H2 q => ?_)
    obtain ⟨rfl, rfl⟩ := q
    exact jT_pos rfl fin
/-- on a script of at most ten ints the law's function answers 1, within the room -/
theorem k_p1 (L : Nat) (xs : Nat → Int32) (hL : L ≤ 10) : ∃ H', F_L_law 18 (jH0 L xs) = some (1, H') ∧ jn H' ≤ 600032 ∧ js H' ≤ 7302250 := by
  have h : jT (F_L_law 18 (jH0 L xs)) jFIN := by
    refine k_start L xs fun H h => ?_
    obtain ⟨f, ef⟩ : ∃ f, jfuel = f + 2 := ⟨4294967294, rfl⟩
    rw [ef]
    by_cases h10 : L = 10
    · subst h10
      exact k_law10 h
    · unfold F_L_law_18 B_L_law_18
      rw [h.2.2.2.1]
      have hlt : ∀ L, L < 10 → Int32.ofNat L - 10 < 0 := by decide
      refine jT_g rfl (jT_pos (hlt L (by omega)) (jT_g (by decide) (jT_ret ⟨rfl, ?_, ?_⟩)))
      · rw [h.2.1]
        decide
      · rw [h.2.2.1]
        decide
  obtain ⟨⟨r, H'⟩, he, hr, h1, h2⟩ := h
  exact ⟨H', by rw [he]; rw [show r = 1 from hr], h1, h2⟩
