/-! The class's machine: ask, answer, finish. -/
def w_at (st l : w_R) (v : Int32) : Prop := l ≠ [] → ∃ a, v = Int32.ofNat a ∧ a < st.length ∧ ∀ i, i < l.length → i ≤ a ∧ st[a - i]? = l[i]?
def w_K (st ks ss : w_R) (n : Nat) (must : Bool) (H : jH) : Prop :=
  jI H 170 14 = Int32.ofNat ss.length ∧ jI H 170 16 = Int32.ofNat ks.length ∧ w_at st ks (jI H 170 17) ∧ w_at st ss (jI H 170 15) ∧ jI H 170 18 = Int32.ofNat n ∧ jI H 170 19 = (if must = true then 1 else 0) ∧ n ≤ st.length ∧ ss.length ≤ ks.length ∧ ks.length ≤ 8 ∧ 2 ≤ n
theorem w_ops_len {st : w_R} {f n : Nat} : (w_ops st f n).length = n := by
  unfold w_ops
  rw [List.length_map, List.length_range]
theorem w_ops_at {st : w_R} {f n a : Nat} {v : Int32} (hf : 1 ≤ f) (hn : f + n ≤ st.length + 1) (hv : v = Int32.ofNat a) (ha : a = st.length - f) : w_at st (w_ops st f n) v := by
  intro hne
  have hl : (w_ops st f n).length = n := w_ops_len
  have h1 : 1 ≤ n := by
    have := List.length_pos_iff.mpr hne
    omega
  refine ⟨a, hv, by omega, fun i hi => ?_⟩
  rw [hl] at hi
  refine ⟨by omega, ?_⟩
  have := w_tp_at (st := st) (k := f + i) (by omega) (by omega)
  rw [ha, show st.length - f - i = st.length - (f + i) by omega, this]
  unfold w_ops
  rw [List.getElem?_map, List.getElem?_range hi]
  rfl
section ASK
variable {r p len at_ : Nat} {scr : List UInt8} {S : w_S4} {v : Int32} {H0 H : jH} {Q : Unit → jH → Prop}
theorem w_G_f {j : Nat} {u : Int32} (h : w_G r p len scr at_ S v H0 H) (hj : 14 ≤ j) : w_G r p len scr at_ S v H0 (jsI H 170 j u) := by
  obtain ⟨a, f, c, ⟨d1, d2, d3, d4, d5, d6⟩, ⟨e1, e2, e3, e4, e5⟩, g, i1, i2, i3⟩ := h
  exact ⟨w_M_f a, jfr_sI f (Or.inl (by omega)), (jI_sIn (by omega)).trans c, ⟨d1, d2, d3, d4, d5, d6⟩, ⟨(jI_sIn (by omega)).trans e1, (jI_sIn (by omega)).trans e2, (jI_sIn (by omega)).trans e3, (jI_sIn (by omega)).trans e4, (jI_sIn (by omega)).trans e5⟩, fun k hk => (jI_sIa (by decide)).trans (g k hk), i1, i2, i3⟩
theorem w_G_X (h : w_G r p len scr at_ S v H0 H) : w_X H0 (jsI H 170 9 2) := ⟨⟨_, _, (w_G_st h).1⟩, (w_G_st h).2.1, (w_G_st h).2.2.1⟩
theorem w_N_X {st sd : w_R} {H' : jH} (h : w_G r p len scr at_ S v H0 H) (h' : w_N st sd 2 H H') : w_X H0 H' := ⟨⟨_, _, h'.1⟩, jfr_trans h.2.1 (jfr_mono h'.2.1 fun _ _ => w_F4_5), h'.2.2⟩
theorem w_G_len (h : w_G r p len scr at_ S v H0 H) : jI H 171 2 = Int32.ofNat S.1.length ∧ S.1.length ≤ 70 := ⟨h.1.2.1.2.1, h.1.2.1.1⟩
theorem z4_ask {c : Nat} (hc : c < 256) (h : w_G r p len scr at_ S 0 H0 H) (hb : S.1.length + S.2.1.length ≤ 60)
    (hk1 : ∀ a H', w_ask c S.2.2.1 S.1 = some a → w_G r p len scr at_ (S.1, S.2.1, a.2.2.2, S.2.2.2) 3 H0 H' → w_K S.1 a.1 a.2.1 a.2.2.1 (w_must c) H' → Q () H') (hk0 : ∀ H', w_ask c S.2.2.1 S.1 = none → w_X H0 H' → Q () H') : jT (F_4_ask 170 (Int32.ofNat c) H) Q := by
  have ec : ∀ k, k < 256 → (Int32.ofNat c = Int32.ofNat k ↔ c = k) := fun k hk => jo_eq (by omega) (by omega)
  have bad14 : w_ask c S.2.2.1 S.1 = none → jT (B_4_ask_14 170 H) Q := fun hn => by
    unfold B_4_ask_14
    exact jT_g (w_G_k h) (jT_l (jT_ret (hk0 _ hn (w_G_X h))))
  have g40 : ∀ s1 : Int32, s1 = (if w_must c = true then 1 else 0) → 172 ≤ c → c ≤ 175 → jT (B_4_ask_40 170 (Int32.ofNat c) 170 s1 H) Q := by
    intro s1 es c1 c2
    unfold B_4_ask_40
    have h1 := w_G_f (j := 19) (u := s1) h (by decide)
    have m1 : jI (jsI H 170 19 s1) 170 19 = if w_must c = true then 1 else 0 := jI_sIe.trans es
    refine jT_g ⟨w_G_k h, by rw [es]; cases w_must c <;> simp⟩ (jT_l ?_)
    generalize jsI H 170 19 s1 = H1 at *
    by_cases c3 : 173 < c
    · refine jT_pos (by rw [show (173 : Int32) = Int32.ofNat 173 from rfl, jo_lt (by omega) (by omega)]; exact c3) (jT_g (w_G_k h1) ?_)
      have b144 : w_ask c S.2.2.1 S.1 = none → jT (B_4_ask_144 170 H1) Q := fun hn => by
        unfold B_4_ask_144
        exact jT_g (w_G_k h1) (jT_l (jT_ret (hk0 _ hn (w_G_X h1))))
      have eask : w_ask c S.2.2.1 S.1 = if S.1.length < 1 then none else match w_ix (w_tp S.1 1) 9 with
          | none => none
          | some n => if 100 < S.2.2.1 + n ∨ S.1.length < n + 2 then none
            else match w_ix (w_tp S.1 (n + 2)) (n + 1) with
              | none => none
              | some m => if S.1.length < n + m + 3 then none else some (w_ops S.1 2 n, w_ops S.1 (n + 3) m, n + m + 3, S.2.2.1 + n) := by
        unfold w_ask
        rw [if_neg (by omega), if_neg (by omega)]
        rfl
      simp only [(w_N_h (w_G_N h1)).2.2.1]
      refine jT_g (w_N_k1 (w_G_N h1)) (w_isN (n := 1) (w_G_N h1) rfl (Nat.le_refl 1) (by decide) (fun hl h4 => ?_) fun hno => ?_)
      rotate_left
      · refine jT_pos rfl (b144 ?_)
        rw [eask]
        by_cases q : S.1.length < 1
        · rw [if_pos q]
        · rw [if_neg q]
          have : w_ix (w_tp S.1 1) 9 = none := by unfold w_ix; rw [if_neg fun w => hno ⟨by omega, w.1⟩]
          rw [this]
      rw [if_neg (by omega)] at eask
      have e0 : (0 : Int64).toInt = 0 := rfl
      have nk1 := w_N_k1 (w_G_N h1)
      have numb : ∀ {α : Type} {Q' : α → jH → Prop} {k : Int64 → jH → Option (α × jH)}, jT (k (zno (w_tp S.1 1)) H1) Q' → jT (jb (F_9_number 171 1 H1) k) Q' := fun hh => w_numA (n := 1) (w_G_N h1) rfl (Nat.le_refl 1) hl h4 hh
      refine jT_neg (by decide) (jT_g (w_G_k h1) ?_)
      simp only [(w_N_h (w_G_N h1)).2.2.1]
      refine jT_g nk1 (numb ?_)
      by_cases p0 : zno (w_tp S.1 1) < 0
      · refine jT_pos p0 (b144 ?_)
        rw [Int64.lt_iff_toInt_lt, e0] at p0
        have : w_ix (w_tp S.1 1) 9 = none := by unfold w_ix; rw [if_neg fun w => by omega]
        rw [eask, this]
      refine jT_neg p0 (jT_g (w_G_k h1) ?_)
      rw [Int64.lt_iff_toInt_lt, e0] at p0
      simp only [(w_N_h (w_G_N h1)).2.2.1]
      refine jT_g nk1 (numb ?_)
      by_cases p1 : (zno (w_tp S.1 1)).toInt < (9 : Nat)
      rotate_left
      · refine jT_neg (by rw [Int64.le_iff_toInt_le, show (8 : Int64).toInt = 8 from rfl]; omega) (b144 ?_)
        have : w_ix (w_tp S.1 1) 9 = none := by unfold w_ix; rw [if_neg fun w => p1 w.2.2]
        rw [eask, this]
      refine jT_pos (by rw [Int64.le_iff_toInt_le, show (8 : Int64).toInt = 8 from rfl]; omega) (jT_g (w_G_k h1) ?_)
      have eix : w_ix (w_tp S.1 1) 9 = some (zno (w_tp S.1 1)).toInt.toNat := by unfold w_ix; rw [if_pos ⟨h4, by omega, p1⟩]
      have e32 := lo_ix (n := 9) (by decide) (by omega) p1
      simp only [(w_N_h (w_G_N h1)).2.2.1]
      refine jT_g nk1 (numb ?_)
      rw [e32]
      generalize hn : (zno (w_tp S.1 1)).toInt.toNat = n at *
      have hn9 : n < 9 := by omega
      rw [eix] at eask
      refine jT_g (w_G_k h1) (jT_l ?_)
      have h2 := w_G_f (j := 16) (u := Int32.ofNat n) h1 (by decide)
      have m2 : jI (jsI H1 170 16 (Int32.ofNat n)) 170 16 = Int32.ofNat n ∧ jI (jsI H1 170 16 (Int32.ofNat n)) 170 19 = if w_must c = true then 1 else 0 := ⟨jI_sIe, (jI_sIn (by decide)).trans m1⟩
      generalize jsI H1 170 16 (Int32.ofNat n) = H2 at *
      have hops := h2.2.2.2.2.2.2.2.1
      have eo : jI H2 170 10 + Int32.ofNat n = Int32.ofNat (S.2.2.1 + n) := by rw [h2.2.2.2.2.1.2.2.1, jo_add]
      have b254 : ∀ u Sx H3, w_G r p len scr at_ Sx u H0 H3 → w_ask c S.2.2.1 S.1 = none → jT (B_4_ask_254 170 H3) Q := fun u Sx H3 h3 hq => by
        unfold B_4_ask_254
        exact jT_g (w_G_k h3) (jT_l (jT_ret (hk0 _ hq (w_G_X h3))))
      rw [m2.1, eo]
      refine jT_g (w_G_k h2) (jT_g (w_G_k h2) (jT_g (w_G_k h2) (jT_l ?_)))
      by_cases p2 : 100 < S.2.2.1 + n
      · have hx : w_X H0 (jsI (jsI H2 170 10 (Int32.ofNat (S.2.2.1 + n))) 170 9 2) := by
          refine ⟨⟨_, _, w_M_f (w_M_f h2.1)⟩, jfr_sI (jfr_sI h2.2.1 (Or.inl (by decide))) (Or.inl (by decide)), jI_sIe⟩
        have k4 : (jK (jsI H2 170 10 (Int32.ofNat (S.2.2.1 + n))) 170).1 = 4 := gT (sK_170 (jsh_sI h2.1.1 (by decide)))
        refine jT_g k4 (jT_pos ?_ ?_)
        · rw [jI_sIe, show (100 : Int32) = Int32.ofNat 100 from rfl, jo_lt (by omega) (by omega)]
          exact p2
        · unfold B_4_ask_254
          refine jT_g k4 (jT_l (jT_ret (hk0 _ ?_ hx)))
          rw [eask]
          show (if 100 < S.2.2.1 + n ∨ S.1.length < n + 2 then none else _) = none
          rw [if_pos (Or.inl p2)]
      have h3 := w_G_ops (n := S.2.2.1 + n) h2 (by omega) (by omega)
      have m3 : jI (jsI H2 170 10 (Int32.ofNat (S.2.2.1 + n))) 170 16 = Int32.ofNat n ∧ jI (jsI H2 170 10 (Int32.ofNat (S.2.2.1 + n))) 170 19 = if w_must c = true then 1 else 0 := ⟨(jI_sIn (by decide)).trans m2.1, (jI_sIn (by decide)).trans m2.2⟩
      generalize jsI H2 170 10 (Int32.ofNat (S.2.2.1 + n)) = H3 at *
      have nk3 := w_N_k1 (w_G_N h3)
      have e2n : (2 : Int32) + Int32.ofNat n = Int32.ofNat (n + 2) := (jo_add (a := 2) (b := n)).trans (by rw [Nat.add_comm])
      have e10 : jI H3 170 10 = Int32.ofNat (S.2.2.1 + n) := h3.2.2.2.2.1.2.2.1
      rw [e10, m3.1, e2n]
      refine jT_g (w_G_k h3) (jT_neg (by rw [show (100 : Int32) = Int32.ofNat 100 from rfl, jo_lt (by omega) (by omega)]; exact p2) (jT_g (w_G_k h3) (jT_g (w_G_k h3) (w_has (n := n + 2) (w_G_N h3) rfl (by omega) (fun hl2 => ?_) fun hl2 H4 h4' => ?_))))
      rotate_left
      · refine jT_pos rfl (b254 _ _ H4 (w_G_op h3 h4') ?_)
        rw [eask]
        show (if 100 < S.2.2.1 + n ∨ S.1.length < n + 2 then none else _) = none
        rw [if_pos (Or.inr hl2)]
      have eask2 : w_ask c S.2.2.1 S.1 = match w_ix (w_tp S.1 (n + 2)) (n + 1) with
              | none => none
              | some m => if S.1.length < n + m + 3 then none else some (w_ops S.1 2 n, w_ops S.1 (n + 3) m, n + m + 3, S.2.2.1 + n) := by
        rw [eask]
        show (if 100 < S.2.2.1 + n ∨ S.1.length < n + 2 then none else _) = _
        have hl2' : n + 2 ≤ S.1.length := hl2
        rw [if_neg (by omega)]
      clear eask
      have hl2' : n + 2 ≤ S.1.length := hl2
      refine jT_neg (by decide) ?_
      simp only [(w_N_h (w_G_N h3)).2.2.1, m3.1, e2n]
      refine jT_g (w_G_k h3) (jT_g (w_G_k h3) (jT_g nk3 (w_isN (n := n + 2) (w_G_N h3) rfl (by omega) (by omega) (fun _ h42 => ?_) fun hno => ?_)))
      rotate_left
      · refine jT_pos rfl (b254 _ _ H3 h3 ?_)
        have : w_ix (w_tp S.1 (n + 2)) (n + 1) = none := by unfold w_ix; rw [if_neg fun w => hno ⟨hl2, w.1⟩]
        rw [eask2, this]
      have numb2 : ∀ {α : Type} {Q' : α → jH → Prop} {k : Int64 → jH → Option (α × jH)}, jT (k (zno (w_tp S.1 (n + 2))) H3) Q' → jT (jb (F_9_number 171 (Int32.ofNat (n + 2)) H3) k) Q' := fun hh => w_numA (n := n + 2) (w_G_N h3) rfl (by omega) hl2 h42 hh
      refine jT_neg (by decide) ?_
      simp only [(w_N_h (w_G_N h3)).2.2.1, m3.1, e2n]
      refine jT_g (w_G_k h3) (jT_g (w_G_k h3) (jT_g nk3 (numb2 ?_)))
      by_cases q0 : zno (w_tp S.1 (n + 2)) < 0
      · refine jT_pos q0 (b254 _ _ H3 h3 ?_)
        rw [Int64.lt_iff_toInt_lt, e0] at q0
        have : w_ix (w_tp S.1 (n + 2)) (n + 1) = none := by unfold w_ix; rw [if_neg fun w => by omega]
        rw [eask2, this]
      refine jT_neg q0 ?_
      rw [Int64.lt_iff_toInt_lt, e0] at q0
      simp only [(w_N_h (w_G_N h3)).2.2.1, m3.1, e2n]
      refine jT_g (w_G_k h3) (jT_g (w_G_k h3) (jT_g nk3 (numb2 ?_)))
      rw [m3.1, lo_of (by omega)]
      refine jT_g (w_G_k h3) ?_
      by_cases q1 : (zno (w_tp S.1 (n + 2))).toInt < (n + 1 : Nat)
      rotate_left
      · refine jT_neg (by rw [Int64.le_iff_toInt_le, lo_i (by omega)]; omega) (b254 _ _ H3 h3 ?_)
        have : w_ix (w_tp S.1 (n + 2)) (n + 1) = none := by unfold w_ix; rw [if_neg fun w => q1 w.2.2]
        rw [eask2, this]
      have eix2 : w_ix (w_tp S.1 (n + 2)) (n + 1) = some (zno (w_tp S.1 (n + 2))).toInt.toNat := by unfold w_ix; rw [if_pos ⟨h42, by omega, q1⟩]
      have e322 := lo_ix (n := n + 1) (by omega) (by omega) q1
      refine jT_pos (by rw [Int64.le_iff_toInt_le, lo_i (by omega)]; omega) ?_
      simp only [(w_N_h (w_G_N h3)).2.2.1, m3.1, e2n]
      refine jT_g (w_G_k h3) (jT_g (w_G_k h3) (jT_g nk3 (numb2 ?_)))
      rw [e322]
      generalize hm : (zno (w_tp S.1 (n + 2))).toInt.toNat = m at *
      rw [eix2] at eask2
      have eask3 : w_ask c S.2.2.1 S.1 = if S.1.length < n + m + 3 then none else some (w_ops S.1 2 n, w_ops S.1 (n + 3) m, n + m + 3, S.2.2.1 + n) := eask2
      have hmn : m ≤ n := by omega
      refine jT_g (w_G_k h3) (jT_l ?_)
      have h4g := w_G_f (j := 14) (u := Int32.ofNat m) h3 (by decide)
      have m4 : jI (jsI H3 170 14 (Int32.ofNat m)) 170 16 = Int32.ofNat n ∧ jI (jsI H3 170 14 (Int32.ofNat m)) 170 19 = (if w_must c = true then 1 else 0) ∧ jI (jsI H3 170 14 (Int32.ofNat m)) 170 14 = Int32.ofNat m := ⟨(jI_sIn (by decide)).trans m3.1, (jI_sIn (by decide)).trans m3.2, jI_sIe⟩
      generalize jsI H3 170 14 (Int32.ofNat m) = H4 at *
      have e3 : (3 : Int32) + Int32.ofNat n + Int32.ofNat m = Int32.ofNat (n + m + 3) := by
        rw [show (3 : Int32) = Int32.ofNat 3 from rfl, jo_add, jo_add, show 3 + n + m = n + m + 3 by omega]
      rw [m4.1, m4.2.2, e3]
      refine jT_g (w_G_k h4g) (jT_g (w_G_k h4g) (jT_g (w_G_k h4g) (jT_l ?_)))
      have h5 := w_G_f (j := 18) (u := Int32.ofNat (n + m + 3)) h4g (by decide)
      have m5 : jI (jsI H4 170 18 (Int32.ofNat (n + m + 3))) 170 16 = Int32.ofNat n ∧ jI (jsI H4 170 18 (Int32.ofNat (n + m + 3))) 170 19 = (if w_must c = true then 1 else 0) ∧ jI (jsI H4 170 18 (Int32.ofNat (n + m + 3))) 170 14 = Int32.ofNat m ∧ jI (jsI H4 170 18 (Int32.ofNat (n + m + 3))) 170 18 = Int32.ofNat (n + m + 3) := ⟨(jI_sIn (by decide)).trans m4.1, (jI_sIn (by decide)).trans m4.2.1, (jI_sIn (by decide)).trans m4.2.2, jI_sIe⟩
      generalize jsI H4 170 18 (Int32.ofNat (n + m + 3)) = H5 at *
      rw [m5.2.2.2]
      refine jT_g (w_G_k h5) (jT_g (w_G_k h5) (w_has (n := n + m + 3) (w_G_N h5) rfl (by omega) (fun hl3 => ?_) fun hl3 H6 h6 => ?_))
      rotate_left
      · have hl3' : S.1.length < n + m + 3 := hl3
        exact jT_neg (fun q => q rfl) (jT_ret (hk0 H6 (by rw [eask3, if_pos hl3']) (w_N_X h5 h6)))
      have hl3' : n + m + 3 ≤ S.1.length := hl3
      rw [if_neg (by omega)] at eask3
      obtain ⟨L1, L2⟩ := w_G_len h5
      have L1' : jI H5 171 2 = Int32.ofNat S.1.length := L1
      have L2' : S.1.length ≤ 70 := L2
      have ek : Int32.ofNat S.1.length - 2 = Int32.ofNat (S.1.length - 2) := jo_sub (a := S.1.length) (b := 2) (by omega)
      have es3 : Int32.ofNat S.1.length - 3 - Int32.ofNat n = Int32.ofNat (S.1.length - (n + 3)) := by
        rw [show (3 : Int32) = Int32.ofNat 3 from rfl, jo_sub (by omega), jo_sub (by omega), show S.1.length - 3 - n = S.1.length - (n + 3) by omega]
      simp only [(w_N_h (w_G_N h5)).2.2.1, L1', ek]
      refine jT_pos (by decide) (jT_g (w_G_k h5) (jT_g (w_N_k1 (w_G_N h5)) (jT_g (w_G_k h5) (jT_l ?_))))
      have h6 := w_G_f (j := 17) (u := Int32.ofNat (S.1.length - 2)) h5 (by decide)
      have m6 : jI (jsI H5 170 17 (Int32.ofNat (S.1.length - 2))) 170 16 = Int32.ofNat n ∧ jI (jsI H5 170 17 (Int32.ofNat (S.1.length - 2))) 170 19 = (if w_must c = true then 1 else 0) ∧ jI (jsI H5 170 17 (Int32.ofNat (S.1.length - 2))) 170 14 = Int32.ofNat m ∧ jI (jsI H5 170 17 (Int32.ofNat (S.1.length - 2))) 170 18 = Int32.ofNat (n + m + 3) ∧ jI (jsI H5 170 17 (Int32.ofNat (S.1.length - 2))) 170 17 = Int32.ofNat (S.1.length - 2) := ⟨(jI_sIn (by decide)).trans m5.1, (jI_sIn (by decide)).trans m5.2.1, (jI_sIn (by decide)).trans m5.2.2.1, (jI_sIn (by decide)).trans m5.2.2.2, jI_sIe⟩
      generalize jsI H5 170 17 (Int32.ofNat (S.1.length - 2)) = H6 at *
      have L6 : jI H6 171 2 = Int32.ofNat S.1.length := (w_G_len h6).1
      simp only [(w_N_h (w_G_N h6)).2.2.1, L6, m6.1, es3]
      refine jT_g (w_G_k h6) (jT_g (w_N_k1 (w_G_N h6)) (jT_g (w_G_k h6) (jT_g (w_G_k h6) (jT_l ?_))))
      have h7 := w_G_f (j := 15) (u := Int32.ofNat (S.1.length - (n + 3))) h6 (by decide)
      have m7 : jI (jsI H6 170 15 (Int32.ofNat (S.1.length - (n + 3)))) 170 16 = Int32.ofNat n ∧ jI (jsI H6 170 15 (Int32.ofNat (S.1.length - (n + 3)))) 170 19 = (if w_must c = true then 1 else 0) ∧ jI (jsI H6 170 15 (Int32.ofNat (S.1.length - (n + 3)))) 170 14 = Int32.ofNat m ∧ jI (jsI H6 170 15 (Int32.ofNat (S.1.length - (n + 3)))) 170 18 = Int32.ofNat (n + m + 3) ∧ jI (jsI H6 170 15 (Int32.ofNat (S.1.length - (n + 3)))) 170 17 = Int32.ofNat (S.1.length - 2) ∧ jI (jsI H6 170 15 (Int32.ofNat (S.1.length - (n + 3)))) 170 15 = Int32.ofNat (S.1.length - (n + 3)) := ⟨(jI_sIn (by decide)).trans m6.1, (jI_sIn (by decide)).trans m6.2.1, (jI_sIn (by decide)).trans m6.2.2.1, (jI_sIn (by decide)).trans m6.2.2.2.1, (jI_sIn (by decide)).trans m6.2.2.2.2, jI_sIe⟩
      generalize jsI H6 170 15 (Int32.ofNat (S.1.length - (n + 3))) = H7 at *
      refine jT_g (w_G_k h7) (jT_l (jT_ret (hk1 _ _ eask3 (w_G_st (u := 3) h7) ⟨?_, ?_, ?_, ?_, ?_, ?_, hl3', ?_, ?_, ?_⟩)))
      · refine (jI_sIn (by decide)).trans (m7.2.2.1.trans ?_)
        rw [w_ops_len]
      · refine (jI_sIn (by decide)).trans (m7.1.trans ?_)
        rw [w_ops_len]
      · exact w_ops_at (a := S.1.length - 2) (by decide) (by omega) ((jI_sIn (by decide)).trans m7.2.2.2.2.1) rfl
      · exact w_ops_at (a := S.1.length - (n + 3)) (by omega) (by omega) ((jI_sIn (by decide)).trans m7.2.2.2.2.2) rfl
      · exact (jI_sIn (by decide)).trans m7.2.2.2.1
      · exact (jI_sIn (by decide)).trans m7.2.1
      · rw [w_ops_len, w_ops_len]
        exact hmn
      · rw [w_ops_len]
        omega
      · show 2 ≤ n + m + 3
        omega
    · -- one signature
      refine jT_neg (by rw [show (173 : Int32) = Int32.ofNat 173 from rfl, jo_lt (by omega) (by omega)]; exact c3) (jT_g (w_G_k h1) (w_has (n := 2) (w_G_N h1) rfl (by decide) (fun hl => ?_) fun hl H2 h2 => ?_))
      · have hl' : 2 ≤ S.1.length := hl
        have eask : w_ask c S.2.2.1 S.1 = some (w_ops S.1 1 1, w_ops S.1 2 1, 2, S.2.2.1) := by
          unfold w_ask
          rw [if_neg (by omega), if_pos (by omega), if_pos hl']
        refine jT_neg (by decide) (jT_g (w_G_k h1) (jT_l ?_))
        have h2 := w_G_f (j := 16) (u := 1) h1 (by decide)
        have m2 : jI (jsI H1 170 16 1) 170 16 = 1 ∧ jI (jsI H1 170 16 1) 170 19 = if w_must c = true then 1 else 0 := ⟨jI_sIe, (jI_sIn (by decide)).trans m1⟩
        generalize jsI H1 170 16 1 = H2 at *
        refine jT_g (w_G_k h2) (jT_l ?_)
        have h3 := w_G_f (j := 14) (u := 1) h2 (by decide)
        have m3 : jI (jsI H2 170 14 1) 170 16 = 1 ∧ jI (jsI H2 170 14 1) 170 19 = (if w_must c = true then 1 else 0) ∧ jI (jsI H2 170 14 1) 170 14 = 1 := ⟨(jI_sIn (by decide)).trans m2.1, (jI_sIn (by decide)).trans m2.2, jI_sIe⟩
        generalize jsI H2 170 14 1 = H3 at *
        have L3 : jI H3 171 2 = Int32.ofNat S.1.length := (w_G_len h3).1
        have L70 : S.1.length ≤ 70 := (w_G_len h3).2
        have ek1 : Int32.ofNat S.1.length - 1 = Int32.ofNat (S.1.length - 1) := jo_sub (a := S.1.length) (b := 1) (by omega)
        have ek2 : Int32.ofNat S.1.length - 2 = Int32.ofNat (S.1.length - 2) := jo_sub (a := S.1.length) (b := 2) (by omega)
        simp only [(w_N_h (w_G_N h3)).2.2.1, L3, ek1]
        refine jT_g (w_G_k h3) (jT_g (w_N_k1 (w_G_N h3)) (jT_g (w_G_k h3) (jT_l ?_)))
        have h4 := w_G_f (j := 17) (u := Int32.ofNat (S.1.length - 1)) h3 (by decide)
        have m4 : jI (jsI H3 170 17 (Int32.ofNat (S.1.length - 1))) 170 16 = 1 ∧ jI (jsI H3 170 17 (Int32.ofNat (S.1.length - 1))) 170 19 = (if w_must c = true then 1 else 0) ∧ jI (jsI H3 170 17 (Int32.ofNat (S.1.length - 1))) 170 14 = 1 ∧ jI (jsI H3 170 17 (Int32.ofNat (S.1.length - 1))) 170 17 = Int32.ofNat (S.1.length - 1) := ⟨(jI_sIn (by decide)).trans m3.1, (jI_sIn (by decide)).trans m3.2.1, (jI_sIn (by decide)).trans m3.2.2, jI_sIe⟩
        generalize jsI H3 170 17 (Int32.ofNat (S.1.length - 1)) = H4 at *
        have L4 : jI H4 171 2 = Int32.ofNat S.1.length := (w_G_len h4).1
        simp only [(w_N_h (w_G_N h4)).2.2.1, L4, ek2]
        refine jT_g (w_G_k h4) (jT_g (w_N_k1 (w_G_N h4)) (jT_g (w_G_k h4) (jT_l ?_)))
        have h5 := w_G_f (j := 15) (u := Int32.ofNat (S.1.length - 2)) h4 (by decide)
        have m5 : jI (jsI H4 170 15 (Int32.ofNat (S.1.length - 2))) 170 16 = 1 ∧ jI (jsI H4 170 15 (Int32.ofNat (S.1.length - 2))) 170 19 = (if w_must c = true then 1 else 0) ∧ jI (jsI H4 170 15 (Int32.ofNat (S.1.length - 2))) 170 14 = 1 ∧ jI (jsI H4 170 15 (Int32.ofNat (S.1.length - 2))) 170 17 = Int32.ofNat (S.1.length - 1) ∧ jI (jsI H4 170 15 (Int32.ofNat (S.1.length - 2))) 170 15 = Int32.ofNat (S.1.length - 2) := ⟨(jI_sIn (by decide)).trans m4.1, (jI_sIn (by decide)).trans m4.2.1, (jI_sIn (by decide)).trans m4.2.2.1, (jI_sIn (by decide)).trans m4.2.2.2, jI_sIe⟩
        generalize jsI H4 170 15 (Int32.ofNat (S.1.length - 2)) = H5 at *
        refine jT_g (w_G_k h5) (jT_l ?_)
        have h6 := w_G_f (j := 18) (u := 2) h5 (by decide)
        have m6 : jI (jsI H5 170 18 2) 170 16 = 1 ∧ jI (jsI H5 170 18 2) 170 19 = (if w_must c = true then 1 else 0) ∧ jI (jsI H5 170 18 2) 170 14 = 1 ∧ jI (jsI H5 170 18 2) 170 17 = Int32.ofNat (S.1.length - 1) ∧ jI (jsI H5 170 18 2) 170 15 = Int32.ofNat (S.1.length - 2) ∧ jI (jsI H5 170 18 2) 170 18 = 2 := ⟨(jI_sIn (by decide)).trans m5.1, (jI_sIn (by decide)).trans m5.2.1, (jI_sIn (by decide)).trans m5.2.2.1, (jI_sIn (by decide)).trans m5.2.2.2.1, (jI_sIn (by decide)).trans m5.2.2.2.2, jI_sIe⟩
        generalize jsI H5 170 18 2 = H6 at *
        unfold B_4_ask_104
        refine jT_g (w_G_k h6) (jT_l (jT_ret (hk1 _ _ eask (w_G_st (u := 3) h6) ⟨(jI_sIn (by decide)).trans m6.2.2.1, (jI_sIn (by decide)).trans m6.1, ?_, ?_, (jI_sIn (by decide)).trans m6.2.2.2.2.2, (jI_sIn (by decide)).trans m6.2.1, hl', ?_, ?_, ?_⟩)))
        · exact w_ops_at (a := S.1.length - 1) (by decide) (by omega) ((jI_sIn (by decide)).trans m6.2.2.2.1) rfl
        · exact w_ops_at (a := S.1.length - 2) (by decide) (by omega) ((jI_sIn (by decide)).trans m6.2.2.2.2.1) rfl
        · rw [w_ops_len, w_ops_len]
          exact Nat.le_refl 1
        · rw [w_ops_len]
          decide
        · exact Nat.le_refl 2
      · have hl' : S.1.length < 2 := hl
        unfold B_4_ask_104
        refine jT_pos rfl (jT_ret (hk0 H2 ?_ (w_N_X h1 h2)))
        unfold w_ask
        rw [if_neg (by omega), if_pos (by omega), if_neg (by omega)]
  unfold F_4_ask B_4_ask_35
  by_cases c1 : c < 172
  · exact jT_pos (by rw [show (172 : Int32) = Int32.ofNat 172 from rfl, jo_lt (by omega) (by omega)]; exact c1) (bad14 (by unfold w_ask; rw [if_pos (Or.inl c1)]))
  refine jT_neg (by rw [show (172 : Int32) = Int32.ofNat 172 from rfl, jo_lt (by omega) (by omega)]; exact c1) ?_
  by_cases c2 : c ≤ 175
  · refine jT_pos (by rw [show (175 : Int32) = Int32.ofNat 175 from rfl, jo_le (by omega) (by omega)]; exact c2) ?_
    by_cases c3 : c = 173
    · exact jT_pos ((ec 173 (by decide)).mpr c3) (g40 1 (by unfold w_must; rw [decide_eq_true c3]; rfl) (by omega) c2)
    · refine jT_neg (fun q => c3 ((ec 173 (by decide)).mp q)) ?_
      by_cases c5 : c = 175
      · exact jT_neg (fun q => q ((ec 175 (by decide)).mpr c5)) (g40 1 (by unfold w_must; rw [decide_eq_true c5, Bool.or_true]; rfl) (by omega) c2)
      · exact jT_pos (fun q => c5 ((ec 175 (by decide)).mp q)) (g40 0 (by unfold w_must; rw [decide_eq_false c3, decide_eq_false c5]; rfl) (by omega) c2)
  · exact jT_neg (by rw [show (175 : Int32) = Int32.ofNat 175 from rfl, jo_le (by omega) (by omega)]; exact c2) (bad14 (by unfold w_ask; rw [if_pos (Or.inr (by omega))]))
end ASK
