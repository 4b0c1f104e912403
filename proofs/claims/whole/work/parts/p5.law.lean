/-! The law, whole. -/
theorem s_I_sh {H : jH} (h : s_I H) : jsh H := by
  obtain ⟨S, tp, kn, ki, nb, os, -, hC, -⟩ := h
  exact hC.1
theorem s_loop {L : Nat} (hL : L ≤ 5120) : ∀ (d i fu : Nat) (H : jH), L < 10 * i + 10 * d + 10 → d < fu → i ≤ 512 → s_I H → jK H 18 = (100, L) → jn H ≤ 513 + 78 * i → js H ≤ 1173692 + 2800 * i → jT (F_L_law_18 fu 18 32 421 (Int32.ofNat (10 * i)) H) jFIN := by
  intro d
  induction d with
  | zero =>
    intro i fu H hl hfu hi hI e hn hj
    obtain ⟨fu, rfl⟩ : ∃ k, fu = k + 1 := ⟨fu - 1, by omega⟩
    unfold F_L_law_18 B_L_law_18
    rw [e]
    refine jT_g rfl (jT_pos ?_ (jT_g (Or.inr rfl) (jT_ret ⟨rfl, by omega, by omega⟩)))
    rw [i32_lt, jo_int (by omega)]
    by_cases c : 10 ≤ L
    · rw [show Int32.ofNat L - 10 = Int32.ofNat (L - 10) from jo_sub (b := 10) c, jo_int (by omega)]
      omega
    · have hlt : ∀ L, L < 10 → (Int32.ofNat L - 10).toInt < 0 := by decide
      have : (Int32.ofNat (100, L).2 - 10).toInt < 0 := hlt L (by omega)
      omega
  | succ d ih =>
    intro i fu H hl hfu hi hI e hn hj
    obtain ⟨fu, rfl⟩ : ∃ k, fu = k + 1 := ⟨fu - 1, by omega⟩
    by_cases cx : L < 10 * i + 10
    · unfold F_L_law_18 B_L_law_18
      rw [e]
      refine jT_g rfl (jT_pos ?_ (jT_g (Or.inr rfl) (jT_ret ⟨rfl, by omega, by omega⟩)))
      rw [i32_lt, jo_int (by omega)]
      by_cases c : 10 ≤ L
      · rw [show Int32.ofNat L - 10 = Int32.ofNat (L - 10) from jo_sub (b := 10) c, jo_int (by omega)]
        omega
      · have hlt : ∀ L, L < 10 → (Int32.ofNat L - 10).toInt < 0 := by decide
        have : (Int32.ofNat (100, L).2 - 10).toInt < 0 := hlt L (by omega)
        omega
    · have hs := s_I_sh hI
      have h18 : 18 < jn H := by have := hs.2.2.2.2.1; omega
      have n18 : ∀ j, ¬ s_TG 18 j := fun j w => by rcases w with w | w <;> omega
      have g : ∀ {h : jH}, jK h 18 = (100, L) → ∀ n, n < 10 → (jK h 18).1 = 100 ∧ jin (Int32.ofNat (10 * i) + Int32.ofNat n) (jK h 18).2 := fun {h} eh n hn2 => by
        rw [eh, jo_add]
        exact ⟨rfl, jo_in (by omega) (show 10 * i + n < L by omega)⟩
      have g0 : (jK H 18).1 = 100 ∧ jin (Int32.ofNat (10 * i)) (jK H 18).2 := by
        rw [e]
        exact ⟨rfl, jo_in (by omega) (show 10 * i < L by omega)⟩
      have nx : ∀ {H2 : jH}, s_I H2 → jK H2 18 = (100, L) → jn H2 ≤ 513 + 78 * (i + 1) → js H2 ≤ 1173692 + 2800 * (i + 1) → jT (B_L_law_492 (F_L_law_18 fu) 18 32 421 (Int32.ofNat (10 * i)) H2) jFIN := fun {H2} a1 a2 a3 a4 => by
        unfold B_L_law_492
        have e10 : Int32.ofNat (10 * i) + 10 = Int32.ofNat (10 * (i + 1)) := (jo_add (b := 10)).trans (by rw [show 10 * i + 10 = 10 * (i + 1) by omega])
        rw [e10]
        exact jT_l (ih (i + 1) fu H2 (by omega) (by omega) (by omega) a1 a2 a3 a4)
      have k1 : ∀ {H1 : jH}, jgx s_TG 78 2800 H H1 → jK H1 18 = (100, L) := fun g1 => (jgx_K g1 h18).trans e
      have i1 : ∀ {H1 : jH}, jgx s_TG 78 2800 H H1 → jI H1 18 = jI H 18 := fun g1 => funext fun j => jgx_I g1 h18 (n18 j)
      have nx2 : ∀ {H1 H2 : jH}, jgx s_TG 78 2800 H H1 → jfr s_T18 H1 H2 → s_I H2 → jT (B_L_law_492 (F_L_law_18 fu) 18 32 421 (Int32.ofNat (10 * i)) H2) jFIN := fun g1 f2 hI2 => by
        have a1 := g1.2.1
        have a2 := g1.2.2.1
        have b1 := f2.2.1
        have b2 := f2.2.2.1
        exact nx hI2 ((jfr_K f2 18).trans (k1 g1)) (by omega) (by omega)
      have c11 : ∀ {h : jH}, jsh h → (jK h 32).1 = 11 := fun h => gT (sK_32 h)
      have c18 : ∀ {h : jH}, jsh h → (jK h 421).1 = 18 := fun h => gT (sK_421 h)
      have lt : ¬ Int32.ofNat (jK H 18).2 - 10 < Int32.ofNat (10 * i) := by
        rw [e, show Int32.ofNat (100, L).2 - 10 = Int32.ofNat (L - 10) from jo_sub (b := 10) (by omega), jo_lt (by omega) (by omega)]
        omega
      unfold F_L_law_18 B_L_law_18
      refine jT_g (by rw [e]) (jT_neg lt (jT_g g0 ?_))
      refine jT_if (fun _ => ?_) (fun _ => jT_if (fun _ => ?_) (fun _ => jT_if (fun _ => ?_) (fun _ => jT_if (fun _ => ?_) (fun _ => jT_if (fun _ => ?_) (fun _ => jT_if (fun _ => ?_) (fun _ => jT_if (fun _ => ?_) (fun _ => jT_if (fun _ => ?_) (fun _ => jT_if (fun _ => ?_) (fun _ => nx hI e (by omega) (by omega))))))))))
      · refine jT_g (g e 1 (by decide)) (jT_g (g e 2 (by decide)) (jT_g (g e 3 (by decide)) (jT_g (g e 4 (by decide)) (jT_g (g e 5 (by decide)) (jT_g (c11 hs) (jT_bi (c_feed hI) fun r H1 q => ?_))))))
        obtain ⟨s1, g1, q2⟩ := q
        have e1 := k1 g1
        rw [i1 g1]
        refine jT_g (g e1 1 (by decide)) (jT_g (g e1 2 (by decide)) (jT_g (g e1 3 (by decide)) (jT_g (g e1 4 (by decide)) (jT_g (g e1 5 (by decide)) (jT_g (c18 s1) (jT_bi q2 fun r2 H2 q3 => jT_pos q3.1.symm (nx2 g1 q3.2.2 q3.2.1)))))))
      · refine jT_g (g e 1 (by decide)) (jT_g (g e 2 (by decide)) (jT_g (c11 hs) (jT_bi (c_send hI) fun r H1 q => ?_)))
        obtain ⟨s1, g1, q2⟩ := q
        have e1 := k1 g1
        rw [i1 g1]
        exact jT_g (g e1 1 (by decide)) (jT_g (g e1 2 (by decide)) (jT_g (c18 s1) (jT_bi q2 fun r2 H2 q3 => jT_pos q3.1.symm (nx2 g1 q3.2.2 q3.2.1))))
      · refine jT_g (g e 1 (by decide)) (jT_g (c11 hs) (jT_bi (c_fetch hI) fun r H1 q => ?_))
        obtain ⟨s1, g1, q2⟩ := q
        have e1 := k1 g1
        rw [i1 g1]
        exact jT_g (g e1 1 (by decide)) (jT_g (c18 s1) (jT_bi q2 fun r2 H2 q3 => jT_pos q3.1.symm (nx2 g1 q3.2.2 q3.2.1)))
      · refine jT_g (g e 1 (by decide)) (jT_g (g e 2 (by decide)) (jT_g (c11 hs) (jT_bi (c_block hI) fun r H1 q => ?_)))
        obtain ⟨s1, g1, q2⟩ := q
        have e1 := k1 g1
        rw [i1 g1]
        exact jT_g (g e1 1 (by decide)) (jT_g (g e1 2 (by decide)) (jT_g (c18 s1) (jT_bi q2 fun r2 H2 q3 => jT_pos q3.1.symm (nx2 g1 q3.2.2 q3.2.1))))
      · refine jT_g (g e 1 (by decide)) (jT_g (g e 2 (by decide)) (jT_g (g e 3 (by decide)) (jT_g (g e 4 (by decide)) (jT_g (g e 5 (by decide)) (jT_g (g e 6 (by decide)) (jT_g (g e 7 (by decide)) (jT_g (g e 8 (by decide)) (jT_g (g e 9 (by decide)) (jT_g (c11 hs) (jT_bi (c_key hI) fun r H1 q => ?_))))))))))
        obtain ⟨s1, g1, q2⟩ := q
        have e1 := k1 g1
        rw [i1 g1]
        exact jT_g (g e1 1 (by decide)) (jT_g (g e1 2 (by decide)) (jT_g (g e1 3 (by decide)) (jT_g (g e1 4 (by decide)) (jT_g (g e1 5 (by decide)) (jT_g (g e1 6 (by decide)) (jT_g (g e1 7 (by decide)) (jT_g (g e1 8 (by decide)) (jT_g (g e1 9 (by decide)) (jT_g (c18 s1) (jT_bi q2 fun r2 H2 q3 => nx2 g1 q3.2.2 q3.2.1))))))))))
      · refine jT_g (c11 hs) (jT_bi (c_value hI) fun r H1 q => ?_)
        obtain ⟨s1, g1, q2⟩ := q
        exact jT_g (c18 s1) (jT_bi q2 fun r2 H2 q3 => jT_pos q3.1.symm (nx2 g1 q3.2.2 q3.2.1))
      · refine jT_g (c11 hs) (jT_bi (c_total hI) fun r H1 q => ?_)
        obtain ⟨s1, g1, q2⟩ := q
        exact jT_g (c18 s1) (jT_bi q2 fun r2 H2 q3 => jT_pos q3.1.symm (nx2 g1 q3.2.2 q3.2.1))
      · refine jT_g (g e 1 (by decide)) (jT_g (c11 hs) (jT_bi (c_count hI) fun r H1 q => ?_))
        obtain ⟨s1, g1, q2⟩ := q
        have e1 := k1 g1
        rw [i1 g1]
        exact jT_g (g e1 1 (by decide)) (jT_g (c18 s1) (jT_bi q2 fun r2 H2 q3 => jT_pos q3.1.symm (nx2 g1 q3.2.2 q3.2.1)))
      · refine jT_g (c11 hs) (jT_bi (c_fees hI) fun r H1 q => ?_)
        obtain ⟨s1, g1, q2⟩ := q
        exact jT_g (c18 s1) (jT_bi q2 fun r2 H2 q3 => jT_pos q3.1.symm (nx2 g1 q3.2.2 q3.2.1))
/-- on every script the law's function answers 1, within the room -/
theorem s_pure : jPURE := fun L xs hL => by
  have h : jT (F_L_law 18 (jH0 L xs)) jFIN := by
    refine k_start L xs fun H h => ?_
    have hs := f_sh h
    have := s_loop hL 512 0 jfuel H (by omega) (by unfold jfuel; omega) (by omega) (s_first h) h.2.2.2.1 (by rw [h.2.1]; omega) (by rw [h.2.2.1]; omega)
    exact this
  obtain ⟨⟨r, H'⟩, he, hr, h1, h2⟩ := h
  exact ⟨H', by rw [he]; rw [show r = 1 from hr], h1, h2⟩
theorem i_vc : Claimed_1_1 ∧ Claimed_1_2 := jclaim s_pure
