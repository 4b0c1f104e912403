/-! The class's machine: finish, answer, what is asked for. -/
def w_fin (st : w_R) (n : Nat) (must fit : Bool) : w_R := if must = true then w_dr st n else w_dr st n ++ [w_en (if fit = true then 1 else 0)]
theorem w_mul_eq (fit : List UInt8 → List UInt8 → Bool) (ks ss : w_R) (left : Nat) : w_mul fit ks ss left = if ss.length = 0 then some (true, left) else if ks.length < ss.length then some (false, left) else if left = 0 then none else w_mul fit (ks.drop 1) (if fit (ss.getD 0 []) (ks.getD 0 []) = true then ss.drop 1 else ss) (left - 1) := by
  match ks, ss with
  | ks, [] =>
    rw [if_pos (c := ([] : w_R).length = 0) rfl]
    cases ks <;> rfl
  | [], s :: ss => rfl
  | k :: ks, s :: ss =>
    have c1 : ¬ (s :: ss).length = 0 := by simp
    rw [if_neg c1, w_mul]
    by_cases c : ks.length < ss.length
    · have c2 : (k :: ks).length < (s :: ss).length := by rw [List.length_cons, List.length_cons]; omega
      rw [if_pos c, if_pos c2]
    · have c2 : ¬ (k :: ks).length < (s :: ss).length := by rw [List.length_cons, List.length_cons]; omega
      rw [if_neg c, if_neg c2]
      by_cases l : left = 0
      · rw [if_pos l, if_pos l]
      · rw [if_neg l, if_neg l]
        show _ = w_mul fit ks (if fit s k = true then ss else s :: ss) (left - 1)
        by_cases q : fit s k = true
        · rw [if_pos q, if_pos q]
        · rw [if_neg q, if_neg q]
section ANS
variable {r p len at_ : Nat} {scr : List UInt8} {S : w_S4} {v : Int32} {H0 H : jH}
theorem z4_finish {n : Nat} {must fit : Bool} {x : Int32} {Q : Unit → jH → Prop} (ex : x = if fit = true then 1 else 0) (h : w_G r p len scr at_ S v H0 H) (hb : S.1.length + S.2.1.length ≤ 60) (hn : n ≤ S.1.length) (h18 : jI H 170 18 = Int32.ofNat n) (h19 : jI H 170 19 = if must = true then 1 else 0)
    (hk1 : ∀ H', ¬ (must = true ∧ fit = false) → w_G r p len scr at_ (w_fin S.1 n must fit, S.2) 0 H0 H' → Q () H') (hk0 : ∀ H', must = true → fit = false → w_X H0 H' → Q () H') : jT (F_4_finish 170 x H) Q := by
  unfold F_4_finish
  have h1 := w_G_st (u := 0) h
  have m1 : jI (jsI H 170 9 0) 170 18 = Int32.ofNat n ∧ jI (jsI H 170 9 0) 170 19 = if must = true then 1 else 0 := ⟨(jI_sIn (by decide)).trans h18, (jI_sIn (by decide)).trans h19⟩
  refine jT_g (w_G_k h) (jT_l ?_)
  generalize jsI H 170 9 0 = H1 at *
  simp only [(w_N_h (w_G_N h1)).2.2.1, m1.1]
  refine jT_g (w_G_k h1) (jT_g (w_G_k h1) (jT_g (w_N_k1 (w_G_N h1)) (w_drA (w_G_N h1) rfl hn fun H2 h2 => ?_)))
  have h2' := w_G_op h1 h2
  have m2 : jI H2 170 19 = if must = true then 1 else 0 := (jfr_I h2.2.1 (by unfold w_F4; omega)).trans m1.2
  have l2 : (w_dr S.1 n).length = S.1.length - n := w_dr_len
  rw [m2]
  refine jT_g (w_G_k h2') ?_
  cases must with
  | true =>
    refine jT_pos (by decide) ?_
    unfold B_4_finish_51
    cases fit with
    | true => exact jT_pos (by rw [ex]; decide) (jT_ret (hk1 H2 (by simp) h2'))
    | false => exact jT_neg (by rw [ex]; simp) (jT_g (w_G_k h2') (jT_l (jT_ret (hk0 _ rfl rfl (w_G_X h2')))))
  | false =>
    refine jT_neg (by simp) ?_
    simp only [(w_N_h (w_G_N h2')).2.2.1]
    have go : ∀ y : Int64, y.toInt.natAbs < 1099511627776 → y = (if fit = true then 1 else 0) → jT (B_4_finish_36 171 y H2) Q := fun y hy ey => by
      unfold B_4_finish_36 B_4_finish_51
      refine jT_g (w_N_k1 (w_G_N h2')) (w_pnA (w_G_N h2') hy (by show (w_dr S.1 n).length < 70; omega) fun H3 h3 => jT_ret (hk1 H3 (by simp) ?_))
      have := w_G_op h2' h3
      rw [ey] at this
      exact this
    cases fit with
    | true => exact jT_g (w_G_k h2') (jT_neg (by rw [ex]; decide) (go 1 (by decide) rfl))
    | false => exact jT_g (w_G_k h2') (jT_pos (by rw [ex]; rfl) (go 0 (by decide) rfl))
theorem w_at_tl {st l : w_R} {v u : Int32} (h : w_at st l v) (hu : u = v - 1) : w_at st (l.drop 1) u := by
  intro hne
  have hl : 1 < l.length := by
    have := List.length_pos_iff.mpr hne
    rw [List.length_drop] at this
    omega
  obtain ⟨a, h1, h2, h3⟩ := h (fun q => by rw [q] at hl; simp at hl)
  have ha := (h3 1 hl).1
  refine ⟨a - 1, by rw [hu, h1]; exact jo_sub (b := 1) ha, by omega, fun i hi => ?_⟩
  rw [List.length_drop] at hi
  have := h3 (i + 1) (by omega)
  rw [List.getElem?_drop, Nat.add_comm 1 i, ← this.2, show a - 1 - i = a - (i + 1) by omega]
  exact ⟨by omega, rfl⟩
theorem z4_answer {n : Nat} {must fit : Bool} {ks ss : w_R} {x : Int32} {Q : Unit → jH → Prop} (ex : x = if fit = true then 1 else 0) (h : w_G r p len scr at_ S 3 H0 H) (hb : S.1.length + S.2.1.length ≤ 60) (hK : w_K S.1 ks ss n must H) (hss : ss.length ≠ 0)
    (hk1 : ∀ H', (if fit = true then ss.drop 1 else ss).length = 0 → w_G r p len scr at_ (w_fin S.1 n must true, S.2) 0 H0 H' → Q () H')
    (hk2 : ∀ H', (if fit = true then ss.drop 1 else ss).length ≠ 0 → (ks.drop 1).length < (if fit = true then ss.drop 1 else ss).length → must = false → w_G r p len scr at_ (w_fin S.1 n must false, S.2) 0 H0 H' → Q () H')
    (hk3 : ∀ H', (if fit = true then ss.drop 1 else ss).length ≠ 0 → (ks.drop 1).length < (if fit = true then ss.drop 1 else ss).length → must = true → w_X H0 H' → Q () H')
    (hk4 : ∀ H', (if fit = true then ss.drop 1 else ss).length ≠ 0 → ¬ (ks.drop 1).length < (if fit = true then ss.drop 1 else ss).length → w_G r p len scr at_ S 3 H0 H' → w_K S.1 (ks.drop 1) (if fit = true then ss.drop 1 else ss) n must H' → Q () H') : jT (F_4_answer 170 x H) Q := by
  obtain ⟨a1, a2, a3, a4, a5, a6, a7, a8, a9, a10⟩ := hK
  have dl : (ks.drop 1).length = ks.length - 1 := List.length_drop
  have sl : (ss.drop 1).length = ss.length - 1 := List.length_drop
  -- what is left
  have g33 : ∀ (H1 : jH) (ss2 : w_R), w_G r p len scr at_ S 3 H0 H1 → jI H1 170 14 = Int32.ofNat ss2.length → jI H1 170 16 = Int32.ofNat ks.length → w_at S.1 ks (jI H1 170 17) → w_at S.1 ss2 (jI H1 170 15) → jI H1 170 18 = Int32.ofNat n → jI H1 170 19 = (if must = true then 1 else 0) → ss2 = (if fit = true then ss.drop 1 else ss) → jT (B_4_answer_33 170 H1) Q := by
    intro H1 ss2 h1 b1 b2 b3 b4 b5 b6 es
    rw [← es] at hk1 hk2 hk3 hk4
    have ssl : ss2.length ≤ ss.length := by
      rw [es]
      cases fit
      · exact Nat.le_refl _
      · show (ss.drop 1).length ≤ _
        omega
    unfold B_4_answer_33
    have ek : Int32.ofNat ks.length - 1 = Int32.ofNat (ks.length - 1) := jo_sub (a := ks.length) (b := 1) (by omega)
    rw [b2, ek]
    refine jT_g (w_G_k h1) (jT_g (w_G_k h1) (jT_l ?_))
    have h2 := w_G_f (j := 16) (u := Int32.ofNat (ks.length - 1)) h1 (by decide)
    have m2 : ∀ j, j ≠ 16 → jI (jsI H1 170 16 (Int32.ofNat (ks.length - 1))) 170 j = jI H1 170 j := fun j hj => jI_sIn hj
    have m16 : jI (jsI H1 170 16 (Int32.ofNat (ks.length - 1))) 170 16 = Int32.ofNat (ks.length - 1) := jI_sIe
    generalize jsI H1 170 16 (Int32.ofNat (ks.length - 1)) = H2 at *
    refine jT_g (w_G_k h2) (jT_g (w_G_k h2) (jT_l ?_))
    have h3 := w_G_f (j := 17) (u := jI H2 170 17 - 1) h2 (by decide)
    have m3 : ∀ j, j ≠ 17 → jI (jsI H2 170 17 (jI H2 170 17 - 1)) 170 j = jI H2 170 j := fun j hj => jI_sIn hj
    have m17 : jI (jsI H2 170 17 (jI H2 170 17 - 1)) 170 17 = jI H1 170 17 - 1 := jI_sIe.trans (by rw [m2 17 (by decide)])
    generalize jsI H2 170 17 (jI H2 170 17 - 1) = H3 at *
    have q14 : jI H3 170 14 = Int32.ofNat ss2.length := (m3 14 (by decide)).trans ((m2 14 (by decide)).trans b1)
    have q16 : jI H3 170 16 = Int32.ofNat (ks.length - 1) := (m3 16 (by decide)).trans m16
    have q15 : jI H3 170 15 = jI H1 170 15 := (m3 15 (by decide)).trans (m2 15 (by decide))
    have q18 : jI H3 170 18 = Int32.ofNat n := (m3 18 (by decide)).trans ((m2 18 (by decide)).trans b5)
    have q19 : jI H3 170 19 = if must = true then 1 else 0 := (m3 19 (by decide)).trans ((m2 19 (by decide)).trans b6)
    simp only [q14, q16]
    refine jT_g (w_G_k h3) ?_
    unfold B_4_answer_87
    by_cases z : ss2.length = 0
    · refine jT_pos (by rw [z]; rfl) ?_
      unfold B_4_answer_71 B_4_answer_84 B_4_answer_87
      rw [q14]
      exact jT_g (w_G_k h3) (jT_neg (fun q => q (by rw [z]; rfl)) (jT_g (w_G_k h3) (jT_b (z4_finish (fit := true) rfl h3 hb a7 q18 q19 (fun H' _ h' => jT_ret (hk1 H' z h')) fun H' _ q _ => absurd q (by decide)))))
    · refine jT_neg (fun q => z ((jo_eq (a := ss2.length) (b := 0) (by omega) (by decide)).mp q)) (jT_g (w_G_k h3) (jT_g (w_G_k h3) ?_))
      by_cases c : ss2.length ≤ ks.length - 1
      · refine jT_pos (by rw [jo_le (by omega) (by omega)]; exact c) (jT_ret (hk4 H3 z (by omega) h3 ⟨q14, by rw [dl]; exact q16, w_at_tl b3 m17, by rw [q15]; exact b4, q18, q19, a7, by omega, by omega, a10⟩))
      · refine jT_neg (by rw [jo_le (by omega) (by omega)]; exact c) ?_
        unfold B_4_answer_71 B_4_answer_84 B_4_answer_87
        rw [q14]
        refine jT_g (w_G_k h3) (jT_pos (fun q => z ((jo_eq (a := ss2.length) (b := 0) (by omega) (by decide)).mp q)) (jT_g (w_G_k h3) (jT_b (z4_finish (fit := false) rfl h3 hb a7 q18 q19 (fun H' q h' => ?_) fun H' q _ hx => ?_))))
        · exact jT_ret (hk2 H' z (by omega) (by cases must <;> simp_all) h')
        · exact jT_ret (hk3 H' z (by omega) q hx)
  unfold F_4_answer
  rw [h.2.2.1]
  refine jT_g (w_G_k h) (jT_pos rfl ?_)
  cases fit with
  | false =>
    exact jT_pos (by rw [ex]; rfl) (g33 H ss h a1 a2 a3 a4 a5 a6 rfl)
  | true =>
    refine jT_neg (by rw [ex]; decide) ?_
    have es : Int32.ofNat ss.length - 1 = Int32.ofNat (ss.length - 1) := jo_sub (a := ss.length) (b := 1) (by omega)
    rw [a1, es]
    refine jT_g (w_G_k h) (jT_g (w_G_k h) (jT_l ?_))
    have h2 := w_G_f (j := 14) (u := Int32.ofNat (ss.length - 1)) h (by decide)
    have m2 : ∀ j, j ≠ 14 → jI (jsI H 170 14 (Int32.ofNat (ss.length - 1))) 170 j = jI H 170 j := fun j hj => jI_sIn hj
    have m14 : jI (jsI H 170 14 (Int32.ofNat (ss.length - 1))) 170 14 = Int32.ofNat (ss.length - 1) := jI_sIe
    generalize jsI H 170 14 (Int32.ofNat (ss.length - 1)) = H2 at *
    refine jT_g (w_G_k h2) (jT_g (w_G_k h2) (jT_l ?_))
    have h3 := w_G_f (j := 15) (u := jI H2 170 15 - 1) h2 (by decide)
    have m3 : ∀ j, j ≠ 15 → jI (jsI H2 170 15 (jI H2 170 15 - 1)) 170 j = jI H2 170 j := fun j hj => jI_sIn hj
    have m15 : jI (jsI H2 170 15 (jI H2 170 15 - 1)) 170 15 = jI H 170 15 - 1 := jI_sIe.trans (by rw [m2 15 (by decide)])
    generalize jsI H2 170 15 (jI H2 170 15 - 1) = H3 at *
    refine g33 H3 (ss.drop 1) h3 ?_ ?_ ?_ (w_at_tl a4 m15) ?_ ?_ rfl
    · rw [m3 14 (by decide), m14, sl]
    · rw [m3 16 (by decide), m2 16 (by decide), a2]
    · rw [m3 17 (by decide), m2 17 (by decide)]
      exact a3
    · rw [m3 18 (by decide), m2 18 (by decide), a5]
    · rw [m3 19 (by decide), m2 19 (by decide), a6]
/-- the element that is asked for -/
theorem w_at_row {l : w_R} {u : Int32} (h : w_G r p len scr at_ S v H0 H) (ha : w_at S.1 l u) (hl : l.length ≠ 0) : ∃ a, u = Int32.ofNat a ∧ a < S.1.length ∧ S.1.length ≤ 70 ∧ jK H (jR H 172 a) = (101, 120) ∧ zRow H (jR H 172 a) 0 (l.getD 0 []) ∧ jI H 243 a = Int32.ofNat (l.getD 0 []).length ∧ (l.getD 0 []).length ≤ 120 ∧ 173 ≤ jR H 172 a ∧ jR H 172 a < 243 := by
  obtain ⟨a, h1, h2, h3⟩ := ha (fun q => hl (by rw [q]; rfl))
  have q := (h3 0 (by omega)).2
  have e : l[0]? = some (l.getD 0 []) := by
    rw [List.getD_eq_getElem?_getD, List.getElem?_eq_getElem (by omega)]
    rfl
  rw [Nat.sub_zero, e] at q
  obtain ⟨z1, z2, z3, z4, z5⟩ := h.1.2.1
  obtain ⟨y1, y2, y3⟩ := z5 _ _ q
  have hr := z3 a (by omega)
  exact ⟨a, h1, h2, z1, (sSt h.1.1 zS171).2.2.2.2.2 _ hr.1 hr.2, y3, y2, y1, hr.1, hr.2⟩
theorem z4_signature {ks ss : w_R} {n : Nat} {must : Bool} (h : w_G r p len scr at_ S v H0 H) (hK : w_K S.1 ks ss n must H) (hl : ss.length ≠ 0) : ∃ q, F_4_signature 170 H = some (q, H) ∧ F_4_signatureSize 170 H = some (Int32.ofNat (ss.getD 0 []).length, H) ∧ jK H q = (101, 120) ∧ zRow H q 0 (ss.getD 0 []) ∧ (ss.getD 0 []).length ≤ 120 ∧ 173 ≤ q ∧ q < 243 := by
  obtain ⟨a, e1, e2, e3, e4, e5, e6, e7, e8, e9⟩ := w_at_row h hK.2.2.2.1 hl
  obtain ⟨k0, r0, r1, k1, k2, k3⟩ := sSt h.1.1 zS171
  have hh := (w_G_len h).1
  have k4 := w_G_k h
  have n0 : ¬ Int32.ofNat a < 0 := by rw [show (0 : Int32) = Int32.ofNat 0 from rfl, jo_lt (by omega) (by omega)]; omega
  have n1 : Int32.ofNat a < Int32.ofNat S.1.length := by rw [jo_lt (by omega) (by omega)]; exact e2
  refine ⟨jR H 172 a, ?_, ?_, e4, e5, e7, e8, e9⟩
  · unfold F_4_signature B_4_signature_40
    simp only [e1, sR_170_1 h.1.1, hh, r0, jo_nat (n := a) (by omega)]
    rw [jg_t k4, if_neg n0, jg_t k4, jg_t k4, jg_t k0, if_pos n1, jg_t k4, jg_t k0, jg_t k4, jg_t (gA k1 (jo_in (by omega) (by omega)))]
  · unfold F_4_signatureSize B_4_signatureSize_37
    simp only [e1, sR_170_1 h.1.1, hh, r1, jo_nat (n := a) (by omega), e6]
    rw [jg_t k4, if_neg n0, jg_t k4, jg_t k4, jg_t k0, if_pos n1, jg_t k4, jg_t k0, jg_t k4, jg_t (gA k2 (jo_in (by omega) (by omega)))]
theorem z4_publicKey {ks ss : w_R} {n : Nat} {must : Bool} (h : w_G r p len scr at_ S v H0 H) (hK : w_K S.1 ks ss n must H) (hl : ks.length ≠ 0) : ∃ q, F_4_publicKey 170 H = some (q, H) ∧ F_4_publicKeySize 170 H = some (Int32.ofNat (ks.getD 0 []).length, H) ∧ jK H q = (101, 120) ∧ zRow H q 0 (ks.getD 0 []) ∧ (ks.getD 0 []).length ≤ 120 ∧ 173 ≤ q ∧ q < 243 := by
  obtain ⟨a, e1, e2, e3, e4, e5, e6, e7, e8, e9⟩ := w_at_row h hK.2.2.1 hl
  obtain ⟨k0, r0, r1, k1, k2, k3⟩ := sSt h.1.1 zS171
  have hh := (w_G_len h).1
  have k4 := w_G_k h
  have n0 : ¬ Int32.ofNat a < 0 := by rw [show (0 : Int32) = Int32.ofNat 0 from rfl, jo_lt (by omega) (by omega)]; omega
  have n1 : Int32.ofNat a < Int32.ofNat S.1.length := by rw [jo_lt (by omega) (by omega)]; exact e2
  refine ⟨jR H 172 a, ?_, ?_, e4, e5, e7, e8, e9⟩
  · unfold F_4_publicKey B_4_publicKey_40
    simp only [e1, sR_170_1 h.1.1, hh, r0, jo_nat (n := a) (by omega)]
    rw [jg_t k4, if_neg n0, jg_t k4, jg_t k4, jg_t k0, if_pos n1, jg_t k4, jg_t k0, jg_t k4, jg_t (gA k1 (jo_in (by omega) (by omega)))]
  · unfold F_4_publicKeySize B_4_publicKeySize_37
    simp only [e1, sR_170_1 h.1.1, hh, r1, jo_nat (n := a) (by omega), e6]
    rw [jg_t k4, if_neg n0, jg_t k4, jg_t k4, jg_t k0, if_pos n1, jg_t k4, jg_t k0, jg_t k4, jg_t (gA k2 (jo_in (by omega) (by omega)))]
end ANS
