/-! mix, settle. -/
section MIX
variable {Q : Unit → jH → Prop} {to a b : Nat} {m n : Int}
theorem z5_mix3 {H0 : jH} {f g : Nat → Int} (k0 : jK H0 to = (103, 10)) (k1 : jK H0 a = (103, 10)) (k2 : jK H0 b = (103, 10)) (hf : zg H0 a f) (hg : zg H0 b g)
    (hk : ∀ H', jfL (· = to) H0 H' → zg H' to (fun i => m * f i + n * g i) → Q () H') :
    ∀ (d i fu : Nat) (H : jH), i + d = 10 → d < fu → jfL (· = to) H0 H → (∀ j, j < i → jL H to j = Int64.ofInt (m * f j + n * g j)) → (∀ j, i ≤ j → jL H a j = jL H0 a j ∧ jL H b j = jL H0 b j) →
      jT (F_5_mix_3 fu to a (Int64.ofInt m) b (Int64.ofInt n) (Int32.ofNat i) H) Q := by
  intro d
  induction d with
  | zero =>
    intro i fu H hi hfu hfr h1 h2
    obtain ⟨fu, rfl⟩ : ∃ k, fu = k + 1 := ⟨fu - 1, by omega⟩
    obtain rfl : i = 10 := by omega
    unfold F_5_mix_3 B_5_mix_3
    exact jT_pos (by decide) (jT_ret (hk H hfr fun j hj => h1 j hj))
  | succ d ih =>
    intro i fu H hi hfu hfr h1 h2
    obtain ⟨fu, rfl⟩ : ∃ k, fu = k + 1 := ⟨fu - 1, by omega⟩
    unfold F_5_mix_3 B_5_mix_3
    have e1 : Int32.ofNat i + 1 = Int32.ofNat (i + 1) := jo_add (a := i) (b := 1)
    have kk0 : jK H to = (103, 10) := by rw [hfr.1, k0]
    have kk1 : jK H a = (103, 10) := by rw [hfr.1, k1]
    have kk2 : jK H b = (103, 10) := by rw [hfr.1, k2]
    rw [e1, jo_nat (n := i) (by omega), (h2 i (Nat.le_refl i)).1, (h2 i (Nat.le_refl i)).2, hf i (by omega), hg i (by omega), li_mul, li_mul, li_add]
    refine jT_neg (by rw [show (10 : Int32) = Int32.ofNat 10 from rfl, jo_le (by omega) (by omega)]; omega) (jT_g (gL kk1 (jo_in (by omega) (by omega))) (jT_g (gL kk2 (jo_in (by omega) (by omega))) (jT_g (gL kk0 (jo_in (by omega) (by omega))) (jT_l (jT_l ?_)))))
    refine ih (i + 1) fu _ (by omega) (by omega) (jfL_sL hfr rfl) (fun j hj => ?_) fun j hj => ?_
    · by_cases e : j = i
      · rw [e]
        exact jup_eq
      · exact (jup_i e).trans (h1 j (by omega))
    · have q : ∀ c, jL (jsL H to i (Int64.ofInt (m * f i + n * g i))) c j = jL H c j := fun c => jup_i (by omega)
      rw [q, q]
      exact h2 j (by omega)
theorem fe_lin (f g : Nat → Int) : fe (fun i => m * f i + n * g i) = m * fe f + n * fe g := by
  unfold fe
  grind
theorem z5_mix {H : jH} {u v : ef} {A B C : Int} (k0 : jK H to = (103, 10)) (k1 : jK H a = (103, 10)) (k2 : jK H b = (103, 10)) (ha : zL H a u A) (hb : zL H b v B)
    (hC : ∀ x y, -A ≤ x → x ≤ A → -B ≤ y → y ≤ B → -C ≤ m * x + n * y ∧ m * x + n * y ≤ C) {m' n' : Int64} (hm : m' = Int64.ofInt m) (hn : n' = Int64.ofInt n)
    (hk : ∀ H', jfL (· = to) H H' → zL H' to (ef_i m * u + ef_i n * v) C → Q () H') : jT (F_5_mix to a m' b n' H) Q := by
  obtain ⟨f, f1, f2, f3⟩ := ha
  obtain ⟨g, g1, g2, g3⟩ := hb
  rw [hm, hn]
  unfold F_5_mix
  refine z5_mix3 k0 k1 k2 f1 g1 (fun H' hfr hz => hk H' hfr ⟨_, hz, fun i hi => hC _ _ (f2 i hi).1 (f2 i hi).2 (g2 i hi).1 (g2 i hi).2, ?_⟩) 10 0 jfuel H rfl (by unfold jfuel; omega) jfL_refl (fun j hj => absurd hj (Nat.not_lt_zero j)) fun j _ => ⟨rfl, rfl⟩
  rw [fe_lin, ef_add, ef_mul, ef_mul, f3, g3]
end MIX
section SETTLE
variable {Q : Unit → jH → Prop} {r : Nat} {H0 : jH} {g : Nat → Int}
theorem fe_fold (g : Nat → Int) : fe (zup (zup (zup g 9 (g 9 % 67108864)) 0 (g 0 + g 9 / 67108864 * 15632)) 1 (g 1 + g 9 / 67108864 * 1024)) = fe g - 16 * (g 9 / 67108864 * (np_P : Int)) := by
  have e := Int.emod_add_mul_ediv (g 9) 67108864
  have e2 : (np_P : Int) = 115792089237316195423570985008687907853269984665640564039457584007908834671663 := rfl
  rw [e2]
  unfold fe zup
  simp (decide := true) only [reduceIte]
  omega
theorem z5_settle2 (k0 : jK H0 r = (103, 10)) (hb : ∀ j, j < 10 → -8589934592 ≤ g j ∧ g j ≤ 8589934592)
    (hk : ∀ H' f, jfL (· = r) H0 H' → zg H' r f → (∀ i, i < 10 → -134217728 ≤ f i ∧ f i ≤ 134217728) → ef_i (fe f) = ef_i (fe g) → Q () H') :
    ∀ (d i fu : Nat) (H : jH), i + d = 9 → d < fu → jfL (· = r) H0 H → zg H r (zch g i) → jT (F_5_settle_2 fu r (Int32.ofNat i) H) Q := by
  have hb2 : ∀ j, j < 10 → -70368744177664 ≤ g j ∧ g j ≤ 70368744177664 := fun j hj => by
    have := hb j hj
    omega
  intro d
  induction d with
  | zero =>
    intro i fu H hi hfu hfr hz
    obtain ⟨fu, rfl⟩ : ∃ k, fu = k + 1 := ⟨fu - 1, by omega⟩
    obtain rfl : i = 9 := by omega
    unfold F_5_settle_2 B_5_settle_2
    have kH : jK H r = (103, 10) := by rw [hfr.1, k0]
    obtain ⟨b1, -, b2, b3⟩ := zch_b hb2 (n := 9) (by omega)
    have b4 := hb 9 (by omega)
    have hv := zch_fe (g := g) (n := 9) (by omega)
    generalize zch g 9 = c at hz b1 b2 b3 hv
    refine jT_pos (by decide) (jT_g (gL kH (by decide)) (jT_lo (e' := Int64.ofInt (c 9 / 67108864)) (by rw [show (9 : Int32).toNatClampNeg = 9 from rfl, hz 9 (by omega), li_shr26 (by omega) (by omega)]) ?_))
    refine jT_g (gL kH (by decide)) (jT_g (gL kH (by decide)) (jT_w hfr rfl hz (i := 9) (v := c 9 % 67108864) rfl (by rw [show (9 : Int32).toNatClampNeg = 9 from rfl, hz 9 (by omega), li_and26]) fun H2 hf2 hz2 => ?_))
    have kH2 : jK H2 r = (103, 10) := by rw [hf2.1, k0]
    refine jT_g (gL kH2 (by decide)) (jT_g (gL kH2 (by decide)) (jT_w hf2 rfl hz2 (i := 0) (v := c 0 + c 9 / 67108864 * 15632) rfl (by rw [show (0 : Int32).toNatClampNeg = 0 from rfl, hz2 0 (by omega), show (15632 : Int64) = Int64.ofInt 15632 from rfl, li_mul, li_add]; rfl) fun H3 hf3 hz3 => ?_))
    have kH3 : jK H3 r = (103, 10) := by rw [hf3.1, k0]
    refine jT_g (gL kH3 (by decide)) (jT_g (gL kH3 (by decide)) (jT_w hf3 rfl hz3 (i := 1) (v := c 1 + c 9 / 67108864 * 1024) rfl (by rw [show (1 : Int32).toNatClampNeg = 1 from rfl, hz3 1 (by omega), show (1024 : Int64) = Int64.ofInt 1024 from rfl, li_mul, li_add]; rfl) fun H4 hf4 hz4 => jT_ret ?_))
    refine hk H4 _ hf4 hz4 (fun i hi => ?_) ?_
    · have q0 := b1 0 (by omega)
      have q1 := b1 1 (by omega)
      have qi := b1 i
      unfold zup
      by_cases e1 : i = 1
      · rw [if_pos e1]
        omega
      · rw [if_neg e1]
        by_cases e0 : i = 0
        · rw [if_pos e0]
          omega
        · rw [if_neg e0]
          by_cases e9 : i = 9
          · rw [if_pos e9]
            omega
          · rw [if_neg e9]
            have := qi (by omega)
            omega
    · rw [fe_fold, ← hv, ef_eq]
      rw [show fe c - 16 * (c 9 / 67108864 * (np_P : Int)) = fe c + (-(16 * (c 9 / 67108864))) * (np_P : Int) by rw [Int.neg_mul, Int.mul_assoc]; omega, Int.add_mul_emod_self_right]
  | succ d ih =>
    intro i fu H hi hfu hfr hz
    obtain ⟨fu, rfl⟩ : ∃ k, fu = k + 1 := ⟨fu - 1, by omega⟩
    unfold F_5_settle_2 B_5_settle_2
    obtain ⟨b1, b0, b2, b3⟩ := zch_b hb2 (n := i) (by omega)
    have b4 := hb i (by omega)
    refine jT_neg (by rw [show (9 : Int32) = Int32.ofNat 9 from rfl, jo_le (by omega) (by omega)]; omega) (z5_st hfr rfl k0 (by omega) hz (by omega) fun H' hf' hz' => ih (i + 1) fu H' (by omega) (by omega) hf' hz')
theorem z5_settle {H : jH} {v : ef} {B : Int} (k0 : jK H r = (103, 10)) (h : zL H r v B) (hB : B ≤ 8589934592) (hk : ∀ H', jfL (· = r) H H' → zL H' r v 134217728 → Q () H') : jT (F_5_settle r H) Q := by
  obtain ⟨f, f1, f2, f3⟩ := h
  unfold F_5_settle
  exact z5_settle2 (g := f) k0 (fun j hj => by have := f2 j hj; omega) (fun H' f' hfr hz hb he => hk H' hfr ⟨f', hz, hb, he.trans f3⟩) 9 0 jfuel H rfl (by unfold jfuel; omega) jfL_refl f1
end SETTLE
