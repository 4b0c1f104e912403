/-! 2 to the power of 256, divided by a number and one more: the reference. -/
theorem b_neg1 : ∀ t, t < 257 → 1 ≤ t → ¬ (0 : Int32) ≤ -Int32.ofNat t ∧ -Int32.ofNat t + 256 = Int32.ofNat (256 - t) := by decide +kernel
theorem b_sub3 {c b o : Nat} (h : c < b + o) : Int32.ofNat c - Int32.ofNat b - Int32.ofNat o = -Int32.ofNat (b + o - c) := by
  obtain ⟨t, ht⟩ : ∃ t, t = b + o - c := ⟨_, rfl⟩
  have e1 : Int32.ofNat (b + o) = Int32.ofNat c + Int32.ofNat t := by rw [jo_add]; congr 1; omega
  rw [← jo_add] at e1
  rw [← ht]
  grind
theorem b_dgm {V q r : Nat} (hr : r < 8) (h : ∃ W, V = W * 2 ^ (8 * q + r + 1)) : V / 256 ^ q % 256 + 2 ^ r < 256 := by
  obtain ⟨W, rfl⟩ := h
  have e : W * 2 ^ (8 * q + r + 1) = 256 ^ q * (W * 2 ^ (r + 1)) := by
    rw [show 8 * q + r + 1 = 8 * q + (r + 1) by omega, Nat.pow_add, Nat.pow_mul, show (2 : Nat) ^ 8 = 256 by rfl, Nat.mul_left_comm]
  rw [e, Nat.mul_div_cancel_left _ (Nat.pow_pos (by decide))]
  rcases (show r = 0 ∨ r = 1 ∨ r = 2 ∨ r = 3 ∨ r = 4 ∨ r = 5 ∨ r = 6 ∨ r = 7 by omega) with rfl | rfl | rfl | rfl | rfl | rfl | rfl | rfl
  all_goals (simp (decide := true) only [Nat.reducePow, Nat.reduceAdd]; omega)
section QU16
variable {α : Type} {H0 : jH}
/-- doubled, and one more or none -/
theorem y16_double {Q : Unit → jH → Prop} {k60 : Nat → Int32 → jH → Option (Unit × jH)} {k c in0 : Nat} (hz : zK16 H0) (hin : in0 ≤ 1) (hc : r40 H0 454 c) (hlt : 2 * c + in0 < 256 ^ 40)
    (hk : ∀ H' fu, jfr (b_Ta 454) H0 H' → r40 H' 454 (2 * c + in0) → jT (B_16_quotient_80 k60 (F_16_quotient_80 k60 fu) 445 (Int32.ofNat k) 0 40 H') Q) : jT (F_16_quotient_80 k60 jfuel 445 (Int32.ofNat k) (Int32.ofNat in0) 0 H0) Q := by
  obtain ⟨d, d1, d2⟩ := hc
  have loop : ∀ (dd i fu t : Nat) (e : Nat → Nat) (H : jH), i + dd = 40 → dd < fu → t ≤ 1 → jfr (b_Ta 454) H0 H → (∀ j, j < 40 → jI H 454 j = Int32.ofNat (if j < i then e j else d j)) → (∀ j, j < i → e j < 256) → nv 256 e i + t * 256 ^ i = 2 * nv 256 d i + in0 → jT (F_16_quotient_80 k60 fu 445 (Int32.ofNat k) (Int32.ofNat t) (Int32.ofNat i) H) Q := by
    intro dd
    induction dd with
    | zero =>
      intro i fu t e H hi hfu ht hf hv he hh
      obtain ⟨fu, rfl⟩ : ∃ k, fu = k + 1 := ⟨fu - 1, by omega⟩
      obtain rfl : i = 40 := by omega
      rw [d2] at hh
      have t0 : t = 0 := by
        rcases (show t = 0 ∨ t = 1 by omega) with h | h
        · exact h
        · rw [h, Nat.one_mul] at hh
          generalize 256 ^ 40 = z at hh hlt
          omega
      subst t0
      rw [Nat.zero_mul, Nat.add_zero] at hh
      unfold F_16_quotient_80
      exact hk H fu hf ⟨e, fun j hj => ⟨(hv j hj).trans (congrArg Int32.ofNat (if_pos hj)), he j hj⟩, hh⟩
    | succ dd ih =>
      intro i fu t e H hi hfu ht hf hv he hh
      obtain ⟨fu, rfl⟩ : ∃ k, fu = k + 1 := ⟨fu - 1, by omega⟩
      obtain ⟨a1, a2, a3, a4, a5, a6, a7, a8, a9⟩ := zK16_fr hz (jfr_mono hf (b_Ta16 (Or.inr (Or.inr rfl))))
      have e1 : Int32.ofNat i + 1 = Int32.ofNat (i + 1) := jo_add (a := i) (b := 1)
      have hdi := (d1 i (by omega)).2
      have ev : jI H 454 i = Int32.ofNat (d i) := (hv i (by omega)).trans (congrArg Int32.ofNat (if_neg (Nat.lt_irrefl _)))
      have ex : (2 : Int32) * Int32.ofNat (d i) + Int32.ofNat t = Int32.ofNat (2 * d i + t) := by
        rw [show (2 : Int32) = Int32.ofNat 2 from rfl, jo_mul, jo_add]
      have er : jrem (Int32.ofNat (2 * d i + t)) 256 = Int32.ofNat ((2 * d i + t) % 256) := jo_rem (b := 256) (by omega) (by decide)
      have eq : Int32.ofNat (2 * d i + t) / 256 = Int32.ofNat ((2 * d i + t) / 256) := jo_div (b := 256) (by omega) (by decide)
      have g : jin (Int32.ofNat i) 40 := jo_in (by omega) (by omega)
      unfold F_16_quotient_80 B_16_quotient_80
      rw [a5, a9, jo_nat (n := i) (by omega), ev, e1]
      refine jT_neg (by show ¬ Int32.ofNat 40 ≤ _; rw [jo_le (by decide) (by omega)]; omega) (jT_g a1 (jT_g ⟨rfl, g⟩ ?_))
      rw [ex]
      refine jT_l (jT_g a1 (jT_g (by decide) (jT_g ⟨rfl, by decide, g⟩ ?_)))
      rw [er, eq]
      refine jT_l (jT_g (by decide) (jT_l (jT_l (ih (i + 1) fu _ (nup e i ((2 * d i + t) % 256)) _ (by omega) (by omega) (by omega) (jfr_sI hf rfl) (fun j hj => ?_) (fun j hj => ?_) ?_))))
      · by_cases cj : j = i
        · rw [cj, if_pos (Nat.lt_succ_self _)]
          unfold nup
          rw [if_pos rfl]
          exact jI_sIe
        · refine (jI_sIn cj).trans ((hv j hj).trans ?_)
          unfold nup
          rw [if_neg cj]
          by_cases c2 : j < i
          · rw [if_pos c2, if_pos (by omega)]
          · rw [if_neg c2, if_neg (by omega)]
      · unfold nup
        split
        · omega
        · exact he j (by omega)
      · have h1 : nv 256 (nup e i ((2 * d i + t) % 256)) (i + 1) = nv 256 e i + (2 * d i + t) % 256 * 256 ^ i := by
          have hx : nv 256 (nup e i ((2 * d i + t) % 256)) i = nv 256 e i := nv_ext fun j hj => by
            unfold nup
            rw [if_neg (by omega)]
          show nv 256 (nup e i ((2 * d i + t) % 256)) i + nup e i ((2 * d i + t) % 256) i * 256 ^ i = _
          rw [hx]
          unfold nup
          rw [if_pos rfl]
        have h2 : nv 256 d (i + 1) = nv 256 d i + d i * 256 ^ i := rfl
        rw [h1, h2, Nat.pow_succ]
        have hdm := Nat.div_add_mod (2 * d i + t) 256
        generalize (2 * d i + t) / 256 = y at hdm ⊢
        generalize (2 * d i + t) % 256 = z at hdm ⊢
        generalize 256 ^ i = w at hh ⊢
        have e4 : (256 * y + z) * w = (2 * d i + t) * w := by rw [hdm]
        rw [Nat.add_mul, Nat.add_mul] at e4
        have e5 : y * (w * 256) = 256 * y * w := by rw [Nat.mul_comm w 256, ← Nat.mul_assoc, Nat.mul_comm y 256]
        have e6 : 2 * d i * w = 2 * (d i * w) := Nat.mul_assoc _ _ _
        rw [e5]
        omega
  exact loop 40 0 jfuel in0 (fun _ => 0) H0 rfl (by unfold jfuel; omega) hin jfr_refl (fun j hj => (d1 j hj).1.trans (congrArg Int32.ofNat (if_neg (Nat.not_lt_zero j)).symm)) (fun j hj => absurd hj (Nat.not_lt_zero j)) (by show 0 + in0 * 256 ^ 0 = 2 * 0 + in0; omega)
/-- the divisor is taken away -/
theorem y16_minus {Q : Unit → jH → Prop} {k60 : Nat → Int32 → jH → Option (Unit × jH)} {k c b : Nat} (hz : zK16 H0) (hc : r40 H0 454 c) (hb : r40 H0 453 b) (hle : b ≤ c)
    (hk : ∀ H' fu, jfr (b_Ta 454) H0 H' → r40 H' 454 (c - b) → jT (B_16_quotient_146 k60 (F_16_quotient_146 k60 fu) 445 (Int32.ofNat k) 0 40 H') Q) : jT (F_16_quotient_146 k60 jfuel 445 (Int32.ofNat k) 0 0 H0) Q := by
  obtain ⟨d, d1, d2⟩ := hc
  obtain ⟨f, f1, f2⟩ := hb
  have loop : ∀ (dd i fu t : Nat) (e : Nat → Nat) (H : jH), i + dd = 40 → dd < fu → t ≤ 1 → jfr (b_Ta 454) H0 H → (∀ j, j < 40 → jI H 454 j = Int32.ofNat (if j < i then e j else d j)) → (∀ j, j < i → e j < 256) → nv 256 e i + nv 256 f i = nv 256 d i + t * 256 ^ i → jT (F_16_quotient_146 k60 fu 445 (Int32.ofNat k) (Int32.ofNat t) (Int32.ofNat i) H) Q := by
    intro dd
    induction dd with
    | zero =>
      intro i fu t e H hi hfu ht hf hv he hh
      obtain ⟨fu, rfl⟩ : ∃ k, fu = k + 1 := ⟨fu - 1, by omega⟩
      obtain rfl : i = 40 := by omega
      have hlt : nv 256 e 40 < 256 ^ 40 := nv_lt fun j hj => he j hj
      rw [d2, f2] at hh
      have t0 : t = 0 := by
        rcases (show t = 0 ∨ t = 1 by omega) with h | h
        · exact h
        · rw [h, Nat.one_mul] at hh
          generalize 256 ^ 40 = z at hh hlt
          omega
      subst t0
      rw [Nat.zero_mul, Nat.add_zero] at hh
      unfold F_16_quotient_146
      exact hk H fu hf ⟨e, fun j hj => ⟨(hv j hj).trans (congrArg Int32.ofNat (if_pos hj)), he j hj⟩, by omega⟩
    | succ dd ih =>
      intro i fu t e H hi hfu ht hf hv he hh
      obtain ⟨fu, rfl⟩ : ∃ k, fu = k + 1 := ⟨fu - 1, by omega⟩
      obtain ⟨a1, a2, a3, a4, a5, a6, a7, a8, a9⟩ := zK16_fr hz (jfr_mono hf (b_Ta16 (Or.inr (Or.inr rfl))))
      have e1 : Int32.ofNat i + 1 = Int32.ofNat (i + 1) := jo_add (a := i) (b := 1)
      have hdi := (d1 i (by omega)).2
      have hfi := (f1 i (by omega)).2
      have ev : jI H 454 i = Int32.ofNat (d i) := (hv i (by omega)).trans (congrArg Int32.ofNat (if_neg (Nat.lt_irrefl _)))
      have ew : jI H 453 i = Int32.ofNat (f i) := (jfr_I hf (by unfold b_Ta; omega)).trans (f1 i (by omega)).1
      have g : jin (Int32.ofNat i) 40 := jo_in (by omega) (by omega)
      -- one digit x is written, and t' borrowed
      have put : ∀ (x t' : Nat), x < 256 → t' ≤ 1 → x + f i + t = d i + t' * 256 → jT (F_16_quotient_146 k60 fu 445 (Int32.ofNat k) (Int32.ofNat t') (Int32.ofNat (i + 1)) (jsI H 454 i (Int32.ofNat x))) Q := fun x t' hx ht' hxx => by
        refine ih (i + 1) fu t' (nup e i x) _ (by omega) (by omega) ht' (jfr_sI hf rfl) (fun j hj => ?_) (fun j hj => ?_) ?_
        · by_cases cj : j = i
          · rw [cj, if_pos (Nat.lt_succ_self _)]
            unfold nup
            rw [if_pos rfl]
            exact jI_sIe
          · refine (jI_sIn cj).trans ((hv j hj).trans ?_)
            unfold nup
            rw [if_neg cj]
            by_cases c2 : j < i
            · rw [if_pos c2, if_pos (by omega)]
            · rw [if_neg c2, if_neg (by omega)]
        · unfold nup
          split
          · exact hx
          · exact he j (by omega)
        · have h1 : nv 256 (nup e i x) (i + 1) = nv 256 e i + x * 256 ^ i := by
            have hx : nv 256 (nup e i x) i = nv 256 e i := nv_ext fun j hj => by
              unfold nup
              rw [if_neg (by omega)]
            show nv 256 (nup e i x) i + nup e i x i * 256 ^ i = _
            rw [hx]
            unfold nup
            rw [if_pos rfl]
          have h2 : nv 256 d (i + 1) = nv 256 d i + d i * 256 ^ i := rfl
          have h3 : nv 256 f (i + 1) = nv 256 f i + f i * 256 ^ i := rfl
          rw [h1, h2, h3, Nat.pow_succ]
          generalize 256 ^ i = w at hh ⊢
          have e4 : (x + f i + t) * w = (d i + t' * 256) * w := by rw [hxx]
          rw [Nat.add_mul, Nat.add_mul, Nat.add_mul] at e4
          have e5 : t' * (w * 256) = t' * 256 * w := by rw [Nat.mul_comm w 256, ← Nat.mul_assoc]
          rw [e5]
          omega
      unfold F_16_quotient_146 B_16_quotient_146 B_16_quotient_195 B_16_quotient_206
      rw [a4, a5, a8, a9, jo_nat (n := i) (by omega), ev, ew, e1]
      refine jT_neg (by show ¬ Int32.ofNat 40 ≤ _; rw [jo_le (by decide) (by omega)]; omega) (jT_g a1 (jT_g ⟨rfl, g⟩ (jT_g a1 (jT_g ⟨rfl, g⟩ (jT_l (jT_g a1 ?_))))))
      by_cases c : f i + t ≤ d i
      · have es : Int32.ofNat (d i) - Int32.ofNat (f i) - Int32.ofNat t = Int32.ofNat (d i - f i - t) := by
          rw [jo_sub (by omega), jo_sub (by omega)]
        rw [es]
        have hp : (0 : Int32) ≤ Int32.ofNat (d i - f i - t) := by
          show Int32.ofNat 0 ≤ _
          rw [jo_le (by decide) (by omega)]
          exact Nat.zero_le _
        exact jT_pos hp (jT_g ⟨rfl, by decide, g⟩ (jT_l (jT_pos hp (jT_l (put _ 0 (by omega) (by decide) (by omega))))))
      · obtain ⟨n1, n2⟩ := b_neg1 (f i + t - d i) (by omega) (by omega)
        rw [b_sub3 (by omega), n2]
        exact jT_neg n1 (jT_g ⟨rfl, by decide, g⟩ (jT_l (jT_neg n1 (jT_l (put _ 1 (by omega) (Nat.le_refl _) (by omega))))))
  exact loop 40 0 jfuel 0 (fun _ => 0) H0 rfl (by unfold jfuel; omega) (by decide) jfr_refl (fun j hj => (d1 j hj).1.trans (congrArg Int32.ofNat (if_neg (Nat.not_lt_zero j)).symm)) (fun j hj => absurd hj (Nat.not_lt_zero j)) (by show 0 + 0 = 0 + 0 * 256 ^ 0; omega)
def b_Tq3 : Nat → Nat → Prop := fun a _ => a = 452 ∨ a = 453 ∨ a = 454
theorem b_Tq3_16 : ∀ a j, b_Tq3 a j → zS16 a j := fun a j w => by
  unfold b_Tq3 at w
  unfold zS16
  omega
/-- bit by bit from the highest -/
theorem y16_60 {Q : Unit → jH → Prop} {b : Nat} (hz : zK16 H0) (hb1 : 1 ≤ b) (hb : b ≤ 2 ^ 256) (hk : ∀ H', jfr b_Tq3 H0 H' → r40 H' 452 (2 ^ 256 / b) → Q () H') :
    ∀ (k fu V c : Nat) (H : jH), k ≤ 257 → k < fu → jfr b_Tq3 H0 H → r40 H 453 b → r40 H 452 (V * 2 ^ k) → r40 H 454 c → c < b → V * b + c = (if k = 257 then 0 else 2 ^ (256 - k)) → jT (F_16_quotient_60 fu 445 (Int32.ofNat k - 1) H) Q := by
  have p256 : 2 * 2 ^ 256 < 256 ^ 40 := by decide +kernel
  intro k
  induction k with
  | zero =>
    intro fu V c H hk2 hfu hf rb ra rc hcb hh
    obtain ⟨fu, rfl⟩ : ∃ j, fu = j + 1 := ⟨fu - 1, by omega⟩
    rw [if_neg (by decide), Nat.sub_zero] at hh
    have e : V * 2 ^ 0 = 2 ^ 256 / b := by
      rw [Nat.pow_zero, Nat.mul_one, ← hh, Nat.mul_comm V b, Nat.mul_add_div hb1, Nat.div_eq_of_lt hcb, Nat.add_zero]
    unfold F_16_quotient_60 B_16_quotient_60
    refine jT_pos (by decide) (jT_ret (hk H hf ?_))
    rw [← e]
    exact ra
  | succ k ih =>
    intro fu V c H hk2 hfu hf rb ra rc hcb hh
    obtain ⟨fu, rfl⟩ : ∃ j, fu = j + 1 := ⟨fu - 1, by omega⟩
    have zH := zK16_fr hz (jfr_mono hf b_Tq3_16)
    have e1 : Int32.ofNat (k + 1) - 1 = Int32.ofNat k := jo_sub (a := k + 1) (b := 1) (by omega)
    have e2 : Int32.ofNat k + (-1) = Int32.ofNat k - 1 := (Int32.sub_eq_add_neg _ _).symm
    obtain ⟨in0, hin⟩ : ∃ in0, in0 = if k = 256 then 1 else 0 := ⟨_, rfl⟩
    have hin1 : in0 ≤ 1 := by rw [hin]; split <;> decide
    have hlt : 2 * c + in0 < 256 ^ 40 := by
      generalize 256 ^ 40 = z at p256 ⊢
      generalize 2 ^ 256 = y at p256 hb
      omega
    -- what comes down
    have hnext : V * 2 * b + (2 * c + in0) = 2 ^ (256 - k) := by
      have h2 : V * 2 * b = 2 * (V * b) := by rw [Nat.mul_comm V 2, Nat.mul_assoc]
      rw [h2]
      by_cases c256 : k = 256
      · rw [if_pos (by omega)] at hh
        rw [if_pos c256] at hin
        rw [c256, Nat.sub_self, Nat.pow_zero]
        omega
      · rw [if_neg (by omega)] at hh
        rw [if_neg c256] at hin
        have e3 : 2 ^ (256 - k) = 2 * 2 ^ (256 - (k + 1)) := by rw [show 256 - k = (256 - (k + 1)) + 1 by omega, Nat.pow_succ, Nat.mul_comm]
        rw [e3, ← hh]
        omega
    have run : jT (F_16_quotient_80 (F_16_quotient_60 fu) jfuel 445 (Int32.ofNat k) (Int32.ofNat in0) 0 H) Q := by
      refine y16_double zH hin1 rc hlt fun H1 fu1 f1 r1 => ?_
      have f1' : jfr b_Tq3 H0 H1 := jfr_trans hf (jfr_mono f1 fun a j w => Or.inr (Or.inr w))
      have rb1 : r40 H1 453 b := r40_fr rb f1 fun j w => by unfold b_Ta at w; omega
      have ra1 : r40 H1 452 (V * 2 ^ (k + 1)) := r40_fr ra f1 fun j w => by unfold b_Ta at w; omega
      obtain ⟨a1, a2, a3, a4, a5, a6, a7, a8, a9⟩ := zK16_fr hz (jfr_mono f1' b_Tq3_16)
      have eV : V * 2 ^ (k + 1) = V * 2 * 2 ^ k := by rw [Nat.pow_succ, Nat.mul_comm (2 ^ k) 2, ← Nat.mul_assoc]
      unfold B_16_quotient_80 B_16_quotient_239
      rw [a4, a5, y16_compareRows a9 a8 r1 rb1, jb_ok]
      refine jT_pos (by decide) (jT_g a1 (jT_g a1 ?_))
      unfold b_cmp
      by_cases cl : 2 * c + in0 < b
      · rw [if_pos cl]
        refine jT_pos (by decide) (jT_l ?_)
        rw [e2]
        refine ih fu (V * 2) (2 * c + in0) H1 (by omega) (by omega) f1' rb1 ?_ r1 cl ?_
        · rw [← eV]
          exact ra1
        · rw [if_neg (by omega)]
          exact hnext
      · rw [if_neg cl]
        refine jT_neg (by split <;> decide) ?_
        refine y16_minus (zK16_fr hz (jfr_mono f1' b_Tq3_16)) r1 rb1 (by omega) fun H2 fu2 f2 r2 => ?_
        have f2' : jfr b_Tq3 H0 H2 := jfr_trans f1' (jfr_mono f2 fun a j w => Or.inr (Or.inr w))
        obtain ⟨a1, a2, a3, a4, a5, a6, a7, a8, a9⟩ := zK16_fr hz (jfr_mono f2' b_Tq3_16)
        have rb2 : r40 H2 453 b := r40_fr rb1 f2 fun j w => by unfold b_Ta at w; omega
        obtain ⟨d, d1, d2⟩ := r40_fr ra1 f2 fun j w => by unfold b_Ta at w; omega
        have e8 : Int32.ofNat k / 8 = Int32.ofNat (k / 8) := jo_div (b := 8) (by omega) (by decide)
        have em8 : jrem (Int32.ofNat k) 8 = Int32.ofNat (k % 8) := jo_rem (b := 8) (by omega) (by decide)
        have esh : jshl 1 (Int32.ofNat (k % 8)) = Int32.ofNat (2 ^ (k % 8)) := by
          have := jo_shl (m := 1) (c := k % 8) (by omega)
          rw [Nat.one_mul] at this
          exact this
        have edg : d (k / 8) = V * 2 ^ (k + 1) / 256 ^ (k / 8) % 256 := by
          rw [← d2]
          exact (nv_digit (fun j hj => (d1 j hj).2) (by decide) (by omega)).symm
        have hdg : d (k / 8) + 2 ^ (k % 8) < 256 := by
          rw [edg]
          exact b_dgm (by omega) ⟨V, by rw [show 8 * (k / 8) + k % 8 + 1 = k + 1 by omega]⟩
        unfold B_16_quotient_146 B_16_quotient_239
        rw [a3, a7, e8, em8, esh, jo_nat (n := k / 8) (by omega), (d1 (k / 8) (by omega)).1, jo_add]
        have g : jin (Int32.ofNat (k / 8)) 40 := jo_in (by omega) (by omega)
        refine jT_pos (by decide) (jT_g a1 (jT_g (by decide) (jT_g a1 (jT_g (by decide) (jT_g ⟨rfl, g⟩ (jT_g (by decide) (jT_g ⟨rfl, by decide, g⟩ (jT_l (jT_l ?_)))))))))
        rw [e2]
        have f3 : jfr (b_Ta 452) H2 (jsI H2 452 (k / 8) (Int32.ofNat (d (k / 8) + 2 ^ (k % 8)))) := jfr_sI jfr_refl rfl
        refine ih fu (V * 2 + 1) (2 * c + in0 - b) _ (by omega) (by omega) (jfr_trans f2' (jfr_mono f3 fun a j w => Or.inl w)) (r40_fr rb2 f3 fun j w => by unfold b_Ta at w; omega) ⟨nup d (k / 8) (d (k / 8) + 2 ^ (k % 8)), fun j hj => ?_, ?_⟩ (r40_fr r2 f3 fun j w => by unfold b_Ta at w; omega) (by omega) ?_
        · unfold nup
          by_cases cj : j = k / 8
          · rw [if_pos cj, cj]
            exact ⟨jI_sIe, hdg⟩
          · rw [if_neg cj]
            exact ⟨(jI_sIn cj).trans (d1 j hj).1, (d1 j hj).2⟩
        · have hup := nv_up (b := 256) (w := d) (i := k / 8) (v := d (k / 8) + 2 ^ (k % 8)) (n := 40) (by omega)
          have e256 : 2 ^ (k % 8) * 256 ^ (k / 8) = 2 ^ k := by
            rw [show (256 : Nat) = 2 ^ 8 from rfl, ← Nat.pow_mul, ← Nat.pow_add]
            congr 1
            omega
          rw [d2, Nat.add_mul, e256, eV] at hup
          rw [Nat.add_mul, Nat.one_mul]
          omega
        · rw [if_neg (by omega), ← hnext, Nat.add_mul, Nat.one_mul]
          omega
    unfold F_16_quotient_60 B_16_quotient_60 B_16_quotient_76
    rw [e1]
    refine jT_neg (by show ¬ _ < Int32.ofNat 0; rw [jo_lt (by omega) (by decide)]; omega) ?_
    by_cases c256 : k = 256
    · rw [if_pos c256] at hin
      rw [hin] at run
      exact jT_neg (fun w => w (by rw [c256]; rfl)) run
    · rw [if_neg c256] at hin
      rw [hin] at run
      exact jT_pos (fun w => c256 ((jo_eq (a := k) (b := 256) (by omega) (by decide)).mp w)) run
theorem y16_quotient {Q : Unit → jH → Prop} {n : Nat} (hz : zK16 H0) (hn : r40 H0 452 n) (hlt : n < 2 ^ 256) (hk : ∀ H', jfr b_Tq3 H0 H' → r40 H' 452 (2 ^ 256 / (n + 1)) → Q () H') : jT (F_16_quotient 445 H0) Q := by
  have p256 : 2 * 2 ^ 256 < 256 ^ 40 := by decide +kernel
  obtain ⟨d, d1, d2⟩ := hn
  have loop : ∀ (dd i fu t : Nat) (e : Nat → Nat) (H : jH), i + dd = 40 → dd < fu → t ≤ 1 → jfr (b_Ta 453) H0 H → (∀ j, j < i → jI H 453 j = Int32.ofNat (e j) ∧ e j < 256) → nv 256 e i + t * 256 ^ i = nv 256 d i + 1 → jT (F_16_quotient_4 fu 445 (Int32.ofNat t) (Int32.ofNat i) H) Q := by
    intro dd
    induction dd with
    | zero =>
      intro i fu t e H hi hfu ht hf he hh
      obtain ⟨fu, rfl⟩ : ∃ k, fu = k + 1 := ⟨fu - 1, by omega⟩
      obtain rfl : i = 40 := by omega
      rw [d2] at hh
      have t0 : t = 0 := by
        rcases (show t = 0 ∨ t = 1 by omega) with h | h
        · exact h
        · rw [h, Nat.one_mul] at hh
          generalize 256 ^ 40 = z at hh p256
          generalize 2 ^ 256 = y at hlt p256
          omega
      subst t0
      rw [Nat.zero_mul, Nat.add_zero] at hh
      have zH := zK16_fr hz (jfr_mono hf (b_Ta16 (Or.inr (Or.inl rfl))))
      obtain ⟨a1, a2, a3, a4, a5, a6, a7, a8, a9⟩ := zH
      unfold F_16_quotient_4 B_16_quotient_4
      rw [a3]
      refine jT_pos (by decide) (jT_g a1 (jT_b (y16_nothing (Or.inl rfl) (zK16_fr hz (jfr_mono hf (b_Ta16 (Or.inr (Or.inl rfl))))) fun H1 f1 z1 => ?_)))
      have f1' : jfr b_Tq3 H0 H1 := jfr_trans (jfr_mono hf fun a j w => Or.inr (Or.inl w)) (jfr_mono f1 fun a j w => Or.inl w)
      have zH1 := zK16_fr hz (jfr_mono f1' b_Tq3_16)
      rw [zH1.2.2.2.2.1]
      refine jT_g zH1.1 (jT_b (y16_nothing (Or.inr (Or.inr rfl)) zH1 fun H2 f2 z2 => ?_))
      have f2' : jfr b_Tq3 H0 H2 := jfr_trans f1' (jfr_mono f2 fun a j w => Or.inr (Or.inr w))
      have h0 : nv 256 (fun _ => 0) 40 = 0 := nv_zero fun _ _ => rfl
      refine y16_60 (b := n + 1) hz (by omega) hlt hk 257 jfuel 0 0 H2 (Nat.le_refl _) (by unfold jfuel; omega) f2' ⟨e, fun j hj => ⟨(jfr_I f2 (by unfold b_Ta; omega)).trans ((jfr_I f1 (by unfold b_Ta; omega)).trans (he j hj).1), (he j hj).2⟩, hh⟩ ⟨fun _ => 0, fun j hj => ⟨(jfr_I f2 (by unfold b_Ta; omega)).trans (z1 j hj), show 0 < 256 by decide⟩, by rw [h0, Nat.zero_mul]⟩ ⟨fun _ => 0, fun j hj => ⟨z2 j hj, show 0 < 256 by decide⟩, h0⟩ (by omega) (by rw [if_pos rfl, Nat.zero_mul])
    | succ dd ih =>
      intro i fu t e H hi hfu ht hf he hh
      obtain ⟨fu, rfl⟩ : ∃ k, fu = k + 1 := ⟨fu - 1, by omega⟩
      obtain ⟨a1, a2, a3, a4, a5, a6, a7, a8, a9⟩ := zK16_fr hz (jfr_mono hf (b_Ta16 (Or.inr (Or.inl rfl))))
      have e1 : Int32.ofNat i + 1 = Int32.ofNat (i + 1) := jo_add (a := i) (b := 1)
      have hdi := (d1 i (by omega)).2
      have ev : jI H 452 i = Int32.ofNat (d i) := (jfr_I hf (by unfold b_Ta; omega)).trans (d1 i (by omega)).1
      have er : jrem (Int32.ofNat (d i + t)) 256 = Int32.ofNat ((d i + t) % 256) := jo_rem (b := 256) (by omega) (by decide)
      have eq : Int32.ofNat (d i + t) / 256 = Int32.ofNat ((d i + t) / 256) := jo_div (b := 256) (by omega) (by decide)
      have g : jin (Int32.ofNat i) 40 := jo_in (by omega) (by omega)
      unfold F_16_quotient_4 B_16_quotient_4
      rw [a3, a4, a7, a8, jo_nat (n := i) (by omega), ev, e1, jo_add]
      refine jT_neg (by show ¬ Int32.ofNat 40 ≤ _; rw [jo_le (by decide) (by omega)]; omega) (jT_g a1 (jT_g ⟨rfl, g⟩ (jT_l (jT_g a1 (jT_g (by decide) (jT_g ⟨rfl, by decide, g⟩ ?_))))))
      rw [er, eq]
      refine jT_l (jT_g (by decide) (jT_l (jT_l (ih (i + 1) fu _ (nup e i ((d i + t) % 256)) _ (by omega) (by omega) (by omega) (jfr_sI hf rfl) (fun j hj => ?_) ?_))))
      · unfold nup
        by_cases cj : j = i
        · rw [if_pos cj, cj]
          exact ⟨jI_sIe, Nat.mod_lt _ (by decide)⟩
        · rw [if_neg cj]
          exact ⟨(jI_sIn cj).trans (he j (by omega)).1, (he j (by omega)).2⟩
      · have h1 : nv 256 (nup e i ((d i + t) % 256)) (i + 1) = nv 256 e i + (d i + t) % 256 * 256 ^ i := by
          have hx : nv 256 (nup e i ((d i + t) % 256)) i = nv 256 e i := nv_ext fun j hj => by
            unfold nup
            rw [if_neg (by omega)]
          show nv 256 (nup e i ((d i + t) % 256)) i + nup e i ((d i + t) % 256) i * 256 ^ i = _
          rw [hx]
          unfold nup
          rw [if_pos rfl]
        have h2 : nv 256 d (i + 1) = nv 256 d i + d i * 256 ^ i := rfl
        rw [h1, h2, Nat.pow_succ]
        have hdm := Nat.div_add_mod (d i + t) 256
        generalize (d i + t) / 256 = y at hdm ⊢
        generalize (d i + t) % 256 = z at hdm ⊢
        generalize 256 ^ i = w at hh ⊢
        have e4 : (256 * y + z) * w = (d i + t) * w := by rw [hdm]
        rw [Nat.add_mul, Nat.add_mul] at e4
        have e5 : y * (w * 256) = 256 * y * w := by rw [Nat.mul_comm w 256, ← Nat.mul_assoc, Nat.mul_comm y 256]
        rw [e5]
        omega
  unfold F_16_quotient
  exact loop 40 0 jfuel 1 (fun _ => 0) H0 rfl (by unfold jfuel; omega) (Nat.le_refl _) jfr_refl (fun j hj => absurd hj (Nat.not_lt_zero j)) (by show 0 + 1 * 256 ^ 0 = 0 + 1; omega)
end QU16
