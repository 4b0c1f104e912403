/-! normalize: the one way to write a number below P. -/
theorem lo_or0 (x y : Int64) : (x ||| y = 0) ↔ (x = 0 ∧ y = 0) := by
  rw [← Int64.toBitVec_inj, ← Int64.toBitVec_inj, ← Int64.toBitVec_inj, Int64.toBitVec_or]
  exact BitVec.or_eq_zero_iff
theorem li_zero {x : Int} (h : 0 ≤ x ∧ x < 67108864) : Int64.ofInt x = 0 ↔ x = 0 := by
  refine ⟨fun e => ?_, fun e => by rw [e]; rfl⟩
  have := congrArg Int64.toInt e
  rw [li_int (by omega) (by omega)] at this
  exact this
def znt (g : Nat → Int) : Nat → Int := zup (zup (zup g 9 (g 9 % 4194304)) 0 (g 0 + g 9 / 4194304 * 977)) 1 (g 1 + g 9 / 4194304 * 64)
def zntc (g : Nat → Int) : Nat → Int := zch (znt g) 9
theorem znt_fe (g : Nat → Int) : fe (znt g) = fe g - g 9 / 4194304 * (np_P : Int) := by
  have e := Int.emod_add_mul_ediv (g 9) 4194304
  have e2 : (np_P : Int) = 115792089237316195423570985008687907853269984665640564039457584007908834671663 := rfl
  rw [e2]
  unfold fe znt zup
  simp (decide := true) only [reduceIte]
  omega
theorem znt_b {g : Nat → Int} (hb : ∀ j, j < 10 → -8589934592 ≤ g j ∧ g j ≤ 8589934592) : ∀ j, j < 10 → -70368744177664 ≤ znt g j ∧ znt g j ≤ 70368744177664 := fun j hj => by
  have b0 := hb 0 (by omega)
  have b1 := hb 1 (by omega)
  have b9 := hb 9 (by omega)
  have bj := hb j hj
  unfold znt zup
  by_cases e1 : j = 1
  · rw [if_pos e1]
    omega
  · rw [if_neg e1]
    by_cases e0 : j = 0
    · rw [if_pos e0]
      omega
    · rw [if_neg e0]
      by_cases e9 : j = 9
      · rw [if_pos e9]
        omega
      · rw [if_neg e9]
        omega
/-- limbs below the highest are as they should be -/
def zn9 (c : Nat → Int) : Prop := (∀ j, j < 9 → 0 ≤ c j ∧ c j < 67108864) ∧ -1048580 ≤ c 9 ∧ c 9 ≤ 5242884
theorem zntc_9 {g : Nat → Int} (hb : ∀ j, j < 10 → -8589934592 ≤ g j ∧ g j ≤ 8589934592) : zn9 (zntc g) := by
  obtain ⟨h1, -, h2, h3⟩ := zch_b (znt_b hb) (n := 9) (by omega)
  have e : znt g 9 = g 9 % 4194304 := by
    unfold znt zup
    simp (decide := true) only [reduceIte]
  refine ⟨h1, ?_, ?_⟩
  · show -1048580 ≤ zch (znt g) 9 9
    omega
  · show zch (znt g) 9 9 ≤ 5242884
    omega
theorem zn9_b {c : Nat → Int} (h : zn9 c) : ∀ j, j < 10 → -8589934592 ≤ c j ∧ c j ≤ 8589934592 := fun j hj => by
  by_cases e : j = 9
  · rw [e]
    have := h.2
    omega
  · have := h.1 j (by omega)
    omega
theorem zntc_fe (g : Nat → Int) : fe (zntc g) = fe g - g 9 / 4194304 * (np_P : Int) := by
  unfold zntc
  rw [zch_fe (by omega), znt_fe]
theorem zn9_fe {c : Nat → Int} (h : zn9 c) : 27606985387162255149739023449108101809804435888681546220650096895197184 * c 9 ≤ fe c ∧ fe c < 27606985387162255149739023449108101809804435888681546220650096895197184 * c 9 + 27606985387162255149739023449108101809804435888681546220650096895197184 := by
  have h0 := h.1 0 (by omega)
  have h1 := h.1 1 (by omega)
  have h2 := h.1 2 (by omega)
  have h3 := h.1 3 (by omega)
  have h4 := h.1 4 (by omega)
  have h5 := h.1 5 (by omega)
  have h6 := h.1 6 (by omega)
  have h7 := h.1 7 (by omega)
  have h8 := h.1 8 (by omega)
  unfold fe
  omega
def z256 : Int := 115792089237316195423570985008687907853269984665640564039457584007913129639936
theorem zn9_in {c : Nat → Int} (h : zn9 c) : (0 ≤ fe c ∧ fe c < z256) ↔ (0 ≤ c 9 ∧ c 9 < 4194304) := by
  have h1 := zn9_fe h
  unfold z256
  omega
theorem zntc_in {c : Nat → Int} (h : zn9 c) : 0 ≤ fe (zntc c) ∧ fe (zntc c) < z256 := by
  have h1 := zn9_fe h
  have h2 := h.2
  rw [zntc_fe]
  have e2 : (np_P : Int) = 115792089237316195423570985008687907853269984665640564039457584007908834671663 := rfl
  rw [e2]
  unfold z256
  rcases (show c 9 / 4194304 = -1 ∨ c 9 / 4194304 = 0 ∨ c 9 / 4194304 = 1 by omega) with e | e | e <;> rw [e] <;> omega
theorem zntc_same {c : Nat → Int} (h : zn9 c) (hi : 0 ≤ fe c ∧ fe c < z256) : fe (zntc c) = fe c := by
  have h1 := (zn9_in h).mp hi
  rw [zntc_fe, show c 9 / 4194304 = 0 by omega]
  omega
theorem ef_isub (x k : Int) : ef_i (x - k * (np_P : Int)) = ef_i x := by
  rw [ef_eq, show x - k * (np_P : Int) = x + (-k) * (np_P : Int) by rw [Int.neg_mul]; omega, Int.add_mul_emod_self_right]
section NORM
variable {Q : Int32 → jH → Prop} {r : Nat} {H0 : jH} {g : Nat → Int}
theorem z5_norm50 {k2 : Nat → Int32 → jH → Option (Int32 × jH)} {a1 : Int32} (k0 : jK H0 r = (103, 10)) (hb : ∀ j, j < 10 → -70368744177664 ≤ g j ∧ g j ≤ 70368744177664)
    (hk : ∀ H', jfL (· = r) H0 H' → zg H' r (zch g 9) → jT (k2 r (a1 + 1) H') Q) :
    ∀ (d i fu : Nat) (H : jH), i + d = 9 → d < fu → jfL (· = r) H0 H → zg H r (zch g i) → jT (F_5_normalize_50 k2 fu r a1 (Int32.ofNat i) H) Q := by
  intro d
  induction d with
  | zero =>
    intro i fu H hi hfu hfr hz
    obtain ⟨fu, rfl⟩ : ∃ k, fu = k + 1 := ⟨fu - 1, by omega⟩
    obtain rfl : i = 9 := by omega
    unfold F_5_normalize_50 B_5_normalize_50
    exact jT_pos (by decide) (jT_l (hk H hfr hz))
  | succ d ih =>
    intro i fu H hi hfu hfr hz
    obtain ⟨fu, rfl⟩ : ∃ k, fu = k + 1 := ⟨fu - 1, by omega⟩
    unfold F_5_normalize_50 B_5_normalize_50
    obtain ⟨-, -, b2, b3⟩ := zch_b hb (n := i) (by omega)
    have b4 := hb i (by omega)
    exact jT_neg (by rw [show (9 : Int32) = Int32.ofNat 9 from rfl, jo_le (by omega) (by omega)]; omega) (z5_st hfr rfl k0 (by omega) hz (by omega) fun H' hf' hz' => ih (i + 1) fu H' (by omega) (by omega) hf' hz')
/-- one turn -/
theorem z5_turn {k2 : Nat → Int32 → jH → Option (Int32 × jH)} {i : Nat} {H : jH} (hi : i < 4) (k0 : jK H0 r = (103, 10)) (hfr : jfL (· = r) H0 H) (hz : zg H r g) (hb : ∀ j, j < 10 → -8589934592 ≤ g j ∧ g j ≤ 8589934592)
    (hk : ∀ H', jfL (· = r) H0 H' → zg H' r (zntc g) → jT (k2 r (Int32.ofNat (i + 1)) H') Q) : jT (B_5_normalize_2 k2 r (Int32.ofNat i) H) Q := by
  unfold B_5_normalize_2
  have kH : jK H r = (103, 10) := by rw [hfr.1, k0]
  have b9 := hb 9 (by omega)
  refine jT_neg (by rw [show (4 : Int32) = Int32.ofNat 4 from rfl, jo_le (by omega) (by omega)]; omega) ?_
  refine jT_g (gL kH (by decide)) (jT_lo (e' := Int64.ofInt (g 9 / 4194304)) (by rw [show (9 : Int32).toNatClampNeg = 9 from rfl, hz 9 (by omega), li_shr22 (by omega) (by omega)]) ?_)
  refine jT_g (gL kH (by decide)) (jT_g (gL kH (by decide)) (jT_w hfr rfl hz (i := 9) (v := g 9 % 4194304) rfl (by rw [show (9 : Int32).toNatClampNeg = 9 from rfl, hz 9 (by omega), li_and22]) fun H2 hf2 hz2 => ?_))
  have kH2 : jK H2 r = (103, 10) := by rw [hf2.1, k0]
  refine jT_g (gL kH2 (by decide)) (jT_g (gL kH2 (by decide)) (jT_w hf2 rfl hz2 (i := 0) (v := g 0 + g 9 / 4194304 * 977) rfl (by rw [show (0 : Int32).toNatClampNeg = 0 from rfl, hz2 0 (by omega), show (977 : Int64) = Int64.ofInt 977 from rfl, li_mul, li_add]; rfl) fun H3 hf3 hz3 => ?_))
  have kH3 : jK H3 r = (103, 10) := by rw [hf3.1, k0]
  refine jT_g (gL kH3 (by decide)) (jT_g (gL kH3 (by decide)) (jT_w hf3 rfl hz3 (i := 1) (v := g 1 + g 9 / 4194304 * 64) rfl (by rw [show (1 : Int32).toNatClampNeg = 1 from rfl, hz3 1 (by omega), show (64 : Int64) = Int64.ofInt 64 from rfl, li_mul, li_add]; rfl) fun H4 hf4 hz4 => ?_))
  have e1 : Int32.ofNat i + 1 = Int32.ofNat (i + 1) := jo_add (a := i) (b := 1)
  refine z5_norm50 (g := znt g) (H0 := H0) k0 (znt_b hb) (fun H' hf' hz' => ?_) 9 0 jfuel H4 rfl (by unfold jfuel; omega) hf4 hz4
  rw [e1]
  exact hk H' hf' hz'
/-- the end: whether all limbs are 0 -/
theorem z5_norm228 {H : jH} (k0 : jK H r = (103, 10)) (hz : zg H r g) (hb : ∀ j, j < 10 → 0 ≤ g j ∧ g j < 67108864) (hQ : Q (if fe g = 0 then 1 else 0) H) :
    ∀ (d i fu : Nat) (x : Int64), i + d = 9 → d < fu → (x = 0 ↔ g 9 = 0 ∧ ∀ j, j < i → g j = 0) → jT (F_5_normalize_228 fu r x (Int32.ofNat i) H) Q := by
  intro d
  induction d with
  | zero =>
    intro i fu x hi hfu hx
    obtain ⟨fu, rfl⟩ : ∃ k, fu = k + 1 := ⟨fu - 1, by omega⟩
    obtain rfl : i = 9 := by omega
    unfold F_5_normalize_228 B_5_normalize_228 B_5_normalize_259
    have key : fe g = 0 ↔ x = 0 := by
      rw [hx]
      refine ⟨fun e => ?_, fun e => ?_⟩
      · have b0 := hb 0 (by omega)
        have b1 := hb 1 (by omega)
        have b2 := hb 2 (by omega)
        have b3 := hb 3 (by omega)
        have b4 := hb 4 (by omega)
        have b5 := hb 5 (by omega)
        have b6 := hb 6 (by omega)
        have b7 := hb 7 (by omega)
        have b8 := hb 8 (by omega)
        have b9 := hb 9 (by omega)
        unfold fe at e
        refine ⟨by omega, fun j hj => ?_⟩
        rcases (show j = 0 ∨ j = 1 ∨ j = 2 ∨ j = 3 ∨ j = 4 ∨ j = 5 ∨ j = 6 ∨ j = 7 ∨ j = 8 by omega) with rfl | rfl | rfl | rfl | rfl | rfl | rfl | rfl | rfl <;> omega
      · unfold fe
        rw [e.1, e.2 0 (by omega), e.2 1 (by omega), e.2 2 (by omega), e.2 3 (by omega), e.2 4 (by omega), e.2 5 (by omega), e.2 6 (by omega), e.2 7 (by omega), e.2 8 (by omega)]
        rfl
    refine jT_pos (by decide) ?_
    by_cases hx0 : x = 0
    · rw [if_pos (key.mpr hx0)] at hQ
      exact jT_neg (fun h => h hx0) (jT_g (by decide) (jT_ret hQ))
    · rw [if_neg (fun e => hx0 (key.mp e))] at hQ
      exact jT_pos hx0 (jT_g (by decide) (jT_ret hQ))
  | succ d ih =>
    intro i fu x hi hfu hx
    obtain ⟨fu, rfl⟩ : ∃ k, fu = k + 1 := ⟨fu - 1, by omega⟩
    unfold F_5_normalize_228 B_5_normalize_228
    have e1 : Int32.ofNat i + 1 = Int32.ofNat (i + 1) := jo_add (a := i) (b := 1)
    rw [e1, jo_nat (n := i) (by omega), hz i (by omega)]
    refine jT_neg (by rw [show (9 : Int32) = Int32.ofNat 9 from rfl, jo_le (by omega) (by omega)]; omega) (jT_g (gL k0 (jo_in (by omega) (by omega))) (jT_l (jT_l (ih (i + 1) fu _ (by omega) (by omega) ?_))))
    rw [lo_or0, hx, li_zero (hb i (by omega))]
    refine ⟨fun h => ⟨h.1.1, fun j hj => ?_⟩, fun h => ⟨⟨h.1, fun j hj => h.2 j (by omega)⟩, h.2 i (by omega)⟩⟩
    by_cases e : j = i
    · rw [e]
      exact h.2
    · exact h.1.2 j (by omega)
theorem z5_norm220 {H : jH} (k0 : jK H r = (103, 10)) (hz : zg H r g) (hb : ∀ j, j < 10 → 0 ≤ g j ∧ g j < 67108864) (hQ : Q (if fe g = 0 then 1 else 0) H) : jT (B_5_normalize_220 r H) Q := by
  unfold B_5_normalize_220
  refine jT_g (gL k0 (by decide)) (jT_lo (e' := Int64.ofInt (g 9)) (hz 9 (by omega)) ?_)
  exact z5_norm228 k0 hz hb hQ 9 0 jfuel _ rfl (by unfold jfuel; omega) ⟨fun h => ⟨(li_zero (hb 9 (by omega))).mp h, fun j hj => absurd hj (Nat.not_lt_zero j)⟩, fun h => (li_zero (hb 9 (by omega))).mpr h.1⟩
/-- the carries by themselves are those of the chain -/
theorem z5_norm121 {k : Int64 → Int32 → jH → Option (Int32 × jH)} {H : jH} {e : Nat → Int} (k0 : jK H r = (103, 10)) (hz : zg H r g) (hb : ∀ j, j < 10 → -70368744177664 ≤ e j ∧ e j ≤ 70368744177664) (he : ∀ j, 2 ≤ j → j < 10 → e j = g j)
    (hk : jT (B_5_normalize_121 (F_5_normalize_121 0) r (Int64.ofInt (zch e 9 9 - g 9)) (Int32.ofNat 9) H) Q) :
    ∀ (d i fu : Nat), i + d = 9 → d < fu → 2 ≤ i → jT (F_5_normalize_121 fu r (Int64.ofInt (zch e i i - g i)) (Int32.ofNat i) H) Q := by
  intro d
  induction d with
  | zero =>
    intro i fu hi hfu h2
    obtain ⟨fu, rfl⟩ : ∃ k, fu = k + 1 := ⟨fu - 1, by omega⟩
    obtain rfl : i = 9 := by omega
    unfold F_5_normalize_121
    unfold B_5_normalize_121 at hk ⊢
    rw [if_pos (by decide)] at hk ⊢
    exact hk
  | succ d ih =>
    intro i fu hi hfu h2
    obtain ⟨fu, rfl⟩ : ∃ k, fu = k + 1 := ⟨fu - 1, by omega⟩
    unfold F_5_normalize_121 B_5_normalize_121
    have e1 : Int32.ofNat i + 1 = Int32.ofNat (i + 1) := jo_add (a := i) (b := 1)
    obtain ⟨-, c1, c2, c3⟩ := zch_b hb (n := i) (by omega)
    have c4 := hb i (by omega)
    have c5 := c1 (i + 1) (by omega)
    have c6 := he (i + 1) (by omega) (by omega)
    have c7 : zch e (i + 1) (i + 1) - g (i + 1) = zch e i i / 67108864 := by
      show zst (zch e i) i (i + 1) - g (i + 1) = _
      unfold zst zup
      rw [if_neg (by omega), if_pos rfl, c5, c6]
      omega
    rw [e1, jo_nat (n := i) (by omega), hz i (by omega), li_add, show g i + (zch e i i - g i) = zch e i i by omega, li_shr26 (by omega) (by omega), ← c7]
    exact jT_neg (by rw [show (9 : Int32) = Int32.ofNat 9 from rfl, jo_le (by omega) (by omega)]; omega) (jT_g (gL k0 (jo_in (by omega) (by omega))) (jT_l (jT_l (ih (i + 1) fu (by omega) (by omega) (by omega)))))
theorem z5_norm175 (k0 : jK H0 r = (103, 10)) (hb : ∀ j, j < 10 → -70368744177664 ≤ g j ∧ g j ≤ 70368744177664) (h9 : 0 ≤ zch g 9 9)
    (hQ : ∀ H', jfL (· = r) H0 H' → zg H' r (zup (zch g 9) 9 (zch g 9 9 % 4194304)) → Q (if fe (zup (zch g 9) 9 (zch g 9 9 % 4194304)) = 0 then 1 else 0) H') :
    ∀ (d i fu : Nat) (H : jH), i + d = 9 → d < fu → jfL (· = r) H0 H → zg H r (zch g i) → jT (F_5_normalize_175 fu r (Int32.ofNat i) H) Q := by
  intro d
  induction d with
  | zero =>
    intro i fu H hi hfu hfr hz
    obtain ⟨fu, rfl⟩ : ∃ k, fu = k + 1 := ⟨fu - 1, by omega⟩
    obtain rfl : i = 9 := by omega
    unfold F_5_normalize_175 B_5_normalize_175
    have kH : jK H r = (103, 10) := by rw [hfr.1, k0]
    obtain ⟨b1, -, -, -⟩ := zch_b hb (n := 9) (by omega)
    generalize zch g 9 = c at *
    refine jT_pos (by decide) (jT_g (gL kH (by decide)) (jT_g (gL kH (by decide)) (jT_w hfr rfl hz (i := 9) (v := c 9 % 4194304) rfl (by rw [show (9 : Int32).toNatClampNeg = 9 from rfl, hz 9 (by omega), li_and22]) fun H2 hf2 hz2 => ?_)))
    have kH2 : jK H2 r = (103, 10) := by rw [hf2.1, k0]
    refine z5_norm220 kH2 hz2 (fun j hj => ?_) (hQ H2 hf2 hz2)
    unfold zup
    by_cases e : j = 9
    · rw [if_pos e]
      omega
    · rw [if_neg e]
      exact b1 j (by omega)
  | succ d ih =>
    intro i fu H hi hfu hfr hz
    obtain ⟨fu, rfl⟩ : ∃ k, fu = k + 1 := ⟨fu - 1, by omega⟩
    unfold F_5_normalize_175 B_5_normalize_175
    obtain ⟨-, -, b2, b3⟩ := zch_b hb (n := i) (by omega)
    have b4 := hb i (by omega)
    exact jT_neg (by rw [show (9 : Int32) = Int32.ofNat 9 from rfl, jo_le (by omega) (by omega)]; omega) (z5_st hfr rfl k0 (by omega) hz (by omega) fun H' hf' hz' => ih (i + 1) fu H' (by omega) (by omega) hf' hz')
/-- behind the four turns -/
theorem z5_norm2e {k2 : Nat → Int32 → jH → Option (Int32 × jH)} {H : jH} (k0 : jK H0 r = (103, 10)) (hfr : jfL (· = r) H0 H) (hz : zg H r g) (h9 : zn9 g) (hi : 0 ≤ fe g ∧ fe g < z256)
    (hQ : ∀ H' f, jfL (· = r) H0 H' → zg H' r f → (∀ j, j < 10 → 0 ≤ f j ∧ f j < 67108864) → fe f = fe g % (np_P : Int) → Q (if fe f = 0 then 1 else 0) H') : jT (B_5_normalize_2 k2 r (Int32.ofNat 4) H) Q := by
  have h99 := (zn9_in h9).mp hi
  have kH : jK H r = (103, 10) := by rw [hfr.1, k0]
  have hn : (np_P : Int) = 115792089237316195423570985008687907853269984665640564039457584007908834671663 := rfl
  unfold z256 at hi
  obtain ⟨e, he⟩ : ∃ e, e = zup (zup g 0 (g 0 + 977)) 1 (g 1 + 64) := ⟨_, rfl⟩
  have eb : ∀ j, j < 10 → -70368744177664 ≤ e j ∧ e j ≤ 70368744177664 := fun j hj => by
    have b0 := h9.1 0 (by omega)
    have b1 := h9.1 1 (by omega)
    have bj := zn9_b h9 j hj
    rw [he]
    unfold zup
    by_cases e1 : j = 1
    · rw [if_pos e1]
      omega
    · rw [if_neg e1]
      by_cases e0 : j = 0
      · rw [if_pos e0]
        omega
      · rw [if_neg e0]
        omega
  have efe : fe (zch e 9) = fe g + 4294968273 := by
    rw [zch_fe (by omega), he]
    unfold fe zup
    simp (decide := true) only [reduceIte]
    omega
  obtain ⟨d1, -, d2, d3⟩ := zch_b eb (n := 9) (by omega)
  have e9 : e 9 = g 9 := by
    rw [he]
    unfold zup
    simp (decide := true) only [reduceIte]
  have d9 : zn9 (zch e 9) := ⟨d1, by omega, by omega⟩
  have dfe := zn9_fe d9
  have b0 := h9.1 0 (by omega)
  have b1 := h9.1 1 (by omega)
  unfold B_5_normalize_2
  refine jT_pos (by decide) (jT_g (gL kH (by decide)) (jT_lo (e' := Int64.ofInt ((g 0 + 977) / 67108864)) (by rw [show (0 : Int32).toNatClampNeg = 0 from rfl, hz 0 (by omega), show (977 : Int64) = Int64.ofInt 977 from rfl, li_add, li_shr26 (by omega) (by omega)]) ?_))
  refine jT_g (gL kH (by decide)) (jT_lo (e' := Int64.ofInt (zch e 2 2 - g 2)) ?_ ?_)
  · rw [show (1 : Int32).toNatClampNeg = 1 from rfl, hz 1 (by omega), show (64 : Int64) = Int64.ofInt 64 from rfl, li_add, li_add, li_shr26 (by omega) (by omega)]
    have : zch e 2 2 - g 2 = (g 1 + 64 + (g 0 + 977) / 67108864) / 67108864 := by
      rw [he]
      show g 2 + (g 1 + 64 + (g 0 + 977) / 67108864) / 67108864 - g 2 = _
      omega
    rw [this]
  refine z5_norm121 (k := fun _ _ _ => none) kH hz eb (fun j h2 hj => by
    rw [he]
    unfold zup
    rw [if_neg (by omega), if_neg (by omega)]) ?_ 7 2 jfuel rfl (by unfold jfuel; omega) (by omega)
  unfold B_5_normalize_121
  refine jT_pos (by decide) (jT_g (gL kH (by decide)) ?_)
  rw [show (9 : Int32).toNatClampNeg = 9 from rfl, hz 9 (by omega), li_add, show g 9 + (zch e 9 9 - g 9) = zch e 9 9 by omega]
  have hle : (Int64.ofInt (zch e 9 9) ≤ 4194303) ↔ zch e 9 9 ≤ 4194303 := by
    rw [Int64.le_iff_toInt_le, li_int (by omega) (by omega)]
    exact Iff.rfl
  by_cases hc : zch e 9 9 ≤ 4194303
  · refine jT_pos (hle.mpr hc) ?_
    refine z5_norm220 kH hz (fun j hj => ?_) (hQ H g hfr hz (fun j hj => ?_) ?_)
    · by_cases q : j = 9
      · rw [q]
        omega
      · exact h9.1 j (by omega)
    · by_cases q : j = 9
      · rw [q]
        omega
      · exact h9.1 j (by omega)
    · rw [hn, Int.emod_eq_of_lt hi.1 (by omega)]
  · refine jT_neg (fun h => hc (hle.mp h)) ?_
    refine jT_g (gL kH (by decide)) (jT_g (gL kH (by decide)) (jT_w hfr rfl hz (i := 0) (v := g 0 + 977) rfl (by rw [show (0 : Int32).toNatClampNeg = 0 from rfl, hz 0 (by omega), show (977 : Int64) = Int64.ofInt 977 from rfl, li_add]) fun H2 hf2 hz2 => ?_))
    have kH2 : jK H2 r = (103, 10) := by rw [hf2.1, k0]
    refine jT_g (gL kH2 (by decide)) (jT_g (gL kH2 (by decide)) (jT_w hf2 rfl hz2 (i := 1) (v := g 1 + 64) rfl (by rw [show (1 : Int32).toNatClampNeg = 1 from rfl, hz2 1 (by omega), show (64 : Int64) = Int64.ofInt 64 from rfl, li_add]; rfl) fun H3 hf3 hz3 => ?_))
    rw [← he] at hz3
    refine z5_norm175 (g := e) k0 eb (by omega) (fun H' hf' hz' => hQ H' _ hf' hz' (fun j hj => ?_) ?_) 9 0 jfuel H3 rfl (by unfold jfuel; omega) hf3 hz3
    · unfold zup
      by_cases q : j = 9
      · rw [if_pos q]
        omega
      · rw [if_neg q]
        exact d1 j (by omega)
    · have e5 : fe (zup (zch e 9) 9 (zch e 9 9 % 4194304)) = fe (zch e 9) - 27606985387162255149739023449108101809804435888681546220650096895197184 * (zch e 9 9 - zch e 9 9 % 4194304) := by
        generalize zch e 9 = c
        unfold fe zup
        simp (decide := true) only [reduceIte]
        omega
      have e6 : zch e 9 9 % 4194304 = zch e 9 9 - 4194304 := by omega
      have e7 : fe g % (np_P : Int) = fe g - (np_P : Int) := by
        rw [show fe g = (fe g - (np_P : Int)) + 1 * (np_P : Int) by omega, Int.add_mul_emod_self_right, Int.emod_eq_of_lt (by omega) (by omega)]
        omega
      rw [e5, e6, efe, e7]
      omega
theorem z5_norm {H : jH} {v : ef} {B : Int} (k0 : jK H r = (103, 10)) (h : zL H r v B) (hB : B ≤ 8589934592)
    (hQ : ∀ H' f, jfL (· = r) H H' → zg H' r f → (∀ j, j < 10 → 0 ≤ f j ∧ f j < 67108864) → fe f = (v.val : Int) → Q (if v = 0 then 1 else 0) H') : jT (F_5_normalize r H) Q := by
  obtain ⟨g, g1, g2, g3⟩ := h
  have hb : ∀ j, j < 10 → -8589934592 ≤ g j ∧ g j ≤ 8589934592 := fun j hj => by
    have := g2 j hj
    omega
  unfold F_5_normalize
  obtain ⟨f, ef⟩ : ∃ f, jfuel = f + 5 := ⟨4294967291, rfl⟩
  rw [ef]
  obtain ⟨c1, e1⟩ : ∃ c, c = zntc g := ⟨_, rfl⟩
  obtain ⟨c2, e2⟩ : ∃ c, c = zntc c1 := ⟨_, rfl⟩
  obtain ⟨c3, e3⟩ : ∃ c, c = zntc c2 := ⟨_, rfl⟩
  obtain ⟨c4, e4⟩ : ∃ c, c = zntc c3 := ⟨_, rfl⟩
  have n1 : zn9 c1 := by
    rw [e1]
    exact zntc_9 hb
  have n2 : zn9 c2 := by
    rw [e2]
    exact zntc_9 (zn9_b n1)
  have n3 : zn9 c3 := by
    rw [e3]
    exact zntc_9 (zn9_b n2)
  have n4 : zn9 c4 := by
    rw [e4]
    exact zntc_9 (zn9_b n3)
  have i2 : 0 ≤ fe c2 ∧ fe c2 < z256 := by
    rw [e2]
    exact zntc_in n1
  have s3 : fe c3 = fe c2 := by
    rw [e3]
    exact zntc_same n2 i2
  have i3 : 0 ≤ fe c3 ∧ fe c3 < z256 := by
    rw [s3]
    exact i2
  have s4 : fe c4 = fe c3 := by
    rw [e4]
    exact zntc_same n3 i3
  have i4 : 0 ≤ fe c4 ∧ fe c4 < z256 := by
    rw [s4]
    exact i3
  have hv : ef_i (fe c4) = v := by
    rw [s4, s3, e2, zntc_fe, ef_isub, e1, zntc_fe, ef_isub, g3]
  unfold F_5_normalize_2
  refine z5_turn (i := 0) (by omega) k0 jfL_refl g1 hb fun H1 f1 z1 => ?_
  rw [← e1] at z1
  unfold F_5_normalize_2
  refine z5_turn (i := 1) (by omega) k0 f1 z1 (zn9_b n1) fun H2 f2 z2 => ?_
  rw [← e2] at z2
  unfold F_5_normalize_2
  refine z5_turn (i := 2) (by omega) k0 f2 z2 (zn9_b n2) fun H3 f3 z3 => ?_
  rw [← e3] at z3
  unfold F_5_normalize_2
  refine z5_turn (i := 3) (by omega) k0 f3 z3 (zn9_b n3) fun H4 f4 z4 => ?_
  rw [← e4] at z4
  unfold F_5_normalize_2
  refine z5_norm2e k0 f4 z4 n4 i4 fun H' f hf hz hb he => ?_
  clear e1 e2 e3 e4 s3 s4 i2 i3 n1 n2 n3 g3
  have e1 : fe f = (v.val : Int) := by
    rw [he, ← ef_v, hv]
  have := hQ H' f hf hz hb e1
  have e2 : (fe f = 0) ↔ (v = 0) := by
    rw [e1]
    exact ⟨fun e => Fin.ext (Int.ofNat_inj.mp e), fun e => by rw [e]; rfl⟩
  by_cases hv0 : v = 0
  · rw [if_pos (e2.mpr hv0)]
    rw [if_pos hv0] at this
    exact this
  · rw [if_neg (fun e => hv0 (e2.mp e))]
    rw [if_neg hv0] at this
    exact this
end NORM
