/-! The reference's numbers: compared, made compact, scaled. -/
/-- how many bytes -/
def b_isn (n s : Nat) : Prop := n < 256 ^ s ∧ (s = 0 ∨ 256 ^ (s - 1) ≤ n)
theorem b_isn_u {n s t : Nat} (h : b_isn n s) (h' : b_isn n t) : s = t := by
  have key : ∀ {s t : Nat}, b_isn n s → b_isn n t → ¬ s < t := fun {s t} h h' hlt => by
    rcases h'.2 with e | e
    · omega
    · have := Nat.pow_le_pow_right (show 0 < 256 by decide) (show s ≤ t - 1 by omega)
      have := h.1
      omega
  have h1 := key h h'
  have h2 := key h' h
  omega
/-- the compact form of a number of s bytes -/
def b_cps (n s : Nat) : Nat := if n / 256 ^ (s - 3) < 8388608 then s * 16777216 + n / 256 ^ (s - 3) else (s + 1) * 16777216 + n / 256 ^ (s - 3) / 256
section N16B
variable {α : Type} {H : jH}
theorem y16_compareRows {a b x y : Nat} (ka : jK H a = (100, 40)) (kb : jK H b = (100, 40)) (ha : r40 H a x) (hb : r40 H b y) : F_16_compareRows a b H = some (b_cmp x y, H) := by
  obtain ⟨u, u1, u2⟩ := ha
  obtain ⟨v, v1, v2⟩ := hb
  have loop : ∀ (d i fu : Nat), i + d = 40 → d < fu → F_16_compareRows_4 fu a b (b_cmp (nv 256 u i) (nv 256 v i)) (Int32.ofNat i) H = some (b_cmp x y, H) := by
    intro d
    induction d with
    | zero =>
      intro i fu hd hfu
      obtain ⟨fu, rfl⟩ : ∃ k, fu = k + 1 := ⟨fu - 1, by omega⟩
      obtain rfl : i = 40 := by omega
      unfold F_16_compareRows_4 B_16_compareRows_4
      rw [if_pos (by decide), u2, v2]
    | succ d ih =>
      intro i fu hd hfu
      obtain ⟨fu, rfl⟩ : ∃ k, fu = k + 1 := ⟨fu - 1, by omega⟩
      have e1 : Int32.ofNat i + 1 = Int32.ofNat (i + 1) := jo_add (a := i) (b := 1)
      obtain ⟨a1, a2⟩ := u1 i (by omega)
      obtain ⟨c1, c2⟩ := v1 i (by omega)
      have nxt := ih (i + 1) fu (by omega) (by omega)
      rw [b_cmp_nv (fun j hj => (u1 j (by omega)).2) (fun j hj => (v1 j (by omega)).2)] at nxt
      have g : jin (Int32.ofNat i) 40 := jo_in (by omega) (by omega)
      refine jT_det ?_
      unfold F_16_compareRows_4 B_16_compareRows_4 B_16_compareRows_37
      rw [ka, kb, jo_nat (n := i) (by omega), a1, c1, e1]
      refine jT_neg (by show ¬ Int32.ofNat 40 ≤ _; rw [jo_le (by decide) (by omega)]; omega) (jT_g ⟨rfl, g⟩ (jT_g ⟨rfl, g⟩ ?_))
      by_cases q1 : v i ≤ u i
      · refine jT_pos (by rw [jo_le (by omega) (by omega)]; exact q1) (jT_g ⟨rfl, g⟩ (jT_g ⟨rfl, g⟩ ?_))
        rw [if_neg (by omega)] at nxt
        by_cases q2 : u i ≤ v i
        · rw [if_neg (by omega)] at nxt
          exact jT_pos (by rw [jo_le (by omega) (by omega)]; exact q2) (jT_l (jT_eq nxt (jT_ret ⟨rfl, rfl⟩)))
        · rw [if_pos (by omega)] at nxt
          exact jT_neg (by rw [jo_le (by omega) (by omega)]; exact q2) (jT_l (jT_eq nxt (jT_ret ⟨rfl, rfl⟩)))
      · rw [if_pos (by omega)] at nxt
        exact jT_neg (by rw [jo_le (by omega) (by omega)]; exact q1) (jT_l (jT_eq nxt (jT_ret ⟨rfl, rfl⟩)))
  unfold F_16_compareRows
  exact loop 40 0 jfuel rfl (by unfold jfuel; omega)
theorem b_isn_step {d : Nat → Nat} {i s : Nat} (h : b_isn (nv 256 d i) s) (hs : s ≤ i) (hd : d i < 256) : b_isn (nv 256 d (i + 1)) (if d i = 0 then s else i + 1) := by
  have e : nv 256 d (i + 1) = nv 256 d i + d i * 256 ^ i := rfl
  rw [e]
  by_cases c : d i = 0
  · rw [if_pos c, c, Nat.zero_mul, Nat.add_zero]
    exact h
  · rw [if_neg c]
    have h1 : nv 256 d i < 256 ^ i := Nat.lt_of_lt_of_le h.1 (Nat.pow_le_pow_right (by decide) hs)
    have h2 : 1 * 256 ^ i ≤ d i * 256 ^ i := Nat.mul_le_mul_right _ (by omega)
    have h3 : d i * 256 ^ i ≤ 255 * 256 ^ i := Nat.mul_le_mul_right _ (by omega)
    have h4 : 256 ^ (i + 1) = 256 ^ i * 256 := Nat.pow_succ _ _
    refine ⟨by omega, Or.inr ?_⟩
    rw [Nat.add_sub_cancel]
    omega
theorem y16_bytes {a n : Nat} (ka : jK H a = (100, 40)) (ha : r40 H a n) : ∃ s, s ≤ 40 ∧ b_isn n s ∧ F_16_bytes a H = some (Int32.ofNat s, H) := by
  obtain ⟨u, u1, u2⟩ := ha
  have loop : ∀ (d i fu s : Nat), i + d = 40 → d < fu → s ≤ i → b_isn (nv 256 u i) s → ∃ s', s' ≤ 40 ∧ b_isn n s' ∧ F_16_bytes_4 fu a (Int32.ofNat s) (Int32.ofNat i) H = some (Int32.ofNat s', H) := by
    intro d
    induction d with
    | zero =>
      intro i fu s hd hfu hsi hn
      obtain ⟨fu, rfl⟩ : ∃ k, fu = k + 1 := ⟨fu - 1, by omega⟩
      obtain rfl : i = 40 := by omega
      refine ⟨s, hsi, by rw [← u2]; exact hn, ?_⟩
      unfold F_16_bytes_4 B_16_bytes_4
      rw [if_pos (by decide)]
    | succ d ih =>
      intro i fu s hd hfu hsi hn
      obtain ⟨fu, rfl⟩ : ∃ k, fu = k + 1 := ⟨fu - 1, by omega⟩
      have e1 : Int32.ofNat i + 1 = Int32.ofNat (i + 1) := jo_add (a := i) (b := 1)
      obtain ⟨a1, a2⟩ := u1 i (by omega)
      have g : jin (Int32.ofNat i) 40 := jo_in (by omega) (by omega)
      obtain ⟨s', q1, q2, q3⟩ := ih (i + 1) fu (if u i = 0 then s else i + 1) (by omega) (by omega) (by split <;> omega) (b_isn_step hn hsi a2)
      refine ⟨s', q1, q2, jT_det ?_⟩
      unfold F_16_bytes_4 B_16_bytes_4 B_16_bytes_23
      rw [ka, jo_nat (n := i) (by omega), a1, e1]
      refine jT_neg (by show ¬ Int32.ofNat 40 ≤ _; rw [jo_le (by decide) (by omega)]; omega) (jT_g ⟨rfl, g⟩ ?_)
      by_cases c : u i = 0
      · rw [if_pos c] at q3
        exact jT_pos (by show _ ≤ Int32.ofNat 0; rw [jo_le (by omega) (by decide)]; omega) (jT_l (jT_eq q3 (jT_ret ⟨rfl, rfl⟩)))
      · rw [if_neg c] at q3
        exact jT_neg (by show ¬ _ ≤ Int32.ofNat 0; rw [jo_le (by omega) (by decide)]; omega) (jT_l (jT_eq q3 (jT_ret ⟨rfl, rfl⟩)))
  unfold F_16_bytes
  exact loop 40 0 jfuel 0 rfl (by unfold jfuel; omega) (Nat.le_refl _) ⟨Nat.one_pos, Or.inl rfl⟩
/-- the top three bytes -/
theorem b_top3 {u : Nat → Nat} {s : Nat} (hu : ∀ i, i < 40 → u i < 256) (hs : 3 ≤ s) (h40 : s ≤ 40) (hn : nv 256 u 40 < 256 ^ s) : nv 256 u 40 / 256 ^ (s - 3) = (u (s - 1) * 256 + u (s - 2)) * 256 + u (s - 3) := by
  have c1 : nv 256 u 40 = nv 256 u s + 256 ^ s * nv 256 (fun i => u (s + i)) (40 - s) := by
    have := nv_cut (b := 256) (w := u) (m := s) (40 - s)
    rwa [show s + (40 - s) = 40 by omega] at this
  have hz : nv 256 (fun i => u (s + i)) (40 - s) = 0 := by
    cases h : nv 256 (fun i => u (s + i)) (40 - s) with
    | zero => rfl
    | succ k =>
      rw [h, Nat.mul_add] at c1
      have : 256 ^ s * k ≥ 0 := Nat.zero_le _
      omega
  rw [hz, Nat.mul_zero, Nat.add_zero] at c1
  rw [c1]
  have c2 : nv 256 u s = nv 256 u (s - 3) + 256 ^ (s - 3) * nv 256 (fun i => u (s - 3 + i)) 3 := by
    have := nv_cut (b := 256) (w := u) (m := s - 3) 3
    rwa [show s - 3 + 3 = s by omega] at this
  have c3 : nv 256 u (s - 3) < 256 ^ (s - 3) := nv_lt fun i hi => hu i (by omega)
  have c4 : nv 256 (fun i => u (s - 3 + i)) 3 = (u (s - 1) * 256 + u (s - 2)) * 256 + u (s - 3) := by
    show ((0 + u (s - 3 + 0) * 256 ^ 0) + u (s - 3 + 1) * 256 ^ 1) + u (s - 3 + 2) * 256 ^ 2 = _
    rw [show s - 3 + 0 = s - 3 by omega, show s - 3 + 1 = s - 2 by omega, show s - 3 + 2 = s - 1 by omega]
    omega
  rw [c2, c4, Nat.add_mul_div_left _ _ (Nat.pow_pos (by decide)), Nat.div_eq_of_lt c3, Nat.zero_add]
theorem y16_compactOf {a n s : Nat} (ka : jK H a = (100, 40)) (ha : r40 H a n) (hn : b_isn n s) (h3 : 3 ≤ s) : F_16_compactOf a H = some (Int64.ofNat (b_cps n s), H) := by
  obtain ⟨s', q1, q2, q3⟩ := y16_bytes ka ha
  have es := b_isn_u q2 hn
  subst es
  obtain ⟨u, u1, u2⟩ := ha
  have ht := b_top3 (fun i hi => (u1 i hi).2) h3 q1 (by rw [u2]; exact hn.1)
  rw [u2] at ht
  have hu : ∀ k, 1 ≤ k → k ≤ 3 → jI H a (s' - k) = Int32.ofNat (u (s' - k)) ∧ u (s' - k) < 256 := fun k h1 h2 => u1 (s' - k) (by omega)
  have l1 := (hu 1 (by decide) (by decide)).2
  have l2 := (hu 2 (by decide) (by decide)).2
  have l3 := (hu 3 (by decide) (by decide)).2
  have step : ∀ (F : Nat → Int32 → Int64 → Int32 → jH → Option (Int64 × jH)) (k m : Nat) (Q : Int64 → jH → Prop), 1 ≤ k → k ≤ 3 → m < 16777216 → jT (F a (Int32.ofNat s') (Int64.ofNat (m * 256 + u (s' - k))) (Int32.ofNat (k + 1)) H) Q → jT (B_16_compactOf_10 F a (Int32.ofNat s') (Int64.ofNat m) (Int32.ofNat k) H) Q := by
    intro F k m Q h1 h2 hm hF
    obtain ⟨v1, v2⟩ := hu k h1 h2
    have e1 : Int32.ofNat k + 1 = Int32.ofNat (k + 1) := jo_add (a := k) (b := 1)
    have e2 : Int32.ofNat s' - Int32.ofNat k = Int32.ofNat (s' - k) := jo_sub (by omega)
    have e3 : Int64.ofNat m * 256 + Int32.toInt64 (Int32.ofNat (u (s' - k))) = Int64.ofNat (m * 256 + u (s' - k)) := by
      rw [lo_of (by omega), show (256 : Int64) = Int64.ofNat 256 from rfl, lo_mul, lo_add]
    unfold B_16_compactOf_10 B_16_compactOf_38
    rw [e2, ka, jo_nat (n := s' - k) (by omega), v1, e1, e3]
    exact jT_neg (by show ¬ Int32.ofNat 3 < _; rw [jo_lt (by decide) (by omega)]; omega) (jT_neg (by show ¬ _ < Int32.ofNat 0; rw [jo_lt (by omega) (by decide)]; omega) (jT_g ⟨rfl, jo_in (by omega) (by show s' - k < 40; omega)⟩ (jT_l (jT_l hF))))
  refine jT_det ?_
  unfold F_16_compactOf
  rw [q3, jb_ok]
  obtain ⟨f, ef⟩ : ∃ f, jfuel = f + 4 := ⟨4294967292, rfl⟩
  rw [ef]
  unfold F_16_compactOf_10
  refine step (F_16_compactOf_10 (f + 3)) 1 0 _ (by decide) (by decide) (by decide) ?_
  unfold F_16_compactOf_10
  refine step (F_16_compactOf_10 (f + 2)) 2 _ _ (by decide) (by decide) (by omega) ?_
  unfold F_16_compactOf_10
  refine step (F_16_compactOf_10 (f + 1)) 3 _ _ (by decide) (by decide) (by omega) ?_
  have em : ((0 * 256 + u (s' - 1)) * 256 + u (s' - 2)) * 256 + u (s' - 3) = n / 256 ^ (s' - 3) := by
    rw [ht, Nat.zero_mul, Nat.zero_add]
  rw [em]
  have hm : n / 256 ^ (s' - 3) < 16777216 := by
    rw [ht]
    omega
  unfold F_16_compactOf_10 B_16_compactOf_10 B_16_compactOf_60 B_16_compactOf_90 b_cps
  generalize n / 256 ^ (s' - 3) = m at hm
  have e24 : ∀ k, k ≤ 41 → jshlL (Int64.ofNat k) 24 = Int64.ofNat (k * 16777216) := by decide +kernel
  refine jT_pos (by decide) ?_
  rw [lo_of (by omega)]
  by_cases c : m < 8388608
  · rw [if_pos c]
    refine jT_pos (by rw [show (8388608 : Int64) = Int64.ofNat 8388608 from rfl, lo_lt (by omega) (by decide)]; exact c) (jT_pos rfl (jT_ret ⟨?_, rfl⟩))
    rw [e24 s' (by omega), lo_add]
  · rw [if_neg c]
    refine jT_neg (by rw [show (8388608 : Int64) = Int64.ofNat 8388608 from rfl, lo_lt (by omega) (by decide)]; exact c) (jT_neg (by decide) (jT_g (by decide) (jT_ret ⟨?_, rfl⟩)))
    have e1 : Int64.ofNat s' + 1 = Int64.ofNat (s' + 1) := lo_add (a := s') (b := 1)
    rw [e1, e24 (s' + 1) (by omega), show (256 : Int64) = Int64.ofNat 256 from rfl, lo_div (by omega) (by decide), lo_add]
end N16B
