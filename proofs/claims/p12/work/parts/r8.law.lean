/-! The law, whole. -/
theorem q_uL_self {T : Nat → Int64} {i : Nat} : q_uL T i (T i) = T := funext fun j => by
  unfold q_uL
  by_cases c : j = i
  · rw [if_pos c, c]
  · rw [if_neg c]
section LAW
variable {L : Nat} {xs : Nat → Int32} {k n p0 q : Nat} {S : s_S} {l : List Nat} {H : jH} {a4 : Int64} {a7 a8 a10 : Int32} {k48 : Nat → Nat → Nat → Nat → Int64 → Int32 → Int32 → Int32 → Int32 → jH → Option (Int32 × jH)}
theorem r_115 (hk : k ≤ 27) (hn : 1 ≤ n ∧ n ≤ k + 1) (hq : q < n ∧ n ≤ q + 6) (hp0 : p0 < 4) (next : r_nx L xs k a8 k48) (hS : r_St L xs k S l H) (hs : jI H 31 59 = 1 ∨ ((∀ p, p < 4 → S.2.2.2.2.2 p = []) ∧ r_AC n a4 a7 S l (jL H 421))) :
    jT (B_L_holds_115 k48 18 31 32 421 a4 (Int32.ofNat n) a7 a8 (Int32.ofNat k) a10 (Int32.ofNat p0) (Int32.ofNat q) H) jF12 := by
  have hS0 := hS
  obtain ⟨⟨nb, os, kn, ki, hC⟩, hP, ⟨hls, hll⟩, -⟩ := hS0
  have hK : jK H 31 = (100, 64) := sK_31 hC.1
  have hL : jK H 421 = (103, 64) := sK_421 hC.1
  have r1 : jrem (Int32.ofNat q) 6 = Int32.ofNat (q % 6) := jo_rem (a := q) (b := 6) (by omega) (by omega)
  have r2 : jrem (Int32.ofNat n) 6 = Int32.ofNat (n % 6) := jo_rem (a := n) (b := 6) (by omega) (by omega)
  have e8 : (8 : Int32) * Int32.ofNat (q % 6) = Int32.ofNat (8 * (q % 6)) := jo_mul (a := 8) (b := q % 6)
  have e4 : (4 : Int32) * Int32.ofNat (q % 6) = Int32.ofNat (4 * (q % 6)) := jo_mul (a := 4) (b := q % 6)
  have e5 : (32 : Int32) + Int32.ofNat (4 * (q % 6)) = Int32.ofNat (32 + 4 * (q % 6)) := jo_add (a := 32) (b := 4 * (q % 6))
  obtain ⟨hh, ehh⟩ : ∃ hh, hh = (zlb a4 (7 - q % 6)).toNat := ⟨_, rfl⟩
  have hh8 : hh < 256 := by rw [ehh]; exact UInt8.toNat_lt _
  have hhq : jshrL a4 (Int32.ofNat (8 * (q % 6))) &&& 255 = Int64.ofNat hh := by rw [ehh]; exact q_f8 (by omega)
  have e1 : Int32.ofNat hh + 1 = Int32.ofNat (hh + 1) := jo_add (a := hh) (b := 1)
  obtain ⟨T, hT⟩ : ∃ T, T = jL H 421 := ⟨_, rfl⟩
  have eH : q_h H (jI H 31) T = H := by rw [hT]; exact q_h_self
  unfold B_L_holds_115
  refine jT_g (by decide) (jT_l ?_)
  rw [r1]
  refine jT_g (by decide) (jT_l ?_)
  rw [r2, e8, hhq, lo_to32 (by omega), e1]
  refine jT_l ?_
  rw [e4, e5, jo_nat (n := 32 + 4 * (q % 6)) (by omega)]
  refine jT_g (q_g3 hL (jo_in (by omega) (by omega))) (jT_l ?_)
  rw [← hT]
  refine jT_if (fun _ => ?_) fun _ => ?_
  · unfold B_L_holds_171
    refine jT_pos rfl ?_
    unfold B_L_holds_197
    rw [e4, e5, jo_nat (n := 32 + 4 * (q % 6)) (by omega), q_sL', ← hT, q_uL_self, eH]
    refine jT_g (q_g3 hL (jo_in (by omega) (by omega))) (jT_l (jT_pos rfl ?_))
    unfold B_L_holds_220
    refine jT_g (q_g1 hK (by decide)) (r_224 (T0 := T) (T1 := T) hk hn hq hp0 next hS hT.symm hh8 hhq (Or.inl rfl) ?_)
    rcases hs with w | ⟨w1, w2⟩
    · exact Or.inl w
    · rw [← hT] at w2
      exact Or.inr ⟨w1, w2, fun j _ _ => by rw [q_uL_self], fun _ => rfl, fun c => absurd c (by decide)⟩
  · unfold B_L_holds_171
    refine jT_neg (by decide) ?_
    unfold B_L_holds_197
    rw [e4, e5, jo_nat (n := 32 + 4 * (q % 6)) (by omega), q_sL', ← hT]
    obtain ⟨T1, hT1⟩ : ∃ T1, T1 = q_uL T (32 + 4 * (q % 6)) (T (32 + 4 * (q % 6)) ^^^ (-1)) := ⟨_, rfl⟩
    rw [← hT1]
    have o1 : ∀ j, j ≠ 32 + 4 * (q % 6) → T1 j = T j := fun j hj => by rw [hT1]; exact q_uL_n hj
    have hS1 : r_St L xs k S l (q_h H (jI H 31) T1) := r_St_T hS (by omega) fun j hj => by rw [o1 j (by omega), hT]
    have ls1 : q_LS l (jI H 31) T1 := by
      have := hS1.2.2.1.1
      rw [q_h_I, q_h_L] at this
      exact this
    have back : ∀ j, q_uL T1 (32 + 4 * (q % 6)) (T (32 + 4 * (q % 6))) j = T j := fun j => by
      by_cases c : j = 32 + 4 * (q % 6)
      · rw [c, q_uL_e]
      · rw [q_uL_n c, o1 j c]
    refine jT_g (q_g3 hL (jo_in (by omega) (by omega))) (jT_l (jT_neg (by decide) (jT_b (q_isnL (s := q % 6) hK hL (by omega) (by omega) ls1 (fun _ => ?_) fun nin => ?_))))
    · exact jT_neg (by decide) (r_224 (T0 := T) (T1 := T1) hk hn hq hp0 next hS1 q_h_L hh8 hhq (Or.inr rfl) (Or.inl rfl))
    · refine jT_pos rfl ?_
      unfold B_L_holds_220
      refine jT_g (q_g1 hK (by decide)) (r_224 (T0 := T) (T1 := T1) hk hn hq hp0 next hS1 q_h_L hh8 hhq (Or.inr rfl) ?_)
      rcases hs with w | ⟨w1, w2⟩
      · exact Or.inl (by rw [q_h_I]; exact w)
      · rw [← hT] at w2
        exact Or.inr ⟨w1, w2, fun j _ _ => back j, fun c => absurd c (by decide), fun _ => nin⟩
theorem r_81 {s : Nat} (hk : k ≤ 27) (hn : 1 ≤ n ∧ n ≤ k + 1) (hsn : 1 ≤ s ∧ s ≤ 6 ∧ s ≤ n) (hp0 : p0 < 4) (next : r_nx L xs k a8 k48) (hS : r_St L xs k S l H) (hs : jI H 31 59 = 1 ∨ ((∀ p, p < 4 → S.2.2.2.2.2 p = []) ∧ r_AC n a4 a7 S l (jL H 421))) :
    jT (B_L_holds_81 k48 18 31 32 421 a4 (Int32.ofNat n) a7 a8 (Int32.ofNat k) a10 (Int32.ofNat p0) (Int32.ofNat s) H) jF12 := by
  have em : Int32.ofNat n - 1 = Int32.ofNat (n - 1) := jo_sub (a := n) (b := 1) hn.1
  unfold B_L_holds_81
  rw [em]
  refine jT_if (fun _ => jT_g ?_ ?_) fun _ => r_115 hk hn ⟨by omega, by omega⟩ hp0 next hS hs
  · rw [show (0 : Int32) = Int32.ofNat 0 from rfl, jo_eq (by omega) (by decide)]
    omega
  · rw [q_and255]
    have hu := UInt8.toNat_lt (jbu (jshr a10 3))
    generalize (jbu (jshr a10 3)).toNat = u at *
    have hm : u % s < s := Nat.mod_lt _ (by omega)
    have er : jrem (Int32.ofNat u) (Int32.ofNat s) = Int32.ofNat (u % s) := jo_rem (by omega) (by omega)
    rw [er]
    generalize u % s = v at *
    have es : Int32.ofNat (n - 1) - Int32.ofNat v = Int32.ofNat (n - 1 - v) := jo_sub (by omega)
    rw [es]
    exact r_115 hk hn ⟨by omega, by omega⟩ hp0 next hS hs
end LAW
theorem r_loop {L many : Nat} {xs : Nat → Int32} (hm : many ≤ 28 ∧ many ≤ L) (hL : L ≤ 260) : ∀ (d k fu : Nat) (a4 : Int64) (a6 a7 : Int32) (H : jH), k + d = many → d < fu → r_RH L xs k a4 a6 a7 H → jT (F_L_holds_48 fu 18 31 32 421 a4 a6 a7 (Int32.ofNat many) (Int32.ofNat k) H) jF12 := by
  intro d
  induction d with
  | zero =>
    intro k fu a4 a6 a7 H hk hf h
    obtain rfl : k = many := by omega
    obtain ⟨fu, rfl⟩ : ∃ k, fu = k + 1 := ⟨fu - 1, by omega⟩
    obtain ⟨S, l, n, hS, -⟩ := h
    unfold F_L_holds_48 B_L_holds_48
    exact jT_pos (by rw [jo_le (by omega) (by omega)]; exact Nat.le_refl _) (jT_g (Or.inr rfl) (jT_ret (r_fin hS hm.1 (Or.inl rfl))))
  | succ d ih =>
    intro k fu a4 a6 a7 H hk hf h
    obtain ⟨fu, rfl⟩ : ∃ k, fu = k + 1 := ⟨fu - 1, by omega⟩
    obtain ⟨S, l, n, hS, rfl, n1, n2, hs⟩ := h
    have k27 : k ≤ 27 := by omega
    have next : r_nx L xs k (Int32.ofNat many) (F_L_holds_48 fu) := fun b4 b6 b7 H' h' => by
      rw [show Int32.ofNat k + 1 = Int32.ofNat (k + 1) from jo_add (a := k) (b := 1)]
      exact ih (k + 1) fu b4 b6 b7 H' (by omega) (by omega) h'
    obtain ⟨h181, h182⟩ := hS.2.2.2.1
    unfold F_L_holds_48 B_L_holds_48
    rw [h181]
    refine jT_neg (by rw [jo_le (by omega) (by omega)]; omega) (jT_g ⟨rfl, jo_in (by omega) (show k < L by omega)⟩ (jT_l ?_))
    obtain ⟨x, hx⟩ : ∃ x, x = jI H 18 (Int32.ofNat k).toNatClampNeg := ⟨_, rfl⟩
    rw [← hx]
    obtain ⟨m, -, em⟩ := q_nat x
    have e3 : x &&& 3 = Int32.ofNat (m % 4) := by
      rw [em]
      exact jo_mask (m := m) (k := 2) (by decide)
    refine jT_l ?_
    rw [e3]
    refine jT_if (fun c => ?_) fun c => ?_
    · have c' : 6 ≤ n := by
        rw [show (6 : Int32) = Int32.ofNat 6 from rfl, jo_le (by decide) (by omega)] at c
        exact c
      exact r_81 (s := 6) k27 ⟨n1, n2⟩ ⟨by decide, by decide, c'⟩ (by omega) next hS hs
    · have c' : ¬ 6 ≤ n := fun w => c (by rw [show (6 : Int32) = Int32.ofNat 6 from rfl, jo_le (by decide) (by omega)]; exact w)
      exact r_81 (s := n) k27 ⟨n1, n2⟩ ⟨n1, by omega, Nat.le_refl _⟩ (by omega) next hS hs
theorem r_holds {L : Nat} {xs : Nat → Int32} (hL : L ≤ 260) : jT (F_L_holds 18 31 (jnew (jH0 L xs) 100 64)) jF12 := by
  refine r_start fun H h => jT_b (r_begin h fun H' h' => ?_)
  have hh := h'
  obtain ⟨S, l, n, hS, -⟩ := hh
  obtain ⟨h181, -⟩ := hS.2.2.2.1
  rw [h181]
  unfold B_L_holds_43
  refine jT_g rfl (jT_if (fun c => ?_) fun c => jT_g rfl ?_)
  · have c' : 28 ≤ L := by
      have := c
      rw [show (28 : Int32) = Int32.ofNat 28 from rfl, show Int32.ofNat (100, L).2 = Int32.ofNat L from rfl, jo_le (by decide) (by omega)] at this
      exact this
    exact r_loop (many := 28) ⟨Nat.le_refl _, c'⟩ hL 28 0 jfuel 0 1 0 H' rfl (by unfold jfuel; omega) h'
  · have c' : ¬ 28 ≤ L := fun w => c (by rw [show (28 : Int32) = Int32.ofNat 28 from rfl, show Int32.ofNat (100, L).2 = Int32.ofNat L from rfl, jo_le (by decide) (by omega)]; exact w)
    exact r_loop (many := L) ⟨by omega, Nat.le_refl _⟩ hL L 0 jfuel 0 1 0 H' (Nat.zero_add _) (by unfold jfuel; omega) h'
/-- on every script the law's function answers 1, within the room -/
theorem r_pure : jPURE := fun L xs hL => by
  have h : jT (F_L_law 18 (jH0 L xs)) (fun r H => r = 1 ∧ jn H ≤ 600031 ∧ js H ≤ 7302250) := by
    unfold F_L_law B_L_law_21 B_L_law_26
    refine jT_g (by decide) (jT_nw (jT_bi (r_holds hL) fun r H' q => ?_))
    obtain ⟨q1, q2, q3, q4⟩ := q
    refine jT_if (fun _ => jT_g (Or.inr rfl) (jT_ret ⟨rfl, q3, q4⟩)) fun c => ?_
    have h59 : jI H' 31 59 = 1 := by
      rcases q1 with w | w
      · rw [w] at c
        exact absurd c (by decide)
      · exact w
    exact jT_g (q_g1 q2 (by decide)) (jT_neg (fun w => w h59) (jT_g (Or.inr rfl) (jT_ret ⟨rfl, q3, q4⟩)))
  obtain ⟨⟨r, H'⟩, he, hr, h1, h2⟩ := h
  exact ⟨H', by rw [he]; rw [show r = 1 from hr], h1, h2⟩
theorem i_vc : Claimed_1_1 ∧ Claimed_1_2 := jclaim r_pure
