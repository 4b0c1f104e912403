/-! The class's targets: nine words of 32 bits. -/
def r9 (H : jH) (a n : Nat) : Prop := ∃ f, zw8 H a 9 f ∧ nv 4294967296 f 9 = n
theorem r9_fr {T : Nat → Nat → Prop} {H H' : jH} {a n : Nat} (h : r9 H a n) (hf : jfr T H H') (hT : ∀ j, ¬ T a j) : r9 H' a n := by
  obtain ⟨d, h1, h2⟩ := h
  exact ⟨d, fun i hi => ⟨(jfr_I hf (hT i)).trans (h1 i hi).1, (h1 i hi).2⟩, h2⟩
theorem b_wby {n q r : Nat} (hr : r < 4) : n / 4294967296 ^ q % 4294967296 / 2 ^ (8 * r) % 256 = n / 256 ^ (4 * q + r) % 256 := by
  have e : (256 : Nat) ^ (4 * q + r) = 4294967296 ^ q * 2 ^ (8 * r) := by
    rw [Nat.pow_add, Nat.pow_mul, Nat.pow_mul]
  rw [e, ← Nat.div_div_eq_div_mul]
  generalize n / 4294967296 ^ q = x
  rcases (show r = 0 ∨ r = 1 ∨ r = 2 ∨ r = 3 by omega) with rfl | rfl | rfl | rfl
  all_goals (simp (decide := true) only [Nat.reduceMul, Nat.reducePow]; omega)
theorem b_256_4 (p : Nat) : (256 : Nat) ^ p = 4294967296 ^ (p / 4) * 2 ^ (8 * (p % 4)) := by
  have : (256 : Nat) ^ p = 256 ^ (4 * (p / 4) + p % 4) := by congr 1; omega
  rw [this, Nat.pow_add, Nat.pow_mul, Nat.pow_mul 2 8]
theorem b_3b {m : Nat} (h : m < 16777216) : (m / 65536 % 256 * 256 + m / 256 % 256) * 2 ^ 8 + m % 256 = m := by omega
section BI1
variable {α : Type} {H0 H : jH} {a n : Nat}
theorem z1_byteOf {p : Nat} (ka : jK H a = (100, 9)) (hr : r9 H a n) (hp : p < 36) : F_1_byteOf a (Int32.ofNat p) H = some (Int32.ofNat (n / 256 ^ p % 256), H) := by
  obtain ⟨f, f1, f2⟩ := hr
  obtain ⟨v1, v2⟩ := f1 (p / 4) (by omega)
  have e4 : Int32.ofNat p / 4 = Int32.ofNat (p / 4) := jo_div (b := 4) (by omega) (by decide)
  have em : (8 : Int32) * jrem (Int32.ofNat p) 4 = Int32.ofNat (8 * (p % 4)) := by
    rw [show (4 : Int32) = Int32.ofNat 4 from rfl, jo_rem (by omega) (by decide), show (8 : Int32) = Int32.ofNat 8 from rfl, jo_mul]
  have ev : f (p / 4) / 2 ^ (8 * (p % 4)) % 256 = n / 256 ^ p % 256 := by
    have hd : f (p / 4) = n / 4294967296 ^ (p / 4) % 4294967296 := by
      rw [← f2]
      exact (nv_digit (fun j hj => (f1 j hj).2) (by decide) (by omega)).symm
    rw [hd, b_wby (Nat.mod_lt _ (by decide)), show 4 * (p / 4) + p % 4 = p by omega]
  have e255 : jushr (Int32.ofNat (f (p / 4))) (Int32.ofNat (8 * (p % 4))) &&& 255 = Int32.ofNat (n / 256 ^ p % 256) := by
    rw [jo_ushr v2 (by omega), show (255 : Int32) = Int32.ofNat (2 ^ 8 - 1) from rfl, jo_mask (by decide), ← ev]
  refine jT_det ?_
  unfold F_1_byteOf B_1_byteOf_32
  rw [ka, e4, em, jo_nat (n := p / 4) (by omega), v1, e255]
  exact jT_neg (by show ¬ _ < Int32.ofNat 0; rw [jo_lt (by omega) (by decide)]; omega) (jT_g (by decide) (jT_g rfl (jT_pos (by show _ < Int32.ofNat 9; rw [jo_lt (by omega) (by decide)]; omega) (jT_g (by decide) (jT_g ⟨rfl, jo_in (by omega) (by show _ < 9; omega)⟩ (jT_g (by decide) (jT_ret ⟨rfl, rfl⟩)))))))
theorem z1_setTarget {Q : Unit → jH → Prop} (ka : jK H0 a = (100, 9)) (h32 : 31 ≤ a) (h3 : 3 ≤ b_sz n) (h36 : b_sz n ≤ 36) (hk : ∀ H', jfr (b_Ta a) H0 H' → r9 H' a (b_tg n) → Q () H') : jT (F_1_setTarget a (Int32.ofNat n) H0) Q := by
  have hn : n < 2147483648 := by unfold b_sz at h36; omega
  have es : jushr (Int32.ofNat n) 24 = Int32.ofNat (b_sz n) := jo_ushr (m := n) (c := 24) (by omega) (by decide)
  have em : Int32.ofNat n &&& 8388607 = Int32.ofNat (b_ma n) := jo_mask (m := n) (k := 23) (by decide)
  unfold F_1_setTarget
  rw [es, em]
  have hm : b_ma n < 8388608 := Nat.mod_lt _ (by decide)
  unfold b_tg at hk
  generalize b_sz n = s at h3 h36 hk
  generalize b_ma n = m at hm hk
  refine jT_l (jT_l (jT_b (zA_fillI rfl ka h32 (by decide) fun H1 f1 z1 => ?_)))
  have f1' : jfr (b_Ta a) H0 H1 := jfr_J f1
  have step : ∀ (F : Nat → Int32 → Int32 → Int32 → jH → Option (Unit × jH)) (k V : Nat) (H : jH), k < 3 → jfr (b_Ta a) H0 H → r9 H a V → V < 256 ^ (s - 3 + k) → (∀ H', jfr (b_Ta a) H0 H' → r9 H' a (V + m / 256 ^ k % 256 * 256 ^ (s - 3 + k)) → jT (F a (Int32.ofNat s) (Int32.ofNat m) (Int32.ofNat (k + 1)) H') Q) → jT (B_1_setTarget_18 F a (Int32.ofNat s) (Int32.ofNat m) (Int32.ofNat k) H) Q := by
    intro F k V H hk3 hf hr hV hF
    obtain ⟨d, d1, d2⟩ := hr
    have e1 : Int32.ofNat k + 1 = Int32.ofNat (k + 1) := jo_add (a := k) (b := 1)
    have e2 : Int32.ofNat s - 3 + Int32.ofNat k = Int32.ofNat (s - 3 + k) := by
      rw [show (3 : Int32) = Int32.ofNat 3 from rfl, jo_sub h3, jo_add]
    obtain ⟨p, hp⟩ : ∃ p, p = s - 3 + k := ⟨_, rfl⟩
    rw [← hp] at hV e2 hF
    have e4 : Int32.ofNat p / 4 = Int32.ofNat (p / 4) := jo_div (b := 4) (by omega) (by decide)
    have em : (8 : Int32) * jrem (Int32.ofNat p) 4 = Int32.ofNat (8 * (p % 4)) := by
      rw [show (4 : Int32) = Int32.ofNat 4 from rfl, jo_rem (by omega) (by decide), show (8 : Int32) = Int32.ofNat 8 from rfl, jo_mul]
    have e8 : (8 : Int32) * Int32.ofNat k = Int32.ofNat (8 * k) := jo_mul (a := 8) (b := k)
    have ev : jushr (Int32.ofNat m) (Int32.ofNat (8 * k)) &&& 255 = Int32.ofNat (m / 256 ^ k % 256) := by
      rw [jo_ushr (by omega) (by omega), show (255 : Int32) = Int32.ofNat (2 ^ 8 - 1) from rfl, jo_mask (by decide), show (256 : Nat) = 2 ^ 8 from rfl, ← Nat.pow_mul]
    obtain ⟨v1, v2⟩ := d1 (p / 4) (by omega)
    -- the word holds lower bytes alone
    have hw : d (p / 4) < 2 ^ (8 * (p % 4)) := by
      have hd : d (p / 4) = V / 4294967296 ^ (p / 4) % 4294967296 := by
        rw [← d2]
        exact (nv_digit (fun j hj => (d1 j hj).2) (by decide) (by omega)).symm
      rw [hd]
      refine Nat.lt_of_le_of_lt (Nat.mod_le _ _) ?_
      rw [b_256_4] at hV
      exact Nat.div_lt_of_lt_mul hV
    have hb : m / 256 ^ k % 256 < 256 := Nat.mod_lt _ (by decide)
    generalize m / 256 ^ k % 256 = y at ev hb hF
    have eo : Int32.ofNat (d (p / 4)) ||| jshl (Int32.ofNat y) (Int32.ofNat (8 * (p % 4))) = Int32.ofNat (y * 2 ^ (8 * (p % 4)) + d (p / 4)) := by
      rw [jo_shl (by omega), Int32.or_comm, jo_or hw]
    have hlt : y * 2 ^ (8 * (p % 4)) + d (p / 4) < 4294967296 := by
      have : (y + 1) * 2 ^ (8 * (p % 4)) ≤ 256 * 2 ^ (8 * (p % 4)) := Nat.mul_le_mul_right _ (by omega)
      rw [Nat.add_mul, Nat.one_mul] at this
      have h24 : 2 ^ (8 * (p % 4)) ≤ 2 ^ 24 := Nat.pow_le_pow_right (by decide) (by omega)
      generalize 2 ^ (8 * (p % 4)) = z at hw this h24
      omega
    unfold B_1_setTarget_18 B_1_setTarget_74
    refine jT_neg (by show ¬ Int32.ofNat 3 ≤ _; rw [jo_le (by decide) (by omega)]; omega) (jT_l ?_)
    rw [e2, e4, em, e8, ev, e1, jfr_K hf, ka, jo_nat (n := p / 4) (by omega), v1, eo]
    have g : jin (Int32.ofNat (p / 4)) 9 := jo_in (by omega) (by omega)
    refine jT_neg (by show ¬ _ < Int32.ofNat 0; rw [jo_lt (by omega) (by decide)]; omega) (jT_g (by decide) (jT_g rfl (jT_neg (by show ¬ Int32.ofNat 9 ≤ _; rw [jo_le (by decide) (by omega)]; omega) (jT_g (by decide) (jT_g ⟨rfl, g⟩ (jT_g (by decide) (jT_g ⟨rfl, by unfold jF0; omega, g⟩ (jT_l (jT_l (hF _ (jfr_sI hf rfl) ⟨nup d (p / 4) (y * 2 ^ (8 * (p % 4)) + d (p / 4)), fun i hi => ?_, ?_⟩))))))))))
    · unfold nup
      by_cases c : i = p / 4
      · rw [if_pos c, c]
        exact ⟨jI_sIe, hlt⟩
      · rw [if_neg c]
        exact ⟨(jI_sIn c).trans (d1 i hi).1, (d1 i hi).2⟩
    · have hup := nv_up (b := 4294967296) (w := d) (i := p / 4) (v := y * 2 ^ (8 * (p % 4)) + d (p / 4)) (n := 9) (by omega)
      have e5 : y * 2 ^ (8 * (p % 4)) * 4294967296 ^ (p / 4) = y * 256 ^ p := by
        rw [b_256_4 p, Nat.mul_assoc, Nat.mul_comm (2 ^ _)]
      rw [d2, Nat.add_mul, e5] at hup
      omega
  obtain ⟨fu, ef⟩ : ∃ f, jfuel = f + 4 := ⟨4294967292, rfl⟩
  rw [ef]
  have z9 : nv 4294967296 (fun _ => 0) 9 = 0 := nv_zero fun _ _ => rfl
  have hB : ∀ k, m / 256 ^ k % 256 ≤ 255 := fun k => by
    have := Nat.mod_lt (m / 256 ^ k) (show 0 < 256 by decide)
    omega
  unfold F_1_setTarget_18
  refine step (F_1_setTarget_18 (fu + 3)) 0 0 H1 (by decide) f1' ⟨fun _ => 0, fun i hi => ⟨z1 i hi, show 0 < 4294967296 by decide⟩, z9⟩ (Nat.pow_pos (by decide)) fun H2 f2 r2 => ?_
  have b1 : 0 + m / 256 ^ 0 % 256 * 256 ^ (s - 3 + 0) < 256 ^ (s - 3 + 1) := by
    have := hB 0
    have h2 : m / 256 ^ 0 % 256 * 256 ^ (s - 3 + 0) ≤ 255 * 256 ^ (s - 3 + 0) := Nat.mul_le_mul_right _ this
    have h3 : 256 ^ (s - 3 + 1) = 256 ^ (s - 3 + 0) * 256 := Nat.pow_succ _ _
    have h4 : 0 < 256 ^ (s - 3 + 0) := Nat.pow_pos (by decide)
    omega
  unfold F_1_setTarget_18
  refine step (F_1_setTarget_18 (fu + 2)) 1 _ H2 (by decide) f2 r2 b1 fun H3 f3 r3 => ?_
  have b2 : 0 + m / 256 ^ 0 % 256 * 256 ^ (s - 3 + 0) + m / 256 ^ 1 % 256 * 256 ^ (s - 3 + 1) < 256 ^ (s - 3 + 2) := by
    have := hB 1
    have h2 : m / 256 ^ 1 % 256 * 256 ^ (s - 3 + 1) ≤ 255 * 256 ^ (s - 3 + 1) := Nat.mul_le_mul_right _ this
    have h3 : 256 ^ (s - 3 + 2) = 256 ^ (s - 3 + 1) * 256 := Nat.pow_succ _ _
    omega
  unfold F_1_setTarget_18
  refine step (F_1_setTarget_18 (fu + 1)) 2 _ H3 (by decide) f3 r3 b2 fun H4 f4 r4 => ?_
  unfold F_1_setTarget_18 B_1_setTarget_18
  refine jT_pos (by decide) (jT_ret (hk H4 f4 ?_))
  have h3 := b_ma3 hm (s - 3)
  have e : 0 + m / 256 ^ 0 % 256 * 256 ^ (s - 3 + 0) + m / 256 ^ 1 % 256 * 256 ^ (s - 3 + 1) + m / 256 ^ 2 % 256 * 256 ^ (s - 3 + 2) = m * 256 ^ (s - 3) := by
    rw [← h3, Nat.zero_add, Nat.add_assoc]
    rfl
  rw [← e]
  exact r4
theorem z1_compact {s : Nat} (ka : jK H a = (100, 9)) (hr : r9 H a n) (hn : b_isn n s) (h3 : 3 ≤ s) (h36 : s ≤ 36) : F_1_compact a H = some (Int32.ofNat (b_cps n s), H) := by
  have hlo : 256 ^ (s - 1) ≤ n := by
    rcases hn.2 with e | e
    · omega
    · exact e
  have pz : 0 < 256 ^ (s - 3) := Nat.pow_pos (by decide)
  obtain ⟨m, hm⟩ : ∃ m, m = n / 256 ^ (s - 3) := ⟨_, rfl⟩
  have e2 : 256 ^ s = 256 ^ (s - 3) * 16777216 := by
    have : 256 ^ s = 256 ^ (s - 3 + 3) := by congr 1; omega
    rw [this, Nat.pow_add]
  have hm24 : m < 16777216 := by
    rw [hm]
    refine Nat.div_lt_of_lt_mul ?_
    rw [← e2]
    exact hn.1
  have by3 : n / 256 ^ (s - 3) % 256 = m % 256 := by rw [hm]
  have by2 : n / 256 ^ (s - 2) % 256 = m / 256 % 256 := by
    rw [hm, Nat.div_div_eq_div_mul, ← Nat.pow_succ]
    congr 3
    omega
  have by1 : n / 256 ^ (s - 1) % 256 = m / 65536 % 256 := by
    have : 256 ^ (s - 1) = 256 ^ (s - 3) * 65536 := by
      have : 256 ^ (s - 1) = 256 ^ (s - 3 + 2) := by congr 1; omega
      rw [this, Nat.pow_add]
    rw [hm, Nat.div_div_eq_div_mul, this]
  have fin : jT (B_1_compact_25 a (Int32.ofNat s) H) (fun v h => v = Int32.ofNat (b_cps n s) ∧ h = H) := by
    have s1 : Int32.ofNat s - 1 = Int32.ofNat (s - 1) := jo_sub (b := 1) (by omega)
    have s2 : Int32.ofNat s - 2 = Int32.ofNat (s - 2) := jo_sub (b := 2) (by omega)
    have s3 : Int32.ofNat s - 3 = Int32.ofNat (s - 3) := jo_sub (b := 3) (by omega)
    have eh : jshl (Int32.ofNat (m / 65536 % 256)) 16 ||| jshl (Int32.ofNat (m / 256 % 256)) 8 ||| Int32.ofNat (m % 256) = Int32.ofNat m := by
      have a1 : jshl (Int32.ofNat (m / 65536 % 256)) 16 = Int32.ofNat (m / 65536 % 256 * 2 ^ 16) := jo_shl (c := 16) (by decide)
      have a2 : jshl (Int32.ofNat (m / 256 % 256)) 8 = Int32.ofNat (m / 256 % 256 * 2 ^ 8) := jo_shl (c := 8) (by decide)
      rw [a1, a2, jo_or (k := 16) (by omega)]
      have a3 : m / 65536 % 256 * 2 ^ 16 + m / 256 % 256 * 2 ^ 8 = (m / 65536 % 256 * 256 + m / 256 % 256) * 2 ^ 8 := by omega
      rw [a3, jo_or (k := 8) (by omega)]
      exact congrArg Int32.ofNat (b_3b hm24)
    unfold B_1_compact_25 B_1_compact_69 b_cps
    rw [s1, s2, s3, z1_byteOf ka hr (by omega), jb_ok, z1_byteOf ka hr (by omega), jb_ok, z1_byteOf ka hr (by omega), jb_ok, by1, by2, by3, eh, ← hm]
    refine jT_l ?_
    by_cases c : m < 8388608
    · rw [if_pos c]
      refine jT_pos (by show _ < Int32.ofNat 8388608; rw [jo_lt (by omega) (by decide)]; exact c) (jT_ret ⟨?_, rfl⟩)
      have a1 : jshl (Int32.ofNat s) 24 = Int32.ofNat (s * 2 ^ 24) := jo_shl (c := 24) (by decide)
      rw [a1, jo_or (k := 24) (by omega)]
    · rw [if_neg c]
      have a8 : jshr (Int32.ofNat m) 8 = Int32.ofNat (m / 2 ^ 8) := jo_shr (c := 8) (by omega) (by decide)
      have e1 : Int32.ofNat s + 1 = Int32.ofNat (s + 1) := jo_add (b := 1)
      rw [a8, e1]
      refine jT_neg (by show ¬ _ < Int32.ofNat 8388608; rw [jo_lt (by omega) (by decide)]; exact c) (jT_l (jT_l (jT_ret ⟨?_, rfl⟩)))
      have a1 : jshl (Int32.ofNat (s + 1)) 24 = Int32.ofNat ((s + 1) * 2 ^ 24) := jo_shl (c := 24) (by decide)
      rw [a1, jo_or (k := 24) (by omega)]
  have loop : ∀ (d t fu : Nat), s + d = t → t ≤ 36 → d < fu → F_1_compact_5 fu a (Int32.ofNat t) H = some (Int32.ofNat (b_cps n s), H) := by
    intro d
    induction d with
    | zero =>
      intro t fu ht ht36 hfu
      obtain ⟨fu, rfl⟩ : ∃ k, fu = k + 1 := ⟨fu - 1, by omega⟩
      obtain rfl : t = s := by omega
      have s1 : Int32.ofNat t - 1 = Int32.ofNat (t - 1) := jo_sub (b := 1) (by omega)
      have hne : n / 256 ^ (t - 1) % 256 ≠ 0 := by
        have h1 : 1 ≤ n / 256 ^ (t - 1) := (Nat.le_div_iff_mul_le (Nat.pow_pos (by decide))).mpr (by omega)
        have h2 : n / 256 ^ (t - 1) < 256 := by
          refine Nat.div_lt_of_lt_mul ?_
          rw [← Nat.pow_succ, show (t - 1).succ = t by omega]
          exact hn.1
        omega
      refine jT_det ?_
      unfold F_1_compact_5 B_1_compact_5
      rw [s1, z1_byteOf ka hr (by omega), jb_ok]
      exact jT_neg (by show ¬ _ ≤ Int32.ofNat 0; rw [jo_le (by omega) (by decide)]; omega) (jT_pos (fun w => hne ((jo_eq (b := 0) (by omega) (by decide)).mp w)) fin)
    | succ d ih =>
      intro t fu ht ht36 hfu
      obtain ⟨fu, rfl⟩ : ∃ k, fu = k + 1 := ⟨fu - 1, by omega⟩
      have s1 : Int32.ofNat t - 1 = Int32.ofNat (t - 1) := jo_sub (b := 1) (by omega)
      have s2 : Int32.ofNat t + (-1) = Int32.ofNat (t - 1) := by rw [← s1]; exact (Int32.sub_eq_add_neg _ _).symm
      have h0 : n / 256 ^ (t - 1) % 256 = 0 := by
        have h1 := Nat.pow_le_pow_right (show 0 < 256 by decide) (show s ≤ t - 1 by omega)
        rw [Nat.div_eq_of_lt (Nat.lt_of_lt_of_le hn.1 h1)]
      refine jT_det ?_
      unfold F_1_compact_5 B_1_compact_5
      rw [s1, s2, z1_byteOf ka hr (by omega), jb_ok, h0]
      exact jT_neg (by show ¬ _ ≤ Int32.ofNat 0; rw [jo_le (by omega) (by decide)]; omega) (jT_neg (fun w => w rfl) (jT_l (jT_eq (ih (t - 1) fu (by omega) (by omega) (by omega)) (jT_ret ⟨rfl, rfl⟩))))
  unfold F_1_compact
  rw [ka, jg_t rfl]
  exact loop (36 - s) 36 jfuel (by omega) (Nat.le_refl _) (by unfold jfuel; omega)
end BI1
