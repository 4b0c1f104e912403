/-! All others are asked; heights in a long. -/
theorem r_SF_bx {n : Nat} {a4 : Int64} {a7 a15 a20 : Int32} {S : s_S} {l : List Nat} {T : Nat → Int64} {b : Nat → List UInt8} (h : r_SF n a4 a7 a15 a20 S l T) : r_SF n a4 a7 a15 a20 (s_bx S b) l T := h
/-- what waits for the others -/
def r_bx (p0 : Nat) (a20 : Int32) (bn : Nat → UInt8) (p : Nat) (b : Nat → List UInt8) : Prop := ∀ q, q < 4 → b q = if q < p ∨ q = p0 then [] else if a20 = 0 then [] else [0, 35, 6, 1, 2] ++ q_ls bn 32
section TOLD
variable {L : Nat} {xs : Nat → Int32} {k n p0 : Nat} {l : List Nat} {a4 : Int64} {a7 a8 a15 a20 : Int32} {k48 : Nat → Nat → Nat → Nat → Int64 → Int32 → Int32 → Int32 → Int32 → jH → Option (Int32 × jH)}
theorem r_460 (hk : k ≤ 27) (hn : 1 ≤ n ∧ n ≤ k + 2) (hp0 : p0 < 4) (next : ∀ H', r_RH L xs (k + 1) a4 (Int32.ofNat n) a7 H' → jT (k48 18 31 32 421 a4 (Int32.ofNat n) a7 a8 (Int32.ofNat k + 1) H') jF12) :
    ∀ (d p fu : Nat) (S : s_S) (H : jH) (a19 : Int32), p + d = 4 → d < fu → r_St L xs (k + 1) S l H → (a19 = 0 ∨ a19 = 1) → (jI H 31 59 = 1 ∨ (a19 = 1 ∧ (∃ bn, (a20 ≠ 0 → q_sl (jL H 421) 6 bn) ∧ r_bx p0 a20 bn p S.2.2.2.2.2) ∧ r_SF n a4 a7 a15 a20 S l (jL H 421))) → jT (F_L_holds_460 k48 fu 18 31 32 421 a4 (Int32.ofNat n) a7 a8 (Int32.ofNat k) (Int32.ofNat p0) a15 a19 a20 (Int32.ofNat p) H) jF12 := by
  intro d
  induction d with
  | zero =>
    intro p fu S H a19 hp hf h h19 hs
    obtain rfl : p = 4 := by omega
    obtain ⟨fu, rfl⟩ : ∃ k, fu = k + 1 := ⟨fu - 1, by omega⟩
    unfold F_L_holds_460 B_L_holds_460
    refine jT_pos (by decide) (r_519 hk h hn h19 ?_ next)
    rcases hs with w | ⟨w1, ⟨bn, -, w2⟩, w3⟩
    · exact Or.inl w
    · exact Or.inr ⟨w1, fun q hq => (w2 q hq).trans (if_pos (Or.inl hq)), w3⟩
  | succ d ih =>
    intro p fu S H a19 hp hf h h19 hs
    obtain ⟨fu, rfl⟩ : ∃ k, fu = k + 1 := ⟨fu - 1, by omega⟩
    have hp4 : p < 4 := by omega
    have h0 := h
    obtain ⟨⟨nb, os, kn, ki, hC⟩, hP, -⟩ := h0
    have e1 : Int32.ofNat p + 1 = Int32.ofNat (p + 1) := jo_add (a := p) (b := 1)
    unfold F_L_holds_460 B_L_holds_460
    refine jT_neg (by show ¬ Int32.ofNat 4 ≤ _; rw [jo_le (by omega) (by omega)]; omega) (jT_if (fun c => ?_) fun c => ?_)
    · refine r_519 hk h hn h19 (Or.inl ?_) next
      rcases hs with w | ⟨w1, -⟩
      · exact w
      · rw [w1] at c
        exact absurd c (by decide)
    refine jT_b (q_answer hC hp4 fun H2 C2 f2 => ?_)
    have h2 : r_St L xs (k + 1) (s_bx S (q_b0 S.2.2.2.2.2 p)) l H2 := r_St_fr h C2 hP f2
    have e59 : jI H2 31 59 = jI H 31 59 := by rw [f2.2.1]
    have eT : jL H2 421 = jL H 421 := f2.2.2.1
    -- one answer is held against what it must be
    have go : ∀ v : Int64, (jI H 31 59 = 1 ∨ q_fo 7 (S.2.2.2.2.2 p) = v) → jT (B_L_holds_502 (F_L_holds_460 k48 fu) 18 31 32 421 a4 (Int32.ofNat n) a7 a8 (Int32.ofNat k) (Int32.ofNat p0) a15 a20 (Int32.ofNat p) (q_fo 7 (S.2.2.2.2.2 p)) v H2) jF12 := fun v hv => by
      have nxt : ∀ r : Int32, (r = 0 ∨ r = 1) → (jI H 31 59 = 1 ∨ r = 1) → jT (B_L_holds_511 (F_L_holds_460 k48 fu) 18 31 32 421 a4 (Int32.ofNat n) a7 a8 (Int32.ofNat k) (Int32.ofNat p0) a15 a20 (Int32.ofNat p) r H2) jF12 := fun r hr hr1 => by
        unfold B_L_holds_511
        rw [e1]
        refine jT_l (ih (p + 1) fu _ H2 r (by omega) (by omega) h2 hr ?_)
        rw [e59, eT]
        rcases hs with w | ⟨w1, ⟨bn, w2, w3⟩, w4⟩
        · exact Or.inl w
        · rcases hr1 with w | w
          · exact Or.inl w
          · refine Or.inr ⟨w, ⟨bn, w2, fun q hq => ?_⟩, r_SF_bx w4⟩
            show q_b0 S.2.2.2.2.2 p q = _
            unfold q_b0
            by_cases c1 : q = p
            · rw [if_pos c1, if_pos (Or.inl (by omega))]
            · rw [if_neg c1, w3 q hq]
              by_cases c2 : q < p ∨ q = p0
              · rw [if_pos c2, if_pos (by omega)]
              · rw [if_neg c2]
                exact (if_neg (by omega)).symm
      unfold B_L_holds_502
      refine jT_if (fun c => nxt 0 (Or.inl rfl) ?_) fun _ => nxt 1 (Or.inr rfl) (Or.inr rfl)
      rcases hv with w | w
      · exact Or.inl w
      · exact absurd w c
    have empty : (∀ bn, r_bx p0 a20 bn p S.2.2.2.2.2 → S.2.2.2.2.2 p = []) → jI H 31 59 = 1 ∨ q_fo 7 (S.2.2.2.2.2 p) = 7 := fun he => by
      rcases hs with w | ⟨-, ⟨bn, -, w2⟩, -⟩
      · exact Or.inl w
      · refine Or.inr ?_
        rw [he bn w2]
        rfl
    refine jT_if (fun c1 => ?_) fun c1 => jT_if (fun c2 => ?_) fun c2 => ?_
    · rw [jo_eq (by omega) (by omega)] at c1
      unfold B_L_holds_499
      exact go 7 (empty fun bn w => (w p hp4).trans (if_pos (Or.inr c1)))
    · unfold B_L_holds_499
      exact go 7 (empty fun bn w => (w p hp4).trans (by split <;> first | rfl | exact if_pos c2))
    · rw [jo_eq (by omega) (by omega)] at c1
      have hL2 : jK H2 421 = (103, 64) := sK_421 C2.1
      rcases hs with w | ⟨w1, ⟨bn, w2, w3⟩, w4⟩
      · exact jT_b (jT_eq (q_have (s := 6) hL2 rfl (by decide) q_sl_any) (jT_ret (go _ (Or.inl w))))
      · refine jT_b (jT_eq (q_have (s := 6) hL2 eT (by decide) (w2 c2)) (jT_ret (go _ (Or.inr ?_))))
        rw [w3 p hp4, if_neg (by omega), if_neg c2]
end TOLD
theorem q_zlb_bit {w : Int64} {i t : Nat} (hi : i < 8) : (zlb w i).toNat.testBit t = (decide (t < 8) && w.toBitVec.getLsbD (56 - 8 * i + t)) := by
  obtain ⟨m, hm, rfl⟩ := q_natL w
  rw [zlb_n hm hi, show (256 : Nat) = 2 ^ 8 from rfl, Nat.testBit_mod_two_pow, ← Nat.shiftRight_eq_div_pow, Nat.testBit_shiftRight, Int64.toBitVec_ofNat', BitVec.getLsbD_ofNat]
  by_cases c : t < 8
  · rw [decide_eq_true c, decide_eq_true (show 56 - 8 * i + t < 64 by omega)]
    simp
  · rw [decide_eq_false c]
    simp
theorem q_f8 {w : Int64} {i : Nat} (hi : i < 8) : jshrL w (Int32.ofNat (8 * i)) &&& 255 = Int64.ofNat (zlb w (7 - i)).toNat := by
  have := q_byteL (w := w) (i := 7 - i) (by omega)
  rw [show 56 - 8 * (7 - i) = 8 * i by omega] at this
  exact this
/-- a height is put into the long of heights -/
theorem q_h8 {a4 : Int64} {i t h : Nat} (hi : i < 6) (ht : t < 6) (hh : h < 256) : jshrL ((a4 &&& (jshlL 255 (Int32.ofNat (8 * t)) ^^^ (-1))) ||| jshlL (Int32.toInt64 (Int32.ofNat h)) (Int32.ofNat (8 * t))) (Int32.ofNat (8 * i)) &&& 255 = if i = t then Int64.ofNat h else jshrL a4 (Int32.ofNat (8 * i)) &&& 255 := by
  have n1 : ∀ j, j < 64 → (Int64.toBitVec (-1)).getLsbD j = true := by decide
  have m255 : ∀ t, (Int64.toBitVec 255).getLsbD t = decide (t < 8) := fun t => by
    show (BitVec.ofNat 64 255).getLsbD t = _
    rw [BitVec.getLsbD_ofNat, show (255 : Nat) = 2 ^ 8 - 1 from rfl, Nat.testBit_two_pow_sub_one]
    by_cases c : t < 8
    · rw [decide_eq_true c, decide_eq_true (show t < 64 by omega)]
      rfl
    · rw [decide_eq_false c, Bool.and_false]
  have e : (if i = t then Int64.ofNat h else jshrL a4 (Int32.ofNat (8 * i)) &&& 255) = Int64.ofNat (if i = t then UInt8.ofNat h else zlb a4 (7 - i)).toNat := by
    by_cases c : i = t
    · rw [if_pos c, if_pos c, UInt8.toNat_ofNat', Nat.mod_eq_of_lt (by exact hh)]
    · rw [if_neg c, if_neg c, q_f8 (by omega)]
  rw [e, q_f8 (by omega)]
  congr 1
  refine congrArg UInt8.toNat (q_byte_ext fun b hb => ?_)
  rw [q_zlb_bit (by omega), decide_eq_true hb, Bool.true_and, show 56 - 8 * (7 - i) + b = 8 * i + b by omega, Int64.toBitVec_or, BitVec.getLsbD_or, Int64.toBitVec_and, BitVec.getLsbD_and, Int64.toBitVec_xor, BitVec.getLsbD_xor, q_jshlL_bit (by omega), q_jshlL_bit (by omega), m255, n1 _ (by omega), lo_of (by omega), decide_eq_true (show 8 * i + b < 64 by omega)]
  by_cases c : i = t
  · subst c
    rw [if_pos rfl, decide_eq_false (show ¬ 8 * i + b < 8 * i by omega), show 8 * i + b - 8 * i = b by omega, decide_eq_true hb, UInt8.toNat_ofNat', Nat.mod_eq_of_lt (show h < 2 ^ 8 from hh), Int64.toBitVec_ofNat', BitVec.getLsbD_ofNat, decide_eq_true (show b < 64 by omega)]
    simp
  · rw [if_neg c, q_zlb_bit (by omega), decide_eq_true hb, show 56 - 8 * (7 - i) + b = 8 * i + b by omega]
    by_cases c2 : t < i
    · rw [decide_eq_false (show ¬ 8 * i + b < 8 * t by omega), decide_eq_false (show ¬ 8 * i + b - 8 * t < 8 by omega), Int64.toBitVec_ofNat', BitVec.getLsbD_ofNat]
      have z : h.testBit (8 * i + b - 8 * t) = false := Nat.testBit_lt_two_pow (Nat.lt_of_lt_of_le (show h < 2 ^ 8 from hh) (Nat.pow_le_pow_right (by decide) (by omega)))
      rw [z]
      simp
    · rw [decide_eq_true (show 8 * i + b < 8 * t by omega)]
      simp
