/-! key, and what is taken from a box. -/
def zlb (w : Int64) (i : Nat) : UInt8 := jbu (ji2b (Int64.toInt32 (jushrL w (Int32.ofNat (56 - 8 * i)))))
theorem jshrL_ushr (w : Int64) (i : Nat) (hi : i < 8) : jbu (ji2b (Int64.toInt32 (jshrL w (Int32.ofNat (56 - 8 * i))))) = zlb w i := by
  unfold zlb
  refine jbu_i2b _ _ ?_
  have h0 : ∀ (x : BitVec 64) (s : Nat), s ≤ 56 → (x.sshiftRight s).setWidth 32 &&& 255#32 = (x >>> s).setWidth 32 &&& 255#32 := by
    intro x s hs
    refine BitVec.eq_of_getLsbD_eq fun k hk => ?_
    rw [BitVec.getLsbD_and, BitVec.getLsbD_and, BitVec.getLsbD_setWidth, BitVec.getLsbD_setWidth, BitVec.getLsbD_ushiftRight, BitVec.getLsbD_sshiftRight]
    by_cases h8 : k < 8
    · rw [if_pos (by omega)]
      have : ¬ 64 ≤ k := by omega
      simp [this]
    · have : (255#32).getLsbD k = false := by
        have : ∀ k, k < 32 → ¬ k < 8 → (255#32).getLsbD k = false := by decide
        exact this k hk h8
      rw [this, Bool.and_false, Bool.and_false]
  have hc : ∀ i, i < 8 → ∀ x : BitVec 64, (jushrL ⟨⟨x⟩⟩ (Int32.ofNat (56 - 8 * i))).toBitVec = x >>> (56 - 8 * i) ∧ (jshrL ⟨⟨x⟩⟩ (Int32.ofNat (56 - 8 * i))).toBitVec = x.sshiftRight (56 - 8 * i) := by
    intro i hi x
    rcases (show i = 0 ∨ i = 1 ∨ i = 2 ∨ i = 3 ∨ i = 4 ∨ i = 5 ∨ i = 6 ∨ i = 7 by omega) with rfl | rfl | rfl | rfl | rfl | rfl | rfl | rfl <;> exact ⟨rfl, rfl⟩
  refine Int32.toBitVec_inj.mp ?_
  rw [Int32.toBitVec_and, Int32.toBitVec_and, Int64.toBitVec_toInt32, Int64.toBitVec_toInt32, BitVec.signExtend_eq_setWidth_of_le _ (by decide), BitVec.signExtend_eq_setWidth_of_le _ (by decide)]
  obtain ⟨q1, q2⟩ := hc i hi w.toBitVec
  have e : (⟨⟨w.toBitVec⟩⟩ : Int64) = w := rfl
  rw [e] at q1 q2
  rw [q1, q2]
  exact h0 w.toBitVec (56 - 8 * i) (by omega)
theorem z11_key {Q : Unit → jH → Prop} {a b c d : Int64} {ix : Int32} {H0 : jH}
    (hk : ∀ H', jsh H' → jfr (fun p j => p = 34 ∨ (p = 32 ∧ j = 3)) H0 H' → jI H' 32 3 = ix → (∀ i, i < 8 → jB H' 34 i = zlb a i ∧ jB H' 34 (8 + i) = zlb b i ∧ jB H' 34 (16 + i) = zlb c i ∧ jB H' 34 (24 + i) = zlb d i) → Q () H') :
    ∀ (m i f : Nat) (H : jH), i + m = 8 → m < f → jsh H → jfr (fun p _ => p = 34) H0 H → (∀ j, j < i → jB H 34 j = zlb a j ∧ jB H 34 (8 + j) = zlb b j ∧ jB H 34 (16 + j) = zlb c j ∧ jB H 34 (24 + j) = zlb d j) → jT (F_11_key_3 f 32 a b c d ix (Int32.ofNat i) H) Q := by
  intro m
  induction m with
  | zero =>
    intro i f H hi hf hs hfr hb
    obtain rfl : i = 8 := by omega
    obtain ⟨f, rfl⟩ : ∃ k, f = k + 1 := ⟨f - 1, by omega⟩
    unfold F_11_key_3 B_11_key_3
    refine jT_pos (by decide) (jT_g (by rw [sK_32 hs]) (jT_l (jT_ret (hk _ (jsh_sI hs (by decide)) ?_ jI_sIe hb))))
    exact jfr_sI (jfr_mono hfr fun a j h => Or.inl h) (Or.inr ⟨rfl, rfl⟩)
  | succ m ih =>
    intro i f H hi hf hs hfr hb
    obtain ⟨f, rfl⟩ : ∃ k, f = k + 1 := ⟨f - 1, by omega⟩
    unfold F_11_key_3 B_11_key_3
    have e8 : (8 : Int32) * Int32.ofNat i = Int32.ofNat (8 * i) := jo_mul (a := 8)
    have e56 : (56 : Int32) - Int32.ofNat (8 * i) = Int32.ofNat (56 - 8 * i) := jo_sub (a := 56) (by omega)
    have g1 : (8 : Int32) + Int32.ofNat i = Int32.ofNat (8 + i) := jo_add (a := 8)
    have g2 : (16 : Int32) + Int32.ofNat i = Int32.ofNat (16 + i) := jo_add (a := 16)
    have g3 : (24 : Int32) + Int32.ofNat i = Int32.ofNat (24 + i) := jo_add (a := 24)
    have e_i : Int32.ofNat i + 1 = Int32.ofNat (i + 1) := jo_add (a := i) (b := 1)
    refine jT_neg (by rw [show (8 : Int32) = Int32.ofNat 8 from rfl, jo_le (by omega) (by omega)]; omega) ?_
    rw [e8, e56, g1, g2, g3, e_i, jo_nat (n := i) (by omega), jo_nat (n := 8 + i) (by omega), jo_nat (n := 16 + i) (by omega), jo_nat (n := 24 + i) (by omega)]
    have step : ∀ {k : jH → Option (Unit × jH)} (H1 : jH) (n : Nat) (v : UInt8), n < 32 → jsh H1 → jT (k (jsB H1 34 n v)) Q → jT (jg ((jK H1 32).1 = 11) (jg ((jK H1 (jR H1 32 2)).1 = 101 ∧ jin (Int32.ofNat n) (jK H1 (jR H1 32 2)).2) (jl (jsB H1 (jR H1 32 2) n v) k))) Q := by
      intro k H1 n v hn h1 hq
      refine jT_g (by rw [sK_32 h1]) ?_
      rw [sR_32_2 h1, sK_34 h1]
      exact jT_g ⟨rfl, jo_in (by omega) (by show n < 32; omega)⟩ (jT_l hq)
    refine jT_l (step _ _ _ (by omega) hs (step _ _ _ (by omega) (jsh_sB hs) (step _ _ _ (by omega) (jsh_sB (jsh_sB hs)) (step _ _ _ (by omega) (jsh_sB (jsh_sB (jsh_sB hs))) (jT_l ?_)))))
    refine ih (i + 1) f _ (by omega) (by omega) (jsh_sB (jsh_sB (jsh_sB (jsh_sB hs)))) (jfr_sB (jfr_sB (jfr_sB (jfr_sB hfr rfl) rfl) rfl) rfl) fun j hj => ?_
    by_cases h : j = i
    · subst h
      refine ⟨?_, ?_, ?_, ?_⟩
      · rw [jB_sBn (by omega), jB_sBn (by omega), jB_sBn (by omega), jB_sBe]; rfl
      · rw [jB_sBn (by omega), jB_sBn (by omega), jB_sBe]; rfl
      · rw [jB_sBn (by omega), jB_sBe]; rfl
      · rw [jB_sBe]; rfl
    · obtain ⟨h1, h2, h3, h4⟩ := hb j (by omega)
      refine ⟨?_, ?_, ?_, ?_⟩
      · rw [jB_sBn (by omega), jB_sBn (by omega), jB_sBn (by omega), jB_sBn (by omega), h1]
      · rw [jB_sBn (by omega), jB_sBn (by omega), jB_sBn (by omega), jB_sBn (by omega), h2]
      · rw [jB_sBn (by omega), jB_sBn (by omega), jB_sBn (by omega), jB_sBn (by omega), h3]
      · rw [jB_sBn (by omega), jB_sBn (by omega), jB_sBn (by omega), jB_sBn (by omega), h4]
theorem z18_key {Q : Unit → jH → Prop} {a b c d : Int64} {ix : Int32} {H0 : jH}
    (hk : ∀ H', jsh H' → jfr (fun p j => p = 509 ∨ (p = 421 ∧ j = 52)) H0 H' → jI H' 421 52 = ix → (∀ i, i < 32 → jB H' 509 i = zlb (if i < 8 then a else if i < 16 then b else if i < 24 then c else d) (i % 8)) → Q () H') :
    ∀ (m i f : Nat) (H : jH), i + m = 32 → m < f → jsh H → jfr (fun p _ => p = 509) H0 H → (∀ j, j < i → jB H 509 j = zlb (if j < 8 then a else if j < 16 then b else if j < 24 then c else d) (j % 8)) → jT (F_18_key_3 f 421 a b c d ix (Int32.ofNat i) H) Q := by
  intro m
  induction m with
  | zero =>
    intro i f H hi hf hs hfr hb
    obtain rfl : i = 32 := by omega
    obtain ⟨f, rfl⟩ : ∃ k, f = k + 1 := ⟨f - 1, by omega⟩
    unfold F_18_key_3 B_18_key_3
    refine jT_pos (by decide) (jT_g (by rw [sK_421 hs]) (jT_l (jT_ret (hk _ (jsh_sI hs (by decide)) ?_ jI_sIe hb))))
    exact jfr_sI (jfr_mono hfr fun a j h => Or.inl h) (Or.inr ⟨rfl, rfl⟩)
  | succ m ih =>
    intro i f H hi hf hs hfr hb
    obtain ⟨f, rfl⟩ : ∃ k, f = k + 1 := ⟨f - 1, by omega⟩
    unfold F_18_key_3 B_18_key_3
    refine jT_neg (by rw [show (32 : Int32) = Int32.ofNat 32 from rfl, jo_le (by omega) (by omega)]; omega) ?_
    have key : ∀ w : Int64, w = (if i < 8 then a else if i < 16 then b else if i < 24 then c else d) → jT (B_18_key_46 (F_18_key_3 f) 421 a b c d ix (Int32.ofNat i) w H) Q := by
      intro w hw
      unfold B_18_key_46
      have er : jrem (Int32.ofNat i) 8 = Int32.ofNat (i % 8) := jo_rem (a := i) (b := 8) (by omega) (by omega)
      have e8 : (8 : Int32) * Int32.ofNat (i % 8) = Int32.ofNat (8 * (i % 8)) := jo_mul (a := 8)
      have e56 : (56 : Int32) - Int32.ofNat (8 * (i % 8)) = Int32.ofNat (56 - 8 * (i % 8)) := jo_sub (a := 56) (by omega)
      have e_i : Int32.ofNat i + 1 = Int32.ofNat (i + 1) := jo_add (a := i) (b := 1)
      rw [er, e8, e56, e_i, sR_421_51 hs, sK_421 hs, sK_509 hs, jo_nat (n := i) (by omega)]
      refine jT_g rfl (jT_g (by decide) (jT_g ⟨rfl, jo_in (by omega) (by show i < 32; omega)⟩ (jT_l (jT_l ?_))))
      refine ih (i + 1) f _ (by omega) (by omega) (jsh_sB hs) (jfr_sB hfr rfl) fun j hj => ?_
      by_cases h : j = i
      · subst h
        rw [jB_sBe, jshrL_ushr _ _ (by omega), hw]
      · rw [jB_sBn h]
        exact hb j (by omega)
    by_cases h8 : i < 8
    · exact jT_neg (by rw [show (8 : Int32) = Int32.ofNat 8 from rfl, jo_le (by omega) (by omega)]; omega) (key a (by rw [if_pos h8]))
    · refine jT_pos (by rw [show (8 : Int32) = Int32.ofNat 8 from rfl, jo_le (by omega) (by omega)]; omega) ?_
      by_cases h16 : i < 16
      · exact jT_neg (by rw [show (16 : Int32) = Int32.ofNat 16 from rfl, jo_le (by omega) (by omega)]; omega) (key b (by rw [if_neg h8, if_pos h16]))
      · refine jT_pos (by rw [show (16 : Int32) = Int32.ofNat 16 from rfl, jo_le (by omega) (by omega)]; omega) ?_
        by_cases h24 : i < 24
        · exact jT_neg (by rw [show (24 : Int32) = Int32.ofNat 24 from rfl, jo_le (by omega) (by omega)]; omega) (key c (by rw [if_neg h8, if_neg h16, if_pos h24]))
        · exact jT_pos (by rw [show (24 : Int32) = Int32.ofNat 24 from rfl, jo_le (by omega) (by omega)]; omega) (key d (by rw [if_neg h8, if_neg h16, if_neg h24]))
/-- a send that nobody takes -/
theorem z11_send_no {Q : Int32 → jH → Prop} {p n : Int32} {t : Nat} {H : jH} (hs : jsh H) (hsz : jI H 32 1 = Int32.ofNat t) (h : p < 0 ∨ 4 ≤ p ∨ n < 1 ∨ Int32.ofNat t < n) (hQ : Q 0 H) : jT (F_11_send 32 p n H) Q := by
  have hn : jT (B_11_send_31 H) Q := jT_g (by decide) (jT_ret hQ)
  unfold F_11_send
  refine jT_if (fun _ => hn) (fun h1 => jT_if (fun _ => hn) (fun h2 => jT_if (fun _ => hn) (fun h3 => ?_)))
  refine jT_g (by rw [sK_32 hs]) ?_
  rw [hsz]
  refine jT_pos ?_ hn
  rcases h with h | h | h | h
  · exact absurd h h1
  · exact absurd h h2
  · exact absurd h h3
  · exact h
theorem z18_isPeer {p : Int32} {H : jH} : F_18_isPeer p H = some ((if p < 0 then 0 else if 4 ≤ p then 0 else 1), H) := by
  unfold F_18_isPeer B_18_isPeer_13 B_18_isPeer_14
  by_cases h1 : p < 0
  · rw [if_pos h1, if_pos h1]
    rfl
  · rw [if_neg h1, if_neg h1]
    by_cases h2 : 4 ≤ p
    · rw [if_pos h2, if_pos h2]
      rfl
    · rw [if_neg h2, if_neg h2]
      rfl
theorem z18_send_no {Q : Int32 → jH → Prop} {p n : Int32} {t : Nat} {H : jH} (hs : jsh H) (hsz : jI H 421 48 = Int32.ofNat t) (h : p < 0 ∨ 4 ≤ p ∨ n < 1 ∨ Int32.ofNat t < n) (hQ : Q 0 H) : jT (F_18_send 421 p n H) Q := by
  have hn : jT (B_18_send_20 H) Q := jT_g (by decide) (jT_ret hQ)
  unfold F_18_send
  rw [z18_isPeer, jb_ok]
  refine jT_if (fun _ => hn) (fun h1 => jT_if (fun _ => hn) (fun h3 => ?_))
  refine jT_g (by rw [sK_421 hs]) ?_
  rw [hsz]
  refine jT_neg (fun hle => ?_) hn
  rcases h with h | h | h | h
  · exact h1 (by rw [if_pos h])
  · by_cases h0 : p < 0
    · exact h1 (by rw [if_pos h0])
    · exact h1 (by rw [if_neg h0, if_pos h])
  · exact h3 h
  · exact Int32.not_le.mpr h hle
