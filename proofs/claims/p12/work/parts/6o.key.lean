/-! key, and what is taken from a box. -/
def zlb (w : Int64) (i : Nat) : UInt8 := jbu (ji2b (Int64.toInt32 (jushrL w (Int32.ofNat (56 - 8 * i)))))
theorem z11_key {Q : Unit → jH → Prop} {a b c d : Int64} {ix : Int32} {H0 : jH}
    (hk : ∀ H', jsh H' → jfr (fun p j => p = 34 ∨ (p = 32 ∧ j = 3)) H0 H' → jI H' 32 3 = ix → (∀ i, i < 8 → jB H' 34 i = zlb a i ∧ jB H' 34 (8 + i) = zlb b i ∧ jB H' 34 (16 + i) = zlb c i ∧ jB H' 34 (24 + i) = zlb d i) → Q () H') :
    ∀ (m i f : Nat) (H : jH), i + m = 8 → m < f → jsh H → jfr (fun p _ => p = 34) H0 H → (∀ j, j < i → jB H 34 j = zlb a j ∧ jB H 34 (8 + j) = zlb b j ∧ jB H 34 (16 + j) = zlb c j ∧ jB H 34 (24 + j) = zlb d j) → jT (F_11_key_3 f 32 a b c d ix (Int32.ofNat i) H) Q := by
  intro m
  induction m with
  | zero =>
    intro i f H hi hf hs hfr hb
    obtain rfl : i = 8 := by omega
    obtain ⟨f, rfl⟩ : ∃ k, f = k + 1 := ⟨f - 1, by omega⟩
    unfold F_11_key_3 B_11_key_3
    refine jT_pos (by decide) (jT_g (by rw [sK_32 hs]) (jT_l (jT_ret (hk _ (jsh_sI hs (by decide)) ?_ jI_sIe hb))))
    exact jfr_sI (jfr_mono hfr fun a j h => Or.inl h) (Or.inr ⟨rfl, rfl⟩)
  | succ m ih =>
    intro i f H hi hf hs hfr hb
    obtain ⟨f, rfl⟩ : ∃ k, f = k + 1 := ⟨f - 1, by omega⟩
    unfold F_11_key_3 B_11_key_3
    have e8 : (8 : Int32) * Int32.ofNat i = Int32.ofNat (8 * i) := jo_mul (a := 8)
    have e56 : (56 : Int32) - Int32.ofNat (8 * i) = Int32.ofNat (56 - 8 * i) := jo_sub (a := 56) (by omega)
    have g1 : (8 : Int32) + Int32.ofNat i = Int32.ofNat (8 + i) := jo_add (a := 8)
    have g2 : (16 : Int32) + Int32.ofNat i = Int32.ofNat (16 + i) := jo_add (a := 16)
    have g3 : (24 : Int32) + Int32.ofNat i = Int32.ofNat (24 + i) := jo_add (a := 24)
    have e_i : Int32.ofNat i + 1 = Int32.ofNat (i + 1) := jo_add (a := i) (b := 1)
    refine jT_neg (by rw [show (8 : Int32) = Int32.ofNat 8 from rfl, jo_le (by omega) (by omega)]; omega) ?_
    rw [e8, e56, g1, g2, g3, e_i, jo_nat (n := i) (by omega), jo_nat (n := 8 + i) (by omega), jo_nat (n := 16 + i) (by omega), jo_nat (n := 24 + i) (by omega)]
    have step : ∀ {k : jH → Option (Unit × jH)} (H1 : jH) (n : Nat) (v : UInt8), n < 32 → jsh H1 → jT (k (jsB H1 34 n v)) Q → jT (jg ((jK H1 32).1 = 11) (jg ((jK H1 (jR H1 32 2)).1 = 101 ∧ jin (Int32.ofNat n) (jK H1 (jR H1 32 2)).2) (jl (jsB H1 (jR H1 32 2) n v) k))) Q := by
      intro k H1 n v hn h1 hq
      refine jT_g (by rw [sK_32 h1]) ?_
      rw [sR_32_2 h1, sK_34 h1]
      exact jT_g ⟨rfl, jo_in (by omega) (by show n < 32; omega)⟩ (jT_l hq)
    refine jT_l (step _ _ _ (by omega) hs (step _ _ _ (by omega) (jsh_sB hs) (step _ _ _ (by omega) (jsh_sB (jsh_sB hs)) (step _ _ _ (by omega) (jsh_sB (jsh_sB (jsh_sB hs))) (jT_l ?_)))))
    refine ih (i + 1) f _ (by omega) (by omega) (jsh_sB (jsh_sB (jsh_sB (jsh_sB hs)))) (jfr_sB (jfr_sB (jfr_sB (jfr_sB hfr rfl) rfl) rfl) rfl) fun j hj => ?_
    by_cases h : j = i
    · subst h
      refine ⟨?_, ?_, ?_, ?_⟩
      · rw [jB_sBn (by omega), jB_sBn (by omega), jB_sBn (by omega), jB_sBe]; rfl
      · rw [jB_sBn (by omega), jB_sBn (by omega), jB_sBe]; rfl
      · rw [jB_sBn (by omega), jB_sBe]; rfl
      · rw [jB_sBe]; rfl
    · obtain ⟨h1, h2, h3, h4⟩ := hb j (by omega)
      refine ⟨?_, ?_, ?_, ?_⟩
      · rw [jB_sBn (by omega), jB_sBn (by omega), jB_sBn (by omega), jB_sBn (by omega), h1]
      · rw [jB_sBn (by omega), jB_sBn (by omega), jB_sBn (by omega), jB_sBn (by omega), h2]
      · rw [jB_sBn (by omega), jB_sBn (by omega), jB_sBn (by omega), jB_sBn (by omega), h3]
      · rw [jB_sBn (by omega), jB_sBn (by omega), jB_sBn (by omega), jB_sBn (by omega), h4]
/-- a send that nobody takes -/
theorem z11_send_no {Q : Int32 → jH → Prop} {p n : Int32} {t : Nat} {H : jH} (hs : jsh H) (hsz : jI H 32 1 = Int32.ofNat t) (h : p < 0 ∨ 4 ≤ p ∨ n < 1 ∨ Int32.ofNat t < n) (hQ : Q 0 H) : jT (F_11_send 32 p n H) Q := by
  have hn : jT (B_11_send_31 H) Q := jT_g (by decide) (jT_ret hQ)
  unfold F_11_send
  refine jT_if (fun _ => hn) (fun h1 => jT_if (fun _ => hn) (fun h2 => jT_if (fun _ => hn) (fun h3 => ?_)))
  refine jT_g (by rw [sK_32 hs]) ?_
  rw [hsz]
  refine jT_pos ?_ hn
  rcases h with h | h | h | h
  · exact absurd h h1
  · exact absurd h h2
  · exact absurd h h3
  · exact h
