/-! feed: a word's four bytes come behind the tape. -/
/-- byte i of a word, the highest first; both programs' -/
def zwb (w : Int32) (i : Nat) : UInt8 := jbu (ji2b (jushr w (Int32.ofNat (24 - 8 * i))))
theorem z11_step {Q : Unit → jH → Prop} {k3 : Nat → Int32 → Int32 → jH → Option (Unit × jH)} {w sh : Int32} {t : Nat} {H : jH} (hs : jsh H) (ht : t < 2000) (hsz : jI H 32 1 = Int32.ofNat t) (hsh : ¬ sh < 0)
    (hk : jT (k3 32 w (sh + (-8)) (jsI (jsB H 33 t (jbu (ji2b (jushr w sh)))) 32 1 (Int32.ofNat (t + 1)))) Q) : jT (B_11_layOnTape_3 k3 32 w sh H) Q := by
  unfold B_11_layOnTape_3 B_11_layOnTape_42
  refine jT_neg hsh (jT_g (by rw [sK_32 hs]) (jT_g (by rw [sK_32 hs]) ?_))
  have e_t : Int32.ofNat t + 1 = Int32.ofNat (t + 1) := jo_add (a := t) (b := 1)
  rw [sR_32_0 hs, sK_33 hs, hsz, jo_nat (n := t) (by omega)]
  refine jT_g rfl (jT_neg ?_ (jT_g (by rw [sK_32 hs]) (jT_g (by rw [sK_32 hs]) (jT_g ⟨rfl, jo_in (by omega) (by show t < 2000; omega)⟩ (jT_l ?_)))))
  · rw [jo_le (by decide) (by omega)]
    show ¬ 2000 ≤ t
    omega
  refine jT_g (by exact congrArg Prod.fst (sK_32 hs)) (jT_g (by exact congrArg Prod.fst (sK_32 hs)) (jT_l (jT_l ?_)))
  rw [show jI (jsB H 33 t (jbu (ji2b (jushr w sh)))) 32 1 = Int32.ofNat t from hsz, e_t]
  exact hk
theorem z11_lay {Q : Unit → jH → Prop} {w : Int32} {t : Nat} {H : jH} (hs : jsh H) (ht : t + 4 ≤ 2000) (hsz : jI H 32 1 = Int32.ofNat t)
    (hk : ∀ H', jsh H' → jfr (fun a j => (a = 33 ∧ t ≤ j ∧ j < t + 4) ∨ (a = 32 ∧ j = 1)) H H' → jI H' 32 1 = Int32.ofNat (t + 4) → (∀ i, i < 4 → jB H' 33 (t + i) = zwb w i) → Q () H') : jT (F_11_layOnTape 32 w H) Q := by
  unfold F_11_layOnTape
  obtain ⟨f, ef⟩ : ∃ f, jfuel = f + 5 := ⟨4294967291, rfl⟩
  rw [ef]
  have step : ∀ (H : jH), jsh H → ∀ v u, jsh (jsI (jsB H 33 u v) 32 1 (Int32.ofNat (u + 1))) := fun H hs v u => jsh_sI (jsh_sB hs) (by decide)
  unfold F_11_layOnTape_3
  refine z11_step hs (by omega) hsz (by decide) ?_
  unfold F_11_layOnTape_3
  refine z11_step (step _ hs _ _) (by omega) jI_sIe (by decide) ?_
  unfold F_11_layOnTape_3
  refine z11_step (step _ (step _ hs _ _) _ _) (by omega) jI_sIe (by decide) ?_
  unfold F_11_layOnTape_3
  refine z11_step (step _ (step _ (step _ hs _ _) _ _) _ _) (by omega) jI_sIe (by decide) ?_
  unfold F_11_layOnTape_3 B_11_layOnTape_3
  refine jT_pos (by decide) (jT_ret (hk _ (step _ (step _ (step _ (step _ hs _ _) _ _) _ _) _ _) ?_ jI_sIe fun i hi => ?_))
  · have f1 : ∀ (H0 H : jH) (u : Nat) v, t ≤ u → u < t + 4 → jfr (fun a j => (a = 33 ∧ t ≤ j ∧ j < t + 4) ∨ (a = 32 ∧ j = 1)) H0 H → jfr (fun a j => (a = 33 ∧ t ≤ j ∧ j < t + 4) ∨ (a = 32 ∧ j = 1)) H0 (jsI (jsB H 33 u v) 32 1 (Int32.ofNat (u + 1))) := fun H0 H u v h1 h2 hf => jfr_sI (jfr_sB hf (Or.inl ⟨rfl, h1, h2⟩)) (Or.inr ⟨rfl, rfl⟩)
    exact f1 _ _ _ _ (by omega) (by omega) (f1 _ _ _ _ (by omega) (by omega) (f1 _ _ _ _ (by omega) (by omega) (f1 _ _ _ _ (by omega) (by omega) jfr_refl)))
  · have b : ∀ (H : jH) (u : Nat) v j, jB (jsI (jsB H 33 u v) 32 1 (Int32.ofNat (u + 1))) 33 j = if j = u then v else jB H 33 j := fun H u v j => by
      by_cases h : j = u
      · rw [if_pos h, h]
        exact jB_sBe
      · rw [if_neg h]
        exact jB_sBn h
    rw [b, b, b, b]
    rcases (show i = 0 ∨ i = 1 ∨ i = 2 ∨ i = 3 by omega) with rfl | rfl | rfl | rfl
    · rw [if_neg (by omega), if_neg (by omega), if_neg (by omega), if_pos (by omega)]; rfl
    · rw [if_neg (by omega), if_neg (by omega), if_pos (by omega)]; rfl
    · rw [if_neg (by omega), if_pos (by omega)]; rfl
    · rw [if_pos (by omega)]; rfl
theorem z11_feed {Q : Int32 → jH → Prop} {w1 w2 w3 w4 w5 : Int32} {t : Nat} {H : jH} (hs : jsh H) (ht : t ≤ 2000) (hsz : jI H 32 1 = Int32.ofNat t)
    (hno : 2000 < t + 20 → Q 0 H) (hk : ∀ H', t + 20 ≤ 2000 → jsh H' → jfr (fun a j => (a = 33 ∧ t ≤ j ∧ j < t + 20) ∨ (a = 32 ∧ j = 1)) H H' → jI H' 32 1 = Int32.ofNat (t + 20) → (∀ i, i < 20 → jB H' 33 (t + i) = zwb ([w1, w2, w3, w4, w5].getD (i / 4) 0) (i % 4)) → Q 1 H') : jT (F_11_feed 32 w1 w2 w3 w4 w5 H) Q := by
  unfold F_11_feed
  have e20 : Int32.ofNat t + 20 = Int32.ofNat (t + 20) := jo_add (a := t) (b := 20)
  rw [hsz, e20]
  refine jT_g (by rw [sK_32 hs]) ?_
  by_cases h20 : t + 20 ≤ 2000
  · refine jT_pos (by rw [show (2000 : Int32) = Int32.ofNat 2000 from rfl, jo_le (by omega) (by omega)]; omega) (jT_g (by rw [sK_32 hs]) ?_)
    refine jT_b (z11_lay hs (by omega) hsz fun H1 hs1 f1 z1 b1 => jT_g (by rw [sK_32 hs1]) ?_)
    refine jT_b (z11_lay hs1 (by omega) z1 fun H2 hs2 f2 z2 b2 => jT_g (by rw [sK_32 hs2]) ?_)
    refine jT_b (z11_lay hs2 (by omega) z2 fun H3 hs3 f3 z3 b3 => jT_g (by rw [sK_32 hs3]) ?_)
    refine jT_b (z11_lay hs3 (by omega) z3 fun H4 hs4 f4 z4 b4 => jT_g (by rw [sK_32 hs4]) ?_)
    refine jT_b (z11_lay hs4 (by omega) z4 fun H5 hs5 f5 z5 b5 => jT_g (by decide) (jT_ret ?_))
    have m : ∀ {H H' : jH} (u : Nat), t ≤ u → u + 4 ≤ t + 20 → jfr (fun a j => (a = 33 ∧ u ≤ j ∧ j < u + 4) ∨ (a = 32 ∧ j = 1)) H H' → jfr (fun a j => (a = 33 ∧ t ≤ j ∧ j < t + 20) ∨ (a = 32 ∧ j = 1)) H H' := fun u h1 h2 hf => jfr_mono hf fun a j h => by
      rcases h with ⟨h, h3, h4⟩ | h
      · exact Or.inl ⟨h, by omega, by omega⟩
      · exact Or.inr h
    refine hk H5 h20 hs5 (jfr_trans (jfr_trans (jfr_trans (jfr_trans (m _ (by omega) (by omega) f1) (m _ (by omega) (by omega) f2)) (m _ (by omega) (by omega) f3)) (m _ (by omega) (by omega) f4)) (m _ (by omega) (by omega) f5)) z5 fun i hi => ?_
    have keep : ∀ {H H' : jH} (u : Nat), jfr (fun a j => (a = 33 ∧ u ≤ j ∧ j < u + 4) ∨ (a = 32 ∧ j = 1)) H H' → ∀ j, j < u → jB H' 33 j = jB H 33 j := fun u hf j hj => jfr_B hf (by omega)
    rcases (show i / 4 = 0 ∨ i / 4 = 1 ∨ i / 4 = 2 ∨ i / 4 = 3 ∨ i / 4 = 4 by omega) with h | h | h | h | h
    · rw [keep _ f5 _ (by omega), keep _ f4 _ (by omega), keep _ f3 _ (by omega), keep _ f2 _ (by omega), h, show t + i = t + i % 4 by omega, b1 _ (by omega)]; rfl
    · rw [keep _ f5 _ (by omega), keep _ f4 _ (by omega), keep _ f3 _ (by omega), h, show t + i = t + 4 + i % 4 by omega, b2 _ (by omega)]; rfl
    · rw [keep _ f5 _ (by omega), keep _ f4 _ (by omega), h, show t + i = t + 4 + 4 + i % 4 by omega, b3 _ (by omega)]; rfl
    · rw [keep _ f5 _ (by omega), h, show t + i = t + 4 + 4 + 4 + i % 4 by omega, b4 _ (by omega)]; rfl
    · rw [h, show t + i = t + 4 + 4 + 4 + 4 + i % 4 by omega, b5 _ (by omega)]; rfl
  · exact jT_neg (by rw [show (2000 : Int32) = Int32.ofNat 2000 from rfl, jo_le (by omega) (by omega)]; omega) (jT_g (by decide) (jT_ret (hno (by omega))))
