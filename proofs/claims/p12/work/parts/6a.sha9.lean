section SHA
variable {N : Nat}
theorem zpad_eq {b c : Nat → UInt8} {n : Nat} (h : ∀ i, i < n → b i = c i) : zpad b n = zpad c n := by
  funext i
  unfold zpad
  by_cases hi : i < n
  · rw [if_pos hi, if_pos hi, h i hi]
  · rw [if_neg hi, if_neg hi]
/-- the class's name of bytes -/
theorem z3_name {Q : Unit → jH → Prop} (a1 len f sz a4 len2 : Nat) (hf : f + sz ≤ len) (hlen : len < 2147483648) (hsz : sz + 72 ≤ 2560) (hl : 32 ≤ len2 ∧ len2 < 2147483648) (h44 : a4 ≠ 44) (H : jH) (hs : jsp N H) (hkd : jK H a1 = (101, len)) (hk2 : jK H a4 = (101, len2))
    (hk : ∀ H', jsp N H' → jfr (fun a j => a = 44 ∨ (a = 43 ∧ j = 1) ∨ a = 45 ∨ a = 46 ∨ a = 48 ∨ (a = a4 ∧ j < 32)) H H' → (∀ i, i < 32 → jB H' a4 i = znm (fun i => jB H a1 (f + i)) sz i) → Q () H') :
    jT (F_3_name 43 a1 (Int32.ofNat f) (Int32.ofNat sz) a4 H) Q := by
  unfold F_3_name
  refine jT_g (by rw [sK_43 hs]) (jT_b (z3_take a1 len f sz hf hlen hsz H hs hkd fun H1 hs1 hf1 hz1 hb1 => ?_))
  refine jT_g (by rw [sK_43 hs1]) (jT_g (by rw [sK_43 hs1]) ?_)
  rw [sR_43_5 hs1]
  refine jT_b (z3_digest 48 32 ⟨by omega, by omega⟩ (by omega) (zpad (fun i => jB H a1 (f + i)) sz) sz ((sz + 8) / 64 + 1) rfl (by omega) H1 hs1 (sK_48 hs1) hz1 (fun i hi => hb1 i (by omega)) fun H2 hs2 hf2 hb2 => ?_)
  refine jT_g (by rw [sK_43 hs2]) (jT_g (by rw [sK_43 hs2]) ?_)
  rw [sR_43_5 hs2]
  refine jT_b (z3_take 48 32 0 32 (by omega) (by omega) (by omega) H2 hs2 (sK_48 hs2) fun H3 hs3 hf3 hz3 hb3 => ?_)
  refine jT_g (by rw [sK_43 hs3]) ?_
  have hk3 : jK H3 a4 = (101, len2) := by rw [hf3.1, hf2.1, hf1.1]; exact hk2
  refine jT_b (z3_digest a4 len2 hl h44 (zpad (fun i => jB H2 48 (0 + i)) 32) 32 ((32 + 8) / 64 + 1) rfl (by omega) H3 hs3 hk3 hz3 (fun i hi => hb3 i (by omega)) fun H4 hs4 hf4 hb4 => ?_)
  refine jT_ret (hk H4 hs4 ?_ fun i hi => ?_)
  · refine jfr_trans (jfr_trans (jfr_trans (jfr_mono hf1 fun a j h => ?_) (jfr_mono hf2 fun a j h => ?_)) (jfr_mono hf3 fun a j h => ?_)) (jfr_mono hf4 fun a j h => ?_)
    · rcases h with h | h
      · exact Or.inl h
      · exact Or.inr (Or.inl h)
    · rcases h with h | h | h
      · exact Or.inr (Or.inr (Or.inl h))
      · exact Or.inr (Or.inr (Or.inr (Or.inl h)))
      · exact Or.inr (Or.inr (Or.inr (Or.inr (Or.inl h.1))))
    · rcases h with h | h
      · exact Or.inl h
      · exact Or.inr (Or.inl h)
    · rcases h with h | h | h
      · exact Or.inr (Or.inr (Or.inl h))
      · exact Or.inr (Or.inr (Or.inr (Or.inl h)))
      · exact Or.inr (Or.inr (Or.inr (Or.inr (Or.inr h))))
  · rw [hb4 i hi]
    unfold znm
    have e : zpad (fun i => jB H2 48 (0 + i)) 32 = zpad (zsha (fun i => jB H a1 (f + i)) sz) 32 := zpad_eq fun i hi => by
      rw [Nat.zero_add]
      exact hb2 i hi
    rw [e]
    rfl
end SHA
