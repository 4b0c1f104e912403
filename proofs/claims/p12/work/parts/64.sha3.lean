section SHA
variable {N : Nat}
theorem z8_get {H : jH} {Q : Unit → jH → Prop} {k : Int32 → Option (Unit × jH)} (hs : jsp N H) (ii : Int32) (i : Nat) (hi : jin ii 8 ∧ ii.toNatClampNeg = i) (hk : jT (k (jI H 45 i)) Q) :
    jT (jg ((jK H 43).1 = 3) (jg ((jK H (jR H 43 2)).1 = 100 ∧ jin ii (jK H (jR H 43 2)).2) (jl (jI H (jR H 43 2) ii.toNatClampNeg) k))) Q := by
  refine jT_g (by rw [sK_43 hs]) ?_
  rw [sR_43_2 hs, sK_45 hs, hi.2]
  exact jT_g ⟨rfl, hi.1⟩ (jT_l hk)
/-- the class's row of words, and the 64 steps behind it -/
theorem z3_165 {Q : Unit → jH → Prop} (k29 : Nat → Nat → Int32 → Int32 → jH → Option (Unit × jH)) (a1 : Nat) (a2 a3 : Int32) (M : Nat → Int32) (H0 : jH)
    (hk : ∀ H', jsp N H' → jfr (fun a _ => a = 45 ∨ a = 46) H0 H' → zat H' 45 = zadd (zat H0 45) (zrun M (zat H0 45) 64) → jT (k29 43 a1 a2 (a3 + 1) H') Q) :
    ∀ (d i n : Nat) (H : jH), i + d = 64 → 16 ≤ i → d < n → jsp N H → jfr (fun a _ => a = 46) H0 H → (∀ j, j < i → jI H 46 j = zW M j) → jT (F_3_digest_165 k29 n 43 a1 a2 a3 (Int32.ofNat i) H) Q := by
  intro d
  induction d with
  | zero =>
    intro i n H hi h16 hn hs hf hw
    obtain rfl : i = 64 := by omega
    obtain ⟨n, rfl⟩ : ∃ k, n = k + 1 := ⟨n - 1, by omega⟩
    unfold F_3_digest_165 B_3_digest_165
    refine jT_pos (by decide) ?_
    refine z8_get hs 0 0 (by decide) ?_
    refine z8_get hs 1 1 (by decide) ?_
    refine z8_get hs 2 2 (by decide) ?_
    refine z8_get hs 3 3 (by decide) ?_
    refine z8_get hs 4 4 (by decide) ?_
    refine z8_get hs 5 5 (by decide) ?_
    refine z8_get hs 6 6 (by decide) ?_
    refine z8_get hs 7 7 (by decide) ?_
    have hz : zat H 45 = zat H0 45 := by
      unfold zat
      have h : ∀ j, jI H 45 j = jI H0 45 j := fun j => (hf.2.2.2 45 j (fun h : (45 : Nat) = 46 => absurd h (by decide))).1
      simp only [h]
    refine z3_357 k29 a1 a2 a3 H hs M (zat H 45) hw ?_ 64 0 jfuel rfl (by unfold jfuel; omega)
    refine z3_add hs (zrun M (zat H 45) 64) fun H' hs' hf' hz' => hk H' hs' ?_ ?_
    · exact jfr_trans (jfr_mono hf fun a j h => Or.inr h) (jfr_mono hf' fun a j h => Or.inl h)
    · rw [hz', hz]
  | succ d ih =>
    intro i n H hi h16 hn hs hf hw
    obtain ⟨n, rfl⟩ : ∃ k, n = k + 1 := ⟨n - 1, by omega⟩
    unfold F_3_digest_165 B_3_digest_165
    have e : (64 : Int32) = Int32.ofNat 64 := rfl
    refine jT_neg (by rw [e, jo_le (by omega) (by omega)]; omega) ?_
    have e15 : Int32.ofNat i - 15 = Int32.ofNat (i - 15) := jo_sub (a := i) (b := 15) (by omega)
    have e2 : Int32.ofNat i - 2 = Int32.ofNat (i - 2) := jo_sub (a := i) (b := 2) (by omega)
    have e16 : Int32.ofNat i - 16 = Int32.ofNat (i - 16) := jo_sub (a := i) (b := 16) (by omega)
    have e7 : Int32.ofNat i - 7 = Int32.ofNat (i - 7) := jo_sub (a := i) (b := 7) (by omega)
    have e1 : Int32.ofNat i + 1 = Int32.ofNat (i + 1) := jo_add (a := i) (b := 1)
    rw [e15, e2, e16, e7, e1, sR_43_3 hs, sK_43 hs, sK_46 hs, jo_nat (n := i - 15) (by omega), jo_nat (n := i - 2) (by omega), jo_nat (n := i - 16) (by omega), jo_nat (n := i - 7) (by omega), jo_nat (n := i) (by omega), hw (i - 15) (by omega), hw (i - 2) (by omega), hw (i - 16) (by omega), hw (i - 7) (by omega)]
    refine jT_g rfl (jT_g ⟨rfl, jo_in (by omega) (by omega)⟩ (jT_l (jT_g rfl (jT_g ⟨rfl, jo_in (by omega) (by omega)⟩ (jT_l (jT_g rfl (jT_g rfl (jT_g ⟨rfl, jo_in (by omega) (by omega)⟩ (jT_g rfl (jT_g ⟨rfl, jo_in (by omega) (by omega)⟩ (jT_g ⟨rfl, by unfold jF0; omega, jo_in (by omega) (by omega)⟩ (jT_l (jT_l ?_)))))))))))))
    refine ih (i + 1) n _ (by omega) (by omega) (by omega) (jsh_sI hs (by omega)) (jfr_sI hf rfl) fun j hj => ?_
    by_cases hji : j = i
    · subst hji
      rw [jI_sIe]
      conv => rhs; unfold zW
      rw [if_neg (by omega)]
    · rw [jI_sIn hji]
      exact hw j (by omega)
end SHA
