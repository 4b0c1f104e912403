/-! The class's setNumber: which bytes are one of a signature's numbers. -/
theorem sN8 {H : jH} (hs : jsh H) : zN8 H 8 nN := by
  refine ⟨fun i => nN / 4294967296 ^ i % 4294967296, fun i hi => ⟨?_, Nat.mod_lt _ (by decide)⟩, by decide +kernel⟩
  rw [hs.2.2.1 8 (by decide) i]
  have : ∀ i, i < 8 → (jvals.getD 8 []).getD i 0 = Int32.ofNat (nN / 4294967296 ^ i % 4294967296) := by decide +kernel
  exact this i hi
/-- the bytes from f on, n of them, are a whole number that is not below nothing, with no byte to spare -/
def nm_ok (b : Nat → UInt8) (f n : Nat) : Prop := (b f).toNat < 128 ∧ ¬ (1 < n ∧ (b f).toNat = 0 ∧ (b (f + 1)).toNat < 128) ∧ (n = 33 → (b f).toNat = 0)
theorem jb_zero (u : UInt8) : jbs u = 0 ↔ u.toNat = 0 := jb_n u 0 (by decide)
theorem jb_neg (u : UInt8) : jbs u < 0 ↔ ¬ u.toNat < 128 := by
  have h := jb_u8 (fun u => jbs u < 0 ↔ ¬ u.toNat < 128) (by decide +kernel) u
  exact h
section NUM8
variable {Q : Int32 → jH → Prop} {H0 : jH} {t len f n r : Nat}
theorem z8_num51 {r0 : Nat} {f' n' : Int32} (e0 : r0 = r) (ef : f' = Int32.ofNat f) (en : n' = Int32.ofNat n) (hs : jsh H0) (kr : jK H0 r = (100, 8)) (h32 : 31 ≤ r) (kt : jK H0 t = (101, len)) (hlen : len < 2147483648) (hf : f + n ≤ len) (htr : t ≠ r)
    (hk1 : ∀ H', jfJ (· = r) H0 H' → zN8 H' r (rdn (jB H0 t) f n) → rdn (jB H0 t) f n ≠ 0 → rdn (jB H0 t) f n < nN → Q 1 H') (hk0 : ∀ H', jfJ (· = r) H0 H' → ¬ (rdn (jB H0 t) f n ≠ 0 ∧ rdn (jB H0 t) f n < nN) → Q 0 H') : jT (B_8_setNumber_51 r0 t f' n' H0) Q := by
  unfold B_8_setNumber_51 B_8_setNumber_79 B_8_setNumber_80
  refine jT_b (z8_set e0 ef en kr h32 kt hlen hf htr fun H1 f1 z1 => ?_)
  have z1b : zN8 H1 r (rdn (jB H0 t) f n) := z1
  have kr1 : jK H1 r = (100, 8) := by rw [f1.1]; exact kr
  have s1 := jsh_fJ hs f1 (fun a ha q => by omega)
  refine jT_b (z8_isNothing e0 kr1 z1b ?_)
  by_cases h0 : rdn (jB H0 t) f n = 0
  · rw [if_pos h0]
    exact jT_pos (by decide) (jT_g (by decide) (jT_ret (hk0 H1 f1 fun q => q.1 h0)))
  · rw [if_neg h0]
    refine jT_neg (fun q => q rfl) (jT_b (z8_isBelow e0 rfl kr1 (sK s1 (a := 8) rfl (by decide) (by decide)) z1b (sN8 s1) ?_))
    by_cases hN : rdn (jB H0 t) f n < nN
    · rw [if_pos hN]
      exact jT_neg (by decide) (jT_g (by decide) (jT_ret (hk1 H1 f1 z1b h0 hN)))
    · rw [if_neg hN]
      exact jT_pos rfl (jT_g (by decide) (jT_ret (hk0 H1 f1 fun q => hN q.2)))
theorem z8_setNumber {r0 : Nat} {f' n' : Int32} (e0 : r0 = r) (ef : f' = Int32.ofNat f) (en : n' = Int32.ofNat n) (hn : 1 ≤ n) (hn2 : n ≤ 33) (hs : jsh H0) (kr : jK H0 r = (100, 8)) (h32 : 31 ≤ r) (kt : jK H0 t = (101, len)) (hlen : len < 2147483648) (hf : f + n ≤ len) (htr : t ≠ r)
    (hk1 : ∀ H', jfJ (· = r) H0 H' → zN8 H' r (rdn (jB H0 t) f n) → nm_ok (jB H0 t) f n → rdn (jB H0 t) f n ≠ 0 → rdn (jB H0 t) f n < nN → Q 1 H') (hk0 : ∀ H', jfJ (· = r) H0 H' → ¬ (nm_ok (jB H0 t) f n ∧ rdn (jB H0 t) f n ≠ 0 ∧ rdn (jB H0 t) f n < nN) → Q 0 H') : jT (F_8_setNumber r0 t f' n' H0) Q := by
  subst ef
  subst en
  unfold F_8_setNumber B_8_setNumber_23
  have e1 : Int32.ofNat f + 1 = Int32.ofNat (f + 1) := jo_add (a := f) (b := 1)
  have g : ∀ k, k < len → (jK H0 t).1 = 101 ∧ jin (Int32.ofNat k) (jK H0 t).2 := fun k hk => by
    rw [kt]
    exact ⟨rfl, jo_in (by omega) hk⟩
  have e33 : Int32.ofNat n = (33 : Int32) ↔ n = 33 := by rw [show (33 : Int32) = Int32.ofNat 33 from rfl, jo_eq (by omega) (by omega)]
  have main : ∀ s0 : Int32, (s0 = 0 ∧ ¬ (1 < n ∧ (jB H0 t f).toNat = 0 ∧ (jB H0 t (f + 1)).toNat < 128) ∨ s0 = 1 ∧ (1 < n ∧ (jB H0 t f).toNat = 0 ∧ (jB H0 t (f + 1)).toNat < 128)) → jT (B_8_setNumber_24 r0 t (Int32.ofNat f) (Int32.ofNat n) s0 H0) Q := fun s0 hs0 => by
    unfold B_8_setNumber_24 B_8_setNumber_49
    rw [jo_nat (n := f) (by omega)]
    refine jT_g (g f (by omega)) ?_
    by_cases h128 : (jB H0 t f).toNat < 128
    · refine jT_neg (fun q => (jb_neg _).mp q h128) ?_
      rcases hs0 with ⟨rfl, h2⟩ | ⟨rfl, h2⟩
      · refine jT_neg (fun q => q rfl) ?_
        by_cases h33 : n = 33
        · refine jT_neg (fun q => q (e33.mpr h33)) (jT_g (g f (by omega)) ?_)
          by_cases hz : (jB H0 t f).toNat = 0
          · exact jT_pos ((jb_zero _).mpr hz) (z8_num51 e0 rfl rfl hs kr h32 kt hlen hf htr (fun H' f' z' a b => hk1 H' f' z' ⟨h128, h2, fun _ => hz⟩ a b) fun H' f' q => hk0 H' f' fun w => q w.2)
          · exact jT_neg (fun q => hz ((jb_zero _).mp q)) (jT_g (by decide) (jT_ret (hk0 H0 jfJ_refl fun w => hz (w.1.2.2 h33))))
        · exact jT_pos (fun q => h33 (e33.mp q)) (z8_num51 e0 rfl rfl hs kr h32 kt hlen hf htr (fun H' f' z' a b => hk1 H' f' z' ⟨h128, h2, fun q => absurd q h33⟩ a b) fun H' f' q => hk0 H' f' fun w => q w.2)
      · exact jT_pos (by decide) (jT_g (by decide) (jT_ret (hk0 H0 jfJ_refl fun w => w.1.2.1 h2)))
    · exact jT_pos ((jb_neg _).mpr h128) (jT_g (by decide) (jT_ret (hk0 H0 jfJ_refl fun w => h128 w.1.1)))
  rw [e1, jo_nat (n := f) (by omega)]
  refine jT_g (g f (by omega)) ?_
  by_cases hz : (jB H0 t f).toNat = 0
  · refine jT_neg (fun q => q ((jb_zero _).mpr hz)) ?_
    by_cases h1 : n ≤ 1
    · exact jT_pos (by rw [show (1 : Int32) = Int32.ofNat 1 from rfl, jo_le (by omega) (by omega)]; exact h1) (main 0 (Or.inl ⟨rfl, fun q => by omega⟩))
    · refine jT_neg (by rw [show (1 : Int32) = Int32.ofNat 1 from rfl, jo_le (by omega) (by omega)]; exact h1) (jT_g (g (f + 1) (by omega)) ?_)
      rw [jo_nat (n := f + 1) (by omega)]
      by_cases h128 : (jB H0 t (f + 1)).toNat < 128
      · exact jT_neg (fun q => (jb_neg _).mp q h128) (main 1 (Or.inr ⟨rfl, by omega, hz, h128⟩))
      · exact jT_pos ((jb_neg _).mpr h128) (main 0 (Or.inl ⟨rfl, fun q => h128 q.2.2⟩))
  · exact jT_pos (fun q => hz ((jb_zero _).mp q)) (main 0 (Or.inl ⟨rfl, fun q => hz q.2.1⟩))
end NUM8
