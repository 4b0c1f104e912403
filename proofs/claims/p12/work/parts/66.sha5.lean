section SHA
variable {N : Nat}
/-- the state after p parts -/
def zH (bs : Nat → UInt8) (n parts : Nat) : Nat → z8
  | 0 => (jval_1.getD 0 0, jval_1.getD 1 0, jval_1.getD 2 0, jval_1.getD 3 0, jval_1.getD 4 0, jval_1.getD 5 0, jval_1.getD 6 0, jval_1.getD 7 0)
  | p + 1 => zadd (zH bs n parts p) (zrun (zM bs n parts p) (zH bs n parts p) 64)
def zget (s : z8) (k : Nat) : Int32 := [s.1, s.2.1, s.2.2.1, s.2.2.2.1, s.2.2.2.2.1, s.2.2.2.2.2.1, s.2.2.2.2.2.2.1, s.2.2.2.2.2.2.2].getD k 0
def zout (s : z8) (i : Nat) : UInt8 := jbu (ji2b (jushr (zget s (i / 4)) (Int32.ofNat (24 - 8 * (i % 4)))))
theorem zat_get {H : jH} {a k : Nat} (h : k < 8) : zget (zat H a) k = jI H a k := by
  rcases (show k = 0 ∨ k = 1 ∨ k = 2 ∨ k = 3 ∨ k = 4 ∨ k = 5 ∨ k = 6 ∨ k = 7 by omega) with rfl | rfl | rfl | rfl | rfl | rfl | rfl | rfl <;> rfl
theorem jB_sBe {H : jH} {a i : Nat} {v : UInt8} : jB (jsB H a i v) a i = v := if_pos ⟨rfl, rfl⟩
theorem jB_sBn {H : jH} {a i b j : Nat} {v : UInt8} (h : j ≠ i) : jB (jsB H a i v) b j = jB H b j := if_neg fun q => h q.2
theorem z3_629 {Q : Unit → jH → Prop} (a1 len : Nat) (hl : 32 ≤ len ∧ len < 2147483648) (H0 : jH) (hkd : jK H0 a1 = (101, len))
    (hk : ∀ H', jsp N H' → jfr (fun a j => a = a1 ∧ j < 32) H0 H' → (∀ i, i < 32 → jB H' a1 i = zout (zat H0 45) i) → (∀ i, jI H' 45 i = jI H0 45 i) → Q () H') :
    ∀ (d i n : Nat) (H : jH), i + d = 32 → d < n → jsp N H → jfr (fun a j => a = a1 ∧ j < 32) H0 H → (∀ j, j < i → jB H a1 j = zout (zat H0 45) j) → (∀ j, jI H 45 j = jI H0 45 j) → jT (F_3_digest_629 n 43 a1 (Int32.ofNat i) H) Q := by
  intro d
  induction d with
  | zero =>
    intro i n H hi hn hs hf hw hz
    obtain rfl : i = 32 := by omega
    obtain ⟨n, rfl⟩ : ∃ k, n = k + 1 := ⟨n - 1, by omega⟩
    unfold F_3_digest_629 B_3_digest_629
    refine jT_pos (by decide) ?_
    unfold B_3_digest_669
    exact jT_ret (hk H hs hf hw hz)
  | succ d ih =>
    intro i n H hi hn hs hf hw hz
    obtain ⟨n, rfl⟩ : ∃ k, n = k + 1 := ⟨n - 1, by omega⟩
    unfold F_3_digest_629 B_3_digest_629
    have e : (32 : Int32) = Int32.ofNat 32 := rfl
    have hkH : jK H a1 = (101, len) := by rw [hf.1]; exact hkd
    have e4 : Int32.ofNat i / 4 = Int32.ofNat (i / 4) := jo_div (a := i) (b := 4) (by omega) (by omega)
    have er : jrem (Int32.ofNat i) 4 = Int32.ofNat (i % 4) := jo_rem (a := i) (b := 4) (by omega) (by omega)
    have e8 : (8 : Int32) * Int32.ofNat (i % 4) = Int32.ofNat (8 * (i % 4)) := jo_mul (a := 8)
    have e24 : (24 : Int32) - Int32.ofNat (8 * (i % 4)) = Int32.ofNat (24 - 8 * (i % 4)) := jo_sub (a := 24) (by omega)
    have ei : Int32.ofNat i + 1 = Int32.ofNat (i + 1) := jo_add (a := i) (b := 1)
    refine jT_neg (by rw [e, jo_le (by omega) (by omega)]; omega) ?_
    rw [e4, er, e8, e24, ei, hkH, sR_43_2 hs, sK_43 hs, sK_45 hs, jo_nat (n := i) (by omega), jo_nat (n := i / 4) (by omega)]
    refine jT_g rfl (jT_neg (by rw [jo_le (by omega) (by omega)]; show ¬ len ≤ i; omega) ?_)
    refine jT_g rfl (jT_g (by decide) (jT_g ⟨rfl, jo_in (by omega) (by omega)⟩ (jT_g (by decide) (jT_g ⟨rfl, jo_in (by omega) (by show i < len; omega)⟩ (jT_l (jT_l ?_))))))
    refine ih (i + 1) n _ (by omega) (by omega) (jsh_sB hs) (jfr_sB hf ⟨rfl, by omega⟩) (fun j hj => ?_) hz
    by_cases hji : j = i
    · subst hji
      rw [jB_sBe]
      unfold zout
      rw [zat_get (by omega), hz]
    · rw [jB_sBn hji]
      exact hw j (by omega)
theorem z3_29 {Q : Unit → jH → Prop} (a1 len : Nat) (hl : 32 ≤ len ∧ len < 2147483648) (h44 : a1 ≠ 44) (bs : Nat → UInt8) (sz parts : Nat) (hp2 : 64 * parts ≤ 2560) (H0 : jH) (hkd : jK H0 a1 = (101, len)) (hsz : jI H0 43 1 = Int32.ofNat sz) (hbs : ∀ i, i < 64 * parts → jB H0 44 i = bs i)
    (hk : ∀ H', jsp N H' → jfr (fun a j => a = 45 ∨ a = 46 ∨ (a = a1 ∧ j < 32)) H0 H' → (∀ i, i < 32 → jB H' a1 i = zout (zH bs sz parts parts) i) → Q () H') :
    ∀ (d p n : Nat) (H : jH), p + d = parts → d < n → jsp N H → jfr (fun a _ => a = 45 ∨ a = 46) H0 H → zat H 45 = zH bs sz parts p → jT (F_3_digest_29 n 43 a1 (Int32.ofNat parts) (Int32.ofNat p) H) Q := by
  intro d
  induction d with
  | zero =>
    intro p n H hi hn hs hf hz
    obtain rfl : p = parts := by omega
    obtain ⟨n, rfl⟩ : ∃ k, n = k + 1 := ⟨n - 1, by omega⟩
    unfold F_3_digest_29 B_3_digest_29
    refine jT_pos (by rw [jo_le (by omega) (by omega)]; omega) ?_
    refine z3_629 a1 len hl H (by rw [hf.1]; exact hkd) (fun H' hs' hf' hw' _ => hk H' hs' ?_ ?_) 32 0 jfuel H rfl (by unfold jfuel; omega) hs jfr_refl (fun j hj => absurd hj (Nat.not_lt_zero j)) (fun j => rfl)
    · exact jfr_trans (jfr_mono hf fun a j h => h.elim Or.inl fun h => Or.inr (Or.inl h)) (jfr_mono hf' fun a j h => Or.inr (Or.inr h))
    · intro i hi
      rw [hw' i hi, hz]
  | succ d ih =>
    intro p n H hi hn hs hf hz
    obtain ⟨n, rfl⟩ : ∃ k, n = k + 1 := ⟨n - 1, by omega⟩
    unfold F_3_digest_29 B_3_digest_29
    refine jT_neg (by rw [jo_le (by omega) (by omega)]; omega) ?_
    have h1 : jI H 43 1 = Int32.ofNat sz := ((hf.2.2.2 43 1 (by intro h; rcases h with h | h <;> exact absurd h (by decide))).1).trans hsz
    have h2 : ∀ i, i < 64 * parts → jB H 44 i = bs i := fun i hi => ((hf.2.2.2 44 i (by intro h; rcases h with h | h <;> exact absurd h (by decide))).2.2.2).trans (hbs i hi)
    refine z3_37 (F_3_digest_29 n) a1 bs sz parts p (by omega) hp2 H h1 h2 (fun H' hs' hf' hz' => ?_) 16 0 jfuel H rfl (by unfold jfuel; omega) hs jfr_refl (fun j hj => absurd hj (Nat.not_lt_zero j))
    have ep : Int32.ofNat p + 1 = Int32.ofNat (p + 1) := jo_add (a := p) (b := 1)
    rw [ep]
    refine ih (p + 1) n H' (by omega) (by omega) hs' (jfr_trans hf hf') ?_
    rw [hz', hz]
    rfl
end SHA
