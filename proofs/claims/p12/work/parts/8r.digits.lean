/-! setDigits: digits that are odd, or 0. -/
/-- sums by powers of 2, of whole numbers -/
def dsum (d : Nat → Int) : Nat → Int
  | 0 => 0
  | n + 1 => dsum d n + d n * 2 ^ n
theorem dsum_ext {d e : Nat → Int} : ∀ {n : Nat}, (∀ i, i < n → d i = e i) → dsum d n = dsum e n
  | 0, _ => rfl
  | n + 1, h => by
    show dsum d n + d n * 2 ^ n = dsum e n + e n * 2 ^ n
    rw [dsum_ext (n := n) fun i hi => h i (by omega), h n (by omega)]
theorem dsum_zero {d : Nat → Int} {m : Nat} : ∀ {n : Nat}, (∀ i, m ≤ i → i < m + n → d i = 0) → dsum d (m + n) = dsum d m
  | 0, _ => rfl
  | n + 1, h => by
    show dsum d (m + n) + d (m + n) * 2 ^ (m + n) = dsum d m
    rw [dsum_zero (n := n) fun i h1 h2 => h i h1 (by omega), h (m + n) (by omega) (by omega), Int.zero_mul, Int.add_zero]
/-- a digit: odd and small, or 0 -/
def dOk (x : Int) : Prop := x = 0 ∨ (x % 2 = 1 ∧ -15 ≤ x ∧ x ≤ 15)
theorem ji_ofInt {m : Nat} (h : m < 2147483648) : Int32.ofNat m = Int32.ofInt (m : Int) := by
  refine Int32.toBitVec_inj.mp ?_
  show BitVec.ofNat 32 m = BitVec.ofInt 32 (m : Int)
  exact (BitVec.ofInt_natCast ..).symm
section DIG
variable {Q : Unit → jH → Prop} {r t n : Nat} {H0 : jH}
theorem win5 {w0 w1 s : Nat} (hs : s < 32) (h0 : w0 < 4294967296) : Int64.toInt32 (jushrL (Int64.ofNat w0 ||| jshlL (Int64.ofNat w1) 32) (Int32.ofNat s)) &&& 31 = Int32.ofNat ((w0 + 4294967296 * (w1 % 4294967296)) / 2 ^ s % 32) := by
  have e1 : jshlL (Int64.ofNat w1) 32 = Int64.ofNat (w1 % 4294967296 * 2 ^ 32) := by
    rw [show (32 : Int32) = Int32.ofNat 32 from rfl, lo_shl6 (by decide)]
    refine Int64.toBitVec_inj.mp ?_
    refine BitVec.eq_of_toNat_eq ?_
    show (BitVec.ofNat 64 (w1 * 2 ^ 32)).toNat = (BitVec.ofNat 64 (w1 % 4294967296 * 2 ^ 32)).toNat
    rw [BitVec.toNat_ofNat, BitVec.toNat_ofNat]
    omega
  have hlt : w1 % 4294967296 * 2 ^ 32 + w0 < 18446744073709551616 := by omega
  rw [e1, Int64.or_comm, lo_or (k := 32) (Nat.lt_of_lt_of_le h0 (by decide)), lw_ushr hlt (by omega), lw_i32, show (31 : Int32) = Int32.ofNat (2 ^ 5 - 1) from rfl, jo_mask (by decide)]
  congr 1
  have e2 : w1 % 4294967296 * 2 ^ 32 + w0 = w0 + 4294967296 * (w1 % 4294967296) := by omega
  rw [e2]
  show _ % 4294967296 % 32 = _
  omega
theorem win6 {w0 s : Nat} (hs : s < 32) (h0 : w0 < 4294967296) : Int64.toInt32 (jushrL (Int64.ofNat w0 ||| 0) (Int32.ofNat s)) &&& 31 = Int32.ofNat (w0 / 2 ^ s % 32) := by
  have h := win5 (w0 := w0) (w1 := 0) hs h0
  have e : jshlL (Int64.ofNat 0) 32 = 0 := by decide
  rw [e] at h
  rw [h]
  show Int32.ofNat ((w0 + 4294967296 * 0) / 2 ^ s % 32) = _
  rw [Nat.mul_zero, Nat.add_zero]
/-- five bits of a number, from a bit on -/
theorem bits5 {n b : Nat} (hn : n < 2 ^ 256) : (n / 2 ^ (32 * (b / 32)) % 4294967296 + 4294967296 * (n / 2 ^ (32 * (b / 32 + 1)) % 4294967296 % 4294967296)) / 2 ^ (b % 32) % 32 = n / 2 ^ b % 32 := by
  have p1 : (2 : Nat) ^ (32 * (b / 32 + 1)) = 2 ^ (32 * (b / 32)) * 4294967296 := by
    rw [show 32 * (b / 32 + 1) = 32 * (b / 32) + 32 by omega, Nat.pow_add]
  have p2 : (2 : Nat) ^ b = 2 ^ (32 * (b / 32)) * 2 ^ (b % 32) := by
    rw [← Nat.pow_add, show 32 * (b / 32) + b % 32 = b by omega]
  rw [p1, p2, ← Nat.div_div_eq_div_mul, ← Nat.div_div_eq_div_mul]
  generalize n / 2 ^ (32 * (b / 32)) = m
  have e3 : m % 4294967296 + 4294967296 * (m / 4294967296 % 4294967296 % 4294967296) = m % 18446744073709551616 := by omega
  rw [e3]
  have hs : b % 32 < 32 := Nat.mod_lt _ (by decide)
  generalize b % 32 = s at hs
  obtain ⟨k, hk⟩ : ∃ k, 59 = s + k := ⟨59 - s, by omega⟩
  have e4 : (18446744073709551616 : Nat) = 2 ^ s * (2 ^ k * 32) := by
    rw [← Nat.mul_assoc, ← Nat.pow_add, ← hk]
  rw [e4, Nat.mod_mul_right_div_self, Nat.mul_comm (2 ^ k) 32, Nat.mod_mul_right_mod]
theorem ji_sub (a b : Int) : Int32.ofInt a - Int32.ofInt b = Int32.ofInt (a - b) := by
  refine Int32.toBitVec_inj.mp ?_
  rw [Int32.toBitVec_sub]
  show BitVec.ofInt 32 a - BitVec.ofInt 32 b = BitVec.ofInt 32 (a - b)
  rw [BitVec.sub_eq_add_neg, ← BitVec.ofInt_neg, ← BitVec.ofInt_add, Int.sub_eq_add_neg]
/-- a digit's numbers -/
theorem dig_step {n b c five : Nat} (hn : n < 2 ^ 256) (hb : b < 257) (hc : c = 0 ∨ c = 1) (h5 : five = n / 2 ^ b % 32) (hp : five % 2 ≠ c) :
    dOk (((five + c : Nat) : Int) - ((32 * ((five + c) / 16) : Nat) : Int)) ∧ ((n / 2 ^ b + c : Nat) : Int) = (((five + c : Nat) : Int) - ((32 * ((five + c) / 16) : Nat) : Int)) + 32 * ((n / 2 ^ (b + 5) + (five + c) / 16 : Nat) : Int) ∧ (n / 2 ^ (b + 5) + (five + c) / 16) * 2 ^ (b + 5) ≤ 2 ^ 256 := by
  have e1 : n / 2 ^ (b + 5) = n / 2 ^ b / 32 := by rw [Nat.div_div_eq_div_mul, Nat.pow_add]
  have hA := Nat.div_mul_le_self n (2 ^ (b + 5))
  refine ⟨?_, ?_, ?_⟩
  · unfold dOk
    omega
  · rw [e1]
    omega
  · rcases (show (five + c) / 16 = 0 ∨ (five + c) / 16 = 1 by omega) with e | e
    · rw [e, Nat.add_zero]
      omega
    · rw [e]
      by_cases hb2 : b + 5 ≤ 256
      · obtain ⟨k, hk⟩ : ∃ k, 256 = (b + 5) + k := ⟨256 - (b + 5), by omega⟩
        have h1 : n / 2 ^ (b + 5) < 2 ^ k := by
          refine Nat.div_lt_of_lt_mul ?_
          rw [← Nat.pow_add, ← hk]
          exact hn
        have h2 : (n / 2 ^ (b + 5) + 1) * 2 ^ (b + 5) ≤ 2 ^ k * 2 ^ (b + 5) := Nat.mul_le_mul_right _ h1
        rw [← Nat.pow_add, Nat.add_comm k, ← hk] at h2
        exact h2
      · exfalso
        have h1 : n / 2 ^ b < 16 := by
          refine Nat.div_lt_of_lt_mul ?_
          have : (2 : Nat) ^ 252 ≤ 2 ^ b := Nat.pow_le_pow_right (by decide) (by omega)
          have h3 : (2 : Nat) ^ 252 * 16 = 2 ^ 256 := by decide
          have h4 := Nat.mul_le_mul_right 16 this
          omega
        generalize n / 2 ^ b = A at *
        omega
theorem z8_dig12 (kr : jK H0 r = (100, 8)) (kt : jK H0 t = (100, 257)) (h32 : 31 ≤ t) (htr : r ≠ t) (hn : zN8 H0 r n)
    (hk : ∀ H' d, jfJ (· = t) H0 H' → (∀ k, k < 257 → jI H' t k = Int32.ofInt (d k) ∧ dOk (d k)) → dsum d 257 = n → Q () H') :
    ∀ (m b c tn fu : Nat) (d : Nat → Int) (H : jH), 262 ≤ m + b → m < fu → b < 262 → tn ≤ b → (c = 0 ∨ c = 1) → jfJ (· = t) H0 H → (∀ k, k < 257 → jI H t k = Int32.ofInt (d k) ∧ dOk (d k)) → (∀ k, b ≤ k ∨ 257 ≤ k → d k = 0) → dsum d b + ((n / 2 ^ b + c : Nat) : Int) * 2 ^ b = n → (n / 2 ^ b + c) * 2 ^ b ≤ 2 ^ 256 →
      jT (F_8_setDigits_12 fu t r (Int32.ofNat c) (Int32.ofNat b) (Int32.ofNat tn) H) Q := by
  have hlt2 : n < 2 ^ 256 := Nat.lt_of_lt_of_eq (zN8_lt hn) (by decide)
  obtain ⟨w, hw, hv⟩ := hn
  have hwd : ∀ i, i < 8 → w i = n / 2 ^ (32 * i) % 4294967296 := fun i hi => nv_word (fun k hk => (hw k hk).2) hv hi
  intro m
  induction m with
  | zero => intro b c tn fu d H hm hfu hb; omega
  | succ m ih =>
    intro b c tn fu d H hm hfu hb htn hc hfr hd hz hsum hbd
    obtain ⟨fu, rfl⟩ : ∃ k, fu = k + 1 := ⟨fu - 1, by omega⟩
    unfold F_8_setDigits_12 B_8_setDigits_12 B_8_setDigits_141
    have ktH : jK H t = (100, 257) := by rw [hfr.1, kt]
    have krH : jK H r = (100, 8) := by rw [hfr.1, kr]
    have hwH := zw8_fJ hw hfr htr
    by_cases hend : 257 ≤ b
    · have hc0 : n / 2 ^ b + c = 0 := by
        refine Classical.byContradiction fun q => ?_
        have h1 : 1 * 2 ^ b ≤ (n / 2 ^ b + c) * 2 ^ b := Nat.mul_le_mul_right _ (Nat.pos_of_ne_zero q)
        have h2 : (2 : Nat) ^ 257 ≤ 2 ^ b := Nat.pow_le_pow_right (by decide) hend
        have h3 : (2 : Nat) ^ 256 < 2 ^ 257 := by decide
        omega
      rw [hc0] at hsum
      have hsum2 : dsum d 257 = n := by
        have := dsum_zero (d := d) (m := 257) (n := b - 257) fun i h1 h2 => hz i (Or.inr h1)
        rw [show 257 + (b - 257) = b by omega] at this
        rw [← this, ← hsum]
        omega
      exact jT_if (fun _ => jT_ret (hk H d hfr hd hsum2)) fun _ => jT_g (by rw [ktH]) (jT_pos (by rw [ktH]; show Int32.ofNat 257 ≤ _; rw [jo_le (by omega) (by omega)]; exact hend) (jT_ret (hk H d hfr hd hsum2)))
    · have hb257 : b < 257 := by omega
      have ed : Int32.ofNat b / 32 = Int32.ofNat (b / 32) := jo_div (a := b) (b := 32) (by omega) (by omega)
      have er : jrem (Int32.ofNat b) 32 = Int32.ofNat (b % 32) := jo_rem (a := b) (b := 32) (by omega) (by omega)
      have et : Int32.ofNat tn + 1 = Int32.ofNat (tn + 1) := jo_add (a := tn) (b := 1)
      have tail : ∀ s0 s1 : Int64, Int64.toInt32 (jushrL (s0 ||| s1) (Int32.ofNat (b % 32))) &&& 31 = Int32.ofNat (n / 2 ^ b % 32) → jT (B_8_setDigits_81 (F_8_setDigits_12 fu) t r (Int32.ofNat c) (Int32.ofNat b) (Int32.ofNat tn) s0 s1 H) Q := fun s0 s1 h5 => by
        unfold B_8_setDigits_81 B_8_setDigits_135
        rw [er]
        refine jT_l (jT_g (by decide) (jT_lo h5 ?_))
        obtain ⟨five, hfive⟩ : ∃ x, x = n / 2 ^ b % 32 := ⟨_, rfl⟩
        rw [← hfive]
        have h32f : five < 32 := by omega
        have e1 : Int32.ofNat five &&& 1 = Int32.ofNat (five % 2) := by rw [show (1 : Int32) = Int32.ofNat (2 ^ 1 - 1) from rfl, jo_mask (by decide)]
        rw [e1]
        by_cases hp : five % 2 = c
        · refine jT_neg (fun q => q (by rw [hp])) (jT_l (jT_l ?_))
          rw [show Int32.ofNat b + 1 = Int32.ofNat (b + 1) from jo_add (a := b) (b := 1), et]
          have e2 : n / 2 ^ (b + 1) = n / 2 ^ b / 2 := by rw [Nat.div_div_eq_div_mul, Nat.pow_succ]
          have e3 : n / 2 ^ b + c = 2 * (n / 2 ^ (b + 1) + c) := by
            rw [e2]
            omega
          refine ih (b + 1) c (tn + 1) fu d H (by omega) (by omega) (by omega) (by omega) hc hfr hd (fun k hk2 => hz k (by omega)) ?_ ?_
          · show dsum d b + d b * 2 ^ b + _ = _
            rw [hz b (Or.inl (Nat.le_refl b)), ← hsum, e3, Int.pow_succ, Int.natCast_mul, Int.zero_mul]
            rw [show ((2 : Nat) : Int) = 2 from rfl, Int.mul_comm 2, Int.mul_assoc, Int.mul_comm 2]
            omega
          · rw [e3, Nat.mul_comm 2, Nat.mul_assoc, Nat.mul_comm 2, ← Nat.pow_succ] at hbd
            exact hbd
        · obtain ⟨g1, g2, g3⟩ := dig_step hlt2 hb257 hc hfive hp
          have e4 : Int32.ofNat five + Int32.ofNat c = Int32.ofNat (five + c) := jo_add
          have e5 : jshr (Int32.ofNat (five + c)) 4 = Int32.ofNat ((five + c) / 16) := jo_shr (m := five + c) (c := 4) (by omega) (by decide)
          have e6 : 32 * Int32.ofNat ((five + c) / 16) = Int32.ofNat (32 * ((five + c) / 16)) := jo_mul (a := 32) (b := (five + c) / 16)
          refine jT_pos (fun q => hp ((jo_eq (by omega) (by omega)).mp q)) ?_
          rw [e4]
          refine jT_l ?_
          rw [e5]
          refine jT_l ?_
          rw [e6, ji_ofInt (m := five + c) (by omega), ji_ofInt (m := 32 * ((five + c) / 16)) (by omega), ji_sub, jo_nat (n := b) (by omega)]
          obtain ⟨dv, hdv⟩ : ∃ x, x = ((five + c : Nat) : Int) - ((32 * ((five + c) / 16) : Nat) : Int) := ⟨_, rfl⟩
          rw [← hdv] at g1 g2 ⊢
          refine jT_g (gIw ktH h32 (jo_in (by omega) (by omega))) (jT_l (jT_l (jT_l ?_)))
          rw [show Int32.ofNat b + 5 = Int32.ofNat (b + 5) from jo_add (a := b) (b := 5), et]
          refine ih (b + 5) ((five + c) / 16) (tn + 1) fu (fun k => if k = b then dv else d k) _ (by omega) (by omega) (by omega) (by omega) (by omega) (jfJ_sI hfr rfl) (fun k hk2 => ?_) (fun k hk2 => ?_) ?_ g3
          · show jI (jsI H t b (Int32.ofInt dv)) t k = Int32.ofInt (if k = b then dv else d k) ∧ dOk (if k = b then dv else d k)
            by_cases e : k = b
            · rw [if_pos e, e]
              exact ⟨jI_sIe, g1⟩
            · rw [if_neg e]
              exact ⟨(jI_sIn e).trans (hd k hk2).1, (hd k hk2).2⟩
          · show (if k = b then dv else d k) = 0
            rw [if_neg (by omega)]
            exact hz k (by omega)
          · have e7 : dsum (fun k => if k = b then dv else d k) (b + 5) = dsum d b + dv * 2 ^ b := by
              have h1 := dsum_zero (d := fun k => if k = b then dv else d k) (m := b + 1) (n := 4) fun i h1 h2 => by
                show (if i = b then dv else d i) = 0
                rw [if_neg (by omega)]
                exact hz i (Or.inl (by omega))
              rw [show b + 5 = b + 1 + 4 by omega, h1]
              show dsum (fun k => if k = b then dv else d k) b + (if b = b then dv else d b) * 2 ^ b = _
              rw [if_pos rfl, dsum_ext (d := fun k => if k = b then dv else d k) (e := d) fun i hi => by show (if i = b then dv else d i) = d i; rw [if_neg (by omega)]]
            rw [e7, ← hsum, g2, Int.pow_add, Int.add_mul, show (2 : Int) ^ 5 = 32 from rfl, Int.mul_comm (2 ^ b) 32, ← Int.mul_assoc, Int.mul_comm _ (32 : Int)]
            omega
      refine jT_neg (by rw [show (257 : Int32) = Int32.ofNat 257 from rfl, jo_le (by omega) (by omega)]; omega) (jT_g (by rw [ktH]) (jT_neg (by rw [ktH]; show ¬ Int32.ofNat 257 ≤ _; rw [jo_le (by omega) (by omega)]; omega) (jT_g (by decide) ?_)))
      rw [ed]
      refine jT_l ?_
      have hb5 := bits5 (b := b) hlt2
      unfold B_8_setDigits_52
      by_cases h8 : 8 ≤ b / 32
      · refine jT_pos (by rw [show (8 : Int32) = Int32.ofNat 8 from rfl, jo_le (by omega) (by omega)]; exact h8) (jT_pos (by rw [show (7 : Int32) = Int32.ofNat 7 from rfl, jo_le (by omega) (by omega)]; omega) (tail 0 0 ?_))
        have h0 : n / 2 ^ b = 0 := Nat.div_eq_of_lt (Nat.lt_of_lt_of_le hlt2 (Nat.pow_le_pow_right (by decide) (by omega)))
        rw [h0]
        have := win6 (w0 := 0) (s := b % 32) (by omega) (by decide)
        rw [Nat.zero_div] at this
        exact this
      · have vw := hwH (b / 32) (by omega)
        refine jT_neg (by rw [show (8 : Int32) = Int32.ofNat 8 from rfl, jo_le (by omega) (by omega)]; exact h8) (jT_g (gI krH (jo_in (by omega) (by omega))) ?_)
        rw [jo_nat (n := b / 32) (by omega), vw.1, lw_of vw.2]
        rw [← hwd (b / 32) (by omega)] at hb5
        by_cases h7 : 7 ≤ b / 32
        · refine jT_pos (by rw [show (7 : Int32) = Int32.ofNat 7 from rfl, jo_le (by omega) (by omega)]; exact h7) (tail _ _ ?_)
          rw [win6 (by omega) vw.2, ← hb5]
          have h0 : n / 2 ^ (32 * (b / 32 + 1)) = 0 := Nat.div_eq_of_lt (Nat.lt_of_lt_of_le hlt2 (Nat.pow_le_pow_right (by decide) (by omega)))
          rw [h0, Nat.zero_mod, Nat.mul_zero, Nat.add_zero]
        · have vw1 := hwH (b / 32 + 1) (by omega)
          refine jT_neg (by rw [show (7 : Int32) = Int32.ofNat 7 from rfl, jo_le (by omega) (by omega)]; exact h7) ?_
          rw [show Int32.ofNat (b / 32) + 1 = Int32.ofNat (b / 32 + 1) from jo_add (a := b / 32) (b := 1), jo_nat (n := b / 32 + 1) (by omega), vw1.1, lw_of vw1.2]
          refine jT_g (gI krH (jo_in (by omega) (by omega))) (tail _ _ ?_)
          rw [win5 (by omega) vw.2, ← hb5, hwd (b / 32 + 1) (by omega)]
theorem z8_setDigits {r0 t0 : Nat} (e0 : t0 = t) (e1 : r0 = r) (kr : jK H0 r = (100, 8)) (kt : jK H0 t = (100, 257)) (h32 : 31 ≤ t) (htr : r ≠ t) (hn : zN8 H0 r n)
    (hk : ∀ H' d, jfJ (· = t) H0 H' → (∀ k, k < 257 → jI H' t k = Int32.ofInt (d k) ∧ dOk (d k)) → dsum d 257 = n → Q () H') : jT (F_8_setDigits t0 r0 H0) Q := by
  subst e0
  subst e1
  have hlt2 : n < 2 ^ 256 := Nat.lt_of_lt_of_eq (zN8_lt hn) (by decide)
  unfold F_8_setDigits
  refine jT_b (zA_fillI (r := t0) (n := 257) rfl kt h32 (by decide) fun H1 f1 z1 => ?_)
  refine z8_dig12 (H0 := H1) (n := n) (by rw [f1.1]; exact kr) (by rw [f1.1]; exact kt) h32 htr (zN8_fJ hn f1 htr) (fun H' d hf h1 h2 => hk H' d (jfJ_trans f1 hf) h1 h2) 262 0 0 0 jfuel (fun _ => 0) H1 (by omega) (by unfold jfuel; omega) (by omega) (Nat.le_refl 0) (Or.inl rfl) jfJ_refl (fun k hk2 => ⟨z1 k hk2, Or.inl rfl⟩) (fun _ _ => rfl) ?_ ?_
  · show (0 : Int) + ((n / 2 ^ 0 + 0 : Nat) : Int) * 2 ^ 0 = n
    rw [Nat.pow_zero, Nat.div_one, Int.pow_zero]
    omega
  · rw [Nat.pow_zero, Nat.div_one]
    omega
end DIG
