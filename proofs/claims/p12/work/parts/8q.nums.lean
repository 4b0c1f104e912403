/-! spread, isBelow, isNothing, set. -/
theorem lo_shl6 {m c : Nat} (hc : c < 64) : jshlL (Int64.ofNat m) (Int32.ofNat c) = Int64.ofNat (m * 2 ^ c) := by
  have h : ∀ c, c < 64 → ((Int32.ofNat c).toInt64 &&& 63) = Int64.ofNat c := by decide
  unfold jshlL
  rw [h c hc]
  refine Int64.toBitVec_inj.mp ?_
  rw [Int64.toBitVec_shiftLeft]
  have e2 : (Int64.ofNat c).toBitVec.smod 64 = BitVec.ofNat 64 c := by
    have : ∀ c, c < 64 → (Int64.ofNat c).toBitVec.smod 64 = BitVec.ofNat 64 c := by decide
    exact this c hc
  rw [e2, BitVec.shiftLeft_eq']
  refine BitVec.eq_of_toNat_eq ?_
  have e3 : ∀ k, (Int64.ofNat k).toBitVec = BitVec.ofNat 64 k := fun _ => rfl
  rw [e3, e3, BitVec.toNat_shiftLeft, BitVec.toNat_ofNat, BitVec.toNat_ofNat, BitVec.toNat_ofNat, Nat.mod_eq_of_lt (show c < 2 ^ 64 by omega), Nat.shiftLeft_eq, Nat.mod_mul_mod]
theorem lo_and26 (x : Nat) : Int64.ofNat x &&& 67108863 = Int64.ofNat (x % 67108864) := by
  rw [← Int64.ofInt_eq_ofNat, li_and26, ← Int64.ofInt_eq_ofNat]
  rfl
theorem nv_word {w : Nat → Nat} {n i : Nat} (h : ∀ i, i < 8 → w i < 4294967296) (hn : nv 4294967296 w 8 = n) (hi : i < 8) : w i = n / 2 ^ (32 * i) % 4294967296 := by
  rw [← hn, Nat.pow_mul]
  exact (nv_digit h (by decide) hi).symm
/-- a limb out of two words -/
theorem lim2 {n : Nat} (hn : n < 2 ^ 256) {i : Nat} (hi : i < 10) : (n / 2 ^ (32 * (26 * i / 32)) % 4294967296 / 2 ^ (26 * i % 32) + n / 2 ^ (32 * (26 * i / 32 + 1)) % 4294967296 * 2 ^ (32 - 26 * i % 32)) % 67108864 = n / 2 ^ (26 * i) % 67108864 := by
  rcases (show i = 0 ∨ i = 1 ∨ i = 2 ∨ i = 3 ∨ i = 4 ∨ i = 5 ∨ i = 6 ∨ i = 7 ∨ i = 8 ∨ i = 9 by omega) with rfl | rfl | rfl | rfl | rfl | rfl | rfl | rfl | rfl | rfl
  all_goals (simp (decide := true) only [Nat.reduceMul, Nat.reduceDiv, Nat.reduceMod, Nat.reduceAdd, Nat.reduceSub, Nat.reducePow]; omega)
theorem fe_lim {n : Nat} (hn : n < 2 ^ 256) : fe (fun i => ((n / 2 ^ (26 * i) % 67108864 : Nat) : Int)) = n := by
  unfold fe
  simp only [Nat.reduceMul, Nat.reducePow]
  omega
section SPR
variable {Q : Unit → jH → Prop} {r t n : Nat} {H0 : jH}
theorem z8_spread2 (kr : jK H0 r = (100, 8)) (kt : jK H0 t = (103, 10)) (hn : zN8 H0 r n)
    (hk : ∀ H', jfL (· = t) H0 H' → zg H' t (fun i => ((n / 2 ^ (26 * i) % 67108864 : Nat) : Int)) → Q () H') :
    ∀ (d i fu : Nat) (H : jH), i + d = 10 → d < fu → jfL (· = t) H0 H → (∀ j, j < i → jL H t j = Int64.ofNat (n / 2 ^ (26 * j) % 67108864)) → jT (F_8_spread_2 fu r t (Int32.ofNat i) H) Q := by
  have hlt := zN8_lt hn
  have hlt2 : n < 2 ^ 256 := Nat.lt_of_lt_of_eq hlt (by decide)
  obtain ⟨w, hw, hv⟩ := hn
  intro d
  induction d with
  | zero =>
    intro i fu H hi hfu hfr h1
    obtain ⟨fu, rfl⟩ : ∃ k, fu = k + 1 := ⟨fu - 1, by omega⟩
    obtain rfl : i = 10 := by omega
    unfold F_8_spread_2 B_8_spread_2
    have ktH : jK H t = (103, 10) := by rw [hfr.1, kt]
    rw [ktH]
    exact jT_g rfl (jT_pos (by decide) (jT_ret (hk H hfr fun j hj => (h1 j hj).trans Int64.ofInt_eq_ofNat.symm)))
  | succ d ih =>
    intro i fu H hi hfu hfr h1
    obtain ⟨fu, rfl⟩ : ∃ k, fu = k + 1 := ⟨fu - 1, by omega⟩
    unfold F_8_spread_2 B_8_spread_2
    have ktH : jK H t = (103, 10) := by rw [hfr.1, kt]
    have krH : jK H r = (100, 8) := by rw [hfr.1, kr]
    have eI : jI H = jI H0 := hfr.2.2.2.1
    have e1 : Int32.ofNat i + 1 = Int32.ofNat (i + 1) := jo_add (a := i) (b := 1)
    have e26 : 26 * Int32.ofNat i = Int32.ofNat (26 * i) := jo_mul (a := 26) (b := i)
    have ed : Int32.ofNat (26 * i) / 32 = Int32.ofNat (26 * i / 32) := jo_div (a := 26 * i) (b := 32) (by omega) (by omega)
    have er : jrem (Int32.ofNat (26 * i)) 32 = Int32.ofNat (26 * i % 32) := jo_rem (a := 26 * i) (b := 32) (by omega) (by omega)
    have vw := hw (26 * i / 32) (by omega)
    have tail : ∀ s0 : Nat, s0 = n / 2 ^ (32 * (26 * i / 32 + 1)) % 4294967296 * 2 ^ (32 - 26 * i % 32) → jT (B_8_spread_76 (F_8_spread_2 fu) r t (Int32.ofNat i) (Int64.ofNat (w (26 * i / 32) / 2 ^ (26 * i % 32))) (Int64.ofNat s0) H) Q := fun s0 hs0 => by
      unfold B_8_spread_76
      have hlow : w (26 * i / 32) / 2 ^ (26 * i % 32) < 2 ^ (32 - 26 * i % 32) := by
        refine Nat.div_lt_of_lt_mul ?_
        rw [← Nat.pow_add, show 26 * i % 32 + (32 - 26 * i % 32) = 32 by omega]
        exact vw.2
      rw [hs0, Int64.or_comm, lo_or hlow, lo_and26, e1, jo_nat (n := i) (by omega)]
      refine jT_g (gL ktH (jo_in (by omega) (by omega))) (jT_l (jT_l (ih (i + 1) fu _ (by omega) (by omega) (jfL_sL hfr rfl) fun j hj => ?_)))
      by_cases e : j = i
      · rw [e, ← lim2 hlt2 (i := i) (by omega), nv_word (fun k hk => (hw k hk).2) hv (by omega), Nat.add_comm]
        exact jup_eq
      · exact (jup_i e).trans (h1 j (by omega))
    rw [ktH, krH]
    refine jT_g rfl (jT_neg (by show ¬ Int32.ofNat 10 ≤ _; rw [jo_le (by omega) (by omega)]; omega) (jT_g (by decide) ?_))
    rw [e26, ed, er]
    refine jT_l (jT_g (by decide) (jT_l (jT_g rfl (jT_neg (by show ¬ Int32.ofNat 8 ≤ _; rw [jo_le (by omega) (by omega)]; omega) (jT_g ⟨rfl, jo_in (by omega) (by show 26 * i / 32 < 8; omega)⟩ ?_)))))
    rw [jo_nat (n := 26 * i / 32) (by omega), eI, vw.1, lw_of vw.2, lw_ushr (Nat.lt_of_lt_of_le vw.2 (by decide)) (by omega)]
    unfold B_8_spread_46
    have ew1 : Int32.ofNat (26 * i / 32) + 1 = Int32.ofNat (26 * i / 32 + 1) := jo_add (a := 26 * i / 32) (b := 1)
    rw [krH, ew1]
    refine jT_g rfl ?_
    by_cases h7 : 26 * i / 32 + 1 < 8
    · have vw1 := hw (26 * i / 32 + 1) h7
      have e32 : 32 - Int32.ofNat (26 * i % 32) = Int32.ofNat (32 - 26 * i % 32) := jo_sub (a := 32) (b := 26 * i % 32) (by omega)
      refine jT_neg (by show ¬ Int32.ofNat 8 ≤ _; rw [jo_le (by omega) (by omega)]; omega) (jT_g ⟨rfl, jo_in (by omega) h7⟩ ?_)
      rw [jo_nat (n := 26 * i / 32 + 1) (by omega), eI, vw1.1, lw_of vw1.2, e32, lo_shl6 (by omega)]
      exact tail _ (by rw [nv_word (fun k hk => (hw k hk).2) hv h7])
    · refine jT_pos (by show Int32.ofNat 8 ≤ _; rw [jo_le (by omega) (by omega)]; omega) (tail 0 ?_)
      have : n / 2 ^ (32 * (26 * i / 32 + 1)) = 0 := by
        rw [show 26 * i / 32 + 1 = 8 by omega]
        exact Nat.div_eq_of_lt (Nat.lt_of_lt_of_le hlt2 (by decide))
      rw [this, Nat.zero_mod, Nat.zero_mul]
theorem z8_spread {t0 r0 : Nat} (e0 : r0 = r) (e1 : t0 = t) (kr : jK H0 r = (100, 8)) (kt : jK H0 t = (103, 10)) (hn : zN8 H0 r n)
    (hk : ∀ H', jfL (· = t) H0 H' → zL H' t (ef_i n) 67108863 → Q () H') : jT (F_8_spread r0 t0 H0) Q := by
  subst e0
  subst e1
  unfold F_8_spread
  have hlt2 : n < 2 ^ 256 := Nat.lt_of_lt_of_eq (zN8_lt hn) (by decide)
  exact z8_spread2 kr kt hn (fun H' hf hz => hk H' hf ⟨_, hz, fun i hi => ⟨by show -67108863 ≤ ((n / 2 ^ (26 * i) % 67108864 : Nat) : Int); omega, by show ((n / 2 ^ (26 * i) % 67108864 : Nat) : Int) ≤ 67108863; omega⟩, by rw [fe_lim hlt2]⟩) 10 0 jfuel H0 rfl (by unfold jfuel; omega) jfL_refl fun j hj => absurd hj (Nat.not_lt_zero j)
end SPR
theorem nv_top {B : Nat} {a b : Nat → Nat} {n i : Nat} (ha : ∀ j, j < n → a j < B) (hi : i < n) (hs : ∀ j, i < j → j < n → a j = b j) (h : a i < b i) : nv B a n < nv B b n := by
  obtain ⟨k, rfl⟩ : ∃ k, n = (i + 1) + k := ⟨n - (i + 1), by omega⟩
  rw [nv_cut (w := a) (m := i + 1) k, nv_cut (w := b) (m := i + 1) k, nv_ext (w := fun j => a (i + 1 + j)) (u := fun j => b (i + 1 + j)) fun j hj => hs _ (by omega) (by omega)]
  have h1 : nv B a i < B ^ i := nv_lt fun j hj => ha j (by omega)
  have h2 : (a i + 1) * B ^ i ≤ b i * B ^ i := Nat.mul_le_mul_right _ h
  rw [Nat.add_mul, Nat.one_mul] at h2
  show nv B a i + a i * B ^ i + _ < nv B b i + b i * B ^ i + _
  omega
section BEL
variable {Q : Int32 → jH → Prop} {r t : Nat} {H : jH} {a b : Nat → Nat}
theorem z8_isBelow10 (kr : jK H r = (100, 8)) (kt : jK H t = (100, 8)) (ha : zw8 H r 8 a) (hb : zw8 H t 8 b) (hQ : Q (if nv 4294967296 a 8 < nv 4294967296 b 8 then 1 else 0) H) :
    ∀ (i fu : Nat), i ≤ 8 → i < fu → (∀ j, i ≤ j → j < 8 → a j = b j) → jT (F_8_isBelow_10 fu r t (Int32.ofNat i + (-1)) H) Q := by
  intro i
  induction i with
  | zero =>
    intro fu h8 hfu hs
    obtain ⟨fu, rfl⟩ : ∃ k, fu = k + 1 := ⟨fu - 1, by omega⟩
    unfold F_8_isBelow_10 B_8_isBelow_10
    rw [nv_ext (w := a) (u := b) fun j hj => hs j (Nat.zero_le j) hj, if_neg (Nat.lt_irrefl _)] at hQ
    exact jT_pos (by decide) (jT_g (by decide) (jT_ret hQ))
  | succ i ih =>
    intro fu h8 hfu hs
    obtain ⟨fu, rfl⟩ : ∃ k, fu = k + 1 := ⟨fu - 1, by omega⟩
    unfold F_8_isBelow_10 B_8_isBelow_10 B_8_isBelow_48
    have ep : Int32.ofNat (i + 1) + (-1) = Int32.ofNat i := by
      rw [← jo_add, Int32.add_assoc, show Int32.ofNat 1 + (-1) = 0 from by decide, Int32.add_zero]
    have va := ha i (by omega)
    have vb := hb i (by omega)
    rw [ep, jo_nat (n := i) (by omega), va.1, vb.1, lw_of va.2, lw_of vb.2]
    refine jT_neg (by rw [show (0 : Int32) = Int32.ofNat 0 from rfl, jo_lt (by omega) (by omega)]; omega) (jT_g (gI kr (jo_in (by omega) (by omega))) (jT_g (gI kt (jo_in (by omega) (by omega))) ?_))
    by_cases e : a i = b i
    · refine jT_pos (by rw [e]) (jT_l (ih fu (by omega) (by omega) fun j h1 h2 => ?_))
      by_cases q : j = i
      · rw [q, e]
      · exact hs j (by omega) h2
    · refine jT_neg (fun q => e ((jw_eq va.2 vb.2).mp q)) (jT_g (gI kr (jo_in (by omega) (by omega))) (jT_g (gI kt (jo_in (by omega) (by omega))) ?_))
      have hle : (Int64.ofNat (b i) ≤ Int64.ofNat (a i)) ↔ b i ≤ a i := by
        rw [Int64.le_iff_toInt_le, ← Int64.ofInt_eq_ofNat, ← Int64.ofInt_eq_ofNat, li_int (by omega) (by have := vb.2; omega), li_int (by omega) (by have := va.2; omega)]
        omega
      by_cases q : b i ≤ a i
      · rw [if_neg (Nat.not_lt_of_le (Nat.le_of_lt (nv_top (i := i) (fun j hj => (hb j hj).2) (by omega) (fun j h1 h2 => (hs j (by omega) h2).symm) (by omega))))] at hQ
        exact jT_pos (hle.mpr q) (jT_g (by decide) (jT_ret hQ))
      · rw [if_pos (nv_top (i := i) (fun j hj => (ha j hj).2) (by omega) (fun j h1 h2 => hs j (by omega) h2) (by omega))] at hQ
        exact jT_neg (fun h => q (hle.mp h)) (jT_g (by decide) (jT_ret hQ))
theorem z8_isBelow {r0 t0 x y : Nat} (e0 : r0 = r) (e1 : t0 = t) (kr : jK H r = (100, 8)) (kt : jK H t = (100, 8)) (ha : zN8 H r x) (hb : zN8 H t y) (hQ : Q (if x < y then 1 else 0) H) : jT (F_8_isBelow r0 t0 H) Q := by
  subst e0
  subst e1
  obtain ⟨a, a1, a2⟩ := ha
  obtain ⟨b, b1, b2⟩ := hb
  unfold F_8_isBelow
  rw [kr, kt]
  refine jT_g rfl (jT_g rfl (jT_lo (e' := Int32.ofNat 8 + (-1)) (by decide) (z8_isBelow10 kr kt a1 b1 (by rw [a2, b2]; exact hQ) 8 jfuel (Nat.le_refl 8) (by unfold jfuel; omega) fun j h1 h2 => by omega)))
theorem z8_isNothing4 (kr : jK H r = (100, 8)) (ha : zw8 H r 8 a) (hQ : Q (if nv 4294967296 a 8 = 0 then 1 else 0) H) :
    ∀ (d i fu : Nat) (x : Int32), i + d = 8 → d < fu → (x = 0 ↔ ∀ j, j < i → a j = 0) → jT (F_8_isNothing_4 fu r x (Int32.ofNat i) H) Q := by
  intro d
  induction d with
  | zero =>
    intro i fu x hi hfu hx
    obtain ⟨fu, rfl⟩ : ∃ k, fu = k + 1 := ⟨fu - 1, by omega⟩
    obtain rfl : i = 8 := by omega
    unfold F_8_isNothing_4 B_8_isNothing_4 B_8_isNothing_31
    have key : nv 4294967296 a 8 = 0 ↔ x = 0 := by
      rw [hx]
      refine ⟨fun e j hj => ?_, fun e => nv_zero e⟩
      have := nv_digit (b := 4294967296) (w := a) (n := 8) (i := j) (fun k hk => (ha k hk).2) (by decide) hj
      rw [e, Nat.zero_div, Nat.zero_mod] at this
      exact this.symm
    rw [kr]
    refine jT_g rfl (jT_pos (by decide) ?_)
    by_cases hx0 : x = 0
    · rw [if_pos (key.mpr hx0)] at hQ
      exact jT_neg (fun h => h hx0) (jT_g (by decide) (jT_ret hQ))
    · rw [if_neg (fun e => hx0 (key.mp e))] at hQ
      exact jT_pos hx0 (jT_g (by decide) (jT_ret hQ))
  | succ d ih =>
    intro i fu x hi hfu hx
    obtain ⟨fu, rfl⟩ : ∃ k, fu = k + 1 := ⟨fu - 1, by omega⟩
    unfold F_8_isNothing_4 B_8_isNothing_4
    have e1 : Int32.ofNat i + 1 = Int32.ofNat (i + 1) := jo_add (a := i) (b := 1)
    have va := ha i (by omega)
    rw [kr, e1, jo_nat (n := i) (by omega), va.1]
    refine jT_g rfl (jT_neg (by show ¬ Int32.ofNat 8 ≤ _; rw [jo_le (by omega) (by omega)]; omega) (jT_g ⟨rfl, jo_in (by omega) (by show i < 8; omega)⟩ (jT_l (jT_l (ih (i + 1) fu _ (by omega) (by omega) ?_)))))
    have hor : (x ||| Int32.ofNat (a i) = 0) ↔ (x = 0 ∧ a i = 0) := by
      rw [← Int32.toBitVec_inj, Int32.toBitVec_or]
      refine (BitVec.or_eq_zero_iff).trans ?_
      refine and_congr ⟨fun h => Int32.toBitVec_inj.mp h, fun h => by rw [h]; rfl⟩ ⟨fun h => ?_, fun h => by rw [h]; rfl⟩
      exact (jw_eq va.2 (by decide)).mp (Int32.toBitVec_inj.mp (show (Int32.ofNat (a i)).toBitVec = (Int32.ofNat 0).toBitVec from h))
    rw [hor, hx]
    refine ⟨fun h j hj => ?_, fun h => ⟨fun j hj => h j (by omega), h i (by omega)⟩⟩
    by_cases e : j = i
    · rw [e]
      exact h.2
    · exact h.1 j (by omega)
theorem z8_isNothing {r0 x : Nat} (e0 : r0 = r) (kr : jK H r = (100, 8)) (ha : zN8 H r x) (hQ : Q (if x = 0 then 1 else 0) H) : jT (F_8_isNothing r0 H) Q := by
  subst e0
  obtain ⟨a, a1, a2⟩ := ha
  unfold F_8_isNothing
  exact z8_isNothing4 kr a1 (by rw [a2]; exact hQ) 8 0 jfuel 0 rfl (by unfold jfuel; omega) ⟨fun _ j hj => absurd hj (Nat.not_lt_zero j), fun _ => rfl⟩
end BEL
/-- the number of n bytes that begin at a place, the first one the highest -/
def bgn (b : Nat → UInt8) (at_ n : Nat) : Nat := nv 256 (fun k => (b (at_ + n - 1 - k)).toNat) n
section SET8
variable {Q : Unit → jH → Prop} {r t len : Nat} {H0 : jH}
theorem z8_set8 {f n : Nat} (kr : jK H0 r = (100, 8)) (h32 : 31 ≤ r) (kt : jK H0 t = (101, len)) (hlen : len < 2147483648) (hf : f + n ≤ len)
    (hk : ∀ H', jfJ (· = r) H0 H' → zN8 H' r (nv 256 (fun k => (jB H0 t (f + n - 1 - k)).toNat) (min n 32)) → Q () H') :
    ∀ (d i fu : Nat) (w : Nat → Nat) (H : jH), i + d = min n 32 → d < fu → jfJ (· = r) H0 H → zw8 H r 8 w → nv 4294967296 w 8 = nv 256 (fun k => (jB H0 t (f + n - 1 - k)).toNat) i → (∀ j, j < 8 → i ≤ 4 * j → w j = 0) → (∀ j, j < 8 → i / 4 = j → w j < 2 ^ (8 * (i % 4))) →
      jT (F_8_set_8 fu r t (Int32.ofNat f) (Int32.ofNat n) (Int32.ofNat i) H) Q := by
  intro d
  induction d with
  | zero =>
    intro i fu w H hi hfu hfr hw hv hz hs
    obtain ⟨fu, rfl⟩ : ∃ k, fu = k + 1 := ⟨fu - 1, by omega⟩
    unfold F_8_set_8 B_8_set_8 B_8_set_74
    have hQ := hk H hfr ⟨w, hw, by rw [hv, show i = min n 32 by omega]⟩
    by_cases h : n ≤ i
    · exact jT_pos (by rw [jo_le (by omega) (by omega)]; exact h) (jT_ret hQ)
    · exact jT_neg (by rw [jo_le (by omega) (by omega)]; exact h) (jT_pos (by rw [show (32 : Int32) = Int32.ofNat 32 from rfl, jo_le (by omega) (by omega)]; omega) (jT_ret hQ))
  | succ d ih =>
    intro i fu w H hi hfu hfr hw hv hz hs
    obtain ⟨fu, rfl⟩ : ∃ k, fu = k + 1 := ⟨fu - 1, by omega⟩
    unfold F_8_set_8 B_8_set_8 B_8_set_68
    have krH : jK H r = (100, 8) := by rw [hfr.1, kr]
    have ktH : jK H t = (101, len) := by rw [hfr.1, kt]
    have e1 : Int32.ofNat i + 1 = Int32.ofNat (i + 1) := jo_add (a := i) (b := 1)
    have eat : Int32.ofNat f + Int32.ofNat n - 1 - Int32.ofNat i = Int32.ofNat (f + n - 1 - i) := by
      rw [jo_add, show (1 : Int32) = Int32.ofNat 1 from rfl, jo_sub (by omega), jo_sub (by omega)]
    have e4 : Int32.ofNat i / 4 = Int32.ofNat (i / 4) := jo_div (a := i) (b := 4) (by omega) (by omega)
    have er : jrem (Int32.ofNat i) 4 = Int32.ofNat (i % 4) := jo_rem (a := i) (b := 4) (by omega) (by omega)
    have e8 : 8 * Int32.ofNat (i % 4) = Int32.ofNat (8 * (i % 4)) := jo_mul (a := 8) (b := i % 4)
    have vw := hw (i / 4) (by omega)
    have hsm := hs (i / 4) (by omega) rfl
    have hu := UInt8.toNat_lt (jB H0 t (f + n - 1 - i))
    have eB : jB H t (f + n - 1 - i) = jB H0 t (f + n - 1 - i) := by rw [hfr.2.2.2.2.1]
    refine jT_neg (by rw [jo_le (by omega) (by omega)]; omega) (jT_neg (by rw [show (32 : Int32) = Int32.ofNat 32 from rfl, jo_le (by omega) (by omega)]; omega) ?_)
    rw [eat]
    refine jT_l (jT_neg (by rw [show (0 : Int32) = Int32.ofNat 0 from rfl, jo_lt (by omega) (by omega)]; omega) ?_)
    rw [ktH, e4, er, e8, jo_nat (n := i / 4) (by omega), jo_nat (n := f + n - 1 - i) (by omega), vw.1, eB, jb_and, jo_shl (by omega), Int32.or_comm, jo_or hsm, e1]
    refine jT_g rfl (jT_neg (by rw [jo_le (by omega) (by omega)]; show ¬ len ≤ _; omega) (jT_g (by decide) (jT_g (gI krH (jo_in (by omega) (by omega))) (jT_g ⟨rfl, jo_in (by omega) (by show f + n - 1 - i < len; omega)⟩ (jT_g (by decide) (jT_g (gIw krH h32 (jo_in (by omega) (by omega))) (jT_l (jT_l ?_))))))))
    have hpw : (2 : Nat) ^ (8 * (i % 4)) * 256 ≤ 4294967296 := by
      rcases (show i % 4 = 0 ∨ i % 4 = 1 ∨ i % 4 = 2 ∨ i % 4 = 3 by omega) with e | e | e | e <;> rw [e] <;> decide
    have hv2 : (jB H0 t (f + n - 1 - i)).toNat * 2 ^ (8 * (i % 4)) + w (i / 4) < 2 ^ (8 * (i % 4)) * 256 := by
      have : (jB H0 t (f + n - 1 - i)).toNat * 2 ^ (8 * (i % 4)) ≤ 255 * 2 ^ (8 * (i % 4)) := Nat.mul_le_mul_right _ (by omega)
      omega
    refine ih (i + 1) fu (nup w (i / 4) _) _ (by omega) (by omega) (jfJ_sI hfr rfl) (zw8_up hw (Nat.lt_of_lt_of_le hv2 hpw)) ?_ (fun j hj h1 => ?_) (fun j hj h1 => ?_)
    · have hup := nv_up (b := 4294967296) (w := w) (i := i / 4) (v := (jB H0 t (f + n - 1 - i)).toNat * 2 ^ (8 * (i % 4)) + w (i / 4)) (n := 8) (by omega)
      rw [Nat.add_mul, Nat.mul_assoc] at hup
      have e5 : (2 : Nat) ^ (8 * (i % 4)) * 4294967296 ^ (i / 4) = 256 ^ i := by
        rw [show (4294967296 : Nat) = 2 ^ 32 from rfl, show (256 : Nat) = 2 ^ 8 from rfl, ← Nat.pow_mul, ← Nat.pow_mul, ← Nat.pow_add]
        congr 1
        omega
      rw [e5] at hup
      show nv 4294967296 _ 8 = nv 256 _ i + (jB H0 t (f + n - 1 - i)).toNat * 256 ^ i
      omega
    · unfold nup
      rw [if_neg (by omega)]
      exact hz j hj (by omega)
    · unfold nup
      by_cases e : j = i / 4
      · rw [if_pos e]
        have : 8 * ((i + 1) % 4) = 8 * (i % 4) + 8 := by omega
        rw [this, Nat.pow_add]
        exact hv2
      · rw [if_neg e, hz j hj (by omega)]
        exact Nat.pow_pos (by decide)
theorem z8_set {r0 f n : Nat} {f' n' : Int32} (e0 : r0 = r) (ef : f' = Int32.ofNat f) (en : n' = Int32.ofNat n) (kr : jK H0 r = (100, 8)) (h32 : 31 ≤ r) (kt : jK H0 t = (101, len)) (hlen : len < 2147483648) (hf : f + n ≤ len) (htr : t ≠ r)
    (hk : ∀ H', jfJ (· = r) H0 H' → zN8 H' r (nv 256 (fun k => (jB H0 t (f + n - 1 - k)).toNat) (min n 32)) → Q () H') : jT (F_8_set r0 t f' n' H0) Q := by
  subst e0
  subst ef
  subst en
  unfold F_8_set
  refine jT_b (zA_fillI (r := r0) (n := 8) rfl kr h32 (by decide) fun H1 f1 z1 => ?_)
  have eB : jB H1 = jB H0 := f1.2.2.2.2.1
  exact z8_set8 (H0 := H1) (len := len) (by rw [f1.1]; exact kr) h32 (by rw [f1.1]; exact kt) hlen hf (fun H' hf' hv => hk H' (jfJ_trans f1 hf') (by rw [eB] at hv; exact hv)) (min n 32) 0 jfuel (fun _ => 0) H1 (by omega) (by unfold jfuel; omega) jfJ_refl (fun j hj => ⟨z1 j hj, show 0 < 4294967296 by decide⟩) (nv_zero fun _ _ => rfl) (fun _ _ _ => rfl) (fun j _ _ => Nat.pow_pos (by decide))
end SET8
