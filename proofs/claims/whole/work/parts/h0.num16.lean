/-! Targets as numbers; the reference's rows of forty bytes. -/
theorem lo_shr {m c : Nat} (hm : m < 9223372036854775808) (hc : c < 64) : jshrL (Int64.ofNat m) (Int32.ofNat c) = Int64.ofNat (m / 2 ^ c) := by
  have h1 : ∀ c, c < 64 → ((Int32.ofNat c).toInt64 &&& 63) = Int64.ofNat c := by decide
  unfold jshrL
  rw [h1 c hc]
  refine Int64.toBitVec_inj.mp ?_
  have e2 : (Int64.ofNat c).toBitVec.smod 64 = BitVec.ofNat 64 c := by
    have : ∀ c, c < 64 → (Int64.ofNat c).toBitVec.smod 64 = BitVec.ofNat 64 c := by decide
    exact this c hc
  have e3 : ∀ k, (Int64.ofNat k).toBitVec = BitVec.ofNat 64 k := fun _ => rfl
  rw [Int64.toBitVec_shiftRight, e2, e3, e3]
  refine BitVec.eq_of_toNat_eq ?_
  have h2 : (BitVec.ofNat 64 m).msb = false := by
    rw [BitVec.msb_eq_false_iff_two_mul_lt, BitVec.toNat_ofNat]
    omega
  rw [BitVec.sshiftRight_eq', BitVec.sshiftRight_eq_of_msb_false h2, BitVec.toNat_ushiftRight, BitVec.toNat_ofNat, BitVec.toNat_ofNat, BitVec.toNat_ofNat, Nat.shiftRight_eq_div_pow]
  have : m / 2 ^ c ≤ m := Nat.div_le_self _ _
  rw [Nat.mod_eq_of_lt (show m < 2^64 by omega), Nat.mod_eq_of_lt (show c < 2^64 by omega), Nat.mod_eq_of_lt (show m / 2 ^ c < 2^64 by omega)]
theorem lo_mask {m k : Nat} (hk : k ≤ 63) : Int64.ofNat m &&& Int64.ofNat (2 ^ k - 1) = Int64.ofNat (m % 2 ^ k) := by
  have e3 : ∀ k, (Int64.ofNat k).toBitVec = BitVec.ofNat 64 k := fun _ => rfl
  refine Int64.toBitVec_inj.mp ?_
  rw [Int64.toBitVec_and, e3, e3, e3]
  refine BitVec.eq_of_toNat_eq ?_
  have h2 : (2 : Nat) ^ k < 2 ^ 64 := Nat.pow_lt_pow_right (by omega) (by omega)
  have h3 : m % 2 ^ k < 2 ^ k := Nat.mod_lt _ (Nat.two_pow_pos k)
  rw [BitVec.toNat_and, BitVec.toNat_ofNat, BitVec.toNat_ofNat, BitVec.toNat_ofNat, Nat.mod_eq_of_lt (show 2 ^ k - 1 < 2 ^ 64 by omega), Nat.and_two_pow_sub_one_eq_mod, Nat.mod_mod_of_dvd _ (Nat.pow_dvd_pow 2 (show k ≤ 64 by omega)), Nat.mod_eq_of_lt (show m % 2 ^ k < 2 ^ 64 by omega)]
theorem lo_inj {a b : Nat} (ha : a < 9223372036854775808) (hb : b < 9223372036854775808) : Int64.ofNat a = Int64.ofNat b ↔ a = b := by
  refine ⟨fun h => ?_, fun h => by rw [h]⟩
  have := congrArg Int64.toInt h
  rw [Int64.toInt_ofNat_of_lt ha, Int64.toInt_ofNat_of_lt hb] at this
  omega
theorem lo_le {a b : Nat} (ha : a < 9223372036854775808) (hb : b < 9223372036854775808) : (Int64.ofNat a ≤ Int64.ofNat b) ↔ a ≤ b := by
  rw [Int64.le_iff_toInt_le, Int64.toInt_ofNat_of_lt ha, Int64.toInt_ofNat_of_lt hb]
  omega
theorem lo_lt {a b : Nat} (ha : a < 9223372036854775808) (hb : b < 9223372036854775808) : (Int64.ofNat a < Int64.ofNat b) ↔ a < b := by
  rw [Int64.lt_iff_toInt_lt, Int64.toInt_ofNat_of_lt ha, Int64.toInt_ofNat_of_lt hb]
  omega
theorem lo_to32 {m : Nat} (h : m < 4294967296) : Int64.toInt32 (Int64.ofNat m) = Int32.ofNat m := by
  rw [lw_i32, Nat.mod_eq_of_lt h]
/-- the target of bits of size s -/
def b_sz (n : Nat) : Nat := n / 16777216
def b_ma (n : Nat) : Nat := n % 8388608
def b_tg (n : Nat) : Nat := b_ma n * 256 ^ (b_sz n - 3)
/-- bits that come about -/
def b_bits (n : Nat) : Prop := 4 ≤ b_sz n ∧ b_sz n ≤ 32 ∧ n / 8388608 % 2 = 0 ∧ 32768 ≤ b_ma n
theorem b_bits_lt {n : Nat} (h : b_bits n) : n < 553648128 := by
  have h2 := h.2.1
  unfold b_sz at h2
  omega
/-- a row holds a number, byte by byte -/
def r40 (H : jH) (a n : Nat) : Prop := ∃ d : Nat → Nat, (∀ i, i < 40 → jI H a i = Int32.ofNat (d i) ∧ d i < 256) ∧ nv 256 d 40 = n
theorem r40_fr {T : Nat → Nat → Prop} {H H' : jH} {a n : Nat} (h : r40 H a n) (hf : jfr T H H') (hT : ∀ j, ¬ T a j) : r40 H' a n := by
  obtain ⟨d, h1, h2⟩ := h
  exact ⟨d, fun i hi => ⟨(jfr_I hf (hT i)).trans (h1 i hi).1, (h1 i hi).2⟩, h2⟩
def b_Ta (a : Nat) : Nat → Nat → Prop := fun x _ => x = a
theorem b_Ta16 {a : Nat} (ha : a = 452 ∨ a = 453 ∨ a = 454) : ∀ x j, b_Ta a x j → zS16 x j := fun x j w => by
  unfold b_Ta at w
  unfold zS16
  omega
theorem zK16_a {H : jH} (h : zK16 H) {a : Nat} (ha : a = 452 ∨ a = 453 ∨ a = 454) : jK H a = (100, 40) := by
  obtain ⟨a1, a2, a3, a4, a5, a6, a7, a8, a9⟩ := h
  rcases ha with rfl | rfl | rfl
  · exact a7
  · exact a8
  · exact a9
theorem zK16_s {H : jH} (hs : jsh H) : zK16 H := ⟨gT (sK_445 hs), sR_445_7 hs, sR_445_8 hs, sR_445_9 hs, sR_445_10 hs, sK_451 hs, sK_452 hs, sK_453 hs, sK_454 hs⟩
section N16
variable {α : Type} {Q : Unit → jH → Prop} {a : Nat} {H0 : jH}
theorem y16_nothing (ha : a = 452 ∨ a = 453 ∨ a = 454) (hz : zK16 H0) (hk : ∀ H', jfr (b_Ta a) H0 H' → (∀ j, j < 40 → jI H' a j = 0) → Q () H') : jT (F_16_nothing a H0) Q := by
  have k0 := zK16_a hz ha
  have loop : ∀ (d i fu : Nat) (H : jH), i + d = 40 → d < fu → jfr (b_Ta a) H0 H → (∀ j, j < i → jI H a j = 0) → jT (F_16_nothing_2 fu a (Int32.ofNat i) H) Q := by
    intro d
    induction d with
    | zero =>
      intro i fu H hi hfu hf hv
      obtain ⟨fu, rfl⟩ : ∃ k, fu = k + 1 := ⟨fu - 1, by omega⟩
      obtain rfl : i = 40 := by omega
      unfold F_16_nothing_2 B_16_nothing_2
      exact jT_pos (by decide) (jT_ret (hk H hf hv))
    | succ d ih =>
      intro i fu H hi hfu hf hv
      obtain ⟨fu, rfl⟩ : ∃ k, fu = k + 1 := ⟨fu - 1, by omega⟩
      have e1 : Int32.ofNat i + 1 = Int32.ofNat (i + 1) := jo_add (a := i) (b := 1)
      unfold F_16_nothing_2 B_16_nothing_2
      rw [jfr_K hf, k0, jo_nat (n := i) (by omega), e1]
      refine jT_neg (by show ¬ Int32.ofNat 40 ≤ _; rw [jo_le (by decide) (by omega)]; omega) (jT_g ⟨rfl, by unfold jF0; omega, jo_in (by omega) (by show i < 40; omega)⟩ (jT_l (jT_l (ih (i + 1) fu _ (by omega) (by omega) (jfr_sI hf rfl) fun j hj => ?_))))
      by_cases c : j = i
      · rw [c]
        exact jI_sIe
      · exact (jI_sIn c).trans (hv j (by omega))
  unfold F_16_nothing
  exact loop 40 0 jfuel H0 rfl (by unfold jfuel; omega) jfr_refl fun j hj => absurd hj (Nat.not_lt_zero j)
theorem b_ma3 {m : Nat} (hm : m < 8388608) (e : Nat) : m / 256 ^ 0 % 256 * 256 ^ e + (m / 256 ^ 1 % 256 * 256 ^ (e + 1) + m / 256 ^ 2 % 256 * 256 ^ (e + 2)) = m * 256 ^ e := by
  rw [Nat.pow_add, Nat.pow_add]
  generalize 256 ^ e = z
  have e3 : m = m % 256 + (m / 256 % 256) * 256 + (m / 65536 % 256) * 65536 := by omega
  show m / 1 % 256 * z + (m / 256 % 256 * (z * 256) + m / 65536 % 256 * (z * 65536)) = m * z
  rw [Nat.div_one]
  generalize m % 256 = p at e3 ⊢
  generalize m / 256 % 256 = q at e3 ⊢
  generalize m / 65536 % 256 = r at e3 ⊢
  subst e3
  rw [Nat.add_mul, Nat.add_mul, Nat.mul_comm z 256, Nat.mul_comm z 65536, ← Nat.mul_assoc, ← Nat.mul_assoc]
  omega
theorem y16_open {n : Nat} {y : Int64} (ey : y = Int64.ofNat n) (ha : a = 452 ∨ a = 453 ∨ a = 454) (hz : zK16 H0) (h3 : 3 ≤ b_sz n) (h37 : b_sz n ≤ 37) (hk : ∀ H', jfr (b_Ta a) H0 H' → r40 H' a (b_tg n) → Q () H') : jT (F_16_open y a H0) Q := by
  subst ey
  have k0 := zK16_a hz ha
  have hn : n < 2147483648 := by unfold b_sz at h37; omega
  unfold F_16_open
  refine jT_b (y16_nothing ha hz fun H1 f1 z1 => jT_l (jT_l ?_))
  have es : Int64.toInt32 (jshrL (Int64.ofNat n) 24) = Int32.ofNat (b_sz n) := by
    rw [show (24 : Int32) = Int32.ofNat 24 from rfl, lo_shr (by omega) (by decide), lo_to32 (by have : n / 2 ^ 24 ≤ n := Nat.div_le_self _ _; omega)]
    rfl
  have em : Int64.ofNat n &&& 8388607 = Int64.ofNat (b_ma n) := lo_mask (m := n) (k := 23) (by decide)
  rw [es, em]
  have hm : b_ma n < 8388608 := Nat.mod_lt _ (by decide)
  unfold b_tg at hk
  generalize b_sz n = s at h3 h37 hk es
  generalize b_ma n = m at hm hk em
  have step : ∀ (F : Nat → Int32 → Int64 → Int32 → jH → Option (Unit × jH)) (k : Nat) (H : jH) (d : Nat → Nat), k < 3 → jfr (b_Ta a) H0 H → (∀ i, i < 40 → jI H a i = Int32.ofNat (d i) ∧ d i < 256) → d (s - 3 + k) = 0 → (∀ H', jfr (b_Ta a) H0 H' → (∀ i, i < 40 → jI H' a i = Int32.ofNat (nup d (s - 3 + k) (m / 256 ^ k % 256) i) ∧ nup d (s - 3 + k) (m / 256 ^ k % 256) i < 256) → jT (F a (Int32.ofNat s) (Int64.ofNat m) (Int32.ofNat (k + 1)) H') Q) → jT (B_16_open_20 F a (Int32.ofNat s) (Int64.ofNat m) (Int32.ofNat k) H) Q := by
    intro F k H d hk3 hf hd h0 hF
    have e1 : Int32.ofNat k + 1 = Int32.ofNat (k + 1) := jo_add (a := k) (b := 1)
    have e2 : Int32.ofNat s - 3 + Int32.ofNat k = Int32.ofNat (s - 3 + k) := by
      rw [show (3 : Int32) = Int32.ofNat 3 from rfl, jo_sub h3, jo_add]
    have e8 : (8 : Int32) * Int32.ofNat k = Int32.ofNat (8 * k) := jo_mul (a := 8) (b := k)
    have ev : Int64.toInt32 (jshrL (Int64.ofNat m) (Int32.ofNat (8 * k)) &&& 255) = Int32.ofNat (m / 256 ^ k % 256) := by
      have hle : m / 2 ^ (8 * k) ≤ m := Nat.div_le_self _ _
      rw [lo_shr (by omega) (by omega), show (255 : Int64) = Int64.ofNat (2 ^ 8 - 1) from rfl, lo_mask (by decide), lo_to32 (by have : m / 2 ^ (8 * k) % 2 ^ 8 ≤ m / 2 ^ (8 * k) := Nat.mod_le _ _; omega), show (256 : Nat) = 2 ^ 8 from rfl, ← Nat.pow_mul]
    unfold B_16_open_20 B_16_open_63
    refine jT_neg (by show ¬ Int32.ofNat 3 ≤ _; rw [jo_le (by decide) (by omega)]; omega) (jT_l ?_)
    rw [e2, e8, ev, e1, jfr_K hf, k0, jo_nat (n := s - 3 + k) (by omega)]
    refine jT_neg (by show ¬ _ < Int32.ofNat 0; rw [jo_lt (by omega) (by decide)]; omega) (jT_neg (by show ¬ Int32.ofNat 40 ≤ _; rw [jo_le (by decide) (by omega)]; omega) (jT_g ⟨rfl, by unfold jF0; omega, jo_in (by omega) (by show s - 3 + k < 40; omega)⟩ (jT_l (jT_l (hF _ (jfr_sI hf rfl) fun i hi => ?_)))))
    unfold nup
    by_cases c : i = s - 3 + k
    · rw [if_pos c, c]
      exact ⟨jI_sIe, Nat.mod_lt _ (by decide)⟩
    · rw [if_neg c]
      exact ⟨(jI_sIn c).trans (hd i hi).1, (hd i hi).2⟩
  obtain ⟨f, ef⟩ : ∃ f, jfuel = f + 4 := ⟨4294967292, rfl⟩
  rw [ef]
  unfold F_16_open_20
  refine step (F_16_open_20 (f + 3)) 0 H1 (fun _ => 0) (by decide) f1 (fun i hi => ⟨z1 i hi, by decide⟩) rfl fun H2 f2 d2 => ?_
  unfold F_16_open_20
  refine step (F_16_open_20 (f + 2)) 1 H2 _ (by decide) f2 d2 (by unfold nup; rw [if_neg (by omega)]) fun H3 f3 d3 => ?_
  unfold F_16_open_20
  refine step (F_16_open_20 (f + 1)) 2 H3 _ (by decide) f3 d3 (by unfold nup; rw [if_neg (by omega), if_neg (by omega)]) fun H4 f4 d4 => ?_
  unfold F_16_open_20 B_16_open_20
  refine jT_pos (by decide) (jT_ret (hk H4 f4 ⟨_, d4, ?_⟩))
  have u1 := nv_up (b := 256) (w := fun _ => 0) (i := s - 3 + 0) (v := m / 256 ^ 0 % 256) (n := 40) (by omega)
  have u2 := nv_up (b := 256) (w := nup (fun _ => 0) (s - 3 + 0) (m / 256 ^ 0 % 256)) (i := s - 3 + 1) (v := m / 256 ^ 1 % 256) (n := 40) (by omega)
  have u3 := nv_up (b := 256) (w := nup (nup (fun _ => 0) (s - 3 + 0) (m / 256 ^ 0 % 256)) (s - 3 + 1) (m / 256 ^ 1 % 256)) (i := s - 3 + 2) (v := m / 256 ^ 2 % 256) (n := 40) (by omega)
  have n2 : nup (fun _ => 0) (s - 3 + 0) (m / 256 ^ 0 % 256) (s - 3 + 1) = 0 := by unfold nup; rw [if_neg (by omega)]
  have n3 : nup (nup (fun _ => 0) (s - 3 + 0) (m / 256 ^ 0 % 256)) (s - 3 + 1) (m / 256 ^ 1 % 256) (s - 3 + 2) = 0 := by unfold nup; rw [if_neg (by omega), if_neg (by omega)]
  have n1 : nv 256 (fun _ => 0) 40 = 0 := nv_zero fun _ _ => rfl
  have h3 := b_ma3 hm (s - 3)
  rw [n1, Nat.zero_mul, Nat.add_zero, Nat.zero_add] at u1
  rw [n2, Nat.zero_mul, Nat.add_zero, u1] at u2
  rw [n3, Nat.zero_mul, Nat.add_zero, u2, Nat.add_assoc] at u3
  exact u3.trans h3
end N16
