/-! Shifts and masks of small ints, words of bytes. -/
theorem jo_31 (c : Nat) (h : c < 32) : Int32.ofNat c &&& 31 = Int32.ofNat c := by
  revert c; decide
theorem jo_sm (c : Nat) (h : c < 32) : (Int32.ofNat c).toBitVec.smod 32 = BitVec.ofNat 32 c := by
  revert c; decide
theorem jo_shr {m c : Nat} (hm : m < 2147483648) (hc : c < 32) : jshr (Int32.ofNat m) (Int32.ofNat c) = Int32.ofNat (m / 2 ^ c) := by
  unfold jshr
  rw [jo_31 c hc]
  refine Int32.toBitVec_inj.mp ?_
  rw [Int32.toBitVec_shiftRight, jo_sm c hc, Int32.toBitVec_ofNat', Int32.toBitVec_ofNat']
  refine BitVec.eq_of_toNat_eq ?_
  have h1 : (BitVec.ofNat 32 m).msb = false := by
    rw [BitVec.msb_eq_false_iff_two_mul_lt, BitVec.toNat_ofNat]
    omega
  rw [BitVec.sshiftRight_eq', BitVec.sshiftRight_eq_of_msb_false h1, BitVec.toNat_ushiftRight, BitVec.toNat_ofNat, BitVec.toNat_ofNat, BitVec.toNat_ofNat, Nat.shiftRight_eq_div_pow]
  have : m / 2 ^ c ≤ m := Nat.div_le_self _ _
  rw [Nat.mod_eq_of_lt (show m < 2^32 by omega), Nat.mod_eq_of_lt (show c < 2^32 by omega), Nat.mod_eq_of_lt (show m / 2 ^ c < 2^32 by omega)]
theorem jo_shl {m c : Nat} (hc : c < 32) : jshl (Int32.ofNat m) (Int32.ofNat c) = Int32.ofNat (m * 2 ^ c) := by
  unfold jshl
  rw [jo_31 c hc]
  refine Int32.toBitVec_inj.mp ?_
  rw [Int32.toBitVec_shiftLeft, jo_sm c hc, Int32.toBitVec_ofNat', Int32.toBitVec_ofNat']
  refine BitVec.eq_of_toNat_eq ?_
  rw [BitVec.shiftLeft_eq', BitVec.toNat_shiftLeft, BitVec.toNat_ofNat, BitVec.toNat_ofNat, BitVec.toNat_ofNat, Nat.shiftLeft_eq, Nat.mod_eq_of_lt (show c < 2^32 by omega), Nat.mod_mul_mod]
theorem jo_ushr {m c : Nat} (hm : m < 4294967296) (hc : c < 32) : jushr (Int32.ofNat m) (Int32.ofNat c) = Int32.ofNat (m / 2 ^ c) := by
  unfold jushr
  refine Int32.toBitVec_inj.mp ?_
  have h : (Int32.ofNat c).toUInt32 &&& Int32.toUInt32 31 = UInt32.ofNat c := by
    revert c; decide
  rw [h]
  refine BitVec.eq_of_toNat_eq ?_
  show ((Int32.ofNat m).toUInt32 >>> UInt32.ofNat c).toNat = _
  rw [UInt32.toNat_shiftRight, Int32.toBitVec_ofNat', BitVec.toNat_ofNat]
  show (Int32.ofNat m).toBitVec.toNat >>> ((UInt32.ofNat c).toNat % 32) = _
  rw [Int32.toBitVec_ofNat', BitVec.toNat_ofNat, UInt32.toNat_ofNat', Nat.shiftRight_eq_div_pow]
  have : m / 2 ^ c ≤ m := Nat.div_le_self _ _
  rw [Nat.mod_eq_of_lt (show m < 2^32 by omega), Nat.mod_eq_of_lt (show c < 2^32 by omega), Nat.mod_eq_of_lt hc, Nat.mod_eq_of_lt (show m / 2 ^ c < 2^32 by omega)]
theorem jo_mask {m k : Nat} (hk : k ≤ 31) : Int32.ofNat m &&& Int32.ofNat (2 ^ k - 1) = Int32.ofNat (m % 2 ^ k) := by
  refine Int32.toBitVec_inj.mp ?_
  rw [Int32.toBitVec_and, Int32.toBitVec_ofNat', Int32.toBitVec_ofNat', Int32.toBitVec_ofNat']
  refine BitVec.eq_of_toNat_eq ?_
  have h2 : (2 : Nat) ^ k < 2 ^ 32 := Nat.pow_lt_pow_right (by omega) (by omega)
  have h3 : m % 2 ^ k < 2 ^ k := Nat.mod_lt _ (Nat.two_pow_pos k)
  rw [BitVec.toNat_and, BitVec.toNat_ofNat, BitVec.toNat_ofNat, BitVec.toNat_ofNat, Nat.mod_eq_of_lt (show 2 ^ k - 1 < 2 ^ 32 by omega), Nat.and_two_pow_sub_one_eq_mod, Nat.mod_mod_of_dvd _ (Nat.pow_dvd_pow 2 (show k ≤ 32 by omega)), Nat.mod_eq_of_lt (show m % 2 ^ k < 2 ^ 32 by omega)]
theorem jo_or {a b k : Nat} (hb : b < 2 ^ k) : Int32.ofNat (a * 2 ^ k) ||| Int32.ofNat b = Int32.ofNat (a * 2 ^ k + b) := by
  refine Int32.toBitVec_inj.mp ?_
  rw [Int32.toBitVec_or, Int32.toBitVec_ofNat', Int32.toBitVec_ofNat', Int32.toBitVec_ofNat', ← BitVec.ofNat_or]
  congr 1
  have := Nat.shiftLeft_add_eq_or_of_lt hb a
  rw [Nat.shiftLeft_eq] at this
  exact this.symm
theorem jshl_or (x y n : Int32) : jshl (x ||| y) n = jshl x n ||| jshl y n := by
  unfold jshl
  refine Int32.toBitVec_inj.mp ?_
  simp only [Int32.toBitVec_shiftLeft, Int32.toBitVec_or, BitVec.shiftLeft_eq', BitVec.shiftLeft_or_distrib]
theorem jshl_88 (x : Int32) : jshl (jshl x 8) 8 = jshl x 16 := by
  unfold jshl
  refine Int32.toBitVec_inj.mp ?_
  have h : ∀ x : BitVec 32, (x <<< 8) <<< 8 = x <<< 16 := fun x => (BitVec.shiftLeft_add x 8 8).symm
  exact h x.toBitVec
theorem jshl_816 (x : Int32) : jshl (jshl x 8) 16 = jshl x 24 := by
  unfold jshl
  refine Int32.toBitVec_inj.mp ?_
  have h : ∀ x : BitVec 32, (x <<< 8) <<< 16 = x <<< 24 := fun x => (BitVec.shiftLeft_add x 8 16).symm
  exact h x.toBitVec
theorem jshl_168 (x : Int32) : jshl (jshl x 16) 8 = jshl x 24 := by
  unfold jshl
  refine Int32.toBitVec_inj.mp ?_
  have h : ∀ x : BitVec 32, (x <<< 16) <<< 8 = x <<< 24 := fun x => (BitVec.shiftLeft_add x 16 8).symm
  exact h x.toBitVec

theorem jb_u8 (p : UInt8 → Prop) (h : ∀ k : Nat, k < 256 → p (UInt8.ofNat k)) (u : UInt8) : p u := by
  have := h u.toNat (UInt8.toNat_lt u)
  rwa [UInt8.ofNat_toNat] at this
theorem jb_sh24 (u : UInt8) : jshl (jbs u &&& 255) 24 = jshl (jbs u) 24 :=
  jb_u8 (fun u => jshl (jbs u &&& 255) 24 = jshl (jbs u) 24) (by decide +kernel) u
theorem jb_and (u : UInt8) : jbs u &&& 255 = Int32.ofNat u.toNat :=
  jb_u8 (fun u => jbs u &&& 255 = Int32.ofNat u.toNat) (by decide +kernel) u
theorem jg_t {α : Type} {c : Prop} [Decidable c] {o : Option α} (h : c) : jg c o = o := if_pos h
/-- byte i of n bytes with what is behind them, as an int -/
def zpb (b : Nat → UInt8) (n i : Nat) : Int32 :=
  if i < n then Int32.ofNat (b i).toNat else if i = n then 128 else if 64 * ((n + 72) / 64) - 1 - i ≤ 2 then Int32.ofNat (8 * n / 2 ^ (8 * (64 * ((n + 72) / 64) - 1 - i)) % 256) else 0
theorem z12_padded {a1 len at_ n i : Nat} (hl : at_ + n ≤ len) (hlen : len < 2147483648) (hn : n < 2000000) (hi : i < 64 * ((n + 72) / 64)) {H : jH} (hk : jK H a1 = (101, len)) :
    F_12_padded a1 (Int32.ofNat at_) (Int32.ofNat n) (Int32.ofNat i) 1 H = some (zpb (fun i => jB H a1 (at_ + i)) n i, H) := by
  unfold F_12_padded zpb
  rw [jg_t (by decide)]
  have e1 : Int32.ofNat n + 72 = Int32.ofNat (n + 72) := jo_add (a := n) (b := 72)
  have e2 : Int32.ofNat (n + 72) / 64 = Int32.ofNat ((n + 72) / 64) := jo_div (a := n + 72) (b := 64) (by omega) (by omega)
  have e3 : Int32.ofNat ((n + 72) / 64) * 64 = Int32.ofNat (64 * ((n + 72) / 64)) := by rw [Nat.mul_comm]; exact jo_mul (a := (n + 72) / 64) (b := 64)
  have e4 : Int32.ofNat at_ + Int32.ofNat i = Int32.ofNat (at_ + i) := jo_add
  dsimp only [jl]
  rw [e1, e2, e3, e4]
  generalize hE : 64 * ((n + 72) / 64) = E at *
  have hE2 : E < 2147483648 := by omega
  by_cases h1 : i < n
  · rw [if_pos h1, if_neg (by rw [jo_le (by omega) (by omega)]; omega), hk, jg_t ⟨rfl, jo_in (by omega) (by omega)⟩, jo_nat (n := at_ + i) (by omega), jb_and]
  · rw [if_neg h1, if_pos (by rw [jo_le (by omega) (by omega)]; omega)]
    by_cases h2 : i = n
    · rw [if_pos h2, if_neg (by rw [jo_eq (by omega) (by omega)]; exact fun h => h h2)]
    · rw [if_neg h2, if_pos (by rw [jo_eq (by omega) (by omega)]; exact h2), if_neg (by decide)]
      have e5 : Int32.ofNat E - 1 = Int32.ofNat (E - 1) := jo_sub (a := E) (b := 1) (by omega)
      have e6 : Int32.ofNat (E - 1) - Int32.ofNat i = Int32.ofNat (E - 1 - i) := jo_sub (by omega)
      rw [e5, e6]
      generalize hk2 : E - 1 - i = k at *
      unfold B_12_padded_57 B_12_padded_88 B_12_padded_70 B_12_padded_88
      rw [if_neg (by rw [show (0 : Int32) = Int32.ofNat 0 from rfl, jo_lt (by omega) (by omega)]; omega)]
      by_cases h3 : k ≤ 2
      · rw [if_pos h3, if_pos (by rw [show (2 : Int32) = Int32.ofNat 2 from rfl, jo_le (by omega) (by omega)]; exact h3)]
        have e8 : (8 : Int32) * Int32.ofNat n = Int32.ofNat (8 * n) := jo_mul (a := 8)
        have e9 : (8 : Int32) * Int32.ofNat k = Int32.ofNat (8 * k) := jo_mul (a := 8)
        have e10 := jo_mask (m := 8 * n / 2 ^ (8 * k)) (k := 8) (by omega)
        rw [e8, e9, jo_shr (by omega) (by omega)]
        exact congrArg (fun x => some (x, H)) e10
      · rw [if_neg h3, if_neg (by rw [show (2 : Int32) = Int32.ofNat 2 from rfl, jo_le (by omega) (by omega)]; exact h3)]
/-- a word of four bytes, one behind the other -/
def zwk (b : Nat → UInt8) (n o : Nat) : Nat → Int32
  | 0 => 0
  | k + 1 => jshl (zwk b n o k) 8 ||| zpb b n (o + k)
theorem jb_z4 (x y z w : UInt8) : jshl (jshl (jshl (jshl (0 : Int32) 8 ||| Int32.ofNat x.toNat) 8 ||| Int32.ofNat y.toNat) 8 ||| Int32.ofNat z.toNat) 8 ||| Int32.ofNat w.toNat = ((jshl (jbs x) 24 ||| jshl (jbs y &&& 255) 16) ||| jshl (jbs z &&& 255) 8) ||| (jbs w &&& 255) := by
  have h0 : jshl (0 : Int32) 8 = 0 := by decide
  rw [h0, Int32.zero_or, jshl_or, jshl_or, jshl_or, jshl_88, jshl_88, jshl_816, ← jb_and x, jb_sh24, ← jb_and y, ← jb_and z, ← jb_and w]
theorem zpb_zpad {b : Nat → UInt8} {n i : Nat} (h : i < 64 * ((n + 72) / 64) - 3) (hn : n < 2000000) : zpb b n i = Int32.ofNat (zpad b n i).toNat := by
  unfold zpb zpad
  by_cases h1 : i < n
  · rw [if_pos h1, if_pos h1]
  · rw [if_neg h1, if_neg h1]
    by_cases h2 : i = n
    · rw [if_pos h2, if_pos h2]
      rfl
    · rw [if_neg h2, if_neg h2, if_neg (by omega)]
      rfl
/-- the words are the class's -/
theorem zwk_zM {b : Nat → UInt8} {n p j : Nat} (hp : p < (n + 72) / 64) (hj : j < 16) (hn : n < 2000000) : zwk b n (64 * p + 4 * j) 4 = zM (zpad b n) n ((n + 8) / 64 + 1) p j := by
  have hE : (n + 72) / 64 = (n + 8) / 64 + 1 := by omega
  unfold zM
  by_cases h : j = 15 ∧ p + 1 = (n + 8) / 64 + 1
  · rw [if_pos h]
    have ho : 64 * p + 4 * j = 64 * ((n + 72) / 64) - 4 := by omega
    rw [ho]
    have hE3 : 64 * ((n + 72) / 64) ≥ n + 9 := by omega
    have q : ∀ k, k < 4 → zpb b n (64 * ((n + 72) / 64) - 4 + k) = if 3 - k ≤ 2 then Int32.ofNat (8 * n / 2 ^ (8 * (3 - k)) % 256) else 0 := by
      intro k hk
      unfold zpb
      rw [if_neg (by omega), if_neg (by omega)]
      have : 64 * ((n + 72) / 64) - 1 - (64 * ((n + 72) / 64) - 4 + k) = 3 - k := by omega
      rw [this]
    unfold zwk zwk zwk zwk zwk
    rw [q 0 (by omega), q 1 (by omega), q 2 (by omega), q 3 (by omega), if_neg (by omega), if_pos (by omega), if_pos (by omega), if_pos (by omega)]
    have h8 : (8 : Int32) * Int32.ofNat n = Int32.ofNat (8 * n) := jo_mul (a := 8)
    rw [h8]
    generalize hm : 8 * n = m
    have hm2 : m < 16777216 := by omega
    have h0 : jshl (jshl (0 : Int32) 8 ||| 0) 8 = 0 := by decide
    have s8 : ∀ x : Nat, jshl (Int32.ofNat x) 8 = Int32.ofNat (x * 2 ^ 8) := fun x => jo_shl (m := x) (c := 8) (by omega)
    rw [h0, Int32.zero_or, s8, jo_or (Nat.mod_lt _ (by omega)), s8, jo_or (Nat.mod_lt _ (by omega))]
    congr 1
    show (m / 65536 % 256 * 256 + m / 256 % 256) * 256 + m / 1 % 256 = m
    omega
  · rw [if_neg h]
    have q : ∀ k, k < 4 → zpb b n (64 * p + 4 * j + k) = Int32.ofNat (zpad b n (64 * p + 4 * j + k)).toNat := fun k hk => zpb_zpad (by omega) hn
    unfold zwk zwk zwk zwk zwk
    rw [q 0 (by omega), q 1 (by omega), q 2 (by omega), q 3 (by omega), jb_z4]
    rfl
/-- and where all four bytes are there, so are they at once -/
theorem zwk_raw {b : Nat → UInt8} {n o : Nat} (h : o + 3 < n) : zwk b n o 4 = ((jshl (jbs (b o) &&& 255) 24 ||| jshl (jbs (b (o + 1)) &&& 255) 16) ||| jshl (jbs (b (o + 2)) &&& 255) 8) ||| (jbs (b (o + 3)) &&& 255) := by
  unfold zwk zwk zwk zwk zwk zpb
  rw [if_pos (by omega), if_pos (by omega), if_pos (by omega), if_pos (by omega), jb_z4, jb_sh24]
  rfl
theorem z12_184 {k84 : Nat → Nat → Int32 → Int32 → Nat → Int32 → Int32 → Int32 → jH → Option (Unit × jH)} {a0 a1 len at_ n p i a4 : Nat} {a5 a6 : Int32} {H : jH} (hl : at_ + n ≤ len) (hlen : len < 2147483648) (hn : n < 2000000) (hp : p < (n + 72) / 64) (hi : i < 16) (ho : n ≤ 64 * p + 4 * i + 3) (hk : jK H a1 = (101, len)) :
    ∀ (d k m : Nat), k + d = 4 → d < m → F_12_wide_184 k84 m a0 a1 (Int32.ofNat at_) (Int32.ofNat n) a4 a5 a6 (Int32.ofNat i) (zwk (fun i => jB H a1 (at_ + i)) n (64 * p + 4 * i) k) (Int32.ofNat (64 * p + 4 * i)) (Int32.ofNat k) H = B_12_wide_231 k84 a0 a1 (Int32.ofNat at_) (Int32.ofNat n) a4 a5 a6 (Int32.ofNat i) (zwk (fun i => jB H a1 (at_ + i)) n (64 * p + 4 * i) 4) H := by
  intro d
  induction d with
  | zero =>
    intro k m hk4 hm
    obtain rfl : k = 4 := by omega
    obtain ⟨m, rfl⟩ : ∃ k, m = k + 1 := ⟨m - 1, by omega⟩
    unfold F_12_wide_184 B_12_wide_184
    rw [if_pos (by decide)]
  | succ d ih =>
    intro k m hk4 hm
    obtain ⟨m, rfl⟩ : ∃ k, m = k + 1 := ⟨m - 1, by omega⟩
    unfold F_12_wide_184 B_12_wide_184
    have e3 : Int32.ofNat (64 * p + 4 * i) + 3 = Int32.ofNat (64 * p + 4 * i + 3) := jo_add (a := 64 * p + 4 * i) (b := 3)
    have ek : Int32.ofNat (64 * p + 4 * i) + Int32.ofNat k = Int32.ofNat (64 * p + 4 * i + k) := jo_add
    have e_k : Int32.ofNat k + 1 = Int32.ofNat (k + 1) := jo_add (a := k) (b := 1)
    rw [e3, ek, if_neg (by rw [show (4 : Int32) = Int32.ofNat 4 from rfl, jo_le (by omega) (by omega)]; omega), if_neg (by rw [show (16 : Int32) = Int32.ofNat 16 from rfl, jo_le (by omega) (by omega)]; omega), if_neg (by rw [jo_lt (by omega) (by omega)]; omega), z12_padded hl hlen hn (by omega) hk, jb_ok]
    dsimp only [jl]
    rw [e_k]
    exact ih (k + 1) m (by omega) (by omega)
/-- the row of words, word by word -/
theorem z12_358 {Q : Unit → jH → Prop} {k84 : Nat → Nat → Int32 → Int32 → Nat → Int32 → Int32 → Int32 → jH → Option (Unit × jH)} {a1 : Nat} {a2 a3 : Int32} {a4 : Nat} {a5 a6 : Int32} {i : Nat} {w : Int32} {H : jH} (hs : jsh H) (hi : i < 64)
    (hk : jT (k84 422 a1 a2 a3 a4 a5 a6 (Int32.ofNat (i + 1)) (jsI H 423 i w)) Q) :
    jT (B_12_wide_358 k84 422 a1 a2 a3 a4 a5 a6 (Int32.ofNat i) 423 (Int32.ofNat i) w H) Q := by
  unfold B_12_wide_358
  have e_i : Int32.ofNat i + 1 = Int32.ofNat (i + 1) := jo_add (a := i) (b := 1)
  rw [sK_423 hs, jo_nat (n := i) (by omega), e_i]
  repeat (first | (with_reducible refine jT_g ?_ ?_; · first | exact rfl | exact trivial | exact ⟨trivial, jo_in (by omega) (by omega)⟩ | exact ⟨trivial, by unfold jF0; omega, jo_in (by omega) (by omega)⟩ | exact ⟨rfl, jo_in (by omega) (by omega)⟩ | exact ⟨rfl, by unfold jF0; omega, jo_in (by omega) (by omega)⟩ | decide) | with_reducible refine jT_l ?_)
  exact hk
theorem z12_231a {Q : Unit → jH → Prop} {k84 : Nat → Nat → Int32 → Int32 → Nat → Int32 → Int32 → Int32 → jH → Option (Unit × jH)} {a1 : Nat} {a2 a3 : Int32} {a4 : Nat} {a5 a6 : Int32} {i : Nat} {w : Int32} {H : jH} (hs : jsh H) (hi : i < 16)
    (hk : jT (k84 422 a1 a2 a3 a4 a5 a6 (Int32.ofNat (i + 1)) (jsI H 423 i w)) Q) :
    jT (B_12_wide_231 k84 422 a1 a2 a3 a4 a5 a6 (Int32.ofNat i) w H) Q := by
  unfold B_12_wide_231
  rw [sR_422_0 hs, sK_422 hs]
  refine jT_g rfl (jT_neg (by rw [show (16 : Int32) = Int32.ofNat 16 from rfl, jo_le (by omega) (by omega)]; omega) ?_)
  exact z12_358 hs (by omega) hk
theorem z12_231b {Q : Unit → jH → Prop} {k84 : Nat → Nat → Int32 → Int32 → Nat → Int32 → Int32 → Int32 → jH → Option (Unit × jH)} {a1 : Nat} {a2 a3 : Int32} {a4 : Nat} {a5 a6 w : Int32} {i : Nat} {M : Nat → Int32} {H : jH} (hs : jsh H) (hi : 16 ≤ i) (hi2 : i < 64) (hw : ∀ j, j < i → jI H 423 j = zW M j)
    (hk : jT (k84 422 a1 a2 a3 a4 a5 a6 (Int32.ofNat (i + 1)) (jsI H 423 i (zW M i))) Q) :
    jT (B_12_wide_231 k84 422 a1 a2 a3 a4 a5 a6 (Int32.ofNat i) w H) Q := by
  unfold B_12_wide_231
  have e15 : Int32.ofNat i - 15 = Int32.ofNat (i - 15) := jo_sub (a := i) (b := 15) (by omega)
  have e2 : Int32.ofNat i - 2 = Int32.ofNat (i - 2) := jo_sub (a := i) (b := 2) (by omega)
  have e16 : Int32.ofNat i - 16 = Int32.ofNat (i - 16) := jo_sub (a := i) (b := 16) (by omega)
  have e7 : Int32.ofNat i - 7 = Int32.ofNat (i - 7) := jo_sub (a := i) (b := 7) (by omega)
  simp only [z12_right, jb_ok, sR_422_0 hs, sK_422 hs, sK_423 hs, e15, e2, e16, e7, jo_nat (n := i - 15) (by omega), jo_nat (n := i - 2) (by omega), jo_nat (n := i - 16) (by omega), jo_nat (n := i - 7) (by omega), hw (i - 15) (by omega), hw (i - 2) (by omega), hw (i - 16) (by omega), hw (i - 7) (by omega)]
  refine jT_g (by first | exact rfl | exact trivial | exact ⟨trivial, jo_in (by omega) (by omega)⟩ | exact ⟨trivial, by unfold jF0; omega, jo_in (by omega) (by omega)⟩ | exact ⟨rfl, jo_in (by omega) (by omega)⟩ | exact ⟨rfl, by unfold jF0; omega, jo_in (by omega) (by omega)⟩ | decide) (jT_pos (by rw [show (16 : Int32) = Int32.ofNat 16 from rfl, jo_le (by omega) (by omega)]; omega) ?_)
  repeat (first | (with_reducible refine jT_g ?_ ?_; · first | exact rfl | exact trivial | exact ⟨trivial, jo_in (by omega) (by omega)⟩ | exact ⟨trivial, by unfold jF0; omega, jo_in (by omega) (by omega)⟩ | exact ⟨rfl, jo_in (by omega) (by omega)⟩ | exact ⟨rfl, by unfold jF0; omega, jo_in (by omega) (by omega)⟩ | decide) | with_reducible refine jT_l ?_)
  refine z12_358 hs hi2 ?_
  have e : zW M i = ((zR (zW M (i - 2)) 17 ^^^ zR (zW M (i - 2)) 19) ^^^ jushr (zW M (i - 2)) 10) + zW M (i - 7) + (zR (zW M (i - 15)) 7 ^^^ zR (zW M (i - 15)) 18 ^^^ jushr (zW M (i - 15)) 3) + zW M (i - 16) := by
    conv => lhs; unfold zW
    rw [if_neg (by omega)]
    show (zW M (i - 16) + zW M (i - 7)) + ((zR (zW M (i - 15)) 7 ^^^ zR (zW M (i - 15)) 18) ^^^ jushr (zW M (i - 15)) 3) + ((zR (zW M (i - 2)) 17 ^^^ zR (zW M (i - 2)) 19) ^^^ jushr (zW M (i - 2)) 10) = _
    ac_rfl
  rw [e] at hk
  exact hk
