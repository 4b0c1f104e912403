/-! Rows of words of 32 bits. -/
theorem lw_u (x : Int32) : Int32.toInt64 x &&& 4294967295 = Int64.ofNat x.toBitVec.toNat := by
  refine Int64.toBitVec_inj.mp ?_
  rw [Int64.toBitVec_and]
  refine BitVec.eq_of_getLsbD_eq fun k hk => ?_
  have e0 : (Int32.toInt64 x).toBitVec = x.toBitVec.signExtend 64 := rfl
  have e1 : (Int64.ofNat x.toBitVec.toNat).toBitVec = BitVec.ofNat 64 x.toBitVec.toNat := rfl
  rw [BitVec.getLsbD_and, e0, e1, BitVec.getLsbD_ofNat, BitVec.getLsbD_signExtend]
  by_cases h : k < 32
  · have : (Int64.toBitVec 4294967295).getLsbD k = true := by
      have : ∀ k, k < 32 → (Int64.toBitVec 4294967295).getLsbD k = true := by decide
      exact this k h
    rw [this, if_pos h, Bool.and_true]
    simp [hk]
    rfl
  · have : (Int64.toBitVec 4294967295).getLsbD k = false := by
      have : ∀ k, k < 64 → ¬ k < 32 → (Int64.toBitVec 4294967295).getLsbD k = false := by decide
      exact this k hk h
    rw [this, Bool.and_false]
    have : x.toBitVec.toNat.testBit k = false := Nat.testBit_lt_two_pow (Nat.lt_of_lt_of_le x.toBitVec.isLt (Nat.pow_le_pow_right (by decide) (by omega)))
    rw [this, Bool.and_false]
theorem lw_of {m : Nat} (h : m < 4294967296) : Int32.toInt64 (Int32.ofNat m) &&& 4294967295 = Int64.ofNat m := by
  rw [lw_u]
  have : (Int32.ofNat m).toBitVec.toNat = m := by
    show (BitVec.ofNat 32 m).toNat = m
    rw [BitVec.toNat_ofNat]
    exact Nat.mod_eq_of_lt h
  rw [this]
theorem lw_ushr {m k : Nat} (h : m < 18446744073709551616) (hk : k < 64) : jushrL (Int64.ofNat m) (Int32.ofNat k) = Int64.ofNat (m / 2 ^ k) := by
  have hc : ∀ k, k < 64 → ((Int32.ofNat k).toInt64.toUInt64 &&& Int64.toUInt64 63) = UInt64.ofNat k := by decide
  unfold jushrL
  rw [hc k hk]
  refine Int64.toBitVec_inj.mp ?_
  show ((Int64.ofNat m).toUInt64 >>> UInt64.ofNat k).toBitVec = BitVec.ofNat 64 (m / 2 ^ k)
  rw [UInt64.toBitVec_shiftRight]
  refine BitVec.eq_of_toNat_eq ?_
  have e1 : (Int64.ofNat m).toUInt64.toBitVec = BitVec.ofNat 64 m := rfl
  have e2 : (UInt64.ofNat k).toBitVec % 64 = BitVec.ofNat 64 k := by
    have : ∀ k, k < 64 → (UInt64.ofNat k).toBitVec % 64 = BitVec.ofNat 64 k := by decide
    exact this k hk
  rw [e1, e2, BitVec.ushiftRight_eq', BitVec.toNat_ushiftRight, BitVec.toNat_ofNat, BitVec.toNat_ofNat, BitVec.toNat_ofNat, Nat.mod_eq_of_lt (show k < 2 ^ 64 by omega), Nat.mod_eq_of_lt (show m < 2 ^ 64 from h), Nat.shiftRight_eq_div_pow]
  refine (Nat.mod_eq_of_lt ?_).symm
  exact Nat.lt_of_le_of_lt (Nat.div_le_self _ _) h
theorem lw_i32 (m : Nat) : Int64.toInt32 (Int64.ofNat m) = Int32.ofNat (m % 4294967296) := by
  refine Int32.toBitVec_inj.mp ?_
  show (BitVec.ofNat 64 m).signExtend 32 = BitVec.ofNat 32 (m % 4294967296)
  rw [BitVec.signExtend_eq_setWidth_of_le _ (by decide)]
  refine BitVec.eq_of_toNat_eq ?_
  rw [BitVec.toNat_setWidth, BitVec.toNat_ofNat, BitVec.toNat_ofNat]
  omega
theorem jw_eq {a b : Nat} (ha : a < 4294967296) (hb : b < 4294967296) : Int32.ofNat a = Int32.ofNat b ↔ a = b := by
  refine ⟨fun h => ?_, fun h => by rw [h]⟩
  have := congrArg (fun x => x.toBitVec.toNat) h
  have e : ∀ m, m < 4294967296 → (Int32.ofNat m).toBitVec.toNat = m := fun m hm => by
    show (BitVec.ofNat 32 m).toNat = m
    rw [BitVec.toNat_ofNat]
    exact Nat.mod_eq_of_lt hm
  rw [e a ha, e b hb] at this
  exact this
/-- sums by powers of b -/
def nv (b : Nat) (w : Nat → Nat) : Nat → Nat
  | 0 => 0
  | n + 1 => nv b w n + w n * b ^ n
theorem nv_lt {b : Nat} {w : Nat → Nat} : ∀ {n : Nat}, (∀ i, i < n → w i < b) → nv b w n < b ^ n
  | 0, _ => Nat.one_pos
  | n + 1, h => by
    have ih := nv_lt (n := n) fun i hi => h i (by omega)
    have h1 := h n (by omega)
    have h2 : w n * b ^ n ≤ (b - 1) * b ^ n := Nat.mul_le_mul_right _ (by omega)
    have h3 : (b - 1) * b ^ n + b ^ n = b ^ (n + 1) := by
      rw [Nat.pow_succ, Nat.mul_comm (b ^ n), ← Nat.succ_mul]
      congr 1
      omega
    show nv b w n + w n * b ^ n < _
    omega
theorem nv_ext {b : Nat} {w u : Nat → Nat} : ∀ {n : Nat}, (∀ i, i < n → w i = u i) → nv b w n = nv b u n
  | 0, _ => rfl
  | n + 1, h => by
    show nv b w n + w n * b ^ n = nv b u n + u n * b ^ n
    rw [nv_ext (n := n) fun i hi => h i (by omega), h n (by omega)]
/-- one word more is v -/
def nup (w : Nat → Nat) (i v : Nat) : Nat → Nat := fun j => if j = i then v else w j
theorem nv_up {b : Nat} {w : Nat → Nat} {i v : Nat} : ∀ {n : Nat}, i < n → nv b (nup w i v) n + w i * b ^ i = nv b w n + v * b ^ i
  | 0, h => absurd h (Nat.not_lt_zero i)
  | n + 1, h => by
    by_cases e : i = n
    · subst e
      have : nv b (nup w i v) i = nv b w i := nv_ext fun j hj => by
        unfold nup
        rw [if_neg (by omega)]
      show nv b (nup w i v) i + nup w i v i * b ^ i + w i * b ^ i = nv b w i + w i * b ^ i + v * b ^ i
      rw [this]
      unfold nup
      rw [if_pos rfl]
      omega
    · have ih := nv_up (b := b) (w := w) (i := i) (v := v) (n := n) (by omega)
      show nv b (nup w i v) n + nup w i v n * b ^ n + w i * b ^ i = nv b w n + w n * b ^ n + v * b ^ i
      have : nup w i v n = w n := by
        unfold nup
        rw [if_neg (fun q => e q.symm)]
      rw [this]
      omega
/-- cut in two -/
theorem nv_cut {b : Nat} {w : Nat → Nat} {m : Nat} : ∀ n, nv b w (m + n) = nv b w m + b ^ m * nv b (fun i => w (m + i)) n
  | 0 => by
    show nv b w m = nv b w m + b ^ m * 0
    omega
  | n + 1 => by
    show nv b w (m + n) + w (m + n) * b ^ (m + n) = nv b w m + b ^ m * (nv b (fun i => w (m + i)) n + w (m + n) * b ^ n)
    rw [nv_cut n, Nat.mul_add, Nat.pow_add, ← Nat.mul_assoc, ← Nat.mul_assoc, Nat.mul_comm (w (m + n)) (b ^ m)]
    omega
theorem nv_digit {b : Nat} {w : Nat → Nat} {n i : Nat} (h : ∀ i, i < n → w i < b) (hb : 0 < b) (hi : i < n) : nv b w n / b ^ i % b = w i := by
  obtain ⟨k, rfl⟩ : ∃ k, n = i + (k + 1) := ⟨n - i - 1, by omega⟩
  rw [nv_cut]
  have h1 : nv b w i < b ^ i := nv_lt fun j hj => h j (by omega)
  have h2 : nv b (fun j => w (i + j)) (k + 1) = w i + b * nv b (fun j => w (i + 1 + j)) k := by
    rw [Nat.add_comm k 1, nv_cut]
    show 0 + w (i + 0) * b ^ 0 + b ^ 1 * _ = _
    rw [Nat.pow_zero, Nat.pow_one, Nat.zero_add, Nat.mul_one]
    congr 2
    refine nv_ext fun j _ => ?_
    show w (i + (1 + j)) = w (i + 1 + j)
    congr 1
    omega
  rw [Nat.add_mul_div_left _ _ (Nat.pow_pos hb), Nat.div_eq_of_lt h1, Nat.zero_add, h2, Nat.add_mul_mod_self_left]
  exact Nat.mod_eq_of_lt (h i hi)
def b32 : Nat := 4294967296
/-- the row r holds m words -/
def zw8 (H : jH) (r m : Nat) (w : Nat → Nat) : Prop := ∀ i, i < m → jI H r i = Int32.ofNat (w i) ∧ w i < 4294967296
