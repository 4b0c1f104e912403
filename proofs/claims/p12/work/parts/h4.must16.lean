/-! Bits that must be: as a function; the reference. -/
def b_nbf : Nat → Nat → Nat
  | 0, _ => 0
  | f + 1, n => if n = 0 then 0 else b_nbf f (n / 256) + 1
theorem b_nbf_ok : ∀ {f n : Nat}, n < 256 ^ f → b_isn n (b_nbf f n)
  | 0, n, h => ⟨h, Or.inl rfl⟩
  | f + 1, n, h => by
    unfold b_nbf
    by_cases c : n = 0
    · rw [if_pos c, c]
      exact ⟨Nat.one_pos, Or.inl rfl⟩
    · rw [if_neg c]
      have hd : n / 256 < 256 ^ f := by
        rw [Nat.pow_succ] at h
        exact Nat.div_lt_of_lt_mul (by rw [Nat.mul_comm]; exact h)
      obtain ⟨h1, h2⟩ := b_nbf_ok hd
      generalize b_nbf f (n / 256) = s at h1 h2
      refine ⟨?_, Or.inr ?_⟩
      · rw [Nat.pow_succ]
        generalize 256 ^ s = z at h1
        omega
      · rw [Nat.add_sub_cancel]
        rcases h2 with e | e
        · rw [e, Nat.pow_zero]
          omega
        · cases s with
          | zero =>
            rw [Nat.pow_zero]
            omega
          | succ t =>
            rw [Nat.add_sub_cancel] at e
            rw [Nat.pow_succ]
            generalize 256 ^ t = z at e
            omega
/-- the compact form -/
def b_cp (n : Nat) : Nat := b_cps n (b_nbf 40 n)
def b_lim : Nat := b_tg 545259519
theorem b_lim_lt : b_lim < 256 ^ 32 ∧ b_lim < 2 ^ 255 ∧ b_lim = 8388607 * 256 ^ 29 ∧ 2 ^ 254 ≤ b_lim := by
  unfold b_lim b_tg b_ma b_sz
  decide +kernel
theorem b_bits_sm {s m : Nat} (hm : m < 8388608) : b_sz (s * 16777216 + m) = s ∧ b_ma (s * 16777216 + m) = m ∧ (s * 16777216 + m) / 8388608 % 2 = 0 := by
  unfold b_sz b_ma
  omega
theorem b_l29 {z m n y : Nat} (hz : 0 < z) (h : z * m + y = n) (hm : 8388608 ≤ m) (hn : n ≤ 8388607 * z) : False := by
  have : 8388608 * z ≤ m * z := Nat.mul_le_mul_right _ hm
  rw [Nat.mul_comm z m] at h
  omega
/-- what becomes of the compact form -/
theorem b_cp_ok {n : Nat} (h3 : 256 ^ 3 ≤ n) (hl : n ≤ b_lim) : b_bits (b_cp n) ∧ b_tg (b_cp n) ≤ n ∧ n < 2 * b_tg (b_cp n) ∧ 3 ≤ b_nbf 40 n ∧ b_isn n (b_nbf 40 n) := by
  obtain ⟨l1, l2, l3, l4⟩ := b_lim_lt
  have h40 : n < 256 ^ 40 := Nat.lt_of_le_of_lt hl (Nat.lt_of_lt_of_le l1 (Nat.pow_le_pow_right (by decide) (by decide)))
  have hn := b_nbf_ok h40
  unfold b_cp b_cps
  generalize b_nbf 40 n = s at hn
  have hs4 : 4 ≤ s := by
    rcases Nat.lt_or_ge s 4 with c | c
    · have := Nat.pow_le_pow_right (show 0 < 256 by decide) (show s ≤ 3 by omega)
      have := hn.1
      omega
    · exact c
  have hs32 : s ≤ 32 := by
    rcases hn.2 with e | e
    · omega
    · rcases Nat.lt_or_ge 32 s with c | c
      · have := Nat.pow_le_pow_right (show 0 < 256 by decide) (show 32 ≤ s - 1 by omega)
        generalize 256 ^ 32 = z at l1 this
        omega
      · exact c
  have hlo : 256 ^ (s - 1) ≤ n := by
    rcases hn.2 with e | e
    · omega
    · exact e
  have e1 : 256 ^ (s - 1) = 65536 * 256 ^ (s - 3) := by
    rw [show s - 1 = 2 + (s - 3) by omega, Nat.pow_add]
  have e2 : 256 ^ s = 16777216 * 256 ^ (s - 3) := by
    have : 256 ^ s = 256 ^ (3 + (s - 3)) := by congr 1; omega
    rw [this, Nat.pow_add]
  have hup := hn.1
  rw [e1] at hlo
  rw [e2] at hup
  have pz : 0 < 256 ^ (s - 3) := Nat.pow_pos (by decide)
  have dm := Nat.div_add_mod n (256 ^ (s - 3))
  have ml := Nat.mod_lt n pz
  have m1 : 65536 ≤ n / 256 ^ (s - 3) := (Nat.le_div_iff_mul_le pz).mpr hlo
  have m2 : n / 256 ^ (s - 3) < 16777216 := (Nat.div_lt_iff_lt_mul pz).mpr hup
  obtain ⟨m, hm⟩ : ∃ m, m = n / 256 ^ (s - 3) := ⟨_, rfl⟩
  rw [← hm] at dm m1 m2 ⊢
  by_cases c : m < 8388608
  · rw [if_pos c]
    obtain ⟨q1, q2, q3⟩ := b_bits_sm (s := s) c
    have et : b_tg (s * 16777216 + m) = m * 256 ^ (s - 3) := by
      unfold b_tg
      rw [q1, q2]
    refine ⟨⟨by rw [q1]; omega, by rw [q1]; exact hs32, q3, by rw [q2]; omega⟩, ?_, ?_, by omega, hn⟩
    · rw [et, Nat.mul_comm]
      omega
    · rw [et]
      have : 65536 * 256 ^ (s - 3) ≤ m * 256 ^ (s - 3) := Nat.mul_le_mul_right _ m1
      rw [Nat.mul_comm (256 ^ (s - 3)) m] at dm
      generalize 256 ^ (s - 3) = z at *
      omega
  · rw [if_neg c]
    have hs31 : s ≤ 31 := by
      rcases Nat.lt_or_ge 31 s with c31 | c31
      · have es : s = 32 := by omega
        subst es
        rw [l3] at hl
        exact (b_l29 (Nat.pow_pos (by decide)) dm (by omega) hl).elim
      · exact c31
    have hmd : m / 256 < 8388608 := by omega
    obtain ⟨q1, q2, q3⟩ := b_bits_sm (s := s + 1) hmd
    have et : b_tg ((s + 1) * 16777216 + m / 256) = m / 256 * 256 * 256 ^ (s - 3) := by
      unfold b_tg
      rw [q1, q2, show s + 1 - 3 = 1 + (s - 3) by omega, Nat.pow_add, ← Nat.mul_assoc, Nat.pow_one]
    have dm2 := Nat.div_add_mod m 256
    have ml2 := Nat.mod_lt m (show 0 < 256 by decide)
    refine ⟨⟨by rw [q1]; omega, by rw [q1]; omega, q3, by rw [q2]; omega⟩, ?_, ?_, by omega, hn⟩
    · rw [et]
      have : m / 256 * 256 * 256 ^ (s - 3) ≤ m * 256 ^ (s - 3) := Nat.mul_le_mul_right _ (by omega)
      rw [Nat.mul_comm (256 ^ (s - 3)) m] at dm
      generalize n % 256 ^ (s - 3) = y at dm
      omega
    · rw [et]
      have h5 : (m + 1) * 256 ^ (s - 3) ≤ 2 * (m / 256 * 256) * 256 ^ (s - 3) := Nat.mul_le_mul_right _ (by omega)
      rw [Nat.add_mul, Nat.one_mul, Nat.mul_assoc] at h5
      rw [Nat.mul_comm (256 ^ (s - 3)) m] at dm
      generalize n % 256 ^ (s - 3) = y at dm ml
      omega
/-- how long eight blocks took, as it counts -/
def b_clt (a b : Nat) : Nat := if a < b + 1200 then 1200 else if b + 19200 < a then 19200 else a - b
theorem b_clt_le {a b : Nat} : 1200 ≤ b_clt a b ∧ b_clt a b ≤ 19200 := by
  unfold b_clt
  split
  · omega
  · split <;> omega
def b_rtg (n t : Nat) : Nat := if b_lim < n * t / 4800 then b_lim else n * t / 4800
/-- the bits that a child must have -/
def b_mst (bs : List b_k) (p : Nat) : Nat :=
  if (b_ht bs p + 1) % 8 = 0 then b_cp (b_rtg (b_tg (b_bi bs p)) (b_clt (b_ti bs p) (b_ti bs (b_at bs p (b_ht bs p - 7))))) else b_bi bs p
/-- what holds of bits and times of known blocks -/
def b_bk1 (bs : List b_k) (h n t : Nat) : Prop := b_bits n ∧ b_tg n ≤ b_lim ∧ 2 ^ 254 ≤ b_tg n * 16 ^ (h / 8) ∧ t < 4294967296
def b_bok (bs : List b_k) : Prop := ∀ k, k < bs.length → b_bk1 bs (b_ht bs k) (b_bi bs k) (b_ti bs k)
theorem b_tg_lo {n h : Nat} (hh : h < 300) (h2 : 2 ^ 254 ≤ b_tg n * 16 ^ (h / 8)) : 2 ^ 106 ≤ b_tg n := by
  have h1 : 16 ^ (h / 8) ≤ 16 ^ 37 := Nat.pow_le_pow_right (by decide) (by omega)
  have h3 : b_tg n * 16 ^ (h / 8) ≤ b_tg n * 16 ^ 37 := Nat.mul_le_mul_left _ h1
  have e : (2 : Nat) ^ 254 = 2 ^ 106 * 16 ^ 37 := by decide +kernel
  have h4 : 2 ^ 106 * 16 ^ 37 ≤ b_tg n * 16 ^ 37 := by rw [← e]; exact Nat.le_trans h2 h3
  exact Nat.le_of_mul_le_mul_right h4 (Nat.pow_pos (by decide))
theorem b_rtg_ok {n t : Nat} (hn : 2 ^ 106 ≤ n) (ht : 1200 ≤ t) : n / 4 ≤ b_rtg n t ∨ b_rtg n t = b_lim := by
  unfold b_rtg
  split
  · exact Or.inr rfl
  · refine Or.inl ?_
    have h1 : n * 1200 ≤ n * t := Nat.mul_le_mul_left _ ht
    generalize n * t = x at h1
    omega
theorem b_mst_ok {bs : List b_k} (hw : b_wf bs) (hb : b_bok bs) {p t : Nat} (hp : p < bs.length) (hp3 : b_ht bs p < 300) (ht : t < 4294967296) : b_bk1 bs (b_ht bs p + 1) (b_mst bs p) t := by
  obtain ⟨q1, q2, q3, q4⟩ := hb p hp
  have lo := b_tg_lo (show b_ht bs p < 300 by omega) q3
  obtain ⟨l1, l2, l3, l4⟩ := b_lim_lt
  unfold b_mst
  by_cases c : (b_ht bs p + 1) % 8 = 0
  · rw [if_pos c]
    obtain ⟨t1, t2⟩ := b_clt_le (a := b_ti bs p) (b := b_ti bs (b_at bs p (b_ht bs p - 7)))
    generalize b_clt (b_ti bs p) (b_ti bs (b_at bs p (b_ht bs p - 7))) = tt at t1 t2
    have hr := b_rtg_ok (n := b_tg (b_bi bs p)) lo t1
    have hle : b_rtg (b_tg (b_bi bs p)) tt ≤ b_lim := by
      unfold b_rtg
      split <;> omega
    have p1 : (256 : Nat) ^ 3 * 16 ≤ 2 ^ 106 := by decide +kernel
    have p2 : (2 : Nat) ^ 106 ≤ 2 ^ 254 := by decide +kernel
    have h3 : 256 ^ 3 ≤ b_rtg (b_tg (b_bi bs p)) tt := by
      rcases hr with e | e
      · generalize 2 ^ 106 = z at lo p1
        omega
      · rw [e]
        generalize 2 ^ 106 = z at p1 p2
        generalize 2 ^ 254 = y at p2 l4
        omega
    obtain ⟨c1, c2, c3, -, -⟩ := b_cp_ok h3 hle
    refine ⟨c1, by omega, ?_, ht⟩
    have e8 : (b_ht bs p + 1) / 8 = b_ht bs p / 8 + 1 := by omega
    have e16 : (16 : Nat) ^ (b_ht bs p / 8 + 1) = 16 * 16 ^ (b_ht bs p / 8) := by rw [Nat.pow_succ, Nat.mul_comm]
    rw [e8, e16, ← Nat.mul_assoc]
    have h5 : b_tg (b_bi bs p) ≤ b_tg (b_cp (b_rtg (b_tg (b_bi bs p)) tt)) * 16 := by
      rcases hr with e | e
      · generalize 2 ^ 106 = z at lo p1
        omega
      · rw [e] at c3 ⊢
        omega
    exact Nat.le_trans q3 (Nat.mul_le_mul_right _ h5)
  · rw [if_neg c]
    have e8 : (b_ht bs p + 1) / 8 = b_ht bs p / 8 := by omega
    exact ⟨q1, q2, by rw [e8]; exact q3, ht⟩
theorem lo_subZ {a b : Nat} (ha : a < 4294967296) (hb : b < 4294967296) : (Int64.ofNat a - Int64.ofNat b).toInt = (a : Int) - b := by
  rw [← Int64.ofInt_eq_ofNat, ← Int64.ofInt_eq_ofNat, ← Int64.ofInt_sub]
  exact Int64.toInt_ofInt_of_le (by omega) (by omega)
