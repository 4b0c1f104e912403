/-! Bits that must be: as a function; the reference. -/
def b_nbf : Nat → Nat → Nat
  | 0, _ => 0
  | f + 1, n => if n = 0 then 0 else b_nbf f (n / 256) + 1
theorem b_nbf_ok : ∀ {f n : Nat}, n < 256 ^ f → b_isn n (b_nbf f n)
  | 0, n, h => ⟨h, Or.inl rfl⟩
  | f + 1, n, h => by
    unfold b_nbf
    by_cases c : n = 0
    · rw [if_pos c, c]
      exact ⟨Nat.one_pos, Or.inl rfl⟩
    · rw [if_neg c]
      have hd : n / 256 < 256 ^ f := by
        rw [Nat.pow_succ] at h
        exact Nat.div_lt_of_lt_mul (by rw [Nat.mul_comm]; exact h)
      obtain ⟨h1, h2⟩ := b_nbf_ok hd
      generalize b_nbf f (n / 256) = s at h1 h2
      refine ⟨?_, Or.inr ?_⟩
      · rw [Nat.pow_succ]
        generalize 256 ^ s = z at h1
        omega
      · rw [Nat.add_sub_cancel]
        rcases h2 with e | e
        · rw [e, Nat.pow_zero]
          omega
        · cases s with
          | zero =>
            rw [Nat.pow_zero]
            omega
          | succ t =>
            rw [Nat.add_sub_cancel] at e
            rw [Nat.pow_succ]
            generalize 256 ^ t = z at e
            omega
/-- the compact form -/
def b_cp (n : Nat) : Nat := b_cps n (b_nbf 40 n)
def b_lim : Nat := b_tg 545259519

theorem b_lim_lt : b_lim < 256 ^ 32 ∧ b_lim < 2 ^ 255 ∧ b_lim = 8388607 * 256 ^ 29 ∧ 2 ^ 254 ≤ b_lim := by
  unfold b_lim b_tg b_ma b_sz
  decide +kernel
theorem b_bits_sm {s m : Nat} (hm : m < 8388608) : b_sz (s * 16777216 + m) = s ∧ b_ma (s * 16777216 + m) = m ∧ (s * 16777216 + m) / 8388608 % 2 = 0 := by
  unfold b_sz b_ma
  omega
theorem b_l29 {z m n y : Nat} (hz : 0 < z) (h : z * m + y = n) (hm : 8388608 ≤ m) (hn : n ≤ 8388607 * z) : False := by
  have : 8388608 * z ≤ m * z := Nat.mul_le_mul_right _ hm
  rw [Nat.mul_comm z m] at h
  omega
/-- what becomes of the compact form -/
theorem b_cp_ok {n : Nat} (h3 : 256 ^ 3 ≤ n) (hl : n ≤ b_lim) : b_bits (b_cp n) ∧ b_tg (b_cp n) ≤ n ∧ n < 2 * b_tg (b_cp n) ∧ 3 ≤ b_nbf 40 n ∧ b_isn n (b_nbf 40 n) := by
  obtain ⟨l1, l2, l3, l4⟩ := b_lim_lt
  have h40 : n < 256 ^ 40 := Nat.lt_of_le_of_lt hl (Nat.lt_of_lt_of_le l1 (Nat.pow_le_pow_right (by decide) (by decide)))
  have hn := b_nbf_ok h40
  unfold b_cp b_cps
  generalize b_nbf 40 n = s at hn
  have hs4 : 4 ≤ s := by
    rcases Nat.lt_or_ge s 4 with c | c
    · have := Nat.pow_le_pow_right (show 0 < 256 by decide) (show s ≤ 3 by omega)
      have := hn.1
      omega
    · exact c
  have hs32 : s ≤ 32 := by
    rcases hn.2 with e | e
    · omega
    · rcases Nat.lt_or_ge 32 s with c | c
      · have := Nat.pow_le_pow_right (show 0 < 256 by decide) (show 32 ≤ s - 1 by omega)
        generalize 256 ^ 32 = z at l1 this
        omega
      · exact c
  have hlo : 256 ^ (s - 1) ≤ n := by
    rcases hn.2 with e | e
    · omega
    · exact e
  have e1 : 256 ^ (s - 1) = 65536 * 256 ^ (s - 3) := by
    rw [show s - 1 = 2 + (s - 3) by omega, Nat.pow_add]
  have e2 : 256 ^ s = 16777216 * 256 ^ (s - 3) := by
    have : 256 ^ s = 256 ^ (3 + (s - 3)) := by congr 1; omega
    rw [this, Nat.pow_add]
  have hup := hn.1
  rw [e1] at hlo
  rw [e2] at hup
  have pz : 0 < 256 ^ (s - 3) := Nat.pow_pos (by decide)
  have dm := Nat.div_add_mod n (256 ^ (s - 3))
  have ml := Nat.mod_lt n pz
  have m1 : 65536 ≤ n / 256 ^ (s - 3) := (Nat.le_div_iff_mul_le pz).mpr hlo
  have m2 : n / 256 ^ (s - 3) < 16777216 := (Nat.div_lt_iff_lt_mul pz).mpr hup
  obtain ⟨m, hm⟩ : ∃ m, m = n / 256 ^ (s - 3) := ⟨_, rfl⟩
  rw [← hm] at dm m1 m2 ⊢
  by_cases c : m < 8388608
  · rw [if_pos c]
    obtain ⟨q1, q2, q3⟩ := b_bits_sm (s := s) c
    have et : b_tg (s * 16777216 + m) = m * 256 ^ (s - 3) := by
      unfold b_tg
      rw [q1, q2]
    refine ⟨⟨by rw [q1]; omega, by rw [q1]; exact hs32, q3, by rw [q2]; omega⟩, ?_, ?_, by omega, hn⟩
    · rw [et, Nat.mul_comm]
      omega
    · rw [et]
      have : 65536 * 256 ^ (s - 3) ≤ m * 256 ^ (s - 3) := Nat.mul_le_mul_right _ m1
      rw [Nat.mul_comm (256 ^ (s - 3)) m] at dm
      generalize 256 ^ (s - 3) = z at *
      omega
  · rw [if_neg c]
    have hs31 : s ≤ 31 := by
      rcases Nat.lt_or_ge 31 s with c31 | c31
      · have es : s = 32 := by omega
        subst es
        rw [l3] at hl
        exact (b_l29 (Nat.pow_pos (by decide)) dm (by omega) hl).elim
      · exact c31
    have hmd : m / 256 < 8388608 := by omega
    obtain ⟨q1, q2, q3⟩ := b_bits_sm (s := s + 1) hmd
    have et : b_tg ((s + 1) * 16777216 + m / 256) = m / 256 * 256 * 256 ^ (s - 3) := by
      unfold b_tg
      rw [q1, q2, show s + 1 - 3 = 1 + (s - 3) by omega, Nat.pow_add, ← Nat.mul_assoc, Nat.pow_one]
    have dm2 := Nat.div_add_mod m 256
    have ml2 := Nat.mod_lt m (show 0 < 256 by decide)
    refine ⟨⟨by rw [q1]; omega, by rw [q1]; omega, q3, by rw [q2]; omega⟩, ?_, ?_, by omega, hn⟩
    · rw [et]
      have : m / 256 * 256 * 256 ^ (s - 3) ≤ m * 256 ^ (s - 3) := Nat.mul_le_mul_right _ (by omega)
      rw [Nat.mul_comm (256 ^ (s - 3)) m] at dm
      generalize n % 256 ^ (s - 3) = y at dm
      omega
    · rw [et]
      have h5 : (m + 1) * 256 ^ (s - 3) ≤ 2 * (m / 256 * 256) * 256 ^ (s - 3) := Nat.mul_le_mul_right _ (by omega)
      rw [Nat.add_mul, Nat.one_mul, Nat.mul_assoc] at h5
      rw [Nat.mul_comm (256 ^ (s - 3)) m] at dm
      generalize n % 256 ^ (s - 3) = y at dm ml
      omega
/-- how long eight blocks took, as it counts -/
def b_clt (a b : Nat) : Nat := if a < b + 1200 then 1200 else if b + 19200 < a then 19200 else a - b
theorem b_clt_le {a b : Nat} : 1200 ≤ b_clt a b ∧ b_clt a b ≤ 19200 := by
  unfold b_clt
  split
  · omega
  · split <;> omega
def b_rtg (n t : Nat) : Nat := if b_lim < n * t / 4800 then b_lim else n * t / 4800
/-- the bits that a child must have -/
def b_mst (bs : List b_k) (p : Nat) : Nat :=
  if (b_ht bs p + 1) % 8 = 0 then b_cp (b_rtg (b_tg (b_bi bs p)) (b_clt (b_ti bs p) (b_ti bs (b_at bs p (b_ht bs p - 7))))) else b_bi bs p
/-- what holds of bits and times of known blocks -/
def b_bk1 (bs : List b_k) (h n t : Nat) : Prop := b_bits n ∧ b_tg n ≤ b_lim ∧ 2 ^ 254 ≤ b_tg n * 16 ^ (h / 8) ∧ t < 4294967296
def b_bok (bs : List b_k) : Prop := ∀ k, k < bs.length → b_bk1 bs (b_ht bs k) (b_bi bs k) (b_ti bs k)
theorem b_tg_lo {n h : Nat} (hh : h < 300) (h2 : 2 ^ 254 ≤ b_tg n * 16 ^ (h / 8)) : 2 ^ 106 ≤ b_tg n := by
  have h1 : 16 ^ (h / 8) ≤ 16 ^ 37 := Nat.pow_le_pow_right (by decide) (by omega)
  have h3 : b_tg n * 16 ^ (h / 8) ≤ b_tg n * 16 ^ 37 := Nat.mul_le_mul_left _ h1
  have e : (2 : Nat) ^ 254 = 2 ^ 106 * 16 ^ 37 := by decide +kernel
  have h4 : 2 ^ 106 * 16 ^ 37 ≤ b_tg n * 16 ^ 37 := by rw [← e]; exact Nat.le_trans h2 h3
  exact Nat.le_of_mul_le_mul_right h4 (Nat.pow_pos (by decide))
theorem b_rtg_ok {n t : Nat} (hn : 2 ^ 106 ≤ n) (ht : 1200 ≤ t) : n / 4 ≤ b_rtg n t ∨ b_rtg n t = b_lim := by
  unfold b_rtg
  split
  · exact Or.inr rfl
  · refine Or.inl ?_
    have h1 : n * 1200 ≤ n * t := Nat.mul_le_mul_left _ ht
    generalize n * t = x at h1
    omega
theorem b_mst_ok {bs : List b_k} (hw : b_wf bs) (hb : b_bok bs) {p t : Nat} (hp : p < bs.length) (hp3 : b_ht bs p < 300) (ht : t < 4294967296) : b_bk1 bs (b_ht bs p + 1) (b_mst bs p) t := by
  obtain ⟨q1, q2, q3, q4⟩ := hb p hp
  have lo := b_tg_lo (show b_ht bs p < 300 by omega) q3
  obtain ⟨l1, l2, l3, l4⟩ := b_lim_lt
  unfold b_mst
  by_cases c : (b_ht bs p + 1) % 8 = 0
  · rw [if_pos c]
    obtain ⟨t1, t2⟩ := b_clt_le (a := b_ti bs p) (b := b_ti bs (b_at bs p (b_ht bs p - 7)))
    generalize b_clt (b_ti bs p) (b_ti bs (b_at bs p (b_ht bs p - 7))) = tt at t1 t2
    have hr := b_rtg_ok (n := b_tg (b_bi bs p)) lo t1
    have hle : b_rtg (b_tg (b_bi bs p)) tt ≤ b_lim := by
      unfold b_rtg
      split <;> omega
    have p1 : (256 : Nat) ^ 3 * 16 ≤ 2 ^ 106 := by decide +kernel
    have p2 : (2 : Nat) ^ 106 ≤ 2 ^ 254 := by decide +kernel
    have h3 : 256 ^ 3 ≤ b_rtg (b_tg (b_bi bs p)) tt := by
      rcases hr with e | e
      · generalize 2 ^ 106 = z at lo p1
        omega
      · rw [e]
        generalize 2 ^ 106 = z at p1 p2
        generalize 2 ^ 254 = y at p2 l4
        omega
    obtain ⟨c1, c2, c3, -, -⟩ := b_cp_ok h3 hle
    refine ⟨c1, by omega, ?_, ht⟩
    have e8 : (b_ht bs p + 1) / 8 = b_ht bs p / 8 + 1 := by omega
    have e16 : (16 : Nat) ^ (b_ht bs p / 8 + 1) = 16 * 16 ^ (b_ht bs p / 8) := by rw [Nat.pow_succ, Nat.mul_comm]
    rw [e8, e16, ← Nat.mul_assoc]
    have h5 : b_tg (b_bi bs p) ≤ b_tg (b_cp (b_rtg (b_tg (b_bi bs p)) tt)) * 16 := by
      rcases hr with e | e
      · generalize 2 ^ 106 = z at lo p1
        omega
      · rw [e] at c3 ⊢
        omega
    exact Nat.le_trans q3 (Nat.mul_le_mul_right _ h5)
  · rw [if_neg c]
    have e8 : (b_ht bs p + 1) / 8 = b_ht bs p / 8 := by omega
    exact ⟨q1, q2, by rw [e8]; exact q3, ht⟩
theorem lo_subZ {a b : Nat} (ha : a < 4294967296) (hb : b < 4294967296) : (Int64.ofNat a - Int64.ofNat b).toInt = (a : Int) - b := by
  rw [← Int64.ofInt_eq_ofNat, ← Int64.ofInt_eq_ofNat, ← Int64.ofInt_sub]
  exact Int64.toInt_ofInt_of_le (by omega) (by omega)
section MU16
variable {bs : List b_k} {H0 : jH} {Q : Int64 → jH → Prop}
theorem y16_must {p : Nat} (hw : b_wf bs) (hb : b_bok bs) (hs : jsh H0) (hT : b_T bs H0) (hp : p < bs.length) (hk : ∀ H', jsh H' → jfr b_Tq3 H0 H' → Q (Int64.ofNat (b_mst bs p)) H') : jT (F_16_must 445 (Int32.ofNat p) H0) Q := by
  have l300 := hw.2.1
  have hp3 := b_ht_300 hw hp
  obtain ⟨q1, q2, q3, q4⟩ := hb p hp
  have lo := b_tg_lo hp3 q3
  obtain ⟨l1, l2, l3, l4⟩ := b_lim_lt
  have k16 : ∀ {H}, jsh H → (jK H 445).1 = 16 := fun hs => gT (sK_445 hs)
  have e7 : jI H0 447 p = Int32.ofNat (b_ht bs p) := (hT.2 p hp).2.1
  have g : jin (Int32.ofNat p) 300 := jo_in (by omega) (by omega)
  have shq : ∀ {H H'}, jsh H → jfr b_Tq3 H H' → jsh H' := fun hs hf => jsh_fr hs hf (by
    have : ∀ q ∈ jRs, q.1 ≠ 452 ∧ q.1 ≠ 453 ∧ q.1 ≠ 454 := by decide +kernel
    intro q hq w
    have := this q hq
    unfold b_Tq3 at w
    omega) fun a ha j w => by unfold b_Tq3 at w; omega
  -- from the time on
  have rest : ∀ t : Nat, 1200 ≤ t → t ≤ 19200 → (b_ht bs p + 1) % 8 = 0 → b_mst bs p = b_cp (b_rtg (b_tg (b_bi bs p)) t) → jT (B_16_must_89 445 (Int32.ofNat p) (Int64.ofNat t) H0) Q := by
    intro t t1 t2 c em
    have hx : b_tg (b_bi bs p) * t < 2 ^ 270 := by
      have h1 : b_tg (b_bi bs p) * t ≤ b_lim * 19200 := Nat.mul_le_mul q2 t2
      have h2 : b_lim * 19200 < 2 ^ 270 := by
        rw [l3]
        decide +kernel
      exact Nat.lt_of_le_of_lt h1 h2
    have hx40 : b_tg (b_bi bs p) * t < 256 ^ 40 := Nat.lt_trans hx (by decide +kernel)
    unfold B_16_must_89
    rw [sR_445_5 hs, sR_445_8 hs, jo_nat (n := p) (by omega), (hT.2 p hp).2.2.2]
    refine jT_g (k16 hs) (jT_g (gA (sK_449 hs) g) (jT_g (k16 hs) (jT_b (y16_open rfl (Or.inl rfl) (zK16_s hs) (by have := q1.1; omega) (by have := q1.2.1; omega) fun H1 f1 r1 => ?_))))
    have f1' : jfr b_Tq3 H0 H1 := jfr_mono f1 fun a j w => Or.inl w
    have s1 := shq hs f1'
    refine jT_g (k16 s1) (jT_b (y16_scale (zK16_s s1) (by omega) r1 hx40 fun H2 f2 r2 => ?_))
    have f2' : jfr b_Tq3 H0 H2 := jfr_trans f1' (jfr_mono f2 fun a j w => Or.inl w)
    have s2 := shq hs f2'
    rw [sR_445_9 s2]
    refine jT_g (k16 s2) (jT_b (y16_open (n := 545259519) rfl (Or.inr (Or.inl rfl)) (zK16_s s2) (by decide) (by decide) fun H3 f3 r3 => ?_))
    have f3' : jfr b_Tq3 H0 H3 := jfr_trans f2' (jfr_mono f3 fun a j w => Or.inr (Or.inl w))
    have s3 := shq hs f3'
    have r2' : r40 H3 452 (b_tg (b_bi bs p) * t / 4800) := r40_fr r2 f3 fun j w => by unfold b_Ta at w; omega
    have r3' : r40 H3 453 b_lim := r3
    rw [sR_445_8 s3, sR_445_9 s3, y16_compareRows (sK_452 s3) (sK_453 s3) r2' r3', jb_ok]
    refine jT_g (k16 s3) (jT_g (k16 s3) ?_)
    have hfin := hk H3 s3 f3'
    have hle : b_rtg (b_tg (b_bi bs p)) t ≤ b_lim := by
      unfold b_rtg
      split <;> omega
    have p1 : (256 : Nat) ^ 3 * 16 ≤ 2 ^ 106 := by decide +kernel
    have p2 : (2 : Nat) ^ 106 ≤ 2 ^ 254 := by decide +kernel
    have h3 : 256 ^ 3 ≤ b_rtg (b_tg (b_bi bs p)) t := by
      rcases b_rtg_ok lo t1 with e | e
      · generalize 2 ^ 106 = z at lo p1
        omega
      · rw [e]
        generalize 2 ^ 106 = z at p1 p2
        generalize 2 ^ 254 = y at p2 l4
        omega
    obtain ⟨-, -, -, c4, c5⟩ := b_cp_ok h3 hle
    rw [em] at hfin
    unfold b_cp at hfin
    unfold b_cmp B_16_must_152
    unfold b_rtg at hfin c4 c5
    by_cases cl : b_lim < b_tg (b_bi bs p) * t / 4800
    · rw [if_pos cl] at hfin c4 c5
      rw [if_neg (Nat.lt_asymm cl), if_pos cl, sR_445_9 s3, y16_compactOf (sK_453 s3) r3' c5 c4, jb_ok]
      exact jT_neg (by decide) (jT_g (k16 s3) (jT_ret hfin))
    · rw [if_neg cl] at hfin c4 c5
      rw [if_neg cl, sR_445_8 s3, y16_compactOf (sK_452 s3) r2' c5 c4, jb_ok]
      exact jT_pos (by split <;> decide) (jT_g (k16 s3) (jT_ret hfin))
  unfold F_16_must
  have e1 : Int32.ofNat (b_ht bs p) + 1 = Int32.ofNat (b_ht bs p + 1) := jo_add (a := b_ht bs p) (b := 1)
  have em8 : jrem (Int32.ofNat (b_ht bs p + 1)) 8 = Int32.ofNat ((b_ht bs p + 1) % 8) := jo_rem (b := 8) (by omega) (by decide)
  rw [b_isBlk hw hs hT hp, jb_ok, sR_445_3 hs, sR_445_4 hs, sR_445_5 hs, jo_nat (n := p) (by omega), e7, e1, em8]
  refine jT_g (k16 hs) (jT_pos (by decide) (jT_g (k16 hs) (jT_g (gA (sK_447 hs) g) (jT_g (by decide) ?_))))
  by_cases c : (b_ht bs p + 1) % 8 = 0
  · have em : b_mst bs p = b_cp (b_rtg (b_tg (b_bi bs p)) (b_clt (b_ti bs p) (b_ti bs (b_at bs p (b_ht bs p - 7))))) := if_pos c
    have esub : Int32.ofNat (b_ht bs p) - 7 = Int32.ofNat (b_ht bs p - 7) := jo_sub (b := 7) (by omega)
    obtain ⟨z1, z2, z3⟩ := b_at_ok hw hp (show b_ht bs p - 7 ≤ b_ht bs p by omega)
    rw [esub, b_below hw hs hT hp (by omega), jb_ok, jo_nat (n := b_at bs p (b_ht bs p - 7)) (by omega), (hT.2 p hp).2.2.1, (hT.2 _ z3).2.2.1]
    refine jT_pos (by rw [c]; rfl) (jT_g (k16 hs) (jT_g (gA (sK_448 hs) g) (jT_g (k16 hs) (jT_g (k16 hs) (jT_g (gA (sK_447 hs) g) (jT_g (k16 hs) (jT_g (gA (sK_448 hs) (jo_in (by omega) (by show _ < 300; omega))) (jT_l ?_))))))))
    have y4 := (hb _ z3).2.2.2
    obtain ⟨t1, t2⟩ := b_clt_le (a := b_ti bs p) (b := b_ti bs (b_at bs p (b_ht bs p - 7)))
    have rs := rest _ t1 t2 c em
    generalize b_ti bs (b_at bs p (b_ht bs p - 7)) = y at y4 rs t1 t2
    generalize b_ti bs p = x at q4 rs t1 t2
    have hsub := lo_subZ q4 y4
    have i1 : ((1200 : Int64) ≤ Int64.ofNat x - Int64.ofNat y) ↔ ¬ x < y + 1200 := by
      rw [Int64.le_iff_toInt_le, hsub, show (1200 : Int64).toInt = 1200 from rfl]
      omega
    have i2 : (Int64.ofNat x - Int64.ofNat y ≤ (19200 : Int64)) ↔ ¬ y + 19200 < x := by
      rw [Int64.le_iff_toInt_le, hsub, show (19200 : Int64).toInt = 19200 from rfl]
      omega
    unfold b_clt at rs
    by_cases c1 : x < y + 1200
    · rw [if_pos c1] at rs
      exact jT_neg (fun w => (i1.mp w) c1) rs
    · rw [if_neg c1] at rs
      refine jT_pos (i1.mpr c1) ?_
      by_cases c2 : y + 19200 < x
      · rw [if_pos c2] at rs
        exact jT_neg (fun w => (i2.mp w) c2) rs
      · rw [if_neg c2] at rs
        rw [lo_sub (by omega)] at i2 ⊢
        exact jT_pos (i2.mpr c2) rs
  · have em : b_mst bs p = b_bi bs p := if_neg c
    have hfin := hk H0 hs jfr_refl
    rw [em] at hfin
    refine jT_neg (fun w => c ((jo_eq (b := 0) (by omega) (by decide)).mp w)) (jT_g (k16 hs) (jT_g (gA (sK_449 hs) g) ?_))
    rw [(hT.2 p hp).2.2.2]
    exact jT_ret hfin
end MU16
