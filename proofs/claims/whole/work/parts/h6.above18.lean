/-! A name against a target: the reference. -/
theorem b_li {x : Nat} (hx : x < 18446744073709551616) : (Int64.ofNat x).toInt = if x < 9223372036854775808 then (x : Int) else (x : Int) - 18446744073709551616 := by
  by_cases c : x < 9223372036854775808
  · rw [if_pos c, Int64.toInt_ofNat_of_lt c]
  · rw [if_neg c]
    have e : (Int64.ofNat x).toInt = (BitVec.ofNat 64 x).toInt := rfl
    rw [e, BitVec.toInt_eq_toNat_cond, BitVec.toNat_ofNat, Nat.mod_eq_of_lt hx, if_neg (by omega)]
    rfl
theorem b_lx {x y : Nat} (hx : x < 18446744073709551616) (hy : y < 18446744073709551616) : (0 : Int64) ≤ Int64.ofNat x ^^^ Int64.ofNat y ↔ (x < 9223372036854775808 ↔ y < 9223372036854775808) := by
  have e : (Int64.ofNat x ^^^ Int64.ofNat y).toInt = (BitVec.ofNat 64 x ^^^ BitVec.ofNat 64 y).toInt := rfl
  have hm : ∀ z, z < 18446744073709551616 → ((BitVec.ofNat 64 z).msb = true ↔ ¬ z < 9223372036854775808) := fun z hz => by
    rw [BitVec.msb_eq_decide, BitVec.toNat_ofNat, Nat.mod_eq_of_lt hz, decide_eq_true_eq]
    show 9223372036854775808 ≤ z ↔ _
    omega
  have hn : ∀ b : BitVec 64, 0 ≤ b.toInt ↔ b.msb = false := fun b => by
    rw [BitVec.toInt_eq_msb_cond]
    have := b.isLt
    cases b.msb with
    | true =>
      rw [if_pos rfl]
      constructor
      · intro w
        omega
      · intro w
        cases w
    | false =>
      rw [if_neg (by decide)]
      exact ⟨fun _ => rfl, fun _ => by omega⟩
  rw [Int64.le_iff_toInt_le, e, show (0 : Int64).toInt = 0 from rfl, hn, BitVec.msb_xor]
  have h1 := hm x hx
  have h2 := hm y hy
  cases hbx : (BitVec.ofNat 64 x).msb <;> cases hby : (BitVec.ofNat 64 y).msb <;> rw [hbx] at h1 <;> rw [hby] at h2 <;> simp at h1 h2 ⊢ <;> omega
theorem b_leq {x y : Nat} (hx : x < 18446744073709551616) (hy : y < 18446744073709551616) : Int64.ofNat x = Int64.ofNat y ↔ x = y := by
  refine ⟨fun h => ?_, fun h => by rw [h]⟩
  have := congrArg Int64.toInt h
  rw [b_li hx, b_li hy] at this
  split at this <;> split at this <;> omega
theorem b_lle {x y : Nat} (hx : x < 18446744073709551616) (hy : y < 18446744073709551616) (hs : x < 9223372036854775808 ↔ y < 9223372036854775808) : Int64.ofNat x ≤ Int64.ofNat y ↔ x ≤ y := by
  rw [Int64.le_iff_toInt_le, b_li hx, b_li hy]
  split <;> split <;> omega
theorem b_l0 {x : Nat} (hx : x < 18446744073709551616) : (0 : Int64) ≤ Int64.ofNat x ↔ x < 9223372036854775808 := by
  rw [Int64.le_iff_toInt_le, b_li hx, show (0 : Int64).toInt = 0 from rfl]
  split <;> omega
/-- eight digits from the highest on -/
def b_be (w : Nat → Nat) : Nat → Nat
  | 0 => 0
  | i + 1 => b_be w i * 256 + w (7 - i)
theorem b_be_8 {w : Nat → Nat} : b_be w 8 = nv 256 w 8 := by
  have e1 : b_be w 8 = (((((((0 * 256 + w 7) * 256 + w 6) * 256 + w 5) * 256 + w 4) * 256 + w 3) * 256 + w 2) * 256 + w 1) * 256 + w 0 := rfl
  have e2 : nv 256 w 8 = 0 + w 0 * 256 ^ 0 + w 1 * 256 ^ 1 + w 2 * 256 ^ 2 + w 3 * 256 ^ 3 + w 4 * 256 ^ 4 + w 5 * 256 ^ 5 + w 6 * 256 ^ 6 + w 7 * 256 ^ 7 := rfl
  rw [e1, e2]
  omega
theorem b_be_lt {w : Nat → Nat} (hw : ∀ j, j < 8 → w j < 256) : ∀ {i : Nat}, i ≤ 8 → b_be w i < 256 ^ i
  | 0, _ => Nat.one_pos
  | i + 1, hi => by
    have h1 := b_be_lt hw (i := i) (by omega)
    have h2 := hw (7 - i) (by omega)
    unfold b_be
    rw [Nat.pow_succ]
    generalize 256 ^ i = z at h1
    omega
/-- eight digits of a number of 32, the k-th eight from the highest on -/
def b_q8 (w : Nat → Nat) (k : Nat) : Nat := nv 256 (fun j => w (8 * (3 - k) + j)) 8
theorem b_q8_lt {w : Nat → Nat} (hw : ∀ j, j < 32 → w j < 256) {k : Nat} (hk : k < 4) : b_q8 w k < 18446744073709551616 := by
  have : b_q8 w k < 256 ^ 8 := nv_lt fun j hj => hw _ (by omega)
  exact this
theorem b_q8_nv {w : Nat → Nat} : nv 256 w 32 = ((b_q8 w 0 * 18446744073709551616 + b_q8 w 1) * 18446744073709551616 + b_q8 w 2) * 18446744073709551616 + b_q8 w 3 := by
  have c1 := nv_cut (b := 256) (w := w) (m := 8) 24
  have c2 := nv_cut (b := 256) (w := fun i => w (8 + i)) (m := 8) 16
  have c3 := nv_cut (b := 256) (w := fun i => w (8 + (8 + i))) (m := 8) 8
  have e3 : nv 256 w 8 = b_q8 w 3 := nv_ext fun j _ => by show w j = w (8 * (3 - 3) + j); congr 1; omega
  have e2 : nv 256 (fun i => w (8 + i)) 8 = b_q8 w 2 := nv_ext fun j _ => rfl
  have e1 : nv 256 (fun i => w (8 + (8 + i))) 8 = b_q8 w 1 := nv_ext fun j _ => by show w (8 + (8 + j)) = w (8 * (3 - 1) + j); congr 1; omega
  have e0 : nv 256 (fun i => w (8 + (8 + (8 + i)))) 8 = b_q8 w 0 := nv_ext fun j _ => by show w (8 + (8 + (8 + j))) = w (8 * (3 - 0) + j); congr 1; omega
  rw [show (8 : Nat) + 24 = 32 from rfl, e3] at c1
  rw [show (8 : Nat) + 16 = 24 from rfl, e2] at c2
  rw [show (8 : Nat) + 8 = 16 from rfl, e1, e0] at c3
  have p : (256 : Nat) ^ 8 = 18446744073709551616 := by decide
  rw [p] at c1 c2 c3
  rw [c1, c2, c3]
  omega
theorem nv_all {n : Nat} : ∀ {k : Nat}, n < 256 ^ k → nv 256 (fun j => n / 256 ^ j % 256) k = n := by
  intro k
  have key : ∀ k, nv 256 (fun j => n / 256 ^ j % 256) k = n % 256 ^ k := by
    intro k
    induction k with
    | zero => rw [Nat.pow_zero, Nat.mod_one]; rfl
    | succ k ih =>
      show nv 256 (fun j => n / 256 ^ j % 256) k + n / 256 ^ k % 256 * 256 ^ k = _
      rw [ih, Nat.pow_succ, Nat.mod_mul, Nat.mul_comm (256 ^ k)]
  intro h
  rw [key, Nat.mod_eq_of_lt h]
/-- a name as a number, its last byte the highest -/
def b_nn (nm : List UInt8) : Nat := nv 256 (fun j => (nm.getD j 0).toNat) 32
section AB18
variable {H0 : jH} {Q : Int32 → jH → Prop}
theorem y16_longOf {n k : Nat} {u : Nat → Nat} (hs : jsh H0) (hk : k < 4) (hu : ∀ i, i < 40 → jI H0 452 i = Int32.ofNat (u i) ∧ u i < 256) : F_16_longOf 452 0 (Int32.ofNat k) H0 = some (Int64.ofNat (b_q8 u k), H0) := by
  have loop : ∀ (i fu : Nat), i ≤ 8 → i < fu → F_16_longOf_6 fu 452 0 (Int32.ofNat k) (Int64.ofNat (b_be (fun j => u (8 * (3 - k) + j)) (8 - i))) (Int32.ofNat i - 1) H0 = some (Int64.ofNat (b_q8 u k), H0) := by
    intro i
    induction i with
    | zero =>
      intro fu hi hfu
      obtain ⟨fu, rfl⟩ : ∃ j, fu = j + 1 := ⟨fu - 1, by omega⟩
      unfold F_16_longOf_6 B_16_longOf_6
      rw [if_pos (by decide), Nat.sub_zero, b_be_8]
      rfl
    | succ i ih =>
      intro fu hi hfu
      obtain ⟨fu, rfl⟩ : ∃ j, fu = j + 1 := ⟨fu - 1, by omega⟩
      have e1 : Int32.ofNat (i + 1) - 1 = Int32.ofNat i := jo_sub (a := i + 1) (b := 1) (by omega)
      have e2 : Int32.ofNat i + (-1) = Int32.ofNat i - 1 := (Int32.sub_eq_add_neg _ _).symm
      have ea : (0 : Int32) + 8 * (3 - Int32.ofNat k) + Int32.ofNat i = Int32.ofNat (8 * (3 - k) + i) := by
        have e3 : (3 : Int32) - Int32.ofNat k = Int32.ofNat (3 - k) := jo_sub (a := 3) (b := k) (by omega)
        rw [e3, show (8 : Int32) = Int32.ofNat 8 from rfl, jo_mul, show (0 : Int32) = Int32.ofNat 0 from rfl, jo_add, jo_add, Nat.zero_add]
      obtain ⟨v1, v2⟩ := hu (8 * (3 - k) + i) (by omega)
      have nxt := ih fu (by omega) (by omega)
      have eb : b_be (fun j => u (8 * (3 - k) + j)) (8 - i) = b_be (fun j => u (8 * (3 - k) + j)) (8 - (i + 1)) * 256 + u (8 * (3 - k) + i) := by
        rw [show 8 - i = (8 - (i + 1)) + 1 by omega]
        show b_be _ (8 - (i + 1)) * 256 + u (8 * (3 - k) + (7 - (8 - (i + 1)))) = _
        rw [show 7 - (8 - (i + 1)) = i by omega]
      refine jT_det ?_
      unfold F_16_longOf_6 B_16_longOf_6
      rw [e1, ea, sK_452 hs, jo_nat (n := 8 * (3 - k) + i) (by omega), v1, e2, lo_of (by omega), show (8 : Int32) = Int32.ofNat 8 from rfl, lo_shl (by decide), lo_or v2]
      refine jT_neg (by show ¬ _ < Int32.ofNat 0; rw [jo_lt (by omega) (by decide)]; omega) (jT_g ⟨rfl, jo_in (by omega) (by show _ < 40; omega)⟩ (jT_l (jT_l ?_)))
      rw [show b_be (fun j => u (8 * (3 - k) + j)) (8 - (i + 1)) * 2 ^ 8 + u (8 * (3 - k) + i) = b_be (fun j => u (8 * (3 - k) + j)) (8 - i) from eb.symm]
      exact jT_eq nxt (jT_ret ⟨rfl, rfl⟩)
  unfold F_16_longOf
  exact loop 8 jfuel (Nat.le_refl _) (by unfold jfuel; omega)
theorem jsh_q3 {H H' : jH} (hs : jsh H) (hf : jfr b_Tq3 H H') : jsh H' := jsh_fr hs hf (by
    have : ∀ q ∈ jRs, q.1 ≠ 452 ∧ q.1 ≠ 453 ∧ q.1 ≠ 454 := by decide +kernel
    intro q hq w
    have := this q hq
    unfold b_Tq3 at w
    omega) fun a ha j w => by unfold b_Tq3 at w; omega
theorem y16_target {n k : Nat} {R : Int64 → jH → Prop} (hs : jsh H0) (hn : b_bits n) (hle : b_tg n ≤ b_lim) (hk : k < 4) (hQ : ∀ H' u, jsh H' → jfr b_Tq3 H0 H' → (∀ j, j < 32 → u j < 256) → nv 256 u 32 = b_tg n → R (Int64.ofNat (b_q8 u k)) H') : jT (F_16_target 445 (Int64.ofNat n) (Int32.ofNat k) H0) R := by
  have hn32 := b_bits_lt hn
  obtain ⟨n1, n2, n3, n4⟩ := hn
  have k16 : ∀ {H}, jsh H → (jK H 445).1 = 16 := fun hs => gT (sK_445 hs)
  have hm8 : b_ma n < 8388608 := Nat.mod_lt _ (by decide)
  have es : Int64.toInt32 (jshrL (Int64.ofNat n) 24) = Int32.ofNat (b_sz n) := by
    rw [show (24 : Int32) = Int32.ofNat 24 from rfl, lo_shr (by omega) (by decide), lo_to32 (by have : n / 2 ^ 24 ≤ n := Nat.div_le_self _ _; omega)]
    rfl
  have em : Int64.ofNat n &&& 8388607 = Int64.ofNat (b_ma n) := lo_mask (m := n) (k := 23) (by decide)
  have e23 : jshrL (Int64.ofNat n) 23 &&& 1 = Int64.ofNat 0 := by
    rw [show (23 : Int32) = Int32.ofNat 23 from rfl, lo_shr (by omega) (by decide), show (1 : Int64) = Int64.ofNat (2 ^ 1 - 1) from rfl, lo_mask (by decide)]
    congr 1
  have ib : F_16_isBits (Int64.ofNat n) H0 = some (1, H0) := by
    unfold F_16_isBits B_16_isBits_19
    rw [if_neg (by show ¬ _ < Int64.ofNat 0; rw [lo_lt (by omega) (by decide)]; omega), if_neg (by show ¬ Int64.ofNat 4294967295 < _; rw [lo_lt (by decide) (by omega)]; omega), jg_t (Or.inr rfl)]
  -- from the fault on
  have tail : ∀ (own : Nat), 2 ≤ own → own ≤ 3 → jT (B_16_fault_80 445 (Int64.ofNat n) (Int32.ofNat (b_sz n)) (Int32.ofNat own) H0) (fun v h => v = 0 ∧ jsh h ∧ jfr b_Tq3 H0 h) := by
    intro own o1 o2
    have e1 : Int32.ofNat own + Int32.ofNat (b_sz n) - 3 = Int32.ofNat (own + b_sz n - 3) := by
      rw [jo_add]
      exact jo_sub (b := 3) (by omega)
    unfold B_16_fault_80 B_16_fault_148
    rw [e1, sR_445_8 hs]
    refine jT_neg (by show ¬ _ ≤ Int32.ofNat 0; rw [jo_le (by omega) (by decide)]; omega) (jT_pos (fun w => absurd ((jo_eq (b := 0) (by omega) (by decide)).mp w) (by omega)) (jT_pos (by show _ ≤ Int32.ofNat 32; rw [jo_le (by omega) (by decide)]; omega) (jT_g (k16 hs) (jT_b (y16_open rfl (Or.inl rfl) (zK16_s hs) (by omega) (by omega) fun H1 f1 r1 => ?_)))))
    have f1' : jfr b_Tq3 H0 H1 := jfr_mono f1 fun a j w => Or.inl w
    have s1 := jsh_q3 hs f1'
    rw [sR_445_9 s1]
    refine jT_g (k16 s1) (jT_b (y16_open (n := 545259519) rfl (Or.inr (Or.inl rfl)) (zK16_s s1) (by decide) (by decide) fun H2 f2 r2 => ?_))
    have f2' : jfr b_Tq3 H0 H2 := jfr_trans f1' (jfr_mono f2 fun a j w => Or.inr (Or.inl w))
    have s2 := jsh_q3 hs f2'
    rw [sR_445_8 s2, sR_445_9 s2, y16_compareRows (sK_452 s2) (sK_453 s2) (r40_fr r1 f2 fun j w => by unfold b_Ta at w; omega) r2, jb_ok]
    refine jT_g (k16 s2) (jT_g (k16 s2) (jT_pos ?_ (jT_ret ⟨rfl, s2, f2'⟩)))
    have hle' : b_tg n ≤ b_tg 545259519 := hle
    unfold b_cmp
    by_cases c : b_tg n < b_tg 545259519
    · rw [if_pos c]
      decide
    · rw [if_neg c, if_neg (by omega)]
      decide
  unfold F_16_target F_16_fault
  rw [ib, jb_ok]
  refine jT_g (k16 hs) (jT_b (jT_pos (by decide) (jT_l (jT_l ?_))))
  rw [es, em, e23]
  refine jT_pos (by decide) ?_
  have fl : jT (B_16_fault_42 445 (Int64.ofNat n) (Int32.ofNat (b_sz n)) (Int64.ofNat (b_ma n)) H0) (fun v h => v = 0 ∧ jsh h ∧ jfr b_Tq3 H0 h) := by
    unfold B_16_fault_42
    refine jT_pos (fun w => absurd ((lo_inj (b := 0) (by omega) (by decide)).mp w) (by omega)) (jT_pos (by show Int64.ofNat 256 ≤ _; rw [lo_le (by decide) (by omega)]; omega) ?_)
    by_cases c : 65536 ≤ b_ma n
    · exact jT_pos (by show Int64.ofNat 65536 ≤ _; rw [lo_le (by decide) (by omega)]; exact c) (tail 3 (by decide) (by decide))
    · exact jT_neg (by show ¬ Int64.ofNat 65536 ≤ _; rw [lo_le (by decide) (by omega)]; exact c) (tail 2 (by decide) (by decide))
  refine jT_imp fl fun v h hv => ?_
  obtain ⟨rfl, s1, f1⟩ := hv
  refine jT_pos rfl ?_
  unfold B_16_target_18
  rw [sR_445_8 s1]
  refine jT_neg (by show ¬ _ < Int32.ofNat 0; rw [jo_lt (by omega) (by decide)]; omega) (jT_pos (by show _ ≤ Int32.ofNat 3; rw [jo_le (by omega) (by decide)]; omega) (jT_g (k16 s1) (jT_b (y16_open rfl (Or.inl rfl) (zK16_s s1) (by omega) (by omega) fun H2 f2 r2 => ?_))))
  have f2' : jfr b_Tq3 H0 H2 := jfr_trans f1 (jfr_mono f2 fun a j w => Or.inl w)
  have s2 := jsh_q3 hs f2'
  obtain ⟨u, u1, u2⟩ := r2
  rw [sR_445_8 s2, y16_longOf (n := n) s2 hk u1, jb_ok]
  refine jT_g (k16 s2) (jT_ret (hQ H2 u s2 f2' (fun j hj => (u1 j (by omega)).2) ?_))
  have c1 := nv_cut (b := 256) (w := u) (m := 32) 8
  rw [show (32 : Nat) + 8 = 40 from rfl, u2] at c1
  have l1 := b_lim_lt.1
  have hz : nv 256 (fun i => u (32 + i)) 8 = 0 := by
    cases h : nv 256 (fun i => u (32 + i)) 8 with
    | zero => rfl
    | succ z =>
      rw [h, Nat.mul_add, Nat.mul_one] at c1
      generalize 256 ^ 32 = y at c1 l1
      generalize y * z = x at c1
      omega
  rw [hz, Nat.mul_zero, Nat.add_zero] at c1
  exact c1.symm
/-- whether the name at hand is above a target -/
theorem y18_isAbove {n : Nat} {nm : List UInt8} (hs : jsh H0) (hn : b_bits n) (hle : b_tg n ≤ b_lim) (hz : zRow H0 507 0 nm) (h32 : nm.length = 32) (hQ : ∀ H', jsh H' → jfr b_Tq3 H0 H' → Q (if b_tg n < b_nn nm then 1 else 0) H') : jT (F_18_isAbove 421 (Int64.ofNat n) H0) Q := by
  have k18 : ∀ {H}, jsh H → (jK H 421).1 = 18 := fun hs => gT (sK_421 hs)
  have hw : ∀ j, j < 32 → (nm.getD j 0).toNat < 256 := fun j _ => UInt8.toNat_lt _
  -- one long of the name against one of the target
  have loop : ∀ (d k fu : Nat) (H : jH), k + d = 4 → d < fu → jsh H → jfr b_Tq3 H0 H → (∀ u : Nat → Nat, (∀ j, j < 32 → u j < 256) → nv 256 u 32 = b_tg n → ∀ i, i < k → b_q8 u i = b_q8 (fun j => (nm.getD j 0).toNat) i) → jT (F_18_isAbove_2 fu 421 (Int64.ofNat n) (Int32.ofNat k) H) Q := by
    intro d
    induction d with
    | zero =>
      intro k fu H hk hfu hs1 hf he
      obtain ⟨fu, rfl⟩ : ∃ j, fu = j + 1 := ⟨fu - 1, by omega⟩
      obtain rfl : k = 4 := by omega
      have hfin := hQ H hs1 hf
      have e : ¬ b_tg n < b_nn nm := by
        -- the digits of the target
        have hd := he (fun j => b_tg n / 256 ^ j % 256) (fun j _ => Nat.mod_lt _ (by decide)) ?_
        · have h1 := b_q8_nv (w := fun j => b_tg n / 256 ^ j % 256)
          have h2 := b_q8_nv (w := fun j => (nm.getD j 0).toNat)
          rw [hd 0 (by decide), hd 1 (by decide), hd 2 (by decide), hd 3 (by decide), ← h2] at h1
          have h3 : nv 256 (fun j => b_tg n / 256 ^ j % 256) 32 = b_tg n := nv_all (Nat.lt_of_le_of_lt hle b_lim_lt.1)
          unfold b_nn
          omega
        · exact nv_all (Nat.lt_of_le_of_lt hle b_lim_lt.1)
      rw [if_neg e] at hfin
      unfold F_18_isAbove_2 B_18_isAbove_2
      exact jT_pos (by decide) (jT_g (Or.inl rfl) (jT_ret hfin))
    | succ d ih =>
      intro k fu H hk hfu hs1 hf he
      obtain ⟨fu, rfl⟩ : ∃ j, fu = j + 1 := ⟨fu - 1, by omega⟩
      have hz1 : zRow H 507 0 nm := zRow_eq hz fun i _ => jfr_B hf fun w => by unfold b_Tq3 at w; omega
      have ek1 : Int32.ofNat k + 1 = Int32.ofNat (k + 1) := jo_add (a := k) (b := 1)
      have inner : ∀ (e i fu2 : Nat), i + e = 8 → e < fu2 → jT (F_18_isAbove_13 (F_18_isAbove_2 fu) fu2 421 (Int64.ofNat n) (Int32.ofNat k) (Int64.ofNat (b_be (fun j => (nm.getD (8 * (3 - k) + j) 0).toNat) i)) (Int32.ofNat i) H) Q := by
        intro e
        induction e with
        | zero =>
          intro i fu2 hi hfu2
          obtain ⟨fu2, rfl⟩ : ∃ j, fu2 = j + 1 := ⟨fu2 - 1, by omega⟩
          obtain rfl : i = 8 := by omega
          have ev : b_be (fun j => (nm.getD (8 * (3 - k) + j) 0).toNat) 8 = b_q8 (fun j => (nm.getD j 0).toNat) k := b_be_8
          have hx : b_q8 (fun j => (nm.getD j 0).toNat) k < 18446744073709551616 := b_q8_lt hw (by omega)
          unfold F_18_isAbove_13 B_18_isAbove_13 B_18_isAbove_111
          rw [ev, sR_421_3 hs1, ek1]
          refine jT_pos (by decide) (jT_g (k18 hs1) (jT_g (gT (sK_445 hs1)) (jT_b (y16_target hs1 hn hle (by omega) fun H2 u s2 f2 hu hnv => ?_))))
          have hy : b_q8 u k < 18446744073709551616 := b_q8_lt hu (by omega)
          have f2' := jfr_trans hf f2
          have hfin := hQ H2 s2 f2'
          by_cases ceq : b_q8 (fun j => (nm.getD j 0).toNat) k = b_q8 u k
          · refine jT_pos (by rw [ceq]) (jT_l (ih (k + 1) fu H2 (by omega) (by omega) s2 f2' fun u' hu' hnv' i hi => ?_))
            by_cases ci : i = k
            · have huu : ∀ j, j < 32 → u' j = u j := fun j hj => by
                rw [← nv_digit hu' (by decide) hj, ← nv_digit hu (by decide) hj, hnv, hnv']
              rw [ci, ceq]
              exact nv_ext fun j hj => huu _ (by omega)
            · exact he u' hu' hnv' i (by omega)
          · -- the first that differs decides
            have hlow : ∀ z y : Nat → Nat, (∀ j, j < 32 → z j < 256) → (∀ j, j < 32 → y j < 256) → (∀ i, i < k → b_q8 z i = b_q8 y i) → b_q8 z k < b_q8 y k → nv 256 z 32 < nv 256 y 32 := fun z y hz hy hp hlt => by
              have a1 := b_q8_nv (w := z)
              have a2 := b_q8_nv (w := y)
              have z1 := b_q8_lt hz (k := 1) (by decide)
              have z2 := b_q8_lt hz (k := 2) (by decide)
              have z3 := b_q8_lt hz (k := 3) (by decide)
              rcases (show k = 0 ∨ k = 1 ∨ k = 2 ∨ k = 3 by omega) with rfl | rfl | rfl | rfl
              · omega
              · have p0 := hp 0 (by decide)
                omega
              · have p0 := hp 0 (by decide)
                have p1 := hp 1 (by decide)
                omega
              · have p0 := hp 0 (by decide)
                have p1 := hp 1 (by decide)
                have p2 := hp 2 (by decide)
                omega
            have hpre := he u hu hnv
            have hans : b_tg n < b_nn nm ↔ ¬ b_q8 (fun j => (nm.getD j 0).toNat) k ≤ b_q8 u k := by
              constructor
              · intro h hc
                have := hlow (fun j => (nm.getD j 0).toNat) u hw hu (fun i hi => (hpre i hi).symm) (by omega)
                rw [hnv] at this
                exact absurd h (Nat.lt_asymm this)
              · intro h
                have := hlow u (fun j => (nm.getD j 0).toNat) hu hw hpre (by omega)
                rwa [hnv] at this
            refine jT_neg (fun w => ceq ((b_leq hx hy).mp w)) ?_
            by_cases csg : b_q8 (fun j => (nm.getD j 0).toNat) k < 9223372036854775808 ↔ b_q8 u k < 9223372036854775808
            · refine jT_pos ((b_lx hx hy).mpr csg) ?_
              by_cases cle : b_q8 (fun j => (nm.getD j 0).toNat) k ≤ b_q8 u k
              · rw [if_neg fun w => hans.mp w cle] at hfin
                exact jT_pos ((b_lle hx hy csg).mpr cle) (jT_g (Or.inl rfl) (jT_ret hfin))
              · rw [if_pos (hans.mpr cle)] at hfin
                exact jT_neg (fun w => cle ((b_lle hx hy csg).mp w)) (jT_g (Or.inr rfl) (jT_ret hfin))
            · refine jT_neg (fun w => csg ((b_lx hx hy).mp w)) ?_
              by_cases cle : b_q8 (fun j => (nm.getD j 0).toNat) k < 9223372036854775808
              · rw [if_neg fun w => hans.mp w (by omega)] at hfin
                exact jT_pos ((b_l0 hx).mpr cle) (jT_g (Or.inl rfl) (jT_ret hfin))
              · rw [if_pos (hans.mpr (by omega))] at hfin
                exact jT_neg (fun w => cle ((b_l0 hx).mp w)) (jT_g (Or.inr rfl) (jT_ret hfin))
        | succ e ihe =>
          intro i fu2 hi hfu2
          obtain ⟨fu2, rfl⟩ : ∃ j, fu2 = j + 1 := ⟨fu2 - 1, by omega⟩
          have e1 : Int32.ofNat i + 1 = Int32.ofNat (i + 1) := jo_add (a := i) (b := 1)
          have ea : (31 : Int32) - 8 * Int32.ofNat k - Int32.ofNat i = Int32.ofNat (8 * (3 - k) + (7 - i)) := by
            rw [show (31 : Int32) = Int32.ofNat 31 from rfl, show (8 : Int32) = Int32.ofNat 8 from rfl, jo_mul, jo_sub (by omega), jo_sub (by omega)]
            congr 1
            omega
          have hb := UInt8.toNat_lt (nm.getD (8 * (3 - k) + (7 - i)) 0)
          have ev : jB H 507 (8 * (3 - k) + (7 - i)) = nm.getD (8 * (3 - k) + (7 - i)) 0 := by
            have := hz1 (8 * (3 - k) + (7 - i)) _ (getD_of (by omega))
            rwa [Nat.zero_add] at this
          unfold F_18_isAbove_13 B_18_isAbove_13
          rw [sR_421_49 hs1, ea, jo_nat (n := 8 * (3 - k) + (7 - i)) (by omega), ev, jb_and, lo_of (by omega), show (8 : Int32) = Int32.ofNat 8 from rfl, lo_shl (by decide), lo_or hb, e1]
          exact jT_neg (by show ¬ Int32.ofNat 8 ≤ _; rw [jo_le (by decide) (by omega)]; omega) (jT_g (k18 hs1) (jT_g (gA (sK_507 hs1) (jo_in (by omega) (by show _ < 32; omega))) (jT_l (jT_l (ihe (i + 1) fu2 (by omega) (by omega))))))
      unfold F_18_isAbove_2 B_18_isAbove_2
      exact jT_neg (by show ¬ Int32.ofNat 4 ≤ _; rw [jo_le (by decide) (by omega)]; omega) (inner 8 0 jfuel rfl (by unfold jfuel; omega))
  unfold F_18_isAbove
  exact loop 4 0 jfuel H0 rfl (by unfold jfuel; omega) hs jfr_refl fun u _ _ i hi => absurd hi (Nat.not_lt_zero i)
end AB18
