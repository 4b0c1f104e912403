/-! Points.multiply of the reference. -/
def zl3 (H : jH) (r : Nat) (w : Nat → Nat) : Prop := ∀ k, k < 22 → jL H r k = Int64.ofNat (w k)
theorem zl3_up {H : jH} {r k v : Nat} {w : Nat → Nat} (h : zl3 H r w) : zl3 (jsL H r k (Int64.ofNat v)) r (nup w k v) := fun j hj => by
  unfold nup
  by_cases e : j = k
  · rw [if_pos e, e]
    exact jup_eq
  · rw [if_neg e]
    exact (jup_i e).trans (h j hj)
theorem zl3_ne {H : jH} {r r' k : Nat} {x : Int64} {w : Nat → Nat} (h : zl3 H r w) (hr : r ≠ r') : zl3 (jsL H r' k x) r w := fun j hj => (jup_a hr).trans (h j hj)
/-- what 2 to the power of 256 leaves -/
def mC (m : Nat) : Nat := if m = 0 then 4294968273 else nC
def mM (m : Nat) : Nat := if m = 0 then np_P else nN
def mD (m i : Nat) : Nat := mC m / 67108864 ^ i % 67108864
theorem mCM (m : Nat) : mC m + mM m = 2 ^ 256 := by
  unfold mC mM
  split <;> decide
theorem mD_nv (m : Nat) : nv 67108864 (mD m) 5 = mC m := by
  have h0 : nv 67108864 (fun i => 4294968273 / 67108864 ^ i % 67108864) 5 = 4294968273 := by decide +kernel
  have h1 : nv 67108864 (fun i => nC / 67108864 ^ i % 67108864) 5 = nC := by decide +kernel
  unfold mD mC
  by_cases e : m = 0
  · rw [if_pos e]
    exact h0
  · rw [if_neg e]
    exact h1
theorem mD_lt (m i : Nat) : mD m i < 67108864 := Nat.mod_lt _ (by decide)
/-- the rows that stay -/
def z13C (H : jH) : Prop := zr H 8 np_P ∧ zr H 9 nN ∧ zr H 18 eBx ∧ zr H 19 eBy ∧ zr H 20 1 ∧ zr H 21 7 ∧ ∀ m i, m < 2 → i < 5 → jI H 432 (10 * m + i) = Int32.ofNat (mD m i)
def mOk (M : Nat → Prop) : Prop := ¬ M 8 ∧ ¬ M 9 ∧ ¬ M 18 ∧ ¬ M 19 ∧ ¬ M 20 ∧ ¬ M 21
theorem z13C_f3 {M : Nat → Prop} {H H' : jH} (h : z13C H) (hf : jf3 M H H') (hm : mOk M) : z13C H' := by
  obtain ⟨h1, h2, h3, h4, h5, h6, h7⟩ := h
  obtain ⟨m1, m2, m3, m4, m5, m6⟩ := hm
  exact ⟨zr_f3 h1 hf m1, zr_f3 h2 hf m2, zr_f3 h3 hf m3, zr_f3 h4 hf m4, zr_f3 h5 hf m5, zr_f3 h6 hf m6, fun m i a b => (hf.2.2.2.2.2.2 432 _ fun q => absurd q.1 (by decide)).trans (h7 m i a b)⟩
theorem g430 {H : jH} (hs : jsh H) {k : Nat} (hk : k < 22) : (jK H 430).1 = 103 ∧ jin (Int32.ofNat k) (jK H 430).2 := by
  rw [sK_430 hs]
  exact ⟨rfl, jo_in (by omega) hk⟩
theorem g431 {H : jH} (hs : jsh H) {k : Nat} (hk : k < 22) : (jK H 431).1 = 103 ∧ jin (Int32.ofNat k) (jK H 431).2 := by
  rw [sK_431 hs]
  exact ⟨rfl, jo_in (by omega) hk⟩
theorem acc_step {W V x p P Ei Ej wk : Nat} {W2 : Nat} (hW : W2 + wk * (Ei * Ej) = W + (wk + x * p) * (Ei * Ej)) (h : W = V + x * P * Ei) : W2 = V + x * (P + p * Ej) * Ei := by
  have e : x * (P + p * Ej) * Ei = x * P * Ei + x * p * (Ei * Ej) := by
    rw [Nat.mul_add, Nat.add_mul, ← Nat.mul_assoc, Nat.mul_assoc (x * p), Nat.mul_comm Ej Ei]
  rw [e]
  rw [Nat.add_mul] at hW
  omega
theorem lo_le0 {x : Nat} (h : x < 9223372036854775808) : (Int64.ofNat x ≤ 0) ↔ x = 0 := by
  rw [Int64.le_iff_toInt_le, ← Int64.ofInt_eq_ofNat, li_int (by omega) (by omega)]
  show (x : Int) ≤ 0 ↔ x = 0
  omega
theorem lo_i32 {x : Nat} (h : x < 2147483648) : Int32.toInt64 (Int32.ofNat x) = Int64.ofNat x := lo_of h
theorem carry_end {x c V E : Nat} (h : V < E) (hv : x + c * E = V) : x = V := by
  rcases Nat.eq_zero_or_pos c with e | e
  · rw [e, Nat.zero_mul] at hv
    exact hv
  · have := Nat.mul_le_mul_right E e
    rw [Nat.succ_eq_add_one, Nat.zero_add, Nat.one_mul] at this
    omega
def W22 : Nat := 67108864 ^ 22
section M13
variable {Q : Unit → jH → Prop} {H0 : jH} {M0 : Nat → Prop}
/-- a row of the product -/
theorem z13_mul52 {k27 : Nat → Int32 → Int32 → Int32 → Int32 → Int32 → jH → Option (Unit × jH)} {a1 a2 a4 : Int32} {b i x : Nat} {v w0 : Nat → Nat} (hb : b < 48) (hi : i < 10) (hs : jsh H0) (hx : x < 67108864) (hv : ∀ i, i < 10 → jI H0 429 (10 * b + i) = Int32.ofNat (v i) ∧ v i < 67108864)
    (hk : ∀ H' w, jf3 M0 H0 H' → zl3 H' 430 w → nv 67108864 w 22 = nv 67108864 w0 22 + x * nv 67108864 v 10 * 67108864 ^ i → (∀ k, w k ≤ w0 k + 4503599627370496) → jT (k27 428 a1 a2 (Int32.ofNat b) a4 (Int32.ofNat (i + 1)) H') Q) (hM : ∀ j, ¬ M0 j) :
    ∀ (d j fu : Nat) (w : Nat → Nat) (H : jH), j + d = 10 → d < fu → jf3 M0 H0 H → zl3 H 430 w → nv 67108864 w 22 = nv 67108864 w0 22 + x * nv 67108864 v j * 67108864 ^ i → (∀ k, w k ≤ w0 k + 4503599627370496) → (∀ k, i + j ≤ k → w k = w0 k) →
      jT (F_13_multiply_52 k27 fu 428 a1 a2 (Int32.ofNat b) a4 (Int32.ofNat i) (Int64.ofNat x) (Int32.ofNat j) H) Q := by
  intro d
  induction d with
  | zero =>
    intro j fu w H hj hfu hfr hw hval hbd hsame
    obtain ⟨fu, rfl⟩ : ∃ k, fu = k + 1 := ⟨fu - 1, by omega⟩
    obtain rfl : j = 10 := by omega
    unfold F_13_multiply_52 B_13_multiply_52 B_13_multiply_101
    have e1 : Int32.ofNat i + 1 = Int32.ofNat (i + 1) := jo_add (a := i) (b := 1)
    rw [e1]
    exact jT_pos (by decide) (jT_l (hk H w hfr hw hval hbd))
  | succ d ih =>
    intro j fu w H hj hfu hfr hw hval hbd hsame
    obtain ⟨fu, rfl⟩ : ∃ k, fu = k + 1 := ⟨fu - 1, by omega⟩
    unfold F_13_multiply_52 B_13_multiply_52 B_13_multiply_101
    have hsH := jsh_f3 hs hfr
    have e1 : Int32.ofNat i + 1 = Int32.ofNat (i + 1) := jo_add (a := i) (b := 1)
    have ej : Int32.ofNat j + 1 = Int32.ofNat (j + 1) := jo_add (a := j) (b := 1)
    have eij : Int32.ofNat i + Int32.ofNat j = Int32.ofNat (i + j) := jo_add
    refine jT_neg (by rw [show (10 : Int32) = Int32.ofNat 10 from rfl, jo_le (by omega) (by omega)]; omega) ?_
    by_cases hx0 : x = 0
    · rw [e1]
      refine jT_pos ((lo_le0 (by omega)).mpr hx0) (jT_l (hk H w hfr hw ?_ hbd))
      rw [hval, hx0, Nat.zero_mul, Nat.zero_mul]
      simp only [Nat.zero_mul]
    · have vv : jI H 429 (10 * b + j) = Int32.ofNat (v j) := (hfr.2.2.2.2.2.2 429 _ fun q => hM _ q.2).trans (hv j (by omega)).1
      have lv := (hv j (by omega)).2
      refine jT_neg (fun q => hx0 ((lo_le0 (by omega)).mp q)) (jT_g (k13 hsH) ?_)
      rw [sR_428_1 hsH, sR_428_0 hsH, eij, e10, jo_nat (n := i + j) (by omega), jo_nat (n := 10 * b + j) (by omega), hw (i + j) (by omega), vv, lo_i32 (by omega), lo_mul, lo_add, ej]
      refine jT_g (g430 hsH (by omega)) (jT_g (k13 hsH) (jT_g (g429 hsH (by omega)) (jT_g (g430 hsH (by omega)) (jT_l (jT_l (ih (j + 1) fu (nup w (i + j) (w (i + j) + x * v j)) _ (by omega) (by omega) (jf3_sL hfr (Or.inl rfl)) (zl3_up hw) ?_ (fun k => ?_) fun k hk2 => ?_))))))
      · have hup := nv_up (b := 67108864) (w := w) (i := i + j) (v := w (i + j) + x * v j) (n := 22) (by omega)
        rw [Nat.pow_add] at hup
        exact acc_step hup hval
      · unfold nup
        by_cases e : k = i + j
        · rw [if_pos e, e, hsame (i + j) (Nat.le_refl _)]
          have : x * v j ≤ 67108864 * 67108864 := Nat.mul_le_mul (by omega) (by omega)
          omega
        · rw [if_neg e]
          exact hbd k
      · unfold nup
        rw [if_neg (by omega)]
        exact hsame k (by omega)
/-- all digits below 2 to the power of 26 -/
theorem z13_carry4 {V : Nat} {H0 : jH} (hs : jsh H0) (hV : V < W22) (hk : ∀ H' w, jf3 M0 H0 H' → (jL H' 431 = jL H0 431) → zl3 H' 430 w → (∀ k, k < 22 → w k < 67108864) → nv 67108864 w 22 = V → Q () H') :
    ∀ (d i fu c : Nat) (w : Nat → Nat) (H : jH), i + d = 22 → d < fu → jf3 M0 H0 H → (jL H 431 = jL H0 431) → zl3 H 430 w → (∀ k, k < 22 → w k < 4611686018427387904) → (∀ k, k < i → w k < 67108864) → c < 4611686018427387904 → nv 67108864 w 22 + c * 67108864 ^ i = V → jT (F_13_carry_4 fu 428 (Int64.ofNat c) (Int32.ofNat i) H) Q := by
  intro d
  induction d with
  | zero =>
    intro i fu c w H hi hfu hfr h431 hw hb hd hc hv
    obtain ⟨fu, rfl⟩ : ∃ k, fu = k + 1 := ⟨fu - 1, by omega⟩
    have hi22 : i = 22 := by omega
    have hV' : V < 67108864 ^ i := by
      rw [hi22]
      exact hV
    unfold F_13_carry_4 B_13_carry_4
    refine jT_pos (by rw [hi22]; decide) (jT_ret (hk H w hfr h431 hw (fun k hk2 => hd k (by omega)) ?_))
    exact carry_end hV' hv
  | succ d ih =>
    intro i fu c w H hi hfu hfr h431 hw hb hd hc hv
    obtain ⟨fu, rfl⟩ : ∃ k, fu = k + 1 := ⟨fu - 1, by omega⟩
    unfold F_13_carry_4 B_13_carry_4
    have hsH := jsh_f3 hs hfr
    have e1 : Int32.ofNat i + 1 = Int32.ofNat (i + 1) := jo_add (a := i) (b := 1)
    have hbi := hb i (by omega)
    obtain ⟨x, hx⟩ : ∃ x, x = w i + c := ⟨_, rfl⟩
    refine jT_neg (by rw [show (22 : Int32) = Int32.ofNat 22 from rfl, jo_le (by omega) (by omega)]; omega) (jT_g (k13 hsH) ?_)
    rw [sR_428_1 hsH, jo_nat (n := i) (by omega), hw i (by omega), e1]
    refine jT_g (g430 hsH (by omega)) (jT_lo (e' := Int64.ofNat x) (by rw [lo_add, hx]) ?_)
    have esh : jshrL (Int64.ofNat x) 26 = Int64.ofNat (x / 67108864) := by
      rw [← Int64.ofInt_eq_ofNat, li_shr26 (by omega) (by omega), ← Int64.ofInt_eq_ofNat]
      rfl
    rw [lo_and26, esh]
    refine jT_g (k13 hsH) (jT_g (g430 hsH (by omega)) (jT_l (jT_l (jT_l (ih (i + 1) fu (x / 67108864) (nup w i (x % 67108864)) _ (by omega) (by omega) (jf3_sL hfr (Or.inl rfl)) ?_ (zl3_up hw) (fun k hk2 => ?_) (fun k hk2 => ?_) (by omega) ?_)))))
    · refine Eq.trans (funext fun j => ?_) h431
      show jup (jL H) 430 i (Int64.ofNat (x % 67108864)) 431 j = jL H 431 j
      exact jup_a (by decide)
    · unfold nup
      split
      · omega
      · exact hb k hk2
    · unfold nup
      by_cases e : k = i
      · rw [if_pos e]
        omega
      · rw [if_neg e]
        exact hd k (by omega)
    · have hup := nv_up (b := 67108864) (w := w) (i := i) (v := x % 67108864) (n := 22) (by omega)
      rw [Nat.pow_succ]
      generalize (67108864 : Nat) ^ i = E at *
      have e5 : x * E = x % 67108864 * E + x / 67108864 * (E * 67108864) := by
        have e := Nat.mod_add_div x 67108864
        have : x * E = (x % 67108864 + 67108864 * (x / 67108864)) * E := by rw [e]
        rw [this, Nat.add_mul]
        congr 1
        rw [Nat.mul_comm E, ← Nat.mul_assoc, Nat.mul_comm (x / 67108864)]
      rw [hx, Nat.add_mul] at e5
      rw [← hx] at e5
      omega
theorem z13_carry {V : Nat} {w : Nat → Nat} {H : jH} (hs : jsh H) (hw : zl3 H 430 w) (hb : ∀ k, k < 22 → w k < 4611686018427387904) (hv : nv 67108864 w 22 = V) (hV : V < W22)
    (hk : ∀ H' w', jf3 M0 H H' → (jL H' 431 = jL H 431) → zl3 H' 430 w' → (∀ k, k < 22 → w' k < 67108864) → nv 67108864 w' 22 = V → Q () H') : jT (F_13_carry 428 H) Q := by
  unfold F_13_carry
  exact z13_carry4 (H0 := H) hs hV hk 22 0 jfuel 0 w H rfl (by unfold jfuel; omega) jf3_refl rfl hw hb (fun k hk2 => absurd hk2 (Nat.not_lt_zero k)) (by decide) (by rw [hv]; omega)
end M13
/-- cut at the 256th bit -/
theorem nv_256 {w : Nat → Nat} : nv 67108864 w 22 = nv 67108864 w 9 + 67108864 ^ 9 * (w 9 + 67108864 * nv 67108864 (fun i => w (10 + i)) 12) := by
  have h1 : nv 67108864 w 22 = nv 67108864 w 10 + 67108864 ^ 10 * nv 67108864 (fun i => w (10 + i)) 12 := nv_cut (b := 67108864) (w := w) (m := 10) 12
  have h2 : nv 67108864 w 10 = nv 67108864 w 9 + w 9 * 67108864 ^ 9 := rfl
  rw [h1, h2, Nat.mul_add, Nat.mul_comm (w 9), ← Nat.mul_assoc, ← Nat.pow_succ]
  omega
theorem nv_wide {w : Nat → Nat} (hb : ∀ k, k < 22 → w k < 67108864) : nv 67108864 w 22 < 2 ^ 256 ↔ (w 9 < 4194304 ∧ ∀ k, 10 ≤ k → k < 22 → w k = 0) := by
  have e := nv_256 (w := w)
  have h9 : nv 67108864 w 9 < 67108864 ^ 9 := nv_lt fun k hk => hb k (by omega)
  have e256 : (2 : Nat) ^ 256 = 67108864 ^ 9 * 4194304 := by decide
  have hT : nv 67108864 (fun i => w (10 + i)) 12 = 0 ↔ ∀ k, 10 ≤ k → k < 22 → w k = 0 := by
    refine ⟨fun h k h1 h2 => ?_, fun h => nv_zero fun i hi => h _ (by omega) (by omega)⟩
    have := nv_digit (b := 67108864) (w := fun i => w (10 + i)) (n := 12) (i := k - 10) (fun j hj => hb _ (by omega)) (by decide) (by omega)
    rw [h, Nat.zero_div, Nat.zero_mod] at this
    rw [show k = 10 + (k - 10) by omega]
    exact this.symm
  rw [← hT, e, e256]
  generalize nv 67108864 (fun i => w (10 + i)) 12 = T
  generalize nv 67108864 w 9 = L at h9 ⊢
  generalize (67108864 : Nat) ^ 9 = E at h9 ⊢
  constructor
  · intro h
    have h1 : E * (w 9 + 67108864 * T) < E * 4194304 := by omega
    have := Nat.lt_of_mul_lt_mul_left h1
    have := hb 9 (by omega)
    omega
  · intro ⟨h1, h2⟩
    have h3 : E * (w 9 + 67108864 * T + 1) ≤ E * 4194304 := Nat.mul_le_mul_left E (by omega)
    rw [Nat.mul_add, Nat.mul_one] at h3
    omega
section W13
variable {Q : Int32 → jH → Prop} {H : jH} {w : Nat → Nat}
theorem z13_isWide23 (hs : jsh H) (hw : zl3 H 430 w) (hb : ∀ k, k < 22 → w k < 67108864) (hQ : Q (if nv 67108864 w 22 < 2 ^ 256 then 0 else 1) H) :
    ∀ (d i fu : Nat) (x : Int32), i + d = 22 → d < fu → 10 ≤ i → ((x = 0 ∧ w 9 < 4194304 ∧ ∀ k, 10 ≤ k → k < i → w k = 0) ∨ (x = 1 ∧ ¬ (w 9 < 4194304 ∧ ∀ k, 10 ≤ k → k < 22 → w k = 0))) → jT (F_13_isWide_23 fu 428 x (Int32.ofNat i) H) Q := by
  have hn := nv_wide hb
  intro d
  induction d with
  | zero =>
    intro i fu x hi hfu h10 hx
    obtain ⟨fu, rfl⟩ : ∃ k, fu = k + 1 := ⟨fu - 1, by omega⟩
    obtain rfl : i = 22 := by omega
    unfold F_13_isWide_23 B_13_isWide_23 B_13_isWide_56
    refine jT_pos (by decide) ?_
    rcases hx with ⟨rfl, h⟩ | ⟨rfl, h⟩
    · rw [if_pos (hn.mpr h)] at hQ
      exact jT_g (by decide) (jT_ret hQ)
    · rw [if_neg (fun q => h (hn.mp q))] at hQ
      exact jT_g (by decide) (jT_ret hQ)
  | succ d ih =>
    intro i fu x hi hfu h10 hx
    obtain ⟨fu, rfl⟩ : ∃ k, fu = k + 1 := ⟨fu - 1, by omega⟩
    unfold F_13_isWide_23 B_13_isWide_23 B_13_isWide_56 B_13_isWide_49
    have e1 : Int32.ofNat i + 1 = Int32.ofNat (i + 1) := jo_add (a := i) (b := 1)
    refine jT_neg (by rw [show (22 : Int32) = Int32.ofNat 22 from rfl, jo_le (by omega) (by omega)]; omega) ?_
    rcases hx with ⟨rfl, h1, h2⟩ | ⟨rfl, h⟩
    · refine jT_neg (fun q => q rfl) (jT_g (k13 hs) ?_)
      have hbi := hb i (by omega)
      rw [sR_428_1 hs, jo_nat (n := i) (by omega), hw i (by omega), e1]
      refine jT_g (g430 hs (by omega)) ?_
      by_cases e : w i = 0
      · refine jT_pos ((lo_le0 (by omega)).mpr e) (jT_l (ih (i + 1) fu 0 (by omega) (by omega) (by omega) (Or.inl ⟨rfl, h1, fun k q1 q2 => ?_⟩)))
        by_cases q : k = i
        · rw [q, e]
        · exact h2 k q1 (by omega)
      · exact jT_neg (fun q => e ((lo_le0 (by omega)).mp q)) (jT_l (ih (i + 1) fu 1 (by omega) (by omega) (by omega) (Or.inr ⟨rfl, fun q => e (q.2 i (by omega) (by omega))⟩)))
    · rw [if_neg (fun q => h (hn.mp q))] at hQ
      exact jT_pos (by decide) (jT_g (by decide) (jT_ret hQ))
theorem z13_isWide (hs : jsh H) (hw : zl3 H 430 w) (hb : ∀ k, k < 22 → w k < 67108864) (hQ : Q (if nv 67108864 w 22 < 2 ^ 256 then 0 else 1) H) : jT (F_13_isWide 428 H) Q := by
  unfold F_13_isWide B_13_isWide_19
  have hb9 := hb 9 (by omega)
  refine jT_g (k13 hs) ?_
  rw [sR_428_1 hs, show (9 : Int32).toNatClampNeg = 9 from rfl, hw 9 (by omega)]
  have hle : (Int64.ofNat (w 9) ≤ 4194303) ↔ w 9 < 4194304 := by
    rw [Int64.le_iff_toInt_le, ← Int64.ofInt_eq_ofNat, li_int (by omega) (by omega)]
    show (w 9 : Int) ≤ 4194303 ↔ _
    omega
  refine jT_g (g430 hs (k := 9) (by decide)) ?_
  by_cases h : w 9 < 4194304
  · exact jT_pos (hle.mpr h) (z13_isWide23 hs hw hb hQ 12 10 jfuel 0 rfl (by unfold jfuel; omega) (Nat.le_refl _) (Or.inl ⟨rfl, h, fun k h1 h2 => by omega⟩))
  · exact jT_neg (fun q => h (hle.mp q)) (z13_isWide23 hs hw hb hQ 12 10 jfuel 1 rfl (by unfold jfuel; omega) (Nat.le_refl _) (Or.inr ⟨rfl, fun q => h q.1⟩))
end W13
