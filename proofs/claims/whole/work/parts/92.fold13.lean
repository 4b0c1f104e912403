/-! Points.multiply of the reference, on: the fold. -/
def t256 : Nat := 2 ^ 256
theorem t256_eq : t256 = 115792089237316195423570985008687907853269984665640564039457584007913129639936 := by decide +kernel
def B9 : Nat := 67108864 ^ 9
theorem t256_B9 : t256 = B9 * 4194304 := by decide +kernel
def fLo (w : Nat → Nat) (k : Nat) : Nat := if k < 9 then w k else if k = 9 then w 9 % 4194304 else 0
def fHi (w : Nat → Nat) (k : Nat) : Nat := w (9 + k) / 4194304 + 16 * (w (10 + k) % 4194304)
theorem fHi_nv (w : Nat → Nat) : ∀ n, nv 67108864 (fHi w) n + w (9 + n) / 4194304 * 67108864 ^ n = w 9 / 4194304 + 16 * nv 67108864 (fun i => w (10 + i)) n
  | 0 => by
    show 0 + w 9 / 4194304 * 1 = w 9 / 4194304 + 16 * 0
    omega
  | n + 1 => by
    have ih := fHi_nv w n
    show nv 67108864 (fHi w) n + (w (9 + n) / 4194304 + 16 * (w (10 + n) % 4194304)) * 67108864 ^ n + w (9 + (n + 1)) / 4194304 * 67108864 ^ (n + 1) = w 9 / 4194304 + 16 * (nv 67108864 (fun i => w (10 + i)) n + w (10 + n) * 67108864 ^ n)
    rw [show 9 + (n + 1) = 10 + n by omega, Nat.pow_succ, Nat.add_mul, Nat.mul_add]
    generalize (67108864 : Nat) ^ n = E at ih ⊢
    have e := Nat.mod_add_div (w (10 + n)) 4194304
    have e2 : w (10 + n) * E = w (10 + n) % 4194304 * E + 4194304 * (w (10 + n) / 4194304 * E) := by
      have : w (10 + n) * E = (w (10 + n) % 4194304 + 4194304 * (w (10 + n) / 4194304)) * E := by rw [e]
      rw [this, Nat.add_mul, Nat.mul_assoc]
    have e3 : 16 * (w (10 + n) % 4194304) * E = 16 * (w (10 + n) % 4194304 * E) := Nat.mul_assoc ..
    have e4 : w (10 + n) / 4194304 * (E * 67108864) = 67108864 * (w (10 + n) / 4194304 * E) := by
      rw [← Nat.mul_assoc, Nat.mul_comm _ 67108864]
    omega
theorem fold_nums {L A T w9 q nvh : Nat} {E V : Nat} (hV : V = L + E * (w9 + 67108864 * T)) (hL : L < E) (hh : nvh = w9 / 4194304 + 16 * T) : V % (E * 4194304) = L + E * (w9 % 4194304) ∧ V / (E * 4194304) = nvh := by
  have e1 : w9 + 67108864 * T = w9 % 4194304 + 4194304 * nvh := by omega
  have e2 : V = (L + E * (w9 % 4194304)) + E * 4194304 * nvh := by
    rw [hV, e1, Nat.mul_add, ← Nat.mul_assoc]
    omega
  have hlt : L + E * (w9 % 4194304) < E * 4194304 := by
    have h1 : w9 % 4194304 + 1 ≤ 4194304 := Nat.mod_lt _ (by decide)
    have h2 := Nat.mul_le_mul_left E h1
    rw [Nat.mul_add, Nat.mul_one] at h2
    omega
  have hpos : 0 < E * 4194304 := by omega
  rw [e2]
  exact ⟨by rw [Nat.add_mul_mod_self_left, Nat.mod_eq_of_lt hlt], by rw [Nat.add_mul_div_left _ _ hpos, Nat.div_eq_of_lt hlt, Nat.zero_add]⟩
theorem fLo_nv {w : Nat → Nat} : nv 67108864 (fLo w) 22 = nv 67108864 w 9 + B9 * (w 9 % 4194304) := by
  have h := nv_256 (w := fLo w)
  have h1 : nv 67108864 (fLo w) 9 = nv 67108864 w 9 := nv_ext fun i hi => if_pos hi
  have h2 : nv 67108864 (fun i => fLo w (10 + i)) 12 = 0 := nv_zero fun i hi => by
    show fLo w (10 + i) = 0
    unfold fLo
    rw [if_neg (by omega), if_neg (by omega)]
  have h3 : fLo w 9 = w 9 % 4194304 := by
    unfold fLo
    rw [if_neg (by decide), if_pos rfl]
  rw [h, h1, h2, h3, Nat.mul_zero, Nat.add_zero]
  rfl
theorem fold_ok {w : Nat → Nat} (hb : ∀ k, k < 22 → w k < 67108864) (h21 : w 21 < 4194304) : nv 67108864 (fLo w) 22 = nv 67108864 w 22 % t256 ∧ nv 67108864 (fHi w) 12 = nv 67108864 w 22 / t256 := by
  have h9 : nv 67108864 w 9 < B9 := nv_lt fun k hk => hb k (by omega)
  have e := nv_256 (w := w)
  have eh := fHi_nv w 12
  rw [show w (9 + 12) / 4194304 = 0 from Nat.div_eq_of_lt h21, Nat.zero_mul, Nat.add_zero] at eh
  have := fold_nums (E := B9) (A := 0) (q := 0) e h9 eh
  rw [← t256_B9] at this
  exact ⟨fLo_nv.trans this.1.symm, this.2.symm⟩
theorem bd_step {a b c k : Nat} (h1 : a ≤ b + 4503599627370496) (h2 : b ≤ c + k * 4503599627370496) : a ≤ c + (k + 1) * 4503599627370496 := by
  generalize 4503599627370496 = K at *
  rw [Nat.add_mul, Nat.one_mul, ← Nat.add_assoc]
  exact Nat.le_trans h1 (Nat.add_le_add_right h2 _)
section FOLD
variable {Q : Unit → jH → Prop} {H0 : jH} {M0 : Nat → Prop}
/-- the high digits come in -/
theorem z13_fold96 {k58 : Nat → Int32 → Int32 → jH → Option (Unit × jH)} {m k x : Nat} {f0 : Nat → Nat} (hm : m < 2) (hk12 : k < 12) (hs : jsh H0) (hx : x < 67108864) (hC : z13C H0)
    (hk : ∀ H' f, jf3 M0 H0 H' → (jL H' 430 = jL H0 430) → zl3 H' 431 f → nv 67108864 f 22 = nv 67108864 f0 22 + x * mC m * 67108864 ^ k → (∀ j, f j ≤ f0 j + 4503599627370496) → jT (k58 428 (Int32.ofNat (10 * m)) (Int32.ofNat (k + 1)) H') Q) :
    ∀ (d j fu : Nat) (f : Nat → Nat) (H : jH), j + d = 5 → d < fu → jf3 M0 H0 H → (jL H 430 = jL H0 430) → zl3 H 431 f → nv 67108864 f 22 = nv 67108864 f0 22 + x * nv 67108864 (mD m) j * 67108864 ^ k → (∀ j, f j ≤ f0 j + 4503599627370496) → (∀ i, k + j ≤ i → f i = f0 i) →
      jT (F_13_fold_96 k58 fu 428 (Int32.ofNat (10 * m)) (Int32.ofNat k) (Int64.ofNat x) (Int32.ofNat j) H) Q := by
  intro d
  induction d with
  | zero =>
    intro j fu f H hj hfu hfr h430 hf hval hbd hsame
    obtain ⟨fu, rfl⟩ : ∃ k, fu = k + 1 := ⟨fu - 1, by omega⟩
    obtain rfl : j = 5 := by omega
    unfold F_13_fold_96 B_13_fold_96 B_13_fold_138
    have e1 : Int32.ofNat k + 1 = Int32.ofNat (k + 1) := jo_add (a := k) (b := 1)
    rw [e1]
    rw [mD_nv] at hval
    exact jT_pos (by decide) (jT_l (hk H f hfr h430 hf hval hbd))
  | succ d ih =>
    intro j fu f H hj hfu hfr h430 hf hval hbd hsame
    obtain ⟨fu, rfl⟩ : ∃ k, fu = k + 1 := ⟨fu - 1, by omega⟩
    unfold F_13_fold_96 B_13_fold_96 B_13_fold_138
    have hsH := jsh_f3 hs hfr
    have e1 : Int32.ofNat k + 1 = Int32.ofNat (k + 1) := jo_add (a := k) (b := 1)
    have ej : Int32.ofNat j + 1 = Int32.ofNat (j + 1) := jo_add (a := j) (b := 1)
    have ekj : Int32.ofNat k + Int32.ofNat j = Int32.ofNat (k + j) := jo_add
    have emj : Int32.ofNat (10 * m) + Int32.ofNat j = Int32.ofNat (10 * m + j) := jo_add
    refine jT_neg (by rw [show (5 : Int32) = Int32.ofNat 5 from rfl, jo_le (by omega) (by omega)]; omega) ?_
    by_cases hx0 : x = 0
    · rw [e1]
      refine jT_pos ((lo_le0 (by omega)).mpr hx0) (jT_l (hk H f hfr h430 hf ?_ hbd))
      rw [hval, hx0]
      simp only [Nat.zero_mul]
    · have vD : jI H 432 (10 * m + j) = Int32.ofNat (mD m j) := (hfr.2.2.2.2.2.2 432 _ fun q => absurd q.1 (by decide)).trans (hC.2.2.2.2.2.2 m j hm (by omega))
      have lD := mD_lt m j
      refine jT_neg (fun q => hx0 ((lo_le0 (by omega)).mp q)) (jT_g (k13 hsH) ?_)
      rw [sR_428_2 hsH, sR_428_3 hsH, ekj, emj, jo_nat (n := k + j) (by omega), jo_nat (n := 10 * m + j) (by omega), hf (k + j) (by omega), vD, lo_i32 (by omega), lo_mul, lo_add, ej]
      refine jT_g (g431 hsH (by omega)) (jT_g (k13 hsH) (jT_g (by rw [sK_432 hsH]; exact ⟨rfl, jo_in (by omega) (by show 10 * m + j < 20; omega)⟩) (jT_g (g431 hsH (by omega)) (jT_l (jT_l (ih (j + 1) fu (nup f (k + j) (f (k + j) + x * mD m j)) _ (by omega) (by omega) (jf3_sL hfr (Or.inr rfl)) ?_ (zl3_up hf) ?_ (fun i => ?_) fun i hi2 => ?_))))))
      · refine Eq.trans (funext fun i => ?_) h430
        show jup (jL H) 431 (k + j) (Int64.ofNat (f (k + j) + x * mD m j)) 430 i = jL H 430 i
        exact jup_a (by decide)
      · have hup := nv_up (b := 67108864) (w := f) (i := k + j) (v := f (k + j) + x * mD m j) (n := 22) (by omega)
        rw [Nat.pow_add] at hup
        exact acc_step hup hval
      · unfold nup
        by_cases e : i = k + j
        · rw [if_pos e, e, hsame (k + j) (Nat.le_refl _)]
          have : x * mD m j ≤ 67108864 * 67108864 := Nat.mul_le_mul (by omega) (by omega)
          omega
        · rw [if_neg e]
          exact hbd i
      · unfold nup
        rw [if_neg (by omega)]
        exact hsame i (by omega)
theorem z13_fold146 {f : Nat → Nat} {V : Nat} (hs : jsh H0) (hV : V < W22) (hfb : ∀ k, k < 22 → f k < 4611686018427387904) (hfv : nv 67108864 f 22 = V)
    (hk : ∀ H' w, jf3 M0 H0 H' → zl3 H' 430 w → (∀ k, k < 22 → w k < 67108864) → nv 67108864 w 22 = V → Q () H') :
    ∀ (d i fu : Nat) (H : jH), i + d = 22 → d < fu → jf3 M0 H0 H → zl3 H 431 f → (∀ j, j < i → jL H 430 j = Int64.ofNat (f j)) → jT (F_13_fold_146 fu 428 (Int32.ofNat i) H) Q := by
  intro d
  induction d with
  | zero =>
    intro i fu H hi hfu hfr hf h1
    obtain ⟨fu, rfl⟩ : ∃ k, fu = k + 1 := ⟨fu - 1, by omega⟩
    have hi22 : i = 22 := by omega
    unfold F_13_fold_146 B_13_fold_146
    have hsH := jsh_f3 hs hfr
    refine jT_pos (by rw [hi22]; decide) (jT_g (k13 hsH) (jT_b (z13_carry (M0 := M0) (w := f) hsH (fun k hk2 => h1 k (by omega)) hfb hfv hV fun H1 w1 f1 _ z1 b1 v1 => jT_ret (hk H1 w1 (jf3_trans hfr f1) z1 b1 v1))))
  | succ d ih =>
    intro i fu H hi hfu hfr hf h1
    obtain ⟨fu, rfl⟩ : ∃ k, fu = k + 1 := ⟨fu - 1, by omega⟩
    unfold F_13_fold_146 B_13_fold_146
    have hsH := jsh_f3 hs hfr
    have e1 : Int32.ofNat i + 1 = Int32.ofNat (i + 1) := jo_add (a := i) (b := 1)
    refine jT_neg (by rw [show (22 : Int32) = Int32.ofNat 22 from rfl, jo_le (by omega) (by omega)]; omega) (jT_g (k13 hsH) (jT_g (k13 hsH) ?_))
    rw [sR_428_2 hsH, sR_428_1 hsH, jo_nat (n := i) (by omega), hf i (by omega), e1]
    refine jT_g (g431 hsH (by omega)) (jT_g (g430 hsH (by omega)) (jT_l (jT_l (ih (i + 1) fu _ (by omega) (by omega) (jf3_sL hfr (Or.inl rfl)) (zl3_ne hf (by decide)) fun j hj => ?_))))
    by_cases e : j = i
    · rw [e]
      exact jup_eq
    · exact (jup_i e).trans (h1 j (by omega))
theorem z13_fold58 {m : Nat} {w f0 : Nat → Nat} {V : Nat} (hm : m < 2) (hs : jsh H0) (hC : z13C H0) (hM : mOk M0) (hw : zl3 H0 430 w) (hb : ∀ k, k < 22 → w k < 67108864) (hV : V < W22) (hf0 : ∀ k, f0 k < 67108864) (hVe : nv 67108864 f0 22 + nv 67108864 (fHi w) 12 * mC m = V)
    (hk : ∀ H' w', jf3 M0 H0 H' → zl3 H' 430 w' → (∀ k, k < 22 → w' k < 67108864) → nv 67108864 w' 22 = V → Q () H') :
    ∀ (d k fu : Nat) (f : Nat → Nat) (H : jH), k + d = 12 → d < fu → jf3 M0 H0 H → (jL H 430 = jL H0 430) → zl3 H 431 f → nv 67108864 f 22 = nv 67108864 f0 22 + nv 67108864 (fHi w) k * mC m → (∀ j, f j ≤ f0 j + k * 4503599627370496) → jT (F_13_fold_58 fu 428 (Int32.ofNat (10 * m)) (Int32.ofNat k) H) Q := by
  intro d
  induction d with
  | zero =>
    intro k fu f H hkd hfu hfr h430 hf hv hbd
    obtain ⟨fu, rfl⟩ : ∃ k, fu = k + 1 := ⟨fu - 1, by omega⟩
    obtain rfl : k = 12 := by omega
    unfold F_13_fold_58 B_13_fold_58
    have hsH := jsh_f3 hs hfr
    exact jT_pos (by decide) (z13_fold146 (M0 := M0) (H0 := H) (f := f) hsH hV (fun j _ => by have := hbd j; have := hf0 j; omega) (hv.trans hVe) (fun H' w' f' z' b' v' => hk H' w' (jf3_trans hfr f') z' b' v') 22 0 jfuel H rfl (by unfold jfuel; omega) jf3_refl hf fun j hj => absurd hj (Nat.not_lt_zero j))
  | succ d ih =>
    intro k fu f H hkd hfu hfr h430 hf hv hbd
    obtain ⟨fu, rfl⟩ : ∃ k, fu = k + 1 := ⟨fu - 1, by omega⟩
    unfold F_13_fold_58 B_13_fold_58
    have hsH := jsh_f3 hs hfr
    have hCH := z13C_f3 hC hfr hM
    have e9 : 9 + Int32.ofNat k = Int32.ofNat (9 + k) := jo_add (a := 9) (b := k)
    have e10 : 10 + Int32.ofNat k = Int32.ofNat (10 + k) := jo_add (a := 10) (b := k)
    have hw9 : jL H 430 (9 + k) = Int64.ofNat (w (9 + k)) := by rw [h430]; exact hw _ (by omega)
    have hw10 : jL H 430 (10 + k) = Int64.ofNat (w (10 + k)) := by rw [h430]; exact hw _ (by omega)
    have b9 := hb (9 + k) (by omega)
    have b10 := hb (10 + k) (by omega)
    have esh : jshrL (Int64.ofNat (w (9 + k))) 22 = Int64.ofNat (w (9 + k) / 4194304) := by
      rw [← Int64.ofInt_eq_ofNat, li_shr22 (by omega) (by omega), ← Int64.ofInt_eq_ofNat]
      rfl
    have ean : Int64.ofNat (w (10 + k)) &&& 4194303 = Int64.ofNat (w (10 + k) % 4194304) := by
      rw [← Int64.ofInt_eq_ofNat, li_and22, ← Int64.ofInt_eq_ofNat]
      rfl
    have ehi : jshrL (Int64.ofNat (w (9 + k))) 22 ||| jshlL (Int64.ofNat (w (10 + k)) &&& 4194303) 4 = Int64.ofNat (fHi w k) := by
      rw [esh, ean, show (4 : Int32) = Int32.ofNat 4 from rfl, lo_shl6 (by decide), Int64.or_comm, lo_or (k := 4) (by show _ < 16; omega)]
      unfold fHi
      congr 1
      omega
    have hhi : fHi w k < 67108864 := by
      unfold fHi
      omega
    refine jT_neg (by rw [show (12 : Int32) = Int32.ofNat 12 from rfl, jo_le (by omega) (by omega)]; omega) (jT_g (k13 hsH) ?_)
    rw [sR_428_1 hsH, e9, e10, jo_nat (n := 9 + k) (by omega), jo_nat (n := 10 + k) (by omega), hw9, hw10, ehi]
    refine jT_g (g430 hsH (by omega)) (jT_g (k13 hsH) (jT_g (g430 hsH (by omega)) (jT_l ?_)))
    refine z13_fold96 (M0 := M0) (H0 := H) (f0 := f) hm (by omega) hsH hhi hCH (fun H1 f1 fr1 g430' z1 v1 b1 => ?_) 5 0 jfuel f H rfl (by unfold jfuel; omega) jf3_refl rfl hf (by rw [show nv 67108864 (mD m) 0 = 0 from rfl, Nat.mul_zero, Nat.zero_mul, Nat.add_zero]) (fun j => Nat.le_add_right _ _) fun _ _ => rfl
    refine ih (k + 1) fu f1 H1 (by omega) (by omega) (jf3_trans hfr fr1) (g430'.trans h430) z1 ?_ (fun j => ?_)
    · rw [v1, hv]
      show _ = _ + (nv 67108864 (fHi w) k + fHi w k * 67108864 ^ k) * mC m
      rw [Nat.add_mul, Nat.mul_assoc (fHi w k), Nat.mul_assoc (fHi w k), Nat.mul_comm (mC m), Nat.add_assoc]
    · exact bd_step (b1 j) (hbd j)
theorem z13_fold {m : Nat} {w : Nat → Nat} {m' : Int32} (em : m' = Int32.ofNat (10 * m)) (hm : m < 2) (hs : jsh H0) (hC : z13C H0) (hM : mOk M0) (hw : zl3 H0 430 w) (hb : ∀ k, k < 22 → w k < 67108864) (h21 : w 21 < 4194304) (hV : nv 67108864 w 22 % t256 + nv 67108864 w 22 / t256 * mC m < W22)
    (hk : ∀ H' w', jf3 M0 H0 H' → zl3 H' 430 w' → (∀ k, k < 22 → w' k < 67108864) → nv 67108864 w' 22 = nv 67108864 w 22 % t256 + nv 67108864 w 22 / t256 * mC m → Q () H') : jT (F_13_fold 428 m' H0) Q := by
  subst em
  obtain ⟨q1, q2⟩ := fold_ok hb h21
  have hf0 : ∀ k, fLo w k < 67108864 := fun k => by
    unfold fLo
    split
    · exact hb k (by omega)
    · split
      · omega
      · omega
  have loop : ∀ (d i fu : Nat) (H : jH), i + d = 22 → d < fu → jf3 M0 H0 H → (jL H 430 = jL H0 430) → (∀ j, j < i → jL H 431 j = Int64.ofNat (fLo w j)) → jT (F_13_fold_2 fu 428 (Int32.ofNat (10 * m)) (Int32.ofNat i) H) Q := by
    intro d
    induction d with
    | zero =>
      intro i fu H hi hfu hfr h430 h1
      obtain ⟨fu, rfl⟩ : ∃ k, fu = k + 1 := ⟨fu - 1, by omega⟩
      have hi22 : i = 22 := by omega
      unfold F_13_fold_2 B_13_fold_2
      have hsH := jsh_f3 hs hfr
      refine jT_pos (by rw [hi22]; decide) (z13_fold58 (M0 := M0) (H0 := H) (w := w) (f0 := fLo w) (m := m) hm hsH (z13C_f3 hC hfr hM) hM (fun k hk2 => by rw [h430]; exact hw k hk2) hb hV hf0 (by rw [q1, q2]) (fun H' w' f' z' b' v' => hk H' w' (jf3_trans hfr f') z' b' v') 12 0 jfuel (fLo w) H rfl (by unfold jfuel; omega) jf3_refl rfl (fun k hk2 => h1 k (by omega)) (by rw [show nv 67108864 (fHi w) 0 = 0 from rfl, Nat.zero_mul, Nat.add_zero]) fun j => by rw [Nat.zero_mul]; omega)
    | succ d ih =>
      intro i fu H hi hfu hfr h430 h1
      obtain ⟨fu, rfl⟩ : ∃ k, fu = k + 1 := ⟨fu - 1, by omega⟩
      unfold F_13_fold_2 B_13_fold_2
      have hsH := jsh_f3 hs hfr
      have e1 : Int32.ofNat i + 1 = Int32.ofNat (i + 1) := jo_add (a := i) (b := 1)
      have tail : ∀ s : Int64, s = Int64.ofNat (fLo w i) → jT (B_13_fold_49 (F_13_fold_2 fu) 428 (Int32.ofNat (10 * m)) (Int32.ofNat i) 431 (Int32.ofNat i) s H) Q := fun s hs0 => by
        unfold B_13_fold_49
        rw [hs0, jo_nat (n := i) (by omega), e1]
        refine jT_g (g431 hsH (by omega)) (jT_l (jT_l (ih (i + 1) fu _ (by omega) (by omega) (jf3_sL hfr (Or.inr rfl)) ?_ fun j hj => ?_)))
        · refine Eq.trans (funext fun k => ?_) h430
          show jup (jL H) 431 i (Int64.ofNat (fLo w i)) 430 k = jL H 430 k
          exact jup_a (by decide)
        · by_cases e : j = i
          · rw [e]
            exact jup_eq
          · exact (jup_i e).trans (h1 j (by omega))
      have hL : ∀ k, k < 22 → jL H 430 k = Int64.ofNat (w k) := fun k hk2 => by rw [h430]; exact hw k hk2
      refine jT_neg (by rw [show (22 : Int32) = Int32.ofNat 22 from rfl, jo_le (by omega) (by omega)]; omega) (jT_g (k13 hsH) ?_)
      rw [sR_428_2 hsH]
      by_cases h9 : i < 9
      · refine jT_neg (by rw [show (9 : Int32) = Int32.ofNat 9 from rfl, jo_le (by omega) (by omega)]; omega) (jT_g (k13 hsH) ?_)
        rw [sR_428_1 hsH]
        refine jT_g (g430 hsH (by omega)) (tail _ ?_)
        rw [jo_nat (n := i) (by omega), hL i (by omega)]
        unfold fLo
        rw [if_pos h9]
      · refine jT_pos (by rw [show (9 : Int32) = Int32.ofNat 9 from rfl, jo_le (by omega) (by omega)]; omega) ?_
        by_cases h9b : i = 9
        · refine jT_neg (fun q => q (by rw [h9b]; rfl)) (jT_g (k13 hsH) ?_)
          rw [sR_428_1 hsH]
          refine jT_g (g430 hsH (k := 9) (by decide)) (tail _ ?_)
          rw [show (9 : Int32).toNatClampNeg = 9 from rfl, hL 9 (by decide), ← Int64.ofInt_eq_ofNat, li_and22, ← Int64.ofInt_eq_ofNat]
          unfold fLo
          rw [if_neg h9, if_pos h9b]
          rfl
        · refine jT_pos (fun q => h9b ((jo_eq (by omega) (by decide)).mp (q.trans (show (9 : Int32) = Int32.ofNat 9 from rfl)))) (tail _ ?_)
          unfold fLo
          rw [if_neg h9, if_neg h9b]
          rfl
  unfold F_13_fold
  exact loop 22 0 jfuel H0 rfl (by unfold jfuel; omega) jf3_refl rfl fun j hj => absurd hj (Nat.not_lt_zero j)
end FOLD
