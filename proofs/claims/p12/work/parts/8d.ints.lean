/-! Longs by their numbers; rows of ten limbs. -/
theorem li_add (a b : Int) : Int64.ofInt a + Int64.ofInt b = Int64.ofInt (a + b) := by
  refine Int64.toBitVec_inj.mp ?_
  rw [Int64.toBitVec_add, Int64.toBitVec_ofInt, Int64.toBitVec_ofInt, Int64.toBitVec_ofInt, BitVec.ofInt_add]
theorem li_mul (a b : Int) : Int64.ofInt a * Int64.ofInt b = Int64.ofInt (a * b) := by
  refine Int64.toBitVec_inj.mp ?_
  rw [Int64.toBitVec_mul, Int64.toBitVec_ofInt, Int64.toBitVec_ofInt, Int64.toBitVec_ofInt, BitVec.ofInt_mul]
theorem li_neg (a : Int) : -Int64.ofInt a = Int64.ofInt (-a) := Int64.neg_ofInt
theorem li_sub (a b : Int) : Int64.ofInt a - Int64.ofInt b = Int64.ofInt (a - b) := by
  rw [Int64.sub_eq_add_neg, li_neg, li_add, Int.sub_eq_add_neg]
theorem li_and26 (x : Int) : Int64.ofInt x &&& 67108863 = Int64.ofInt (x % 67108864) := by
  refine Int64.toBitVec_inj.mp ?_
  rw [Int64.toBitVec_and, Int64.toBitVec_ofInt, Int64.toBitVec_ofInt]
  refine BitVec.eq_of_toNat_eq ?_
  rw [BitVec.toNat_and, BitVec.toNat_ofInt, BitVec.toNat_ofInt]
  have e : (Int64.toBitVec 67108863).toNat = 2 ^ 26 - 1 := by decide
  rw [e, Nat.and_two_pow_sub_one_eq_mod]
  omega
theorem li_and22 (x : Int) : Int64.ofInt x &&& 4194303 = Int64.ofInt (x % 4194304) := by
  refine Int64.toBitVec_inj.mp ?_
  rw [Int64.toBitVec_and, Int64.toBitVec_ofInt, Int64.toBitVec_ofInt]
  refine BitVec.eq_of_toNat_eq ?_
  rw [BitVec.toNat_and, BitVec.toNat_ofInt, BitVec.toNat_ofInt]
  have e : (Int64.toBitVec 4194303).toNat = 2 ^ 22 - 1 := by decide
  rw [e, Nat.and_two_pow_sub_one_eq_mod]
  omega
theorem li_int {x : Int} (h1 : -9223372036854775808 ≤ x) (h2 : x < 9223372036854775808) : (Int64.ofInt x).toInt = x := Int64.toInt_ofInt_of_le h1 h2
theorem li_shr (x : Int) (k : Nat) (h1 : -9223372036854775808 ≤ x) (h2 : x < 9223372036854775808) : (BitVec.ofInt 64 x).sshiftRight k = BitVec.ofInt 64 (x / 2 ^ k) := by
  refine BitVec.eq_of_toInt_eq ?_
  have e : (BitVec.ofInt 64 x).toInt = x := li_int h1 h2
  have p : (0 : Int) < 2 ^ k := Int.pow_pos (by decide)
  have q1 : -9223372036854775808 ≤ x / 2 ^ k := by
    have : (2 : Int) ^ k * (-9223372036854775808) ≤ x := by
      have h3 : (1 : Int) ≤ 2 ^ k := p
      have := Int.mul_le_mul_of_nonpos_right h3 (show (-9223372036854775808 : Int) ≤ 0 by decide)
      omega
    exact Int.le_ediv_of_mul_le p (by rw [Int.mul_comm]; exact this)
  have q2 : x / 2 ^ k < 9223372036854775808 := by
    refine Int.ediv_lt_of_lt_mul p ?_
    have h3 : (1 : Int) ≤ 2 ^ k := p
    have := Int.mul_le_mul_of_nonneg_left h3 (show (0 : Int) ≤ 9223372036854775808 by decide)
    omega
  have e2 : (BitVec.ofInt 64 (x / 2 ^ k)).toInt = x / 2 ^ k := li_int q1 q2
  rw [BitVec.toInt_sshiftRight, e, e2, Int.shiftRight_eq_div_pow]
  rfl
theorem li_shr26 {x : Int} (h1 : -9223372036854775808 ≤ x) (h2 : x < 9223372036854775808) : jshrL (Int64.ofInt x) 26 = Int64.ofInt (x / 67108864) :=
  Int64.toBitVec_inj.mp (li_shr x 26 h1 h2)
theorem li_shr22 {x : Int} (h1 : -9223372036854775808 ≤ x) (h2 : x < 9223372036854775808) : jshrL (Int64.ofInt x) 22 = Int64.ofInt (x / 4194304) :=
  Int64.toBitVec_inj.mp (li_shr x 22 h1 h2)
theorem li_shr32 {x : Int} (h1 : -9223372036854775808 ≤ x) (h2 : x < 9223372036854775808) : jshrL (Int64.ofInt x) 32 = Int64.ofInt (x / 4294967296) :=
  Int64.toBitVec_inj.mp (li_shr x 32 h1 h2)
/-- only rows of longs in S are written -/
def jfL (S : Nat → Prop) (H H' : jH) : Prop := jK H' = jK H ∧ jn H' = jn H ∧ js H' = js H ∧ jI H' = jI H ∧ jR H' = jR H ∧ jB H' = jB H ∧ ∀ a, ¬ S a → ∀ j, jL H' a j = jL H a j
section JFL
variable {S S' : Nat → Prop} {H H1 H2 : jH}
theorem jfL_refl : jfL S H H := ⟨rfl, rfl, rfl, rfl, rfl, rfl, fun _ _ _ => rfl⟩
theorem jfL_trans (h1 : jfL S H H1) (h2 : jfL S H1 H2) : jfL S H H2 :=
  ⟨h2.1.trans h1.1, h2.2.1.trans h1.2.1, h2.2.2.1.trans h1.2.2.1, h2.2.2.2.1.trans h1.2.2.2.1, h2.2.2.2.2.1.trans h1.2.2.2.2.1, h2.2.2.2.2.2.1.trans h1.2.2.2.2.2.1, fun a hs j => (h2.2.2.2.2.2.2 a hs j).trans (h1.2.2.2.2.2.2 a hs j)⟩
theorem jfL_mono (h : jfL S H H1) (hs : ∀ a, S a → S' a) : jfL S' H H1 := ⟨h.1, h.2.1, h.2.2.1, h.2.2.2.1, h.2.2.2.2.1, h.2.2.2.2.2.1, fun a hn j => h.2.2.2.2.2.2 a (fun q => hn (hs a q)) j⟩
theorem jfL_sL {a i : Nat} {v : Int64} (h : jfL S H H1) (hs : S a) : jfL S H (jsL H1 a i v) :=
  jfL_trans h ⟨rfl, rfl, rfl, rfl, rfl, rfl, fun b hn j => jup_ne fun q => hn (q.1 ▸ hs)⟩
theorem jsh_fL {N : Nat} (hs : jsp N H) (h : jfL S H H1) : jsp N H1 := by
  obtain ⟨e1, e2, e3, e4, e5, e6, e7⟩ := h
  unfold jsp
  rw [e1, e2, e4, e5]
  exact hs
end JFL
def fe (f : Nat → Int) : Int := f 0 + 67108864 * f 1 + 4503599627370496 * f 2 + 302231454903657293676544 * f 3 + 20282409603651670423947251286016 * f 4 + 1361129467683753853853498429727072845824 * f 5 + 91343852333181432387730302044767688728495783936 * f 6 + 6129982163463555433433388108601236734474956488734408704 * f 7 + 411376139330301510538742295639337626245683966408394965837152256 * f 8 + 27606985387162255149739023449108101809804435888681546220650096895197184 * f 9
/-- the row r holds these limbs -/
def zg (H : jH) (r : Nat) (f : Nat → Int) : Prop := ∀ i, i < 10 → jL H r i = Int64.ofInt (f i)
def zL (H : jH) (r : Nat) (v : ef) (B : Int) : Prop := ∃ f : Nat → Int, zg H r f ∧ (∀ i, i < 10 → -B ≤ f i ∧ f i ≤ B) ∧ ef_i (fe f) = v
theorem zg_any (H : jH) (r : Nat) : zg H r fun i => (jL H r i).toInt := fun i _ => (Int64.ofInt_toInt _).symm
theorem zg_fL {S : Nat → Prop} {H H' : jH} {r : Nat} {f : Nat → Int} (h : zg H r f) (hf : jfL S H H') (hr : ¬ S r) : zg H' r f := fun i hi => (hf.2.2.2.2.2.2 r hr i).trans (h i hi)
theorem zL_fL {S : Nat → Prop} {H H' : jH} {r : Nat} {v : ef} {B : Int} (h : zL H r v B) (hf : jfL S H H') (hr : ¬ S r) : zL H' r v B := by
  obtain ⟨f, h1, h2, h3⟩ := h
  exact ⟨f, zg_fL h1 hf hr, h2, h3⟩
theorem zL_mono {H : jH} {r : Nat} {v : ef} {B C : Int} (h : zL H r v B) (hBC : B ≤ C) : zL H r v C := by
  obtain ⟨f, h1, h2, h3⟩ := h
  exact ⟨f, h1, fun i hi => ⟨by have := (h2 i hi).1; omega, by have := (h2 i hi).2; omega⟩, h3⟩
def zup (g : Nat → Int) (i : Nat) (v : Int) : Nat → Int := fun j => if j = i then v else g j
theorem zg_up {H : jH} {r i : Nat} {g : Nat → Int} {v : Int} (h : zg H r g) : zg (jsL H r i (Int64.ofInt v)) r (zup g i v) := fun j hj => by
  unfold zup
  by_cases e : j = i
  · rw [if_pos e, e]
    exact jup_eq
  · rw [if_neg e]
    exact (jup_i e).trans (h j hj)
section ZG
variable {α : Type} {Q : α → jH → Prop} {H0 H : jH} {r i : Nat} {g : Nat → Int} {S : Nat → Prop}
theorem gL (hk : jK H r = (103, 10)) {ii : Int32} (h : jin ii 10) : (jK H r).1 = 103 ∧ jin ii (jK H r).2 := by
  rw [hk]
  exact ⟨rfl, h⟩
theorem jT_lo {γ : Type} {e e' : γ} {k : γ → Option (α × jH)} (he : e = e') (h : jT (k e') Q) : jT (jl e k) Q := by
  rw [he]
  exact h
theorem jT_w {ii : Int32} {v : Int} {e : Int64} {k : jH → Option (α × jH)} (hf : jfL S H0 H) (hS : S r) (hg : zg H r g) (hi : ii.toNatClampNeg = i) (he : e = Int64.ofInt v)
    (h : ∀ H', jfL S H0 H' → zg H' r (zup g i v) → jT (k H') Q) : jT (jl (jsL H r ii.toNatClampNeg e) k) Q := by
  rw [hi, he]
  exact h _ (jfL_sL hf hS) (zg_up hg)
/-- one limb's high bits go into the next -/
def zst (g : Nat → Int) (i : Nat) : Nat → Int := zup (zup g (i + 1) (g (i + 1) + g i / 67108864)) i (g i % 67108864)
theorem z5_st {k : Int32 → jH → Option (α × jH)} (hf : jfL S H0 H) (hS : S r) (hk : jK H0 r = (103, 10)) (hi : i < 9) (hg : zg H r g) (hb : -9223372036854775808 ≤ g i ∧ g i < 9223372036854775808)
    (hn : ∀ H', jfL S H0 H' → zg H' r (zst g i) → jT (k (Int32.ofNat (i + 1)) H') Q) :
    jT (jg ((jK H r).1 = 103 ∧ jin ((Int32.ofNat i + 1)) (jK H r).2) (jg ((jK H r).1 = 103 ∧ jin (Int32.ofNat i) (jK H r).2) (jg ((jK H r).1 = 103 ∧ jin ((Int32.ofNat i + 1)) (jK H r).2)
      (jl (jsL H r ((Int32.ofNat i + 1) : Int32).toNatClampNeg ((jL H r ((Int32.ofNat i + 1) : Int32).toNatClampNeg) + (jshrL (jL H r (Int32.ofNat i : Int32).toNatClampNeg) 26))) fun h2 =>
      jg ((jK h2 r).1 = 103 ∧ jin (Int32.ofNat i) (jK h2 r).2) (jg ((jK h2 r).1 = 103 ∧ jin (Int32.ofNat i) (jK h2 r).2)
      (jl (jsL h2 r (Int32.ofNat i : Int32).toNatClampNeg ((jL h2 r (Int32.ofNat i : Int32).toNatClampNeg) &&& 67108863)) fun h3 => jl (Int32.ofNat i + 1) fun x4 => k x4 h3)))))) Q := by
  have e1 : Int32.ofNat i + 1 = Int32.ofNat (i + 1) := jo_add (a := i) (b := 1)
  have kH : jK H r = (103, 10) := by rw [hf.1, hk]
  rw [e1, jo_nat (n := i) (by omega), jo_nat (n := i + 1) (by omega), hg i (by omega), hg (i + 1) (by omega), li_shr26 hb.1 hb.2, li_add]
  refine jT_g (gL kH (jo_in (by omega) (by omega))) (jT_g (gL kH (jo_in (by omega) (by omega))) (jT_g (gL kH (jo_in (by omega) (by omega))) (jT_l ?_)))
  have g1 := zg_up (i := i + 1) (v := g (i + 1) + g i / 67108864) hg
  have f1 := jfL_sL (i := i + 1) (v := Int64.ofInt (g (i + 1) + g i / 67108864)) hf hS
  generalize jsL H r (i + 1) (Int64.ofInt (g (i + 1) + g i / 67108864)) = H1 at g1 f1
  have kH1 : jK H1 r = (103, 10) := by rw [f1.1, hk]
  have e2 : jL H1 r i = Int64.ofInt (g i) := by
    rw [g1 i (by omega)]
    unfold zup
    rw [if_neg (by omega)]
  rw [e2, li_and26]
  exact jT_g (gL kH1 (jo_in (by omega) (by omega))) (jT_g (gL kH1 (jo_in (by omega) (by omega))) (jT_l (jT_l (hn _ (jfL_sL f1 hS) (zg_up g1)))))
end ZG
def zch (g : Nat → Int) : Nat → Nat → Int
  | 0 => g
  | n + 1 => zst (zch g n) n
theorem zst_fe {g : Nat → Int} {i : Nat} (h : i < 9) : fe (zst g i) = fe g := by
  have e := Int.emod_add_mul_ediv (g i) 67108864
  rcases (show i = 0 ∨ i = 1 ∨ i = 2 ∨ i = 3 ∨ i = 4 ∨ i = 5 ∨ i = 6 ∨ i = 7 ∨ i = 8 by omega) with rfl | rfl | rfl | rfl | rfl | rfl | rfl | rfl | rfl <;>
  · unfold fe zst zup
    simp (decide := true) only [reduceIte, Nat.reduceAdd]
    omega
theorem zch_fe {g : Nat → Int} : ∀ {n : Nat}, n ≤ 9 → fe (zch g n) = fe g
  | 0, _ => rfl
  | n + 1, h => (zst_fe (by omega)).trans (zch_fe (by omega))
theorem zch_b {g : Nat → Int} (hb : ∀ j, j < 10 → -70368744177664 ≤ g j ∧ g j ≤ 70368744177664) : ∀ {n : Nat}, n ≤ 9 → (∀ j, j < n → 0 ≤ zch g n j ∧ zch g n j < 67108864) ∧ (∀ j, n < j → zch g n j = g j) ∧ -1048580 ≤ zch g n n - g n ∧ zch g n n - g n ≤ 1048580
  | 0, _ => ⟨fun j h => absurd h (Nat.not_lt_zero j), fun _ _ => rfl, by show -1048580 ≤ g 0 - g 0; omega, by show g 0 - g 0 ≤ 1048580; omega⟩
  | n + 1, h => by
    obtain ⟨h1, h2, h3, h4⟩ := zch_b hb (n := n) (by omega)
    have b1 := hb n (by omega)
    have e2 := h2 (n + 1) (by omega)
    refine ⟨fun j hj => ?_, fun j hj => ?_, ?_⟩
    · show 0 ≤ zst (zch g n) n j ∧ zst (zch g n) n j < 67108864
      unfold zst zup
      by_cases e : j = n
      · rw [if_pos e]
        omega
      · rw [if_neg e, if_neg (by omega)]
        exact h1 j (by omega)
    · show zst (zch g n) n j = g j
      unfold zst zup
      rw [if_neg (by omega), if_neg (by omega)]
      exact h2 j (by omega)
    · show -1048580 ≤ zst (zch g n) n (n + 1) - g (n + 1) ∧ zst (zch g n) n (n + 1) - g (n + 1) ≤ 1048580
      unfold zst zup
      rw [if_neg (by omega), if_pos rfl, e2]
      omega
