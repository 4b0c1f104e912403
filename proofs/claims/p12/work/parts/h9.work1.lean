/-! The class: a block's work. -/
theorem jo_m32 (x : Nat) : Int32.ofNat x = Int32.ofNat (x % 4294967296) := by
  have e : ∀ n, (Int32.ofNat n).toBitVec = BitVec.ofNat 32 n := fun _ => rfl
  refine Int32.toBitVec_inj.mp ?_
  rw [e, e]
  refine BitVec.eq_of_toNat_eq ?_
  rw [BitVec.toNat_ofNat, BitVec.toNat_ofNat]
  omega
theorem b_negL {t : Nat} (h1 : 1 ≤ t) (h2 : t ≤ 4294967296) : -Int64.ofNat t = Int64.ofNat (18446744073709551616 - t) := by
  have e : Int64.ofNat (18446744073709551616 - t) + Int64.ofNat t = 0 := by
    rw [lo_add, show 18446744073709551616 - t + t = 18446744073709551616 by omega]
    rfl
  have e2 : Int64.ofNat (18446744073709551616 - t) = Int64.ofNat (18446744073709551616 - t) + Int64.ofNat t - Int64.ofNat t := (Int64.add_sub_cancel _ _).symm
  rw [e2, e, Int64.zero_sub]
theorem b_shrm {t : Nat} (h1 : 1 ≤ t) (h2 : t ≤ 4294967296) : jshrL (Int64.ofNat (18446744073709551616 - t)) 32 = -1 := by
  refine Int64.toInt_inj.mp ?_
  have e : (jshrL (Int64.ofNat (18446744073709551616 - t)) 32).toInt = ((Int64.ofNat (18446744073709551616 - t)).toBitVec.sshiftRight 32).toInt := rfl
  have e2 : (Int64.ofNat (18446744073709551616 - t)).toBitVec.toInt = (Int64.ofNat (18446744073709551616 - t)).toInt := rfl
  rw [e, BitVec.toInt_sshiftRight, e2, b_li (by omega), if_neg (by omega), Int.shiftRight_eq_div_pow, show (-1 : Int64).toInt = -1 from rfl]
  omega
/-- what is owed -/
def b_owe (o : Nat) : Int64 := if o = 0 then 0 else -1
theorem b_owe_ge {c b o : Nat} (ho : o ≤ 1) (hc : c < 4294967296) (h : b + o ≤ c) : b_owe o + (Int64.ofNat c - Int64.ofNat b) = Int64.ofNat (c - b - o) := by
  rw [lo_sub (by omega)]
  rcases (show o = 0 ∨ o = 1 by omega) with rfl | rfl
  · show 0 + Int64.ofNat (c - b) = _
    rw [Int64.zero_add]
    rfl
  · show -1 + Int64.ofNat (c - b) = _
    rw [Int64.add_comm, ← Int64.sub_eq_add_neg]
    exact lo_sub (b := 1) (by omega)
theorem b_owe_lt {c b o : Nat} (ho : o ≤ 1) (hb : b < 4294967296) (h : c < b + o) : b_owe o + (Int64.ofNat c - Int64.ofNat b) = Int64.ofNat (18446744073709551616 - (b + o - c)) := by
  rw [← b_negL (by omega) (by omega)]
  have e1 : Int64.ofNat (b + o) = Int64.ofNat c + Int64.ofNat (b + o - c) := by rw [lo_add]; congr 1; omega
  have e2 : b_owe o = -Int64.ofNat o := by
    rcases (show o = 0 ∨ o = 1 by omega) with rfl | rfl <;> rfl
  rw [← lo_add] at e1
  rw [e2]
  generalize Int64.ofNat (b + o - c) = t at e1 ⊢
  generalize Int64.ofNat o = z at e1 ⊢
  grind
theorem b_dg4 {V q r : Nat} (hr : r < 32) (h : ∃ W, V = W * 2 ^ (32 * q + r + 1)) : ∃ a, V / 4294967296 ^ q % 4294967296 = a * 2 ^ (r + 1) ∧ a * 2 ^ (r + 1) + 2 ^ r < 4294967296 := by
  obtain ⟨W, rfl⟩ := h
  have e : W * 2 ^ (32 * q + r + 1) = 4294967296 ^ q * (W * 2 ^ (r + 1)) := by
    rw [show 32 * q + r + 1 = 32 * q + (r + 1) by omega, Nat.pow_add, Nat.pow_mul, show (2 : Nat) ^ 32 = 4294967296 by rfl, Nat.mul_left_comm]
  rw [e, Nat.mul_div_cancel_left _ (Nat.pow_pos (by decide))]
  have hp : (4294967296 : Nat) = 2 ^ (31 - r) * 2 ^ (r + 1) := by
    rw [← Nat.pow_add, show 31 - r + (r + 1) = 32 by omega]
  have e2 : W * 2 ^ (r + 1) % 4294967296 = W % 2 ^ (31 - r) * 2 ^ (r + 1) := by
    rw [hp, Nat.mul_mod_mul_right]
  have hlt := Nat.mod_lt W (show 0 < 2 ^ (31 - r) from Nat.pow_pos (by decide))
  refine ⟨W % 2 ^ (31 - r), e2, ?_⟩
  have h3 : (W % 2 ^ (31 - r) + 1) * 2 ^ (r + 1) ≤ 2 ^ (31 - r) * 2 ^ (r + 1) := Nat.mul_le_mul_right _ hlt
  rw [← hp, Nat.add_mul, Nat.one_mul] at h3
  have h4 : 2 ^ (r + 1) = 2 ^ r * 2 := Nat.pow_succ _ _
  have h5 : 0 < 2 ^ r := Nat.pow_pos (by decide)
  omega
/-- eight words hold a number -/
def r8 (H : jH) (a n : Nat) : Prop := ∃ f, zw8 H a 8 f ∧ nv 4294967296 f 8 = n
theorem r8_fr {T : Nat → Nat → Prop} {H H' : jH} {a n : Nat} (h : r8 H a n) (hf : jfr T H H') (hT : ∀ j, ¬ T a j) : r8 H' a n := by
  obtain ⟨d, h1, h2⟩ := h
  exact ⟨d, fun i hi => ⟨(jfr_I hf (hT i)).trans (h1 i hi).1, (h1 i hi).2⟩, h2⟩
def b_Tw (W : Nat) : Nat → Nat → Prop := fun a _ => a = 403 ∨ a = 405 ∨ a = W
section WK1
variable {Q : Unit → jH → Prop} {H0 : jH} {B W : Nat}
/-- the shape that work needs -/
def b_ws (B W : Nat) (H : jH) : Prop := jsh H ∧ (jK H B).1 = 0 ∧ jR H B 8 = W ∧ jK H W = (100, 8) ∧ 410 ≤ W ∧ W ≠ 404 ∧ B ≠ W ∧ B ≠ 403 ∧ B ≠ 405 ∧ (413 ≤ W → W = 413 ∨ 422 ≤ W)
theorem b_ws_fr {H : jH} (h : b_ws B W H0) (hf : jfr (b_Tw W) H0 H) : b_ws B W H := by
  obtain ⟨a1, a2, a3, a4, a5, a6, a7, a8, a9, a10⟩ := h
  have hW : 413 ≤ W ∨ W < 413 := by omega
  refine ⟨jsh_fr a1 hf ?_ fun a ha j w => by unfold b_Tw at w; omega, by rw [jfr_K hf]; exact a2, (jfr_R hf (by unfold b_Tw; omega)).trans a3, by rw [jfr_K hf]; exact a4, a5, a6, a7, a8, a9, a10⟩
  have : ∀ q ∈ jRs, q.1 ≠ 403 ∧ q.1 ≠ 405 ∧ q.1 ≠ 411 ∧ q.1 ≠ 412 ∧ q.1 ≠ 413 ∧ q.1 < 422 := by decide +kernel
  intro q hq w
  have h1 := this q hq
  unfold b_Tw at w
  have k410 : W ≠ 410 := fun e => by
    rw [e, sK_410 a1] at a4
    exact absurd (congrArg Prod.fst a4) (by decide)
  omega
theorem z1_double {k77 : Nat → Nat → Int32 → jH → Option (Unit × jH)} {k c in0 : Nat} (hz : b_ws B W H0) (hin : in0 ≤ 1) (hc : r9 H0 405 c) (hlt : 2 * c + in0 < 4294967296 ^ 9)
    (hk : ∀ H' fu, jfr (b_Ta 405) H0 H' → r9 H' 405 (2 * c + in0) → jT (B_1_setWork_97 k77 (F_1_setWork_97 k77 fu) 398 B (Int32.ofNat k) 0 9 H') Q) : jT (F_1_setWork_97 k77 jfuel 398 B (Int32.ofNat k) (Int32.ofNat in0) 0 H0) Q := by
  obtain ⟨d, d1, d2⟩ := hc
  have loop : ∀ (dd i fu t : Nat) (e : Nat → Nat) (H : jH), i + dd = 9 → dd < fu → t ≤ 1 → jfr (b_Ta 405) H0 H → (∀ j, j < 9 → jI H 405 j = Int32.ofNat (if j < i then e j else d j)) → (∀ j, j < i → e j < 4294967296) → nv 4294967296 e i + t * 4294967296 ^ i = 2 * nv 4294967296 d i + in0 → jT (F_1_setWork_97 k77 fu 398 B (Int32.ofNat k) (Int32.ofNat t) (Int32.ofNat i) H) Q := by
    intro dd
    induction dd with
    | zero =>
      intro i fu t e H hi hfu ht hf hv he hh
      obtain ⟨fu, rfl⟩ : ∃ k, fu = k + 1 := ⟨fu - 1, by omega⟩
      obtain rfl : i = 9 := by omega
      rw [d2] at hh
      have t0 : t = 0 := by
        rcases (show t = 0 ∨ t = 1 by omega) with h | h
        · exact h
        · rw [h, Nat.one_mul] at hh
          generalize 4294967296 ^ 9 = z at hh hlt
          omega
      subst t0
      rw [Nat.zero_mul, Nat.add_zero] at hh
      unfold F_1_setWork_97
      exact hk H fu hf ⟨e, fun j hj => ⟨(hv j hj).trans (congrArg Int32.ofNat (if_pos hj)), he j hj⟩, hh⟩
    | succ dd ih =>
      intro i fu t e H hi hfu ht hf hv he hh
      obtain ⟨fu, rfl⟩ : ∃ k, fu = k + 1 := ⟨fu - 1, by omega⟩
      have hs := (b_ws_fr hz (jfr_mono hf fun a j w => Or.inr (Or.inl w))).1
      have k1 : (jK H 398).1 = 1 := gT (sK_398 hs)
      have e1 : Int32.ofNat i + 1 = Int32.ofNat (i + 1) := jo_add (a := i) (b := 1)
      have hdi := (d1 i (by omega)).2
      have ev : jI H 405 i = Int32.ofNat (d i) := (hv i (by omega)).trans (congrArg Int32.ofNat (if_neg (Nat.lt_irrefl _)))
      have ex : jshl (Int32.ofNat (d i)) 1 ||| Int32.ofNat t = Int32.ofNat ((2 * d i + t) % 4294967296) := by
        have a1 : jshl (Int32.ofNat (d i)) 1 = Int32.ofNat (d i * 2 ^ 1) := jo_shl (c := 1) (by decide)
        rw [a1, jo_or (k := 1) (by omega), jo_m32]
        congr 2
        omega
      have eq : jushr (Int32.ofNat (d i)) 31 = Int32.ofNat ((2 * d i + t) / 4294967296) := by
        have a1 : jushr (Int32.ofNat (d i)) 31 = Int32.ofNat (d i / 2 ^ 31) := jo_ushr (c := 31) hdi (by decide)
        rw [a1]
        congr 1
        omega
      have g : jin (Int32.ofNat i) 9 := jo_in (by omega) (by omega)
      unfold F_1_setWork_97 B_1_setWork_97
      rw [sR_398_13 hs, sK_405 hs, jo_nat (n := i) (by omega), ev, e1, eq]
      refine jT_neg (by show ¬ Int32.ofNat 9 ≤ _; rw [jo_le (by decide) (by omega)]; omega) (jT_g k1 (jT_g ⟨rfl, g⟩ (jT_l (jT_g k1 (jT_g k1 (jT_g ⟨rfl, g⟩ (jT_g ⟨rfl, by decide, g⟩ ?_)))))))
      rw [ex]
      refine jT_l (jT_l (ih (i + 1) fu _ (nup e i ((2 * d i + t) % 4294967296)) _ (by omega) (by omega) (by omega) (jfr_sI hf rfl) (fun j hj => ?_) (fun j hj => ?_) ?_))
      · by_cases cj : j = i
        · rw [cj, if_pos (Nat.lt_succ_self _)]
          unfold nup
          rw [if_pos rfl]
          exact jI_sIe
        · refine (jI_sIn cj).trans ((hv j hj).trans ?_)
          unfold nup
          rw [if_neg cj]
          by_cases c2 : j < i
          · rw [if_pos c2, if_pos (by omega)]
          · rw [if_neg c2, if_neg (by omega)]
      · unfold nup
        split
        · exact Nat.mod_lt _ (by decide)
        · exact he j (by omega)
      · have h1 : nv 4294967296 (nup e i ((2 * d i + t) % 4294967296)) (i + 1) = nv 4294967296 e i + (2 * d i + t) % 4294967296 * 4294967296 ^ i := by
          have hx : nv 4294967296 (nup e i ((2 * d i + t) % 4294967296)) i = nv 4294967296 e i := nv_ext fun j hj => by
            unfold nup
            rw [if_neg (by omega)]
          show nv 4294967296 (nup e i ((2 * d i + t) % 4294967296)) i + nup e i ((2 * d i + t) % 4294967296) i * 4294967296 ^ i = _
          rw [hx]
          unfold nup
          rw [if_pos rfl]
        have h2 : nv 4294967296 d (i + 1) = nv 4294967296 d i + d i * 4294967296 ^ i := rfl
        rw [h1, h2, Nat.pow_succ]
        have hdm := Nat.div_add_mod (2 * d i + t) 4294967296
        generalize (2 * d i + t) / 4294967296 = y at hdm ⊢
        generalize (2 * d i + t) % 4294967296 = z at hdm ⊢
        generalize 4294967296 ^ i = w at hh ⊢
        have e4 : (4294967296 * y + z) * w = (2 * d i + t) * w := by rw [hdm]
        rw [Nat.add_mul, Nat.add_mul] at e4
        have e5 : y * (w * 4294967296) = 4294967296 * y * w := by rw [Nat.mul_comm w, ← Nat.mul_assoc, Nat.mul_comm y]
        have e6 : 2 * d i * w = 2 * (d i * w) := Nat.mul_assoc _ _ _
        rw [e5]
        generalize 4294967296 * y * w = p1 at e4 ⊢
        omega
  exact loop 9 0 jfuel in0 (fun _ => 0) H0 rfl (by unfold jfuel; omega) hin jfr_refl (fun j hj => (d1 j hj).1.trans (congrArg Int32.ofNat (if_neg (Nat.not_lt_zero j)).symm)) (fun j hj => absurd hj (Nat.not_lt_zero j)) (by show 0 + in0 * 4294967296 ^ 0 = 2 * 0 + in0; omega)
theorem z1_minus {k77 : Nat → Nat → Int32 → jH → Option (Unit × jH)} {k c b : Nat} (hz : b_ws B W H0) (hc : r9 H0 405 c) (hb : r9 H0 403 b) (hle : b ≤ c)
    (hk : ∀ H' fu (z : Int64), jfr (b_Ta 405) H0 H' → r9 H' 405 (c - b) → jT (B_1_setWork_163 k77 (F_1_setWork_163 k77 fu) 398 B (Int32.ofNat k) z 9 H') Q) : jT (F_1_setWork_163 k77 jfuel 398 B (Int32.ofNat k) 0 0 H0) Q := by
  obtain ⟨d, d1, d2⟩ := hc
  obtain ⟨f, f1, f2⟩ := hb
  have loop : ∀ (dd i fu t : Nat) (e : Nat → Nat) (H : jH), i + dd = 9 → dd < fu → t ≤ 1 → jfr (b_Ta 405) H0 H → (∀ j, j < 9 → jI H 405 j = Int32.ofNat (if j < i then e j else d j)) → (∀ j, j < i → e j < 4294967296) → nv 4294967296 e i + nv 4294967296 f i = nv 4294967296 d i + t * 4294967296 ^ i → jT (F_1_setWork_163 k77 fu 398 B (Int32.ofNat k) (b_owe t) (Int32.ofNat i) H) Q := by
    intro dd
    induction dd with
    | zero =>
      intro i fu t e H hi hfu ht hf hv he hh
      obtain ⟨fu, rfl⟩ : ∃ k, fu = k + 1 := ⟨fu - 1, by omega⟩
      obtain rfl : i = 9 := by omega
      have hlt : nv 4294967296 e 9 < 4294967296 ^ 9 := nv_lt fun j hj => he j hj
      rw [d2, f2] at hh
      have t0 : t = 0 := by
        rcases (show t = 0 ∨ t = 1 by omega) with h | h
        · exact h
        · rw [h, Nat.one_mul] at hh
          generalize 4294967296 ^ 9 = z at hh hlt
          omega
      subst t0
      rw [Nat.zero_mul, Nat.add_zero] at hh
      unfold F_1_setWork_163
      exact hk H fu _ hf ⟨e, fun j hj => ⟨(hv j hj).trans (congrArg Int32.ofNat (if_pos hj)), he j hj⟩, by omega⟩
    | succ dd ih =>
      intro i fu t e H hi hfu ht hf hv he hh
      obtain ⟨fu, rfl⟩ : ∃ k, fu = k + 1 := ⟨fu - 1, by omega⟩
      have hs := (b_ws_fr hz (jfr_mono hf fun a j w => Or.inr (Or.inl w))).1
      have k1 : (jK H 398).1 = 1 := gT (sK_398 hs)
      have e1 : Int32.ofNat i + 1 = Int32.ofNat (i + 1) := jo_add (a := i) (b := 1)
      have hdi := (d1 i (by omega)).2
      have hfi := (f1 i (by omega)).2
      have ev : jI H 405 i = Int32.ofNat (d i) := (hv i (by omega)).trans (congrArg Int32.ofNat (if_neg (Nat.lt_irrefl _)))
      have ew : jI H 403 i = Int32.ofNat (f i) := (jfr_I hf (by unfold b_Ta; omega)).trans (f1 i (by omega)).1
      have g : jin (Int32.ofNat i) 9 := jo_in (by omega) (by omega)
      have put : ∀ (x t' : Nat), x < 4294967296 → t' ≤ 1 → x + f i + t = d i + t' * 4294967296 → jT (F_1_setWork_163 k77 fu 398 B (Int32.ofNat k) (b_owe t') (Int32.ofNat (i + 1)) (jsI H 405 i (Int32.ofNat x))) Q := fun x t' hx ht' hxx => by
        refine ih (i + 1) fu t' (nup e i x) _ (by omega) (by omega) ht' (jfr_sI hf rfl) (fun j hj => ?_) (fun j hj => ?_) ?_
        · by_cases cj : j = i
          · rw [cj, if_pos (Nat.lt_succ_self _)]
            unfold nup
            rw [if_pos rfl]
            exact jI_sIe
          · refine (jI_sIn cj).trans ((hv j hj).trans ?_)
            unfold nup
            rw [if_neg cj]
            by_cases c2 : j < i
            · rw [if_pos c2, if_pos (by omega)]
            · rw [if_neg c2, if_neg (by omega)]
        · unfold nup
          split
          · exact hx
          · exact he j (by omega)
        · have h1 : nv 4294967296 (nup e i x) (i + 1) = nv 4294967296 e i + x * 4294967296 ^ i := by
            have hx : nv 4294967296 (nup e i x) i = nv 4294967296 e i := nv_ext fun j hj => by
              unfold nup
              rw [if_neg (by omega)]
            show nv 4294967296 (nup e i x) i + nup e i x i * 4294967296 ^ i = _
            rw [hx]
            unfold nup
            rw [if_pos rfl]
          have h2 : nv 4294967296 d (i + 1) = nv 4294967296 d i + d i * 4294967296 ^ i := rfl
          have h3 : nv 4294967296 f (i + 1) = nv 4294967296 f i + f i * 4294967296 ^ i := rfl
          rw [h1, h2, h3, Nat.pow_succ]
          generalize 4294967296 ^ i = w at hh ⊢
          have e4 : (x + f i + t) * w = (d i + t' * 4294967296) * w := by rw [hxx]
          rw [Nat.add_mul, Nat.add_mul, Nat.add_mul] at e4
          have e5 : t' * (w * 4294967296) = t' * 4294967296 * w := by rw [Nat.mul_comm w, ← Nat.mul_assoc]
          rw [e5]
          generalize t' * 4294967296 * w = p1 at e4 ⊢
          omega
      unfold F_1_setWork_163 B_1_setWork_163
      rw [sR_398_11 hs, sR_398_13 hs, sK_403 hs, sK_405 hs, jo_nat (n := i) (by omega), ev, ew, e1, lw_of hdi, lw_of hfi]
      refine jT_neg (by show ¬ Int32.ofNat 9 ≤ _; rw [jo_le (by decide) (by omega)]; omega) (jT_g k1 (jT_g ⟨rfl, g⟩ (jT_g k1 (jT_g ⟨rfl, g⟩ ?_))))
      by_cases c : f i + t ≤ d i
      · rw [b_owe_ge ht hdi c]
        refine jT_l (jT_g k1 (jT_g ⟨rfl, by decide, g⟩ ?_))
        have esh : jshrL (Int64.ofNat (d i - f i - t)) 32 = b_owe 0 := by
          rw [show (32 : Int32) = Int32.ofNat 32 from rfl, lo_shr (by omega) (by decide), Nat.div_eq_of_lt (by omega)]
          rfl
        rw [esh, lo_to32 (by omega)]
        exact jT_l (jT_l (jT_l (put _ 0 (by omega) (by decide) (by omega))))
      · rw [b_owe_lt ht hfi (by omega)]
        refine jT_l (jT_g k1 (jT_g ⟨rfl, by decide, g⟩ ?_))
        have esh : jshrL (Int64.ofNat (18446744073709551616 - (f i + t - d i))) 32 = b_owe 1 := b_shrm (by omega) (by omega)
        have e32 : Int64.toInt32 (Int64.ofNat (18446744073709551616 - (f i + t - d i))) = Int32.ofNat ((4294967296 - (f i + t - d i)) % 4294967296) := by
          rw [lw_i32]
          congr 1
          omega
        rw [esh, e32]
        exact jT_l (jT_l (jT_l (put _ 1 (Nat.mod_lt _ (by decide)) (Nat.le_refl _) (by omega))))
  exact loop 9 0 jfuel 0 (fun _ => 0) H0 rfl (by unfold jfuel; omega) (by decide) jfr_refl (fun j hj => (d1 j hj).1.trans (congrArg Int32.ofNat (if_neg (Nat.not_lt_zero j)).symm)) (fun j hj => absurd hj (Nat.not_lt_zero j)) (by show 0 + 0 = 0 + 0 * 4294967296 ^ 0; omega)
end WK1
