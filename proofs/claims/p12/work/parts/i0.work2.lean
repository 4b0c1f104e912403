/-! The class: a block's work, whole. -/
section WK2
variable {Q : Unit → jH → Prop} {H0 : jH} {B W pB P pw : Nat}
/-- the parent's work is added -/
theorem z1_wk259 (hz : b_ws B W H0) (h5 : jR H0 B 5 = pB) (hp0 : pB ≠ 0) (kp : (jK H0 pB).1 = 0) (h8 : jR H0 pB 8 = P) (kP : jK H0 P = (100, 8)) (hPW : P ≠ W) (hPt : P ≠ 403 ∧ P ≠ 405) (hpB : pB ≠ W ∧ pB ≠ 403 ∧ pB ≠ 405) {q : Nat} (hr : r8 H0 W q) (hpw : r8 H0 P pw) (hlt : pw + q < 2 ^ 256) (hk : ∀ H', jfr (b_Tw W) H0 H' → r8 H' W (pw + q) → Q () H') : jT (F_1_setWork_259 jfuel B 0 0 H0) Q := by
  obtain ⟨d, d1, d2⟩ := hr
  obtain ⟨f, f1, f2⟩ := hpw
  have loop : ∀ (dd i fu t : Nat) (e : Nat → Nat) (H : jH), i + dd = 8 → dd < fu → t ≤ 1 → jfr (b_Tw W) H0 H → (∀ j, j < 8 → jI H W j = Int32.ofNat (if j < i then e j else d j)) → (∀ j, j < 8 → jI H P j = jI H0 P j) → (∀ j, j < i → e j < 4294967296) → nv 4294967296 e i + t * 4294967296 ^ i = nv 4294967296 d i + nv 4294967296 f i → jT (F_1_setWork_259 fu B (Int64.ofNat t) (Int32.ofNat i) H) Q := by
    intro dd
    induction dd with
    | zero =>
      intro i fu t e H hi hfu ht hf hv hP he hh
      obtain ⟨fu, rfl⟩ : ∃ k, fu = k + 1 := ⟨fu - 1, by omega⟩
      obtain rfl : i = 8 := by omega
      rw [d2, f2] at hh
      have p8 : (2 : Nat) ^ 256 = 4294967296 ^ 8 := by decide +kernel
      have t0 : t = 0 := by
        rcases (show t = 0 ∨ t = 1 by omega) with h | h
        · exact h
        · rw [h, Nat.one_mul] at hh
          rw [p8] at hlt
          generalize 4294967296 ^ 8 = z at hh hlt
          omega
      subst t0
      rw [Nat.zero_mul, Nat.add_zero] at hh
      unfold F_1_setWork_259 B_1_setWork_259
      exact jT_pos (by decide) (jT_ret (hk H hf ⟨e, fun j hj => ⟨(hv j hj).trans (congrArg Int32.ofNat (if_pos hj)), he j hj⟩, by rw [hh]; exact Nat.add_comm _ _⟩))
    | succ dd ih =>
      intro i fu t e H hi hfu ht hf hv hP he hh
      obtain ⟨fu, rfl⟩ : ∃ k, fu = k + 1 := ⟨fu - 1, by omega⟩
      obtain ⟨hs, kB, r8', kW, w410, w404, bW, b403, b405, w413⟩ := b_ws_fr hz hf
      have e1 : Int32.ofNat i + 1 = Int32.ofNat (i + 1) := jo_add (a := i) (b := 1)
      have hdi := (d1 i (by omega)).2
      have hfi := (f1 i (by omega)).2
      have ev : jI H W i = Int32.ofNat (d i) := (hv i (by omega)).trans (congrArg Int32.ofNat (if_neg (Nat.lt_irrefl _)))
      have ew : jI H P i = Int32.ofNat (f i) := (hP i (by omega)).trans (f1 i (by omega)).1
      have h5' : jR H B 5 = pB := (jfr_R hf (by unfold b_Tw; omega)).trans h5
      have h8' : jR H pB 8 = P := (jfr_R hf (by unfold b_Tw; omega)).trans h8
      have kp' : (jK H pB).1 = 0 := by rw [jfr_K hf]; exact kp
      have kP' : jK H P = (100, 8) := by rw [jfr_K hf]; exact kP
      have g : jin (Int32.ofNat i) 8 := jo_in (by omega) (by omega)
      have ex : Int64.ofNat t + (Int64.ofNat (d i) + Int64.ofNat (f i)) = Int64.ofNat (t + (d i + f i)) := by rw [lo_add, lo_add]
      have er : Int64.toInt32 (Int64.ofNat (t + (d i + f i))) = Int32.ofNat ((t + (d i + f i)) % 4294967296) := lw_i32 _
      have eq : jushrL (Int64.ofNat (t + (d i + f i))) 32 = Int64.ofNat ((t + (d i + f i)) / 4294967296) := lw_ushr (k := 32) (by omega) (by decide)
      unfold F_1_setWork_259 B_1_setWork_259 B_1_setWork_305
      rw [r8', h5', h8', kW, kP', jo_nat (n := i) (by omega), ev, ew, lw_of hdi, lw_of hfi, e1]
      refine jT_neg (by show ¬ Int32.ofNat 8 ≤ _; rw [jo_le (by decide) (by omega)]; omega) (jT_g kB (jT_g ⟨rfl, g⟩ (jT_g kB (jT_pos hp0 (jT_g kB (jT_g kp' (jT_g ⟨rfl, g⟩ ?_)))))))
      rw [ex]
      refine jT_l (jT_g kB (jT_g ⟨rfl, by unfold jF0; omega, g⟩ ?_))
      rw [er, eq]
      refine jT_l (jT_l (jT_l (ih (i + 1) fu _ (nup e i ((t + (d i + f i)) % 4294967296)) _ (by omega) (by omega) (by omega) (jfr_sI hf (Or.inr (Or.inr rfl))) (fun j hj => ?_) (fun j hj => (jI_sIa hPW).trans (hP j hj)) (fun j hj => ?_) ?_)))
      · by_cases cj : j = i
        · rw [cj, if_pos (Nat.lt_succ_self _)]
          unfold nup
          rw [if_pos rfl]
          exact jI_sIe
        · refine (jI_sIn cj).trans ((hv j hj).trans ?_)
          unfold nup
          rw [if_neg cj]
          by_cases c2 : j < i
          · rw [if_pos c2, if_pos (by omega)]
          · rw [if_neg c2, if_neg (by omega)]
      · unfold nup
        split
        · exact Nat.mod_lt _ (by decide)
        · exact he j (by omega)
      · have h1 : nv 4294967296 (nup e i ((t + (d i + f i)) % 4294967296)) (i + 1) = nv 4294967296 e i + (t + (d i + f i)) % 4294967296 * 4294967296 ^ i := by
          have hx : nv 4294967296 (nup e i ((t + (d i + f i)) % 4294967296)) i = nv 4294967296 e i := nv_ext fun j hj => by
            unfold nup
            rw [if_neg (by omega)]
          show nv 4294967296 (nup e i ((t + (d i + f i)) % 4294967296)) i + nup e i ((t + (d i + f i)) % 4294967296) i * 4294967296 ^ i = _
          rw [hx]
          unfold nup
          rw [if_pos rfl]
        have h2 : nv 4294967296 d (i + 1) = nv 4294967296 d i + d i * 4294967296 ^ i := rfl
        have h3 : nv 4294967296 f (i + 1) = nv 4294967296 f i + f i * 4294967296 ^ i := rfl
        rw [h1, h2, h3, Nat.pow_succ]
        have hdm := Nat.div_add_mod (t + (d i + f i)) 4294967296
        generalize (t + (d i + f i)) / 4294967296 = y at hdm ⊢
        generalize (t + (d i + f i)) % 4294967296 = z at hdm ⊢
        generalize 4294967296 ^ i = w at hh ⊢
        have e4 : (4294967296 * y + z) * w = (t + (d i + f i)) * w := by rw [hdm]
        rw [Nat.add_mul, Nat.add_mul, Nat.add_mul] at e4
        have e5 : y * (w * 4294967296) = 4294967296 * y * w := by rw [Nat.mul_comm w, ← Nat.mul_assoc, Nat.mul_comm y]
        rw [e5]
        generalize 4294967296 * y * w = p1 at e4 ⊢
        omega
  exact loop 8 0 jfuel 0 (fun _ => 0) H0 rfl (by unfold jfuel; omega) (by decide) jfr_refl (fun j hj => (d1 j hj).1.trans (congrArg Int32.ofNat (if_neg (Nat.not_lt_zero j)).symm)) (fun j _ => rfl) (fun j hj => absurd hj (Nat.not_lt_zero j)) (by show 0 + 0 * 4294967296 ^ 0 = 0 + 0; omega)
/-- bit by bit from the highest -/
theorem z1_wk77 {b : Nat} (hz : b_ws B W H0) (hb2 : 2 ≤ b) (hb : b ≤ 2 ^ 256) (hk : ∀ H', jfr (b_Tw W) H0 H' → r8 H' W (2 ^ 256 / b) → jT (F_1_setWork_259 jfuel B 0 0 H') Q) :
    ∀ (k fu V c : Nat) (H : jH), k ≤ 257 → k < fu → jfr (b_Tw W) H0 H → r9 H 403 b → r8 H W (V * 2 ^ k) → r9 H 405 c → c < b → (k = 257 → V = 0) → V * b + c = (if k = 257 then 0 else 2 ^ (256 - k)) → jT (F_1_setWork_77 fu 398 B (Int32.ofNat k - 1) H) Q := by
  have p256 : 2 * 2 ^ 256 < 4294967296 ^ 9 := by decide +kernel
  intro k
  induction k with
  | zero =>
    intro fu V c H hk2 hfu hf rb ra rc hcb hv0 hh
    obtain ⟨fu, rfl⟩ : ∃ j, fu = j + 1 := ⟨fu - 1, by omega⟩
    rw [if_neg (by decide), Nat.sub_zero] at hh
    have e : V * 2 ^ 0 = 2 ^ 256 / b := by
      rw [Nat.pow_zero, Nat.mul_one, ← hh, Nat.mul_comm V b, Nat.mul_add_div (by omega), Nat.div_eq_of_lt hcb, Nat.add_zero]
    unfold F_1_setWork_77 B_1_setWork_77
    refine jT_pos (by decide) (hk H hf ?_)
    rw [← e]
    exact ra
  | succ k ih =>
    intro fu V c H hk2 hfu hf rb ra rc hcb hv0 hh
    obtain ⟨fu, rfl⟩ : ∃ j, fu = j + 1 := ⟨fu - 1, by omega⟩
    have zH := b_ws_fr hz hf
    have e1 : Int32.ofNat (k + 1) - 1 = Int32.ofNat k := jo_sub (a := k + 1) (b := 1) (by omega)
    have e2 : Int32.ofNat k + (-1) = Int32.ofNat k - 1 := (Int32.sub_eq_add_neg _ _).symm
    obtain ⟨in0, hin⟩ : ∃ in0, in0 = if k = 256 then 1 else 0 := ⟨_, rfl⟩
    have hin1 : in0 ≤ 1 := by rw [hin]; split <;> decide
    have hlt : 2 * c + in0 < 4294967296 ^ 9 := by
      generalize 4294967296 ^ 9 = z at p256 ⊢
      generalize 2 ^ 256 = y at p256 hb
      omega
    have hnext : V * 2 * b + (2 * c + in0) = 2 ^ (256 - k) := by
      have h2 : V * 2 * b = 2 * (V * b) := by rw [Nat.mul_comm V 2, Nat.mul_assoc]
      rw [h2]
      by_cases c256 : k = 256
      · rw [if_pos (by omega)] at hh
        rw [if_pos c256] at hin
        rw [c256, Nat.sub_self, Nat.pow_zero]
        omega
      · rw [if_neg (by omega)] at hh
        rw [if_neg c256] at hin
        have e3 : 2 ^ (256 - k) = 2 * 2 ^ (256 - (k + 1)) := by rw [show 256 - k = (256 - (k + 1)) + 1 by omega, Nat.pow_succ, Nat.mul_comm]
        rw [e3, ← hh]
        omega
    have eV : V * 2 ^ (k + 1) = V * 2 * 2 ^ k := by rw [Nat.pow_succ, Nat.mul_comm (2 ^ k) 2, ← Nat.mul_assoc]
    have run : jT (F_1_setWork_97 (F_1_setWork_77 fu) jfuel 398 B (Int32.ofNat k) (Int32.ofNat in0) 0 H) Q := by
      refine z1_double zH hin1 rc hlt fun H1 fu1 f1 r1 => ?_
      have f1' : jfr (b_Tw W) H0 H1 := jfr_trans hf (jfr_mono f1 fun a j w => Or.inr (Or.inl w))
      obtain ⟨hs, kB, r8', kW, w410, w404, bW, b403, b405, w413⟩ := b_ws_fr hz f1'
      have k1 : (jK H1 398).1 = 1 := gT (sK_398 hs)
      have rb1 : r9 H1 403 b := r9_fr rb f1 fun j w => by unfold b_Ta at w; omega
      have ra1 : r8 H1 W (V * 2 ^ (k + 1)) := r8_fr ra f1 fun j w => by
        unfold b_Ta at w
        have := sK_405 hs
        rw [← w, kW] at this
        exact absurd (congrArg Prod.snd this) (by decide)
      obtain ⟨u, u1, u2⟩ := r1
      obtain ⟨v, v1, v2⟩ := rb1
      unfold B_1_setWork_97 B_1_setWork_248
      rw [sR_398_11 hs, sR_398_13 hs, z1_compare (by decide) (sK_405 hs) (sK_403 hs) u1 v1, jb_ok, u2, v2]
      refine jT_pos (by decide) (jT_g k1 (jT_g k1 ?_))
      unfold b_cmp
      by_cases cl : 2 * c + in0 < b
      · rw [if_pos cl]
        refine jT_pos (by decide) (jT_l ?_)
        rw [e2]
        refine ih fu (V * 2) (2 * c + in0) H1 (by omega) (by omega) f1' ⟨v, v1, v2⟩ ?_ ⟨u, u1, u2⟩ cl (fun w => by omega) ?_
        · rw [← eV]
          exact ra1
        · rw [if_neg (by omega)]
          exact hnext
      · rw [if_neg cl]
        have k256 : k < 256 := by
          rcases Nat.lt_or_ge k 256 with h | h
          · exact h
          · have : k = 256 := by omega
            subst this
            have v0 := hv0 rfl
            rw [v0, Nat.zero_mul, Nat.sub_self, Nat.pow_zero] at hnext
            omega
        refine jT_neg (by split <;> decide) ?_
        refine z1_minus (b_ws_fr hz f1') ⟨u, u1, u2⟩ ⟨v, v1, v2⟩ (by omega) fun H2 fu2 z2 f2 r2 => ?_
        have f2' : jfr (b_Tw W) H0 H2 := jfr_trans f1' (jfr_mono f2 fun a j w => Or.inr (Or.inl w))
        obtain ⟨hs2, kB2, r82, kW2, -⟩ := b_ws_fr hz f2'
        have rb2 : r9 H2 403 b := r9_fr ⟨v, v1, v2⟩ f2 fun j w => by unfold b_Ta at w; omega
        have W405 : W ≠ 405 := fun w => by
          have := sK_405 hs2
          rw [← w, kW2] at this
          exact absurd (congrArg Prod.snd this) (by decide)
        have W403 : W ≠ 403 := fun w => by
          have := sK_403 hs2
          rw [← w, kW2] at this
          exact absurd (congrArg Prod.snd this) (by decide)
        obtain ⟨d, d1, d2⟩ := r8_fr ra1 f2 fun j w => by unfold b_Ta at w; omega
        have e8 : Int32.ofNat k / 32 = Int32.ofNat (k / 32) := jo_div (b := 32) (by omega) (by decide)
        have em8 : jrem (Int32.ofNat k) 32 = Int32.ofNat (k % 32) := jo_rem (b := 32) (by omega) (by decide)
        have esh : jshl 1 (Int32.ofNat (k % 32)) = Int32.ofNat (2 ^ (k % 32)) := by
          have := jo_shl (m := 1) (c := k % 32) (by omega)
          rw [Nat.one_mul] at this
          exact this
        have edg : d (k / 32) = V * 2 ^ (k + 1) / 4294967296 ^ (k / 32) % 4294967296 := by
          rw [← d2]
          exact (nv_digit (fun j hj => (d1 j hj).2) (by decide) (by omega)).symm
        obtain ⟨a, a1, a2⟩ := b_dg4 (V := V * 2 ^ (k + 1)) (q := k / 32) (r := k % 32) (by omega) ⟨V, by rw [show 32 * (k / 32) + k % 32 + 1 = k + 1 by omega]⟩
        rw [← edg] at a1
        have eor : Int32.ofNat (d (k / 32)) ||| Int32.ofNat (2 ^ (k % 32)) = Int32.ofNat (d (k / 32) + 2 ^ (k % 32)) := by
          rw [a1]
          exact jo_or (Nat.pow_lt_pow_right (by decide) (Nat.lt_succ_self _))
        rw [← a1] at a2
        have g : jin (Int32.ofNat (k / 32)) 8 := jo_in (by omega) (by omega)
        unfold B_1_setWork_163 B_1_setWork_248
        rw [r82, kW2, e8, em8, esh, jo_nat (n := k / 32) (by omega), (d1 (k / 32) (by omega)).1, eor]
        refine jT_pos (by decide) (jT_neg (by show ¬ Int32.ofNat 256 ≤ _; rw [jo_le (by decide) (by omega)]; omega) (jT_g kB2 (jT_g (by decide) (jT_g ⟨rfl, g⟩ (jT_g (by decide) (jT_g ⟨rfl, by unfold jF0; omega, g⟩ (jT_l (jT_l ?_))))))))
        rw [e2]
        have f3 : jfr (b_Ta W) H2 (jsI H2 W (k / 32) (Int32.ofNat (d (k / 32) + 2 ^ (k % 32)))) := jfr_sI jfr_refl rfl
        refine ih fu (V * 2 + 1) (2 * c + in0 - b) _ (by omega) (by omega) (jfr_trans f2' (jfr_mono f3 fun a j w => Or.inr (Or.inr w))) (r9_fr rb2 f3 fun j w => by unfold b_Ta at w; omega) ⟨nup d (k / 32) (d (k / 32) + 2 ^ (k % 32)), fun j hj => ?_, ?_⟩ (r9_fr r2 f3 fun j w => by unfold b_Ta at w; omega) (by omega) (fun w => by omega) ?_
        · unfold nup
          by_cases cj : j = k / 32
          · rw [if_pos cj, cj]
            exact ⟨jI_sIe, a2⟩
          · rw [if_neg cj]
            exact ⟨(jI_sIn cj).trans (d1 j hj).1, (d1 j hj).2⟩
        · have hup := nv_up (b := 4294967296) (w := d) (i := k / 32) (v := d (k / 32) + 2 ^ (k % 32)) (n := 8) (by omega)
          have e256 : 2 ^ (k % 32) * 4294967296 ^ (k / 32) = 2 ^ k := by
            rw [show (4294967296 : Nat) = 2 ^ 32 from rfl, ← Nat.pow_mul, ← Nat.pow_add]
            congr 1
            omega
          rw [d2, Nat.add_mul, e256, eV] at hup
          rw [Nat.add_mul, Nat.one_mul]
          omega
        · rw [if_neg (by omega), ← hnext, Nat.add_mul, Nat.one_mul]
          omega
    unfold F_1_setWork_77 B_1_setWork_77 B_1_setWork_93
    rw [e1]
    refine jT_neg (by show ¬ _ < Int32.ofNat 0; rw [jo_lt (by omega) (by decide)]; omega) ?_
    by_cases c256 : k = 256
    · rw [if_pos c256] at hin
      rw [hin] at run
      exact jT_neg (fun w => w (by rw [c256]; rfl)) run
    · rw [if_neg c256] at hin
      rw [hin] at run
      exact jT_pos (fun w => c256 ((jo_eq (a := k) (b := 256) (by omega) (by decide)).mp w)) run
/-- one more -/
theorem z1_wk15 {n : Nat} (hz : b_ws B W H0) (hn : r9 H0 403 n) (hlt : n + 1 < 4294967296 ^ 9) (hk : ∀ H', jfr (b_Ta 403) H0 H' → r9 H' 403 (n + 1) → jT (B_1_setWork_57 398 B H') Q) : jT (F_1_setWork_15 jfuel 398 B 0 1 H0) Q := by
  obtain ⟨d, d1, d2⟩ := hn
  have loop : ∀ (dd i fu t : Nat) (e : Nat → Nat) (H : jH), i + dd = 9 → dd < fu → t ≤ 1 → jfr (b_Ta 403) H0 H → (∀ j, j < 9 → jI H 403 j = Int32.ofNat (if j < i then e j else d j)) → (∀ j, j < i → e j < 4294967296) → nv 4294967296 e i + t * 4294967296 ^ i = nv 4294967296 d i + 1 → jT (F_1_setWork_15 fu 398 B (Int32.ofNat i) (Int32.ofNat t) H) Q := by
    intro dd
    have stop : ∀ (i : Nat) (e : Nat → Nat) (H : jH), i ≤ 9 → jfr (b_Ta 403) H0 H → (∀ j, j < 9 → jI H 403 j = Int32.ofNat (if j < i then e j else d j)) → (∀ j, j < i → e j < 4294967296) → nv 4294967296 e i = nv 4294967296 d i + 1 → jT (B_1_setWork_57 398 B H) Q := fun i e H hi hf hv he hh => by
      refine hk H hf ⟨fun j => if j < i then e j else d j, fun j hj => ⟨hv j hj, ?_⟩, ?_⟩
      · show (if j < i then e j else d j) < _
        split
        · exact he j (by omega)
        · exact (d1 j hj).2
      · have c1 := nv_cut (b := 4294967296) (w := fun j => if j < i then e j else d j) (m := i) (9 - i)
        have c2 := nv_cut (b := 4294967296) (w := d) (m := i) (9 - i)
        rw [show i + (9 - i) = 9 by omega] at c1 c2
        have e1 : nv 4294967296 (fun j => if j < i then e j else d j) i = nv 4294967296 e i := nv_ext fun j hj => if_pos hj
        have e2 : nv 4294967296 (fun j => (fun j => if j < i then e j else d j) (i + j)) (9 - i) = nv 4294967296 (fun j => d (i + j)) (9 - i) := nv_ext fun j hj => if_neg (by omega)
        rw [c1, e1, e2, hh, ← d2, c2]
        omega
    induction dd with
    | zero =>
      intro i fu t e H hi hfu ht hf hv he hh
      obtain ⟨fu, rfl⟩ : ∃ k, fu = k + 1 := ⟨fu - 1, by omega⟩
      obtain rfl : i = 9 := by omega
      have t0 : t = 0 := by
        rcases (show t = 0 ∨ t = 1 by omega) with h | h
        · exact h
        · rw [h, Nat.one_mul, d2] at hh
          generalize 4294967296 ^ 9 = z at hh hlt
          omega
      subst t0
      rw [Nat.zero_mul, Nat.add_zero] at hh
      unfold F_1_setWork_15 B_1_setWork_15
      exact jT_pos (by decide) (stop 9 e H (Nat.le_refl _) hf hv he hh)
    | succ dd ih =>
      intro i fu t e H hi hfu ht hf hv he hh
      obtain ⟨fu, rfl⟩ : ∃ k, fu = k + 1 := ⟨fu - 1, by omega⟩
      have hs := (b_ws_fr hz (jfr_mono hf fun a j w => Or.inl w)).1
      have k1 : (jK H 398).1 = 1 := gT (sK_398 hs)
      have e1 : Int32.ofNat i + 1 = Int32.ofNat (i + 1) := jo_add (a := i) (b := 1)
      have hdi := (d1 i (by omega)).2
      have ev : jI H 403 i = Int32.ofNat (d i) := (hv i (by omega)).trans (congrArg Int32.ofNat (if_neg (Nat.lt_irrefl _)))
      have g : jin (Int32.ofNat i) 9 := jo_in (by omega) (by omega)
      unfold F_1_setWork_15 B_1_setWork_15 B_1_setWork_50
      refine jT_neg (by show ¬ Int32.ofNat 9 ≤ _; rw [jo_le (by decide) (by omega)]; omega) ?_
      rcases (show t = 0 ∨ t = 1 by omega) with rfl | rfl
      · rw [Nat.zero_mul, Nat.add_zero] at hh
        exact jT_pos (by decide) (stop i e H (by omega) hf hv he hh)
      · have ex : Int32.ofNat (d i) + 1 = Int32.ofNat ((d i + 1) % 4294967296) := by
          rw [← jo_m32]
          exact jo_add (b := 1)
        have s2 : jsh (jsI H 403 i (Int32.ofNat ((d i + 1) % 4294967296))) := jsh_sI hs (by decide)
        rw [sR_398_11 hs, sK_403 hs, jo_nat (n := i) (by omega), ev, ex]
        refine jT_neg (fun w => w rfl) (jT_g k1 (jT_g ⟨rfl, g⟩ (jT_g ⟨rfl, by decide, g⟩ (jT_l (jT_g (gT (sK_398 s2)) ?_)))))
        rw [sR_398_11 s2, sK_403 s2, show jI (jsI H 403 i (Int32.ofNat ((d i + 1) % 4294967296))) 403 i = Int32.ofNat ((d i + 1) % 4294967296) from jI_sIe, e1]
        refine jT_g ⟨rfl, g⟩ ?_
        have nxt : ∀ t', t' = (d i + 1) / 4294967296 → jT (F_1_setWork_15 fu 398 B (Int32.ofNat (i + 1)) (Int32.ofNat t') (jsI H 403 i (Int32.ofNat ((d i + 1) % 4294967296)))) Q := fun t' et => by
          refine ih (i + 1) fu t' (nup e i ((d i + 1) % 4294967296)) _ (by omega) (by omega) (by omega) (jfr_sI hf rfl) (fun j hj => ?_) (fun j hj => ?_) ?_
          · by_cases cj : j = i
            · rw [cj, if_pos (Nat.lt_succ_self _)]
              unfold nup
              rw [if_pos rfl]
              exact jI_sIe
            · refine (jI_sIn cj).trans ((hv j hj).trans ?_)
              unfold nup
              rw [if_neg cj]
              by_cases c2 : j < i
              · rw [if_pos c2, if_pos (by omega)]
              · rw [if_neg c2, if_neg (by omega)]
          · unfold nup
            split
            · exact Nat.mod_lt _ (by decide)
            · exact he j (by omega)
          · have h1 : nv 4294967296 (nup e i ((d i + 1) % 4294967296)) (i + 1) = nv 4294967296 e i + (d i + 1) % 4294967296 * 4294967296 ^ i := by
              have hx : nv 4294967296 (nup e i ((d i + 1) % 4294967296)) i = nv 4294967296 e i := nv_ext fun j hj => by
                unfold nup
                rw [if_neg (by omega)]
              show nv 4294967296 (nup e i ((d i + 1) % 4294967296)) i + nup e i ((d i + 1) % 4294967296) i * 4294967296 ^ i = _
              rw [hx]
              unfold nup
              rw [if_pos rfl]
            have h2 : nv 4294967296 d (i + 1) = nv 4294967296 d i + d i * 4294967296 ^ i := rfl
            rw [h1, h2, Nat.pow_succ, et]
            have hdm := Nat.div_add_mod (d i + 1) 4294967296
            generalize (d i + 1) / 4294967296 = y at hdm ⊢
            generalize (d i + 1) % 4294967296 = z at hdm ⊢
            generalize 4294967296 ^ i = w at hh ⊢
            have e4 : (4294967296 * y + z) * w = (d i + 1) * w := by rw [hdm]
            rw [Nat.add_mul, Nat.add_mul] at e4
            have e5 : y * (w * 4294967296) = 4294967296 * y * w := by rw [Nat.mul_comm w, ← Nat.mul_assoc, Nat.mul_comm y]
            rw [e5]
            generalize 4294967296 * y * w = p1 at e4 ⊢
            omega
        by_cases c : (d i + 1) % 4294967296 = 0
        · exact jT_neg (fun w => w (by rw [c]; rfl)) (jT_l (nxt 1 (by omega)))
        · exact jT_pos (fun w => c ((jw_eq (b := 0) (Nat.mod_lt _ (by decide)) (by decide)).mp w)) (jT_l (nxt 0 (by omega)))
  exact loop 9 0 jfuel 1 (fun _ => 0) H0 rfl (by unfold jfuel; omega) (Nat.le_refl _) jfr_refl (fun j hj => (d1 j hj).1.trans (congrArg Int32.ofNat (if_neg (Nat.not_lt_zero j)).symm)) (fun j hj => absurd hj (Nat.not_lt_zero j)) (by show 0 + 1 * 4294967296 ^ 0 = 0 + 1; omega)
/-- the work of bits -/
def b_w1 (n : Nat) : Nat := 2 ^ 256 / (b_tg n + 1)
theorem z1_setWork {α : Type} {R : α → jH → Prop} {k : Unit → jH → Option (α × jH)} {n : Nat} (hz : b_ws B W H0) (h2 : jI H0 B 2 = Int32.ofNat n) (hn : b_bits n) (hle : b_tg n ≤ b_lim) (h5 : jR H0 B 5 = pB) (hp0 : pB ≠ 0) (kp : (jK H0 pB).1 = 0) (h8 : jR H0 pB 8 = P) (kP : jK H0 P = (100, 8)) (hPW : P ≠ W) (hPt : P ≠ 403 ∧ P ≠ 405) (hpB : pB ≠ W ∧ pB ≠ 403 ∧ pB ≠ 405) (hpw : r8 H0 P pw) (hlt : pw + b_w1 n < 2 ^ 256)
    (hk : ∀ H', jfr (b_Tw W) H0 H' → r8 H' W (pw + b_w1 n) → jT (k () H') R) : jT (jb (F_1_setWork 398 B H0) k) R := by
  obtain ⟨n1, n2, n3, n4⟩ := hn
  obtain ⟨hs, kB, r8', kW, w410, w404, bW, b403, b405, w413⟩ := hz
  have k1 : ∀ {H}, jsh H → (jK H 398).1 = 1 := fun hs => gT (sK_398 hs)
  have ht1 : 1 ≤ b_tg n := by
    unfold b_tg
    have h1 : 1 * 1 ≤ b_ma n * 256 ^ (b_sz n - 3) := Nat.mul_le_mul (by omega) (Nat.pow_pos (by decide))
    exact h1
  have l2 := b_lim_lt.2.1
  have p1 : (2 : Nat) ^ 255 + 1 ≤ 2 ^ 256 := by decide +kernel
  have p2 : (2 : Nat) ^ 256 < 4294967296 ^ 9 := by decide +kernel
  have hb256 : b_tg n + 1 ≤ 2 ^ 256 := by
    generalize 2 ^ 255 = x at l2 p1
    generalize 2 ^ 256 = y at p1
    omega
  have W405 : W ≠ 405 := fun w => by
    have := sK_405 hs
    rw [← w, kW] at this
    exact absurd (congrArg Prod.snd this) (by decide)
  have W403 : W ≠ 403 := fun w => by
    have := sK_403 hs
    rw [← w, kW] at this
    exact absurd (congrArg Prod.snd this) (by decide)
  unfold F_1_setWork
  rw [sR_398_11 hs, h2]
  refine jT_b (jT_g (k1 hs) (jT_g kB (jT_b (z1_setTarget (sK_403 hs) (by decide) (by omega) (by omega) fun H1 f1 r1 => ?_))))
  have f1' : jfr (b_Tw W) H0 H1 := jfr_mono f1 fun a j w => Or.inl w
  have z1 := b_ws_fr ⟨hs, kB, r8', kW, w410, w404, bW, b403, b405, w413⟩ f1'
  refine z1_wk15 (Q := fun v h => jT (k v h) R) z1 r1 (Nat.lt_of_le_of_lt hb256 p2) fun H2 f2 r2 => ?_
  have f2' : jfr (b_Tw W) H0 H2 := jfr_trans f1' (jfr_mono f2 fun a j w => Or.inl w)
  have z2 := b_ws_fr ⟨hs, kB, r8', kW, w410, w404, bW, b403, b405, w413⟩ f2'
  unfold B_1_setWork_57
  rw [sR_398_13 z2.1]
  refine jT_g (k1 z2.1) (jT_b (zA_fillI rfl (sK_405 z2.1) (by decide) (by decide) fun H3 g3 v3 => ?_))
  have f3 : jfr (b_Ta 405) H2 H3 := jfr_J g3
  have f3' : jfr (b_Tw W) H0 H3 := jfr_trans f2' (jfr_mono f3 fun a j w => Or.inr (Or.inl w))
  have z3 := b_ws_fr ⟨hs, kB, r8', kW, w410, w404, bW, b403, b405, w413⟩ f3'
  rw [z3.2.2.1]
  refine jT_g z3.2.1 (jT_b (zA_fillI rfl z3.2.2.2.1 (by omega) (by decide) fun H4 g4 v4 => ?_))
  have f4 : jfr (b_Ta W) H3 H4 := jfr_J g4
  have f4' : jfr (b_Tw W) H0 H4 := jfr_trans f3' (jfr_mono f4 fun a j w => Or.inr (Or.inr w))
  have z4 := b_ws_fr ⟨hs, kB, r8', kW, w410, w404, bW, b403, b405, w413⟩ f4'
  have n9 : nv 4294967296 (fun _ => 0) 9 = 0 := nv_zero fun _ _ => rfl
  have n8 : nv 4294967296 (fun _ => 0) 8 = 0 := nv_zero fun _ _ => rfl
  have r3 : r9 H4 403 (b_tg n + 1) := r9_fr (r9_fr r2 f3 fun j w => by unfold b_Ta at w; omega) f4 fun j w => by unfold b_Ta at w; omega
  have r4 : r9 H4 405 0 := ⟨fun _ => 0, fun j hj => ⟨(jfr_I f4 (by unfold b_Ta; omega)).trans (v3 j hj), show 0 < 4294967296 by decide⟩, n9⟩
  have rW : r8 H4 W 0 := ⟨fun _ => 0, fun j hj => ⟨v4 j hj, show 0 < 4294967296 by decide⟩, n8⟩
  refine z1_wk77 (Q := fun v h => jT (k v h) R) (b := b_tg n + 1) z4 (by omega) hb256 (fun H5 f5 r5 => ?_) 257 jfuel 0 0 H4 (Nat.le_refl _) (by unfold jfuel; omega) jfr_refl r3 (by rw [Nat.zero_mul]; exact rW) r4 (by omega) (fun _ => rfl) (by rw [if_pos rfl, Nat.zero_mul])
  have f5' : jfr (b_Tw W) H0 H5 := jfr_trans f4' f5
  have z5 := b_ws_fr ⟨hs, kB, r8', kW, w410, w404, bW, b403, b405, w413⟩ f5'
  have nP : ∀ j, ¬ b_Tw W P j := fun j w => by unfold b_Tw at w; omega
  have nB : ∀ j, ¬ b_Tw W pB j := fun j w => by unfold b_Tw at w; omega
  refine z1_wk259 (Q := fun v h => jT (k v h) R) z5 ((jfr_R f5' (by unfold b_Tw; omega)).trans h5) hp0 (by rw [jfr_K f5']; exact kp) ((jfr_R f5' (nB 8)).trans h8) (by rw [jfr_K f5']; exact kP) hPW hPt hpB r5 (r8_fr hpw f5' nP) hlt fun H6 f6 r6 => hk H6 (jfr_trans f5' f6) r6
end WK2
