/-! The class's setSignature. -/
def sg_1 (b : Nat → UInt8) : Nat := (b 3).toNat
def sg_2 (b : Nat → UInt8) : Nat := (b (5 + sg_1 b)).toNat
def sg_l (b : Nat → UInt8) (n : Nat) : Prop := (b 0).toNat = 48 ∧ (b 1).toNat = n - 3 ∧ (b 2).toNat = 2 ∧ 1 ≤ sg_1 b ∧ sg_1 b ≤ 33 ∧ (b (4 + sg_1 b)).toNat = 2 ∧ 1 ≤ sg_2 b ∧ sg_2 b ≤ 33 ∧ 7 + sg_1 b + sg_2 b = n
def sg_r (b : Nat → UInt8) : Nat := rdn b 4 (sg_1 b)
def sg_s (b : Nat → UInt8) : Nat := rdn b (6 + sg_1 b) (sg_2 b)
/-- the bytes are a signature with its kind behind it -/
def sg_b (b : Nat → UInt8) (n : Nat) : Prop := sg_l b n ∧ nm_ok b 4 (sg_1 b) ∧ nm_ok b (6 + sg_1 b) (sg_2 b)
theorem jb_len (u : UInt8) : ((jbs u < 1 ∨ 33 < jbs u) ∧ ¬ (1 ≤ u.toNat ∧ u.toNat ≤ 33)) ∨ (¬ jbs u < 1 ∧ ¬ 33 < jbs u ∧ 1 ≤ u.toNat ∧ u.toNat ≤ 33 ∧ jbs u = Int32.ofNat u.toNat) :=
  jb_u8 (fun u => ((jbs u < 1 ∨ 33 < jbs u) ∧ ¬ (1 ≤ u.toNat ∧ u.toNat ≤ 33)) ∨ (¬ jbs u < 1 ∧ ¬ 33 < jbs u ∧ 1 ≤ u.toNat ∧ u.toNat ≤ 33 ∧ jbs u = Int32.ofNat u.toNat)) (by decide +kernel) u
theorem jb_m {u : UInt8} {m : Nat} (hm : m < 2147483648) (h : jbs u = Int32.ofNat m) : u.toNat = m := by
  have h0 : 0 ≤ jbs u := by
    rw [h, show (0 : Int32) = Int32.ofNat 0 from rfl, jo_le (by decide) hm]
    omega
  have h1 := (jb_sgn u).mp h0
  have h2 := (jb_n u u.toNat h1).mpr rfl
  rw [h] at h2
  exact ((jo_eq hm (by omega)).mp h2).symm
def zSg8 : Nat → Prop := fun a => a = 50 ∨ a = 51 ∨ a = 52
section SIG8
variable {Q : Int32 → jH → Prop} {H0 : jH} {t len n : Nat}
theorem z8_setSignature {n' : Int32} (en : n' = Int32.ofNat n) (hs : jsh H0) (kt : jK H0 t = (101, len)) (hlen : len < 2147483000) (hn : n ≤ len) (ht : t ≠ 51 ∧ t ≠ 52)
    (hk1 : ∀ H', jfJ zSg8 H0 H' → (∀ j, j ≠ 0 → jI H' 50 j = jI H0 50 j) → sg_b (jB H0 t) n → sg_in (sg_r (jB H0 t)) (sg_s (jB H0 t)) → jI H' 50 0 = Int32.ofNat (jB H0 t (n - 1)).toNat → zN8 H' 51 (sg_r (jB H0 t)) → zN8 H' 52 (sg_s (jB H0 t)) → Q 1 H')
    (hk0 : ∀ H', jfJ zSg8 H0 H' → (∀ j, j ≠ 0 → jI H' 50 j = jI H0 50 j) → ¬ (sg_b (jB H0 t) n ∧ sg_in (sg_r (jB H0 t)) (sg_s (jB H0 t))) → Q 0 H') : jT (F_8_setSignature 50 t n' H0) Q := by
  subst en
  unfold F_8_setSignature B_8_setSignature_29 B_8_setSignature_70 B_8_setSignature_103 B_8_setSignature_152 B_8_setSignature_153
  have no : ¬ (sg_b (jB H0 t) n ∧ sg_in (sg_r (jB H0 t)) (sg_s (jB H0 t))) → jT (jg ((0 : Int32) = 0 ∨ (0 : Int32) = 1) (some ((0 : Int32), H0))) Q := fun h => jT_g (by decide) (jT_ret (hk0 H0 jfJ_refl (fun _ _ => rfl) h))
  have g : ∀ k, k < len → (jK H0 t).1 = 101 ∧ jin (Int32.ofNat k) (jK H0 t).2 := fun k hk => by
    rw [kt]
    exact ⟨rfl, jo_in (by omega) hk⟩
  have k1 : (jK H0 t).1 = 101 := by rw [kt]
  have k2 : (jK H0 t).2 = len := by rw [kt]
  have l9 : Int32.ofNat n < 9 ↔ n < 9 := by rw [show (9 : Int32) = Int32.ofNat 9 from rfl, jo_lt (by omega) (by decide)]
  by_cases h9 : n < 9
  · refine jT_pos (l9.mpr h9) (no fun w => ?_)
    have w1 := w.1.1.2.2.2.2.2.2.2.2
    have w2 := w.1.1.2.2.2.1
    have w3 := w.1.1.2.2.2.2.2.2.1
    omega
  refine jT_neg (fun q => h9 (l9.mp q)) (jT_g k1 (jT_neg (by rw [k2, jo_lt (by omega) (by omega)]; omega) (jT_g (g 0 (by omega)) ?_)))
  rw [show (0 : Int32).toNatClampNeg = 0 from rfl, show (1 : Int32).toNatClampNeg = 1 from rfl, show (2 : Int32).toNatClampNeg = 2 from rfl, show (3 : Int32).toNatClampNeg = 3 from rfl]
  by_cases b0' : ¬ (jB H0 t 0).toNat = 48
  · exact jT_pos (fun q => b0' ((jb_n _ 48 (by decide)).mp q)) (no fun w => b0' w.1.1.1)
  have b0 := Decidable.of_not_not b0'
  have e3 : Int32.ofNat n - 3 = Int32.ofNat (n - 3) := jo_sub (a := n) (b := 3) (by omega)
  rw [e3]
  refine jT_neg (fun q => q ((jb_n _ 48 (by decide)).mpr b0)) (jT_g (g 1 (by omega)) ?_)
  by_cases b1' : ¬ jbs (jB H0 t 1) = Int32.ofNat (n - 3)
  · refine jT_neg b1' (no fun w => b1' ?_)
    have w1 := w.1.1.2.2.2.2.2.2.2.2
    have w2 := w.1.1.2.2.2.2.1
    have w3 := w.1.1.2.2.2.2.2.2.2.1
    exact (jb_n _ (n - 3) (by omega)).mpr w.1.1.2.1
  have b1q := Decidable.of_not_not b1'
  have b1 := jb_m (by omega) b1q
  refine jT_pos b1q (jT_g (g 3 (by omega)) (jT_l (jT_g (g 2 (by omega)) ?_)))
  by_cases b2' : ¬ (jB H0 t 2).toNat = 2
  · exact jT_pos (fun q => b2' ((jb_n _ 2 (by decide)).mp q)) (no fun w => b2' w.1.1.2.2.1)
  have b2 := Decidable.of_not_not b2'
  refine jT_neg (fun q => q ((jb_n _ 2 (by decide)).mpr b2)) ?_
  rcases jb_len (jB H0 t 3) with ⟨hb, hbn⟩ | ⟨h1a, h1b, h1c, h1d, h1e⟩
  · have nn : ¬ (sg_b (jB H0 t) n ∧ sg_in (sg_r (jB H0 t)) (sg_s (jB H0 t))) := fun w => hbn ⟨w.1.1.2.2.2.1, w.1.1.2.2.2.2.1⟩
    refine jT_if (fun _ => no nn) fun q => ?_
    exact jT_pos (hb.resolve_left q) (no nn)
  refine jT_neg h1a (jT_neg h1b ?_)
  rw [h1e]
  have el1 : sg_1 (jB H0 t) = (jB H0 t 3).toNat := rfl
  obtain ⟨l1, hl1⟩ : ∃ l1, l1 = (jB H0 t 3).toNat := ⟨_, rfl⟩
  rw [← hl1] at el1 h1c h1d ⊢
  have e6 : 6 + Int32.ofNat l1 = Int32.ofNat (6 + l1) := jo_add (a := 6) (b := l1)
  have e4 : 4 + Int32.ofNat l1 = Int32.ofNat (4 + l1) := jo_add (a := 4) (b := l1)
  have e5 : 5 + Int32.ofNat l1 = Int32.ofNat (5 + l1) := jo_add (a := 5) (b := l1)
  have e7 : 7 + Int32.ofNat l1 = Int32.ofNat (7 + l1) := jo_add (a := 7) (b := l1)
  have em1 : Int32.ofNat n - 1 = Int32.ofNat (n - 1) := jo_sub (a := n) (b := 1) (by omega)
  rw [e6, e4, e5, e7, em1]
  by_cases h6 : n ≤ 6 + l1
  · refine jT_pos (by rw [jo_le (by omega) (by omega)]; exact h6) (no fun w => ?_)
    have w1 := w.1.1.2.2.2.2.2.2.2.2
    rw [el1] at w1
    omega
  refine jT_neg (by rw [jo_le (by omega) (by omega)]; exact h6) (jT_g (g (4 + l1) (by omega)) ?_)
  rw [jo_nat (n := 4 + l1) (by omega), jo_nat (n := 5 + l1) (by omega), jo_nat (n := n - 1) (by omega)]
  by_cases b4' : ¬ (jB H0 t (4 + l1)).toNat = 2
  · refine jT_neg (fun q => b4' ((jb_n _ 2 (by decide)).mp q)) (no fun w => b4' ?_)
    have w1 := w.1.1.2.2.2.2.2.1
    rw [el1] at w1
    exact w1
  have b4 := Decidable.of_not_not b4'
  refine jT_pos ((jb_n _ 2 (by decide)).mpr b4) (jT_g (g (5 + l1) (by omega)) (jT_l ?_))
  have el2 : sg_2 (jB H0 t) = (jB H0 t (5 + l1)).toNat := by
    unfold sg_2
    rw [el1]
  rcases jb_len (jB H0 t (5 + l1)) with ⟨hb, hbn⟩ | ⟨h2a, h2b, h2c, h2d, h2e⟩
  · have nn : ¬ (sg_b (jB H0 t) n ∧ sg_in (sg_r (jB H0 t)) (sg_s (jB H0 t))) := fun w => hbn (by
      rw [← el2]
      exact ⟨w.1.1.2.2.2.2.2.2.1, w.1.1.2.2.2.2.2.2.2.1⟩)
    refine jT_if (fun _ => no nn) fun q => ?_
    exact jT_pos (hb.resolve_left q) (no nn)
  refine jT_neg h2a (jT_neg h2b ?_)
  rw [h2e]
  obtain ⟨l2, hl2⟩ : ∃ l2, l2 = (jB H0 t (5 + l1)).toNat := ⟨_, rfl⟩
  rw [← hl2] at el2 h2c h2d ⊢
  rw [jo_add (a := 7 + l1) (b := l2)]
  by_cases h7 : ¬ 7 + l1 + l2 = n
  · refine jT_neg (by rw [jo_eq (by omega) (by omega)]; exact h7) (no fun w => h7 ?_)
    have w1 := w.1.1.2.2.2.2.2.2.2.2
    rw [el1, el2] at w1
    exact w1
  have h7b := Decidable.of_not_not h7
  have hsl : sg_l (jB H0 t) n := by
    unfold sg_l
    rw [el1, el2]
    exact ⟨b0, b1, b2, h1c, h1d, b4, h2c, h2d, h7b⟩
  have k50 : ∀ {H}, jsh H → (jK H 50).1 = 8 := fun hs => by rw [sK_50 hs]
  refine jT_pos (by rw [h7b]) (jT_g (g (n - 1) (by omega)) (jT_g (k50 hs) (jT_l ?_)))
  rw [jb_and]
  have f1 : jfJ zSg8 H0 (jsI H0 50 0 (Int32.ofNat (jB H0 t (n - 1)).toNat)) := jfJ_sI jfJ_refl (Or.inl rfl)
  have v1 : jI (jsI H0 50 0 (Int32.ofNat (jB H0 t (n - 1)).toNat)) 50 0 = Int32.ofNat (jB H0 t (n - 1)).toNat := jI_sIe
  have w1 : ∀ j, j ≠ 0 → jI (jsI H0 50 0 (Int32.ofNat (jB H0 t (n - 1)).toNat)) 50 j = jI H0 50 j := fun j hj => jI_sIn hj
  have B1 : jB (jsI H0 50 0 (Int32.ofNat (jB H0 t (n - 1)).toNat)) = jB H0 := rfl
  generalize jsI H0 50 0 (Int32.ofNat (jB H0 t (n - 1)).toNat) = H1 at f1 v1 w1 B1 ⊢
  have n18 : ∀ a, a < 18 → ¬ zSg8 a := fun a ha q => by
    have : a = 50 ∨ a = 51 ∨ a = 52 := q
    omega
  have s1 := jsh_fJ hs f1 n18
  have kt1 : jK H1 t = (101, len) := by rw [f1.1]; exact kt
  refine jT_g (k50 s1) (jT_b (z8_setNumber (r := 51) (f := 4) (n := l1) (t := t) (sR_50_1 s1) rfl rfl h1c h1d s1 (sK_51 s1) (by decide) kt1 (by omega) (by omega) ht.1 (fun H2 f2 z2 a2 b2 c2 => ?_) fun H2 f2 q2 => ?_))
  · rw [B1] at z2 a2 b2 c2
    have f02 := jfJ_trans f1 (jfJ_mono f2 fun a q => Or.inr (Or.inl q))
    have s2 := jsh_fJ hs f02 n18
    have kt2 : jK H2 t = (101, len) := by rw [f02.1]; exact kt
    have B2 : jB H2 = jB H0 := by rw [f2.2.2.2.2.1]; exact B1
    have v2 : jI H2 50 0 = Int32.ofNat (jB H0 t (n - 1)).toNat := (f2.2.2.2.2.2 50 (by decide) 0).2.trans v1
    have w2 : ∀ j, j ≠ 0 → jI H2 50 j = jI H0 50 j := fun j hj => (f2.2.2.2.2.2 50 (by decide) j).2.trans (w1 j hj)
    have er : sg_r (jB H0 t) = rdn (jB H0 t) 4 l1 := by unfold sg_r; rw [el1]
    have es : sg_s (jB H0 t) = rdn (jB H0 t) (6 + l1) l2 := by unfold sg_s; rw [el1, el2]
    refine jT_neg (by decide) (jT_g (k50 s2) (jT_b (z8_setNumber (r := 52) (f := 6 + l1) (n := l2) (t := t) (sR_50_2 s2) rfl rfl h2c h2d s2 (sK_52 s2) (by decide) kt2 (by omega) (by omega) ht.2 (fun H3 f3 z3 a3 b3 c3 => ?_) fun H3 f3 q3 => ?_)))
    · rw [B2] at z3 a3 b3 c3
      refine jT_neg (by decide) (jT_g (by decide) (jT_ret (hk1 H3 (jfJ_trans f02 (jfJ_mono f3 fun a q => Or.inr (Or.inr q))) (fun j hj => (f3.2.2.2.2.2 50 (by decide) j).2.trans (w2 j hj)) ⟨hsl, by rw [el1]; exact a2, by rw [el1, el2]; exact a3⟩ (by rw [er, es]; exact ⟨b2, b3, c2, c3⟩) ((f3.2.2.2.2.2 50 (by decide) 0).2.trans v2) (by rw [er]; exact zN8_fJ z2 f3 (by decide)) (by rw [es]; exact z3))))
    · rw [B2] at q3
      refine jT_pos rfl (jT_g (by decide) (jT_ret (hk0 H3 (jfJ_trans f02 (jfJ_mono f3 fun a q => Or.inr (Or.inr q))) (fun j hj => (f3.2.2.2.2.2 50 (by decide) j).2.trans (w2 j hj)) fun w => q3 ?_)))
      have w3 := w.1.2.2
      have w4 := w.2
      rw [el1, el2] at w3
      rw [er, es] at w4
      exact ⟨w3, w4.2.1, w4.2.2.2⟩
  · rw [B1] at q2
    have er : sg_r (jB H0 t) = rdn (jB H0 t) 4 l1 := by unfold sg_r; rw [el1]
    refine jT_pos rfl (jT_g (by decide) (jT_ret (hk0 H2 (jfJ_trans f1 (jfJ_mono f2 fun a q => Or.inr (Or.inl q))) (fun j hj => (f2.2.2.2.2.2 50 (by decide) j).2.trans (w1 j hj)) fun w => q2 ?_)))
    have w3 := w.1.2.1
    have w4 := w.2
    rw [el1] at w3
    rw [er] at w4
    exact ⟨w3, w4.1, w4.2.2.1⟩
end SIG8
