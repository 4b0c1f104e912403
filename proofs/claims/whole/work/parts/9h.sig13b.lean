/-! Points.signature of the reference. -/
section SG13
variable {Q : Int32 → jH → Prop} {H0 : jH} {b : Nat → UInt8} {ra rb m : Nat}
theorem sg_b_ne {m : Nat} (hm : 2 ≤ m) : sg_b b (m + 1) ↔ ((b 0).toNat = 48 ∧ (b 1).toNat = m - 2 ∧ ne_ok b 2 m ∧ ne_ok b (4 + sg_1 b) m ∧ 6 + sg_1 b + sg_2 b = m) := by
  unfold sg_b sg_l ne_ok
  have e1 : (b (2 + 1)).toNat = sg_1 b := rfl
  have e2 : (b (4 + sg_1 b + 1)).toNat = sg_2 b := by
    unfold sg_2
    rw [show 4 + sg_1 b + 1 = 5 + sg_1 b by omega]
  rw [e1, e2, show 4 + sg_1 b + 2 = 6 + sg_1 b by omega, show m + 1 - 3 = m - 2 by omega]
  constructor
  · intro ⟨⟨h0, h1, h2, h3, h4, h5, h6, h7, h8⟩, h9, h10⟩
    exact ⟨h0, h1, ⟨by omega, h2, h3, h4, by omega, h9⟩, ⟨by omega, h5, h6, h7, by omega, h10⟩, by omega⟩
  · intro ⟨h0, h1, ⟨_, h2, h3, h4, _, h9⟩, ⟨_, h5, h6, h7, _, h10⟩, h8⟩
    exact ⟨⟨h0, h1, h2, h3, h4, h5, h6, h7, by omega⟩, h9, h10⟩
theorem z13_signature {a' b' : Int32} (ea : a' = Int32.ofNat ra) (eb : b' = Int32.ofNat rb) (ha : ra < 8) (hb : rb < 8) (hab : ra ≠ rb) (hm : m ≤ 100) (hs : jsh H0) (hC : z13C H0) (hB : zB13 H0 b) (hl : jI H0 428 6 = Int32.ofNat m)
    (hk1 : ∀ H', jsh H' → z13C H' → jf3 (fun j => j = ra ∨ j = rb) (jsI H0 428 6 0) H' → sg_b b (m + 1) → zr H' ra (sg_r b) → zr H' rb (sg_s b) → Q 1 H')
    (hk0 : ¬ sg_b b (m + 1) → Q 0 (jsI H0 428 6 0)) : jT (F_13_signature 428 a' b' H0) Q := by
  unfold F_13_signature B_13_signature_59 B_13_signature_85
  refine jT_b (z13_isReg ea ha (jT_neg (by decide) (jT_b (z13_isReg eb hb (jT_neg (by decide) ?_)))))
  subst ea
  subst eb
  refine jT_pos (by rw [jo_eq (by omega) (by omega)]; exact hab) (jT_g (k13 hs) (jT_lo (e' := Int32.ofNat m) hl (jT_g (k13 hs) (jT_l ?_))))
  have s1 : jsh (jsI H0 428 6 0) := jsh_sI hs (by decide)
  have C1 : z13C (jsI H0 428 6 0) := z13C_sI hC (by decide) (by decide)
  have B1 : zB13 (jsI H0 428 6 0) b := fun j hj => (jI_sIa (by decide)).trans (hB j hj)
  generalize jsI H0 428 6 0 = H1 at hk1 hk0 s1 C1 B1 ⊢
  have no : ¬ sg_b b (m + 1) → jT (some ((0 : Int32), H1)) Q := fun h => jT_ret (hk0 h)
  by_cases h2 : m < 2
  · refine jT_pos (by rw [show (2 : Int32) = Int32.ofNat 2 from rfl, jo_lt (by omega) (by decide)]; exact h2) (no fun w => ?_)
    have := w.1.2.2.2.2.2.2.2.2
    omega
  refine jT_neg (by rw [show (2 : Int32) = Int32.ofNat 2 from rfl, jo_lt (by omega) (by decide)]; exact h2) (jT_g (k13 s1) ?_)
  have iff := sg_b_ne (b := b) (m := m) (by omega)
  have em : Int32.ofNat m - 2 = Int32.ofNat (m - 2) := jo_sub (a := m) (b := 2) (by omega)
  have c0 := u8_lt (b 0)
  have c1 := u8_lt (b 1)
  rw [sR_428_5 s1, show (0 : Int32).toNatClampNeg = 0 from rfl, show (1 : Int32).toNatClampNeg = 1 from rfl, B1 0 (by decide), B1 1 (by decide), em]
  refine jT_g (g434 s1 (k := 0) (by decide)) ?_
  by_cases h0' : ¬ (b 0).toNat = 48
  · exact jT_pos (fun q => h0' ((jo_eq (by omega) (by decide)).mp (q.trans (show (48 : Int32) = Int32.ofNat 48 from rfl)))) (no fun w => h0' (iff.mp w).1)
  have h0 := Decidable.of_not_not h0'
  refine jT_neg (fun q => q (by rw [h0]; rfl)) (jT_g (k13 s1) (jT_g (g434 s1 (k := 1) (by decide)) ?_))
  by_cases h1' : ¬ (b 1).toNat = m - 2
  · exact jT_neg (by rw [jo_eq (by omega) (by omega)]; exact h1') (no fun w => h1' (iff.mp w).2.1)
  have h1 := Decidable.of_not_not h1'
  refine jT_pos (by rw [h1]) (jT_g (k13 s1) (jT_b (z13_numberEnd (f := 2) (e := m) rfl rfl (by decide) hm s1 B1 (fun w1 => ?_) fun w1 => ?_)))
  · have l1 : sg_1 b ≤ 33 := w1.2.2.2.1
    have e4 : 2 + 2 + (b (2 + 1)).toNat = 4 + sg_1 b := rfl
    have hle : 4 + sg_1 b ≤ m := w1.2.2.2.2.1
    rw [e4]
    refine jT_neg (by rw [show (0 : Int32) = Int32.ofNat 0 from rfl, jo_lt (by omega) (by decide)]; omega) (jT_g (k13 s1) (jT_b (z13_numberEnd (f := 4 + sg_1 b) (e := m) rfl rfl (by omega) hm s1 B1 (fun w2 => ?_) fun w2 => ?_)))
    · have e6 : 4 + sg_1 b + 2 + (b (4 + sg_1 b + 1)).toNat = 6 + sg_1 b + sg_2 b := by
        unfold sg_2
        rw [show 4 + sg_1 b + 1 = 5 + sg_1 b by omega]
        omega
      have l2 : sg_2 b ≤ 33 := by
        have := w2.2.2.2.1
        unfold sg_2
        rw [show 5 + sg_1 b = 4 + sg_1 b + 1 by omega]
        exact this
      rw [e6]
      by_cases hend' : ¬ 6 + sg_1 b + sg_2 b = m
      · exact jT_neg (by rw [jo_eq (by omega) (by omega)]; exact hend') (no fun w => hend' (iff.mp w).2.2.2.2)
      have hend := Decidable.of_not_not hend'
      have a4 : Int32.ofNat (4 + sg_1 b) - 4 = Int32.ofNat (sg_1 b) := by
        rw [show (4 : Int32) = Int32.ofNat 4 from rfl, jo_sub (by omega), show 4 + sg_1 b - 4 = sg_1 b by omega]
      have a6 : Int32.ofNat (4 + sg_1 b) + 2 = Int32.ofNat (6 + sg_1 b) := by
        rw [show (2 : Int32) = Int32.ofNat 2 from rfl, jo_add, show 4 + sg_1 b + 2 = 6 + sg_1 b by omega]
      have a2 : Int32.ofNat m - Int32.ofNat (4 + sg_1 b) - 2 = Int32.ofNat (sg_2 b) := by
        rw [jo_sub (by omega), show (2 : Int32) = Int32.ofNat 2 from rfl, jo_sub (by omega), show m - (4 + sg_1 b) - 2 = sg_2 b by omega]
      rw [a4, a6, a2]
      refine jT_pos (by rw [hend]) (jT_g (k13 s1) (jT_b (z13_read (a := ra) (f := 4) (n := sg_1 b) rfl rfl rfl (by omega) (by omega) l1 ⟨by omega, by omega, by omega, by omega, by omega, by omega⟩ s1 C1 B1 fun H2 s2 C2 f2 z2 => ?_)))
      refine jT_g (k13 s2) (jT_b (z13_read (a := rb) (f := 6 + sg_1 b) (n := sg_2 b) rfl rfl rfl (by omega) (by omega) l2 ⟨by omega, by omega, by omega, by omega, by omega, by omega⟩ s2 C2 (zB13_f3 B1 f2) fun H3 s3 C3 f3 z3 => ?_))
      exact jT_ret (hk1 H3 s3 C3 (jf3_trans (jf3_mono f2 fun j q => Or.inl q) (jf3_mono f3 fun j q => Or.inr q)) (iff.mpr ⟨h0, h1, w1, w2, hend⟩) (zr_f3 z2 f3 (by omega)) z3)
    · have hne : ¬ (-1 : Int32) = Int32.ofNat m := fun q => by
        have h := congrArg Int32.toInt q
        rw [jo_int (by omega), show (-1 : Int32).toInt = -1 from by decide] at h
        omega
      exact jT_neg hne (no fun w => w2 (iff.mp w).2.2.2.1)
  · exact jT_pos (by decide) (no fun w => w1 (iff.mp w).2.2.1)
end SG13
