/-! Points.roots and Points.key of the reference. -/
theorem ef_0s (x : ef) : 0 - x = -x := by grind
theorem ef_nn (x : ef) : 0 - -x = x := by grind
def ky_ev (c : ef) : ef := if (ky_rt c).val % 2 = 0 then ky_rt c else -ky_rt c
def zSr13 : Nat → Prop := fun j => 37 ≤ j ∧ j ≤ 47 ∧ j ≠ 40
theorem rt_half : (np_P + 1) / 2 / 2 = (np_P + 1) / 4 := by decide +kernel
section RT13
variable {Q : Int32 → jH → Prop} {H0 : jH}
theorem z13_roots26h {c n fu : Nat} {a' : Int32} {H : jH} (hc : c < 2) (hs : jsh H) (hn : zr H 39 n) (hk : ∀ H', jsh H' → jf3 (· = 39) H H' → zr H' 39 (n / 2) → jT (F_13_roots_26 fu 428 a' (Int32.ofNat (c + 1)) H') Q) : jT (F_13_roots_26 (fu + 1) 428 a' (Int32.ofNat c) H) Q := by
  obtain ⟨u, u1, u2⟩ := hn
  unfold F_13_roots_26 B_13_roots_26
  have e10 : nv 67108864 (fun j => if j < 10 then u j else 0) 10 = n := by
    rw [← u2]
    exact nv_ext fun j hj => if_pos hj
  refine jT_neg (by rw [show (2 : Int32) = Int32.ofNat 2 from rfl, jo_le (by omega) (by omega)]; omega) (z13_half (u := fun j => if j < 10 then u j else 0) hs (fun i hi => by
    show _ = Int32.ofNat (if i < 10 then u i else 0)
    rw [if_pos hi]
    exact (u1 i hi).1) (fun i => by
    show (if i < 10 then u i else 0) < 67108864
    split
    · exact (u1 i (by assumption)).2
    · decide) (if_neg (by decide)) (fun H' f' z' => hk H' (jsh_f3 hs f') f' (by rw [e10] at z'; exact z')) 10 0 jfuel H rfl (by unfold jfuel; omega) jf3_refl (fun j hj => absurd hj (Nat.not_lt_zero j)) fun i _ hi => ?_)
  show _ = Int32.ofNat (if i < 10 then u i else 0)
  rw [if_pos hi]
  exact (u1 i hi).1
theorem z13_roots {c : ef} (hs : jsh H0) (hC : z13C H0) (hc : zr H0 33 c.val)
    (hk1 : ∀ H', ky_rt c * ky_rt c = c → jsh H' → z13C H' → jf3 zSr13 H0 H' → zr H' 41 (ky_ev c).val → Q 1 H') (hk0 : ∀ H', ky_rt c * ky_rt c ≠ c → jsh H' → z13C H' → jf3 zSr13 H0 H' → Q 0 H') : jT (F_13_roots 428 41 33 H0) Q := by
  unfold F_13_roots
  refine jT_g (k13 hs) (jT_b (z13_copyE (a := 47) (b := 33) rfl rfl (by decide) (by decide) ⟨by decide, by decide, by decide, by decide, by decide, by decide⟩ hs hC hc fun H1 s1 C1 f1 z1 => ?_))
  have g1 : jf3 zSr13 H0 H1 := jf3_S jf3_refl f1 (by unfold zSr13; decide)
  refine jT_g (k13 s1) (jT_b (z13_copyE (a := 39) (b := 8) rfl rfl (by decide) (by decide) ⟨by decide, by decide, by decide, by decide, by decide, by decide⟩ s1 C1 C1.1 fun H2 s2 C2 f2 z2 => ?_))
  have g2 : jf3 zSr13 H0 H2 := jf3_S g1 f2 (by unfold zSr13; decide)
  have w2 := zr_f3 z1 f2 (by decide)
  refine jT_g (k13 s2) (jT_b (z13_addp (a := 39) (b := 20) rfl rfl rfl (by decide) (by decide) (by decide) s2 z2 C2.2.2.2.2.1 (by decide +kernel) fun H3 s3 f3 z3 => ?_))
  have g3 : jf3 zSr13 H0 H3 := jf3_S g2 f3 (by unfold zSr13; decide)
  have C3 := z13C_f3 C2 f3 ⟨by decide, by decide, by decide, by decide, by decide, by decide⟩
  have w3 := zr_f3 w2 f3 (by decide)
  obtain ⟨fu, hfu⟩ : ∃ fu, jfuel = fu + 1 + 1 + 1 := ⟨jfuel - 3, by unfold jfuel; omega⟩
  have go : ∀ fu, jT (F_13_roots_26 (fu + 1 + 1 + 1) 428 41 (Int32.ofNat 0) H3) Q := fun fu => by
    refine z13_roots26h (by decide) s3 z3 fun H4 s4 f4 z4 => z13_roots26h (by decide) s4 z4 fun H5 s5 f5 z5 => ?_
    have g5 : jf3 zSr13 H0 H5 := jf3_S (jf3_S g3 f4 (by unfold zSr13; decide)) f5 (by unfold zSr13; decide)
    have C5 := z13C_f3 (z13C_f3 C3 f4 ⟨by decide, by decide, by decide, by decide, by decide, by decide⟩) f5 ⟨by decide, by decide, by decide, by decide, by decide, by decide⟩
    have w5 := zr_f3 (zr_f3 w3 f4 (by decide)) f5 (by decide)
    rw [rt_half] at z5
    unfold F_13_roots_26 B_13_roots_26 B_13_roots_175
    refine jT_pos (by decide) (jT_g (k13 s5) (jT_b (z13_power (a := 45) (b := 47) (m := 0) rfl rfl rfl (by decide) (by decide) (by decide) s5 C5 w5 (ev_lt c) z5 (by unfold t256; decide +kernel) fun H6 s6 f6 z6 => ?_)))
    rw [ev_pow] at z6
    have z6b : zr H6 45 (ky_rt c).val := z6
    have g6 : jf3 zSr13 H0 H6 := jf3_trans g5 (jf3_mono f6 fun j q => by
      have q2 : j = 45 ∨ j = 38 ∨ j = 44 := q
      unfold zSr13
      omega)
    have C6 := z13C_f3 C5 f6 ⟨by decide, by decide, by decide, by decide, by decide, by decide⟩
    have w6 := zr_f3 w5 f6 (by decide)
    refine jT_g (k13 s6) (jT_b (z13_mulE (a := 46) (b := 45) (c := 45) rfl rfl rfl (by decide) (by decide) (by decide) ⟨by decide, by decide, by decide, by decide, by decide, by decide⟩ s6 C6 z6b z6b fun H7 s7 C7 f7 z7 => ?_))
    have g7 : jf3 zSr13 H0 H7 := jf3_S g6 f7 (by unfold zSr13; decide)
    have w7 := zr_f3 w6 f7 (by decide)
    have x7 := zr_f3 z6b f7 (by decide)
    refine jT_g (k13 s7) (jT_b (z13_compare (a := 46) (b := 47) rfl rfl (by decide) (by decide) s7 z7 w7 ?_))
    by_cases e : ky_rt c * ky_rt c = c
    · rw [e, if_neg (Nat.lt_irrefl _), if_neg (Nat.lt_irrefl _)]
      refine jT_pos rfl (jT_g (k13 s7) (jT_b (z13_isOdd (a := 45) rfl (by decide) s7 x7 ?_)))
      rcases (show (ky_rt c).val % 2 = 0 ∨ (ky_rt c).val % 2 = 1 by omega) with q | q
      · rw [q]
        have ev : ky_ev c = ky_rt c := if_pos q
        refine jT_pos rfl (jT_g (k13 s7) (jT_b (z13_copyE (a := 41) (b := 45) rfl rfl (by decide) (by decide) ⟨by decide, by decide, by decide, by decide, by decide, by decide⟩ s7 C7 x7 fun H8 s8 C8 f8 z8 => jT_g (by decide) (jT_ret (hk1 H8 e s8 C8 (jf3_S g7 f8 (by unfold zSr13; decide)) (by rw [ev]; exact z8))))))
      · rw [q]
        have ev : ky_ev c = 0 - ky_rt c := by
          rw [ef_0s]
          exact if_neg (by omega)
        refine jT_neg (by decide) (jT_g (k13 s7) (jT_b (z13_nothing (a := 46) rfl (by decide) s7 fun H8 s8 f8 z8 => ?_)))
        have C8 := z13C_f3 C7 f8 ⟨by decide, by decide, by decide, by decide, by decide, by decide⟩
        have z80 : zr H8 46 (0 : ef).val := z8
        refine jT_g (k13 s8) (jT_b (z13_minusE (a := 45) (b := 46) (c := 45) rfl rfl rfl (by decide) (by decide) (by decide) (by decide) ⟨by decide, by decide, by decide, by decide, by decide, by decide⟩ s8 C8 z80 (zr_f3 x7 f8 (by decide)) fun H9 s9 C9 f9 z9 => ?_))
        have g9 : jf3 zSr13 H0 H9 := jf3_S2 (jf3_S g7 f8 (by unfold zSr13; decide)) f9 (by unfold zSr13; decide) (by unfold zSr13; decide)
        refine jT_g (k13 s9) (jT_b (z13_copyE (a := 41) (b := 45) rfl rfl (by decide) (by decide) ⟨by decide, by decide, by decide, by decide, by decide, by decide⟩ s9 C9 z9 fun H10 s10 C10 f10 z10 => jT_g (by decide) (jT_ret (hk1 H10 e s10 C10 (jf3_S g9 f10 (by unfold zSr13; decide)) (by rw [ev]; exact z10)))))
    · have e2 : (ky_rt c * ky_rt c).val ≠ c.val := fun q => e (Fin.ext q)
      refine jT_neg (fun q => ?_) (jT_g (by decide) (jT_ret (hk0 H7 e s7 C7 g7)))
      by_cases q1 : (ky_rt c * ky_rt c).val < c.val
      · rw [if_pos q1] at q
        exact absurd q (by decide)
      · rw [if_neg q1, if_pos (by omega)] at q
        exact absurd q (by decide)
  have := go fu
  rw [← hfu] at this
  exact this
end RT13
