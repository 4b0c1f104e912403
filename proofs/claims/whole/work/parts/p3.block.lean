/-! A block's name by its height: both. -/
section BLKQ
variable {H : jH}
theorem c_block {ht w : Int32} (hI : s_I H) : s_two (F_11_block 32 ht w) (F_18_block 421 ht w) H := by
  obtain ⟨S, tp, kn, ki, nb, os, hP, hC, hR⟩ := hI
  have hs := hC.1
  have k18 : (jK H 421).1 = 18 := gT (sK_421 hs)
  have k11 : (jK H 32).1 = 11 := gT (sK_32 hs)
  have k398 : (jK H 398).1 = 1 := gT (sK_398 hs)
  obtain ⟨hw, hT, hD, -, -, htl, h13, -⟩ := hR.1
  have hB := hC.2.1.2.1
  have hL := hC.2.1.2.2.1
  have l300 := hw.2.1
  have h3 := b_ht_300 hw htl
  have et : (Int32.ofNat (b_ht S.1 S.2.2.2.1)).toInt = b_ht S.1 S.2.2.2.1 := jo_int (by omega)
  have e0 : (0 : Int32).toInt = 0 := by decide
  have hh : ∀ {Q : Int64 → jH → Prop} {k : Int32 → jH → Option (Int64 × jH)}, jT (k (Int32.ofNat (b_ht S.1 S.2.2.2.1)) H) Q → jT (jb (F_18_height 421 (Int32.ofNat S.2.2.2.1) H) k) Q := fun hk => jT_b (z18_height hs l300 htl hT.1 (by
    rw [(hT.2 _ htl).2.1]
    exact hk))
  have none11 : (ht < 0 ∨ Int32.ofNat (b_ht S.1 S.2.2.2.1) < ht) → F_11_block 32 ht w H = some (0, H) := fun hno => jT_det (by
    unfold F_11_block B_11_block_22
    rw [sR_32_12 hs]
    exact jT_g k11 (jT_g k398 (jT_b (jT_eq (b_at1_no hw hs hB hL hno) (jT_ret (jT_pos rfl (jT_ret ⟨rfl, rfl⟩)))))))
  by_cases c0 : ht < 0
  · refine s_ask hP hC (none11 (Or.inl c0)) ?_
    unfold F_18_block B_18_block_25
    exact jT_pos c0 (jT_ret ⟨rfl, hs, jfr_refl, hR⟩)
  by_cases c1 : Int32.ofNat (b_ht S.1 S.2.2.2.1) < ht
  · refine s_ask hP hC (none11 (Or.inr c1)) ?_
    unfold F_18_block B_18_block_25
    rw [h13]
    exact jT_neg c0 (jT_g k18 (jT_g k18 (hh (jT_pos c1 (jT_ret ⟨rfl, hs, jfr_refl, hR⟩)))))
  rw [i32_lt, et] at c1
  obtain ⟨g, hg, rfl⟩ := i32_small (k := 301) (by decide) c0 (fun q => by
    rw [Int32.le_iff_toInt_le, jo_int (by decide)] at q
    omega)
  have eg : (Int32.ofNat g).toInt = g := jo_int (by omega)
  rw [eg] at c1
  have hgh : g ≤ b_ht S.1 S.2.2.2.1 := by omega
  have lt := (b_at_ok hw htl hgh).2.2
  have pos := (b_o_pos hs hB lt).1
  have nlt : ¬ Int32.ofNat (b_ht S.1 S.2.2.2.1) < Int32.ofNat g := by rw [jo_lt (by omega) (by omega)]; omega
  by_cases c2 : w < 0
  · refine s_ask (v := 0) hP hC (jT_det ?_) ?_
    · unfold F_11_block B_11_block_22
      rw [sR_32_12 hs]
      exact jT_g k11 (jT_g k398 (jT_b (jT_eq (b_at1 hw hs hB hL hgh) (jT_ret (jT_neg (by omega) (jT_pos c2 (jT_ret ⟨rfl, rfl⟩)))))))
    · unfold F_18_block B_18_block_25
      rw [h13]
      exact jT_neg c0 (jT_g k18 (jT_g k18 (hh (jT_neg nlt (jT_pos c2 (jT_ret ⟨rfl, hs, jfr_refl, hR⟩))))))
  by_cases c3 : w ≤ 3
  · obtain ⟨q, hq, rfl⟩ := i32_small (k := 4) (by decide) c2 (fun q => by
      rw [Int32.le_iff_toInt_le] at q c3
      have a1 : (Int32.ofNat 4).toInt = 4 := by decide
      have a2 : (3 : Int32).toInt = 3 := by decide
      omega)
    obtain ⟨-, hbx⟩ := hB.2.2.2.2 _ lt
    obtain ⟨v, hv⟩ : ∃ v, v = zeb (fun i => jB H (jR H (b_o os (b_at S.1 S.2.2.2.1 g)) 1) (8 * q + i)) 8 := ⟨_, rfl⟩
    refine s_ask (v := v) hP hC (jT_det ?_) ?_
    · unfold F_11_block
      rw [sR_32_12 hs]
      exact jT_g k11 (jT_g k398 (jT_b (jT_eq (b_at1 hw hs hB hL hgh) (jT_ret (jT_neg (by omega) (jT_neg c2 (jT_pos c3 (z11_block_30 hq hbx.1.1 rfl hbx.2.2.1.1 ⟨hv.symm, rfl⟩))))))))
    · unfold F_18_block
      rw [h13]
      refine jT_neg c0 (jT_g k18 (jT_g k18 (hh (jT_neg nlt (jT_neg c2 (jT_pos c3 (jT_g k18 (jT_g k18 ?_))))))))
      rw [sR_421_3 hs, h13]
      refine jT_g (gT (sK_445 hs)) (jT_b (jT_eq (b_below hw hs hT htl hgh) (jT_ret (jT_l ?_))))
      have e : (32 : Int32) * Int32.ofNat (b_at S.1 S.2.2.2.1 g) + 8 * Int32.ofNat q = Int32.ofNat (32 * b_at S.1 S.2.2.2.1 g + 8 * q) := by
        rw [p_e32, show (8 : Int32) * Int32.ofNat q = Int32.ofNat (8 * q) from jo_mul (a := 8) (b := q)]
        exact jo_add
      rw [e]
      refine z18_block_54 hs (by omega) ⟨?_, hs, jfr_refl, hR⟩
      rw [hv]
      refine zeb_eq fun i hi => ?_
      have ln := hw.2.2.2.1 _ lt
      have g1 : (b_nm S.1 (b_at S.1 S.2.2.2.1 g))[8 * q + i]? = some ((b_nm S.1 (b_at S.1 S.2.2.2.1 g)).getD (8 * q + i) 0) := getD_of (by omega)
      have r1 := hbx.2.2.1.2.2 _ _ g1
      have r2 := (hD _ lt).2.2.1 _ _ g1
      rw [Nat.zero_add] at r1
      rw [show 32 * b_at S.1 S.2.2.2.1 g + 8 * q + i = 32 * b_at S.1 S.2.2.2.1 g + (8 * q + i) by omega]
      exact r2.trans r1.symm
  · refine s_ask (v := 0) hP hC (jT_det ?_) ?_
    · unfold F_11_block B_11_block_22
      rw [sR_32_12 hs]
      exact jT_g k11 (jT_g k398 (jT_b (jT_eq (b_at1 hw hs hB hL hgh) (jT_ret (jT_neg (by omega) (jT_neg c2 (jT_neg c3 (jT_ret ⟨rfl, rfl⟩))))))))
    · unfold F_18_block B_18_block_25
      rw [h13]
      exact jT_neg c0 (jT_g k18 (jT_g k18 (hh (jT_neg nlt (jT_neg c2 (jT_neg c3 (jT_ret ⟨rfl, hs, jfr_refl, hR⟩)))))))
end BLKQ
