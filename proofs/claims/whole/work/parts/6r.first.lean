/-! The first call on fresh objects. -/
theorem i32_small {p : Int32} {k : Nat} (hk : k < 2147483648) (h0 : ¬ p < 0) (h1 : ¬ Int32.ofNat k ≤ p) : ∃ q, q < k ∧ p = Int32.ofNat q := by
  have hj := jin_of hk h0 h1
  unfold jin at hj
  refine ⟨p.toInt.toNat, by omega, ?_⟩
  refine Int32.toInt_inj.mp ?_
  rw [jo_int (by omega)]
  omega
/-- what no class call changes -/
def jSc : Nat → Nat → Prop := fun a _ => 32 ≤ a ∧ a < 421
def jSr : Nat → Nat → Prop := fun a _ => 421 ≤ a
/-- how many there are of each, at the beginning -/
def zc0 (w : Int32) : Int32 := if w = 0 then 1 else if w = 1 then 0 else if w = 2 then 0 else if w = 3 then 0 else if w = 4 then 0 else if w = 5 then 0 else -1
section FIRST
variable {L : Nat} {xs : Nat → Int32} {H : jH}
theorem f_sh (h : jst0 L xs H) : jsh H := h.1
theorem f_I (h : jst0 L xs H) {a j : Nat} (e : 32 ≤ a ∧ jEx a j = false) : jI H a j = 0 := (h.2.2.2.2.2.1 a j e.1 e.2).1
theorem f_L (h : jst0 L xs H) {a j : Nat} (e : 32 ≤ a ∧ jEx a j = false) : jL H a j = 0 := (h.2.2.2.2.2.1 a j e.1 e.2).2.1
theorem f_R (h : jst0 L xs H) {a j v : Nat} (e : 32 ≤ a ∧ a < 513 ∧ jEx a j = false ∧ jRL jWs a j = v) : jR H a j = v := (h.2.2.2.2.2.2.1 a j e.1 e.2.1 e.2.2.1).trans e.2.2.2
theorem f_tip (h : jst0 L xs H) : jR H 398 6 = 410 := f_R h (by decide +kernel)
theorem f_feed (h : jst0 L xs H) (a b c d e : Int32) : jT (F_11_feed 32 a b c d e H) (fun r h' => r = 1 ∧ jsh h' ∧ jfr jSc H h') := by
  refine z11_feed (t := 0) (f_sh h) (by decide) (f_I h (by decide +kernel)) (fun h => absurd h (by decide)) fun H' _ hs' hf _ _ => ⟨rfl, hs', jfr_mono hf fun a j h => ?_⟩
  unfold jSc
  omega
theorem f_send (h : jst0 L xs H) (p n : Int32) : jT (F_11_send 32 p n H) (fun r h' => r = 0 ∧ h' = H) ∧ ∀ H', jsh H' → jI H' 421 48 = 0 → jT (F_18_send 421 p n H') (fun r h' => r = 0 ∧ h' = H') := by
  have hn : p < 0 ∨ 4 ≤ p ∨ n < 1 ∨ Int32.ofNat 0 < n := by
    by_cases hq : n < 1
    · exact Or.inr (Or.inr (Or.inl hq))
    · refine Or.inr (Or.inr (Or.inr ?_))
      rw [Int32.lt_iff_toInt_lt] at hq ⊢
      have h1 : (1 : Int32).toInt = 1 := rfl
      have h0 : (Int32.ofNat 0).toInt = 0 := rfl
      omega
  exact ⟨z11_send_no (t := 0) (f_sh h) (f_I h (by decide +kernel)) hn ⟨rfl, rfl⟩, fun H' hs' hz => z18_send_no (t := 0) hs' hz hn ⟨rfl, rfl⟩⟩
theorem f_fetch (h : jst0 L xs H) (p : Int32) : jT (F_11_fetch 32 p H) (fun r h' => r = 0 ∧ jsh h' ∧ jfr jSc H h') ∧ ∀ H', jsh H' → (∀ q, q < 4 → jI H' 511 q = 0) → jT (F_18_fetch 421 p H') (fun r h' => r = 0 ∧ jfr jSr H' h') := by
  by_cases h0 : p < 0
  · exact ⟨z11_fetch_no (Or.inl h0) ⟨rfl, f_sh h, jfr_refl⟩, fun H' hs' hz => z18_fetch_no (Or.inl h0) ⟨rfl, jfr_refl⟩⟩
  · by_cases h4 : 4 ≤ p
    · exact ⟨z11_fetch_no (Or.inr h4) ⟨rfl, f_sh h, jfr_refl⟩, fun H' hs' hz => z18_fetch_no (Or.inr h4) ⟨rfl, jfr_refl⟩⟩
    · obtain ⟨q, hq, rfl⟩ := i32_small (k := 4) (by decide) h0 h4
      refine ⟨?_, fun H' hs' hz => ?_⟩
      · refine z11_fetch (s := 0) (w := 0) (f_sh h) hq (by decide) (by decide) (f_I h ⟨by decide, rfl⟩) (f_I h ⟨by decide, rfl⟩) fun H' hs' hf _ _ => ⟨zft_0 _, hs', jfr_mono hf fun a j h => ?_⟩
        unfold jSc
        omega
      · refine z18_fetch (w := 0) hs' hq (by decide) (hz q hq) fun H2 hs2 hf _ _ => ⟨zft_0 _, jfr_mono hf fun a j h => ?_⟩
        unfold jSr
        omega
theorem f_key (h : jst0 L xs H) (a b c d : Int64) (i : Int32) : jT (F_11_key 32 a b c d i H) (fun _ h' => jsh h' ∧ jfr jSc H h') ∧ ∀ H', jsh H' → jT (F_18_key 421 a b c d i H') (fun _ h' => jfr jSr H' h') := by
  refine ⟨z11_key (fun H' hs' hf _ _ => ⟨hs', jfr_mono hf fun a j h => ?_⟩) 8 0 jfuel H rfl (by unfold jfuel; omega) (f_sh h) jfr_refl (fun j hj => absurd hj (Nat.not_lt_zero j)), fun H' hs' => z18_key (fun H2 hs2 hf _ _ => jfr_mono hf fun a j h => ?_) 32 0 jfuel H' rfl (by unfold jfuel; omega) hs' jfr_refl (fun j hj => absurd hj (Nat.not_lt_zero j))⟩
  · unfold jSr
    omega
  · unfold jSc
    omega
theorem f_value (h : jst0 L xs H) : jT (F_11_value 32 H) (fun r h' => r = -1 ∧ h' = H) ∧ jT (F_18_value 421 H) (fun r h' => r = -1 ∧ h' = H) := by
  have hs := f_sh h
  obtain ⟨f, ef⟩ : ∃ f, jfuel = f + 1 := ⟨4294967295, rfl⟩
  refine ⟨?_, ?_⟩
  · unfold F_11_value F_2_find
    rw [ef, sR_32_11 hs, sK_32 hs, sK_392 hs]
    refine jT_g rfl (jT_g rfl (jT_g rfl (jT_g rfl (jT_b ?_))))
    unfold F_2_find_3 B_2_find_3
    rw [f_I h (a := 392) (j := 3) (by decide +kernel), sK_392 hs]
    refine jT_g rfl (jT_pos (by decide) (jT_ret (jT_neg (by decide) ?_)))
    unfold B_11_value_35
    exact jT_ret ⟨rfl, rfl⟩
  · unfold F_18_value
    refine jT_g (by rw [sK_421 hs]) (jT_g (by rw [sK_421 hs]) (jT_b (jT_eq (z18_need_here hs ((f_I h (by decide +kernel)).trans (f_I h (by decide +kernel)).symm)) (jT_ret ?_))))
    refine jT_g (by rw [sK_421 hs]) (jT_g (by rw [sK_421 hs]) (jT_g (by rw [sK_421 hs]) (jT_b ?_)))
    unfold F_18_coin
    rw [ef]
    unfold F_18_coin_3 B_18_coin_3
    rw [f_I h (a := 421) (j := 17) (by decide +kernel), sK_421 hs]
    refine jT_g rfl (jT_pos (by decide) (jT_ret (jT_neg (by decide) ?_)))
    unfold B_18_value_39
    exact jT_ret ⟨rfl, rfl⟩
theorem f_total (h : jst0 L xs H) : jT (F_11_total 32 H) (fun r h' => r = 0 ∧ h' = H) ∧ jT (F_18_total 421 H) (fun r h' => r = 0 ∧ h' = H) := by
  have hs := f_sh h
  refine ⟨?_, ?_⟩
  · unfold F_11_total
    rw [sR_32_11 hs, sK_32 hs, sK_392 hs]
    exact jT_g rfl (jT_g rfl (jT_ret ⟨f_L h (by decide +kernel), rfl⟩))
  · unfold F_18_total
    refine jT_g (by rw [sK_421 hs]) (jT_g (by rw [sK_421 hs]) (jT_b (jT_eq (z18_need_here hs ((f_I h (by decide +kernel)).trans (f_I h (by decide +kernel)).symm)) (jT_ret ?_))))
    exact z18_total_12 (c := 0) hs (by decide) (f_I h (by decide +kernel)) ⟨rfl, rfl⟩
theorem f_fees (h : jst0 L xs H) : jT (F_11_fees 32 H) (fun r h' => r = 0 ∧ h' = H) ∧ jT (F_18_fees 421 H) (fun r h' => r = 0 ∧ h' = H) := by
  have hs := f_sh h
  refine ⟨?_, z18_fees (c := 0) hs (by decide) (f_I h (by decide +kernel)) ⟨rfl, rfl⟩⟩
  unfold F_11_fees
  rw [sR_32_13 hs, sK_32 hs, sK_414 hs]
  exact jT_g rfl (jT_g rfl (jT_b (z6_gain (c := 0) hs (by decide) (f_I h (by decide +kernel)) (jT_ret ⟨rfl, rfl⟩))))
theorem f_count (h : jst0 L xs H) (w : Int32) : jT (F_11_count 32 w H) (fun r h' => r = zc0 w ∧ h' = H) ∧ jT (F_18_count 421 w H) (fun r h' => r = zc0 w ∧ h' = H) := by
  have hs := f_sh h
  obtain ⟨t1, t2, t3, t4, t5, t6, t7⟩ := h.2.2.2.2.2.2.2.1
  have hc1 : jI H 398 4 = 1 := h.2.2.2.2.2.2.2.2.2.1.1
  have z : jI H 421 16 = jI H 421 13 := (f_I h (by decide +kernel)).trans (f_I h (by decide +kernel)).symm
  refine ⟨?_, ?_⟩
  · unfold F_11_count
    rw [sR_32_11 hs, sR_32_12 hs, sR_32_13 hs, sK_32 hs, sK_392 hs, sK_398 hs, sK_414 hs, f_tip h, sK_410 hs, hc1, f_I h (a := 410) (j := 6) (by decide +kernel), f_I h (a := 392) (j := 3) (by decide +kernel), f_I h (a := 414) (j := 4) (by decide +kernel), f_I h (a := 32) (j := 1) (by decide +kernel), f_I h (a := 398) (j := 5) (by decide +kernel)]
    by_cases h0 : w = 0
    · exact jT_pos h0 (jT_g rfl (jT_g rfl (jT_ret ⟨by subst h0; rfl, rfl⟩)))
    refine jT_neg h0 ?_
    by_cases h1 : w = 1
    · exact jT_pos h1 (jT_g rfl (jT_g rfl (jT_g rfl (jT_ret ⟨by subst h1; rfl, rfl⟩))))
    refine jT_neg h1 ?_
    by_cases h2 : w = 2
    · exact jT_pos h2 (jT_g rfl (jT_g rfl (jT_ret ⟨by subst h2; rfl, rfl⟩)))
    refine jT_neg h2 ?_
    by_cases h3 : w = 3
    · exact jT_pos h3 (jT_g rfl (jT_g rfl (jT_ret ⟨by subst h3; rfl, rfl⟩)))
    refine jT_neg h3 ?_
    by_cases h4 : w = 4
    · exact jT_pos h4 (jT_g rfl (jT_ret ⟨by subst h4; rfl, rfl⟩))
    refine jT_neg h4 ?_
    by_cases h5 : w = 5
    · exact jT_pos h5 (jT_g rfl (jT_g rfl (jT_ret ⟨by subst h5; rfl, rfl⟩)))
    exact jT_neg h5 (jT_ret ⟨by unfold zc0; rw [if_neg h0, if_neg h1, if_neg h2, if_neg h3, if_neg h4, if_neg h5], rfl⟩)
  · refine z18_count (m := 1) hs (by decide) t2 (P := fun h' => h' = H) (jT_eq (z18_need_here hs z) (jT_ret rfl)) fun h' e => ?_
    subst e
    have esz : F_16_size 445 h' = some (1, h') := by
      unfold F_16_size
      rw [sK_445 hs, jg_t rfl, t2]
    rw [sR_421_3 hs, sK_421 hs, sK_445 hs, esz, f_I h (a := 421) (j := 13) (by decide +kernel), f_I h (a := 421) (j := 17) (by decide +kernel), f_I h (a := 421) (j := 36) (by decide +kernel), f_I h (a := 421) (j := 48) (by decide +kernel)]
    by_cases h0 : w = 0
    · exact jT_pos h0 (jT_g rfl (jT_g rfl (jT_ret ⟨by subst h0; rfl, rfl⟩)))
    refine jT_neg h0 ?_
    by_cases h1 : w = 1
    · exact jT_pos h1 (jT_g rfl (jT_g rfl (jT_b (z18_height (b := 0) (m := 1) hs (by decide) (by decide) t2 (jT_ret ⟨t4.trans (by subst h1; rfl), rfl⟩)))))
    refine jT_neg h1 ?_
    by_cases h2 : w = 2
    · exact jT_pos h2 (jT_g rfl (jT_ret ⟨by subst h2; rfl, rfl⟩))
    refine jT_neg h2 ?_
    by_cases h3 : w = 3
    · exact jT_pos h3 (jT_g rfl (jT_ret ⟨by subst h3; rfl, rfl⟩))
    refine jT_neg h3 ?_
    by_cases h4 : w = 4
    · exact jT_pos h4 (jT_g rfl (jT_ret ⟨by subst h4; rfl, rfl⟩))
    refine jT_neg h4 ?_
    by_cases h5 : w = 5
    · refine jT_pos h5 (jT_ret ⟨?_, rfl⟩)
      subst h5
      unfold zcb zcb
      rw [t7]
      rfl
    exact jT_neg h5 (jT_ret ⟨by unfold zc0; rw [if_neg h0, if_neg h1, if_neg h2, if_neg h3, if_neg h4, if_neg h5], rfl⟩)
theorem f_block (h : jst0 L xs H) (ht k : Int32) : ∃ v, jT (F_11_block 32 ht k H) (fun r h' => r = v ∧ h' = H) ∧ jT (F_18_block 421 ht k H) (fun r h' => r = v ∧ h' = H) := by
  have hs := f_sh h
  obtain ⟨t1, t2, t3, t4, t5, t6, t7⟩ := h.2.2.2.2.2.2.2.1
  obtain ⟨r1, r2, r3, r4⟩ := h.2.2.2.2.2.2.2.2.1
  obtain ⟨c1, c2, c3, c4, c5⟩ := h.2.2.2.2.2.2.2.2.2.1
  have no : ∀ (P : Prop), (ht < 0 ∨ 0 < ht ∨ k < 0 ∨ 4 ≤ k) → (jT (F_11_block 32 ht k H) (fun r h' => r = 0 ∧ h' = H) ∧ jT (F_18_block 421 ht k H) (fun r h' => r = 0 ∧ h' = H)) := by
    intro _ hno
    have k3 : 4 ≤ k → ¬ k ≤ 3 := by
      intro h1 h2
      rw [Int32.le_iff_toInt_le] at h1 h2
      have a1 : (4 : Int32).toInt = 4 := rfl
      have a2 : (3 : Int32).toInt = 3 := rfl
      omega
    refine ⟨?_, ?_⟩
    · unfold F_11_block F_1_at B_1_at_22 B_1_at_32 B_11_block_22
      rw [sR_32_12 hs, sK_32 hs, sK_398 hs, f_tip h, sK_410 hs, sR_398_7 hs, f_I h (a := 410) (j := 6) (by decide +kernel), sK_400 hs]
      refine jT_g rfl (jT_g rfl (jT_b ?_))
      refine jT_if (fun _ => jT_ret (jT_pos rfl (jT_ret ⟨rfl, rfl⟩))) (fun h0 => jT_g rfl (jT_g rfl (jT_if (fun _ => jT_ret (jT_pos rfl (jT_ret ⟨rfl, rfl⟩))) (fun h1 => jT_if (fun h3 => ?_) (fun _ => jT_ret (jT_pos rfl (jT_ret ⟨rfl, rfl⟩)))))))
      refine jT_g rfl (jT_g ⟨rfl, jin_of (by decide) h0 (Int32.not_le.mpr h3)⟩ (jT_ret ?_))
      have hz : ht = Int32.ofNat 0 := by
        refine Int32.toInt_inj.mp ?_
        rw [Int32.lt_iff_toInt_lt] at h0 h1
        have a1 : (0 : Int32).toInt = 0 := rfl
        have a2 : (Int32.ofNat 0).toInt = 0 := rfl
        omega
      subst hz
      have : jR H 400 (Int32.ofNat 0).toNatClampNeg = 410 := f_R h (by decide +kernel)
      rw [this]
      refine jT_neg (by decide) (jT_if (fun _ => jT_ret ⟨rfl, rfl⟩) (fun hk0 => jT_neg ?_ (jT_ret ⟨rfl, rfl⟩)))
      rcases hno with q | q | q | q
      · exact absurd q h0
      · exact absurd q h1
      · exact absurd q hk0
      · exact k3 q
    · unfold F_18_block B_18_block_25
      rw [sK_421 hs, f_I h (a := 421) (j := 13) (by decide +kernel)]
      refine jT_if (fun _ => jT_ret ⟨rfl, rfl⟩) (fun h0 => jT_g rfl (jT_g rfl (jT_b (z18_height (b := 0) (m := 1) hs (by decide) (by decide) t2 ?_))))
      rw [t4]
      refine jT_if (fun _ => jT_ret ⟨rfl, rfl⟩) (fun h1 => jT_if (fun _ => jT_ret ⟨rfl, rfl⟩) (fun hk0 => jT_neg ?_ (jT_ret ⟨rfl, rfl⟩)))
      rcases hno with q | q | q | q
      · exact absurd q h0
      · exact absurd q h1
      · exact absurd q hk0
      · exact k3 q
  by_cases h0 : ht < 0
  · exact ⟨0, no True (Or.inl h0)⟩
  by_cases h1 : 0 < ht
  · exact ⟨0, no True (Or.inr (Or.inl h1))⟩
  by_cases k0 : k < 0
  · exact ⟨0, no True (Or.inr (Or.inr (Or.inl k0)))⟩
  by_cases k4 : 4 ≤ k
  · exact ⟨0, no True (Or.inr (Or.inr (Or.inr k4)))⟩
  obtain ⟨q, hq, rfl⟩ := i32_small (k := 4) (by decide) k0 k4
  have hz : ht = Int32.ofNat 0 := by
    refine Int32.toInt_inj.mp ?_
    rw [Int32.lt_iff_toInt_lt] at h0 h1
    have a1 : (0 : Int32).toInt = 0 := rfl
    have a2 : (Int32.ofNat 0).toInt = 0 := rfl
    omega
  subst hz
  refine ⟨zeb (fun i => znm zhead 80 (8 * q + i)) 8, ?_, ?_⟩
  · unfold F_11_block F_1_at B_1_at_32
    rw [sR_32_12 hs, sK_32 hs, sK_398 hs, f_tip h, sK_410 hs, sR_398_7 hs, f_I h (a := 410) (j := 6) (by decide +kernel), sK_400 hs]
    have : jR H 400 (Int32.ofNat 0).toNatClampNeg = 410 := f_R h (by decide +kernel)
    rw [this]
    refine jT_g rfl (jT_g rfl (jT_b (jT_neg (by decide) (jT_g rfl (jT_g rfl (jT_neg (by decide) (jT_pos (by decide) (jT_g rfl (jT_g (by decide) (jT_ret (jT_neg (by decide) (jT_neg k0 (jT_pos (by rw [show (3 : Int32) = Int32.ofNat 3 from rfl, jo_le (by omega) (by omega)]; omega) ?_))))))))))))) 
    refine z11_block_30 hq (by rw [sK_410 hs]) (f_R h (by decide +kernel)) (sK_411 hs) ⟨zeb_eq fun i hi => ?_, rfl⟩
    exact c4 _ (by omega)
  · unfold F_18_block
    rw [sK_421 hs, f_I h (a := 421) (j := 13) (by decide +kernel)]
    refine jT_neg (by decide) (jT_g rfl (jT_g rfl (jT_b (z18_height (b := 0) (m := 1) hs (by decide) (by decide) t2 ?_))))
    rw [t4]
    refine jT_neg (by decide) (jT_neg k0 (jT_pos (by rw [show (3 : Int32) = Int32.ofNat 3 from rfl, jo_le (by omega) (by omega)]; omega) (jT_g (by rw [sK_421 hs]) (jT_g (by rw [sK_421 hs]) ?_))))
    rw [sR_421_3 hs, sK_445 hs, f_I h (a := 421) (j := 13) (by decide +kernel)]
    refine jT_g rfl (jT_b (z16_below_here (b := 0) (m := 1) (h := 0) hs (by decide) (by decide) t2 (by decide) t4 (jT_l ?_)))
    have e : (32 : Int32) * Int32.ofNat 0 + 8 * Int32.ofNat q = Int32.ofNat (8 * q) := by
      rw [show (32 : Int32) = Int32.ofNat 32 from rfl, show (8 : Int32) = Int32.ofNat 8 from rfl, jo_mul, jo_mul, jo_add]
      congr 1
      omega
    rw [e]
    exact z18_block_54 hs (by omega) ⟨zeb_eq fun i hi => r3 _ (by omega), rfl⟩
end FIRST
