/-! Only the first n bytes count. -/
theorem bgn_ext {b c : Nat → UInt8} {f n m : Nat} (h : ∀ j, j < m → b j = c j) (hf : f + n ≤ m) : bgn b f n = bgn c f n := nv_ext fun k hk => by
  rw [h (f + n - 1 - k) (by omega)]
theorem rdn_ext {b c : Nat → UInt8} {f n m : Nat} (h : ∀ j, j < m → b j = c j) (hf : f + n ≤ m) : rdn b f n = rdn c f n := nv_ext fun k hk => by
  rw [h (f + n - 1 - k) (by omega)]
theorem ky_pt_ext {b c : Nat → UInt8} {n : Nat} (h : ∀ j, j < n → b j = c j) : ky_pt b n = ky_pt c n := by
  by_cases h33 : n = 33
  · have e0 : b 0 = c 0 := h 0 (by omega)
    have e1 : bgn b 1 32 = bgn c 1 32 := bgn_ext h (by omega)
    unfold ky_pt
    rw [e0, e1]
    by_cases h2 : (c 0).toNat = 2 ∨ (c 0).toNat = 3
    · have c1 : n = 33 ∧ ((c 0).toNat = 2 ∨ (c 0).toNat = 3) := ⟨h33, h2⟩
      rw [if_pos c1, if_pos c1]
    · have c1 : ¬ (n = 33 ∧ ((c 0).toNat = 2 ∨ (c 0).toNat = 3)) := fun q => h2 q.2
      have c2 : ¬ (n = 65 ∧ (c 0).toNat = 4) := fun q => by omega
      rw [if_neg c1, if_neg c1, if_neg c2, if_neg c2]
  · by_cases h65 : n = 65
    · have e0 : b 0 = c 0 := h 0 (by omega)
      have e1 : bgn b 1 32 = bgn c 1 32 := bgn_ext h (by omega)
      have e2 : bgn b 33 32 = bgn c 33 32 := bgn_ext h (by omega)
      unfold ky_pt
      rw [e0, e1, e2]
    · unfold ky_pt
      rw [if_neg fun q => h33 q.1, if_neg fun q => h65 q.1, if_neg fun q => h33 q.1, if_neg fun q => h65 q.1]
theorem nm_ok_ext {b c : Nat → UInt8} {f n m : Nat} (h : ∀ j, j < m → b j = c j) (hf : f + n ≤ m) (hn : 1 ≤ n) : nm_ok b f n ↔ nm_ok c f n := by
  unfold nm_ok
  rw [h f (by omega)]
  by_cases h1 : 1 < n
  · rw [h (f + 1) (by omega)]
  · constructor
    · exact fun q => ⟨q.1, fun w => h1 w.1, q.2.2⟩
    · exact fun q => ⟨q.1, fun w => h1 w.1, q.2.2⟩
theorem sg_b_imp {b c : Nat → UInt8} {n : Nat} (h : ∀ j, j < n - 1 → b j = c j) (q : sg_b b n) : sg_b c n ∧ sg_1 b = sg_1 c ∧ sg_2 b = sg_2 c ∧ sg_r b = sg_r c ∧ sg_s b = sg_s c := by
  obtain ⟨⟨q0, q1, q2, q3, q4, q5, q6, q7, q8⟩, q9, q10⟩ := q
  have e3 : sg_1 b = sg_1 c := congrArg UInt8.toNat (h 3 (by omega))
  have e5 : sg_2 b = sg_2 c := by
    unfold sg_2
    rw [← e3, h (5 + sg_1 b) (by omega)]
  have er : sg_r b = sg_r c := by
    unfold sg_r
    rw [← e3]
    exact rdn_ext h (by omega)
  have es : sg_s b = sg_s c := by
    unfold sg_s
    rw [← e3, ← e5]
    exact rdn_ext h (by omega)
  refine ⟨⟨?_, ?_, ?_⟩, e3, e5, er, es⟩
  · unfold sg_l
    rw [← e3, ← e5, ← h 0 (by omega), ← h 1 (by omega), ← h 2 (by omega), ← h (4 + sg_1 b) (by omega)]
    exact ⟨q0, q1, q2, q3, q4, q5, q6, q7, q8⟩
  · rw [← e3]
    exact (nm_ok_ext h (by omega) q3).mp q9
  · rw [← e3, ← e5]
    exact (nm_ok_ext h (by omega) q6).mp q10
