/-! The state of fresh objects. -/
def s_b0 : b_k := (zheadL, s_fb (znm zhead 80) 32, 0, 0, 545259519, 1000000, [])
def s_0 : s_S := ([s_b0], fun _ => 0, fun _ => false, 0, [], fun _ => [])
theorem s_0k {k : Nat} (h : k < ([s_b0] : List b_k).length) : k = 0 := Nat.lt_one_iff.mp h
theorem s_0wf : b_wf [s_b0] := ⟨Nat.le_refl _, by decide, rfl, fun k hk => by rw [s_0k hk]; exact s_fb_len, fun k h1 hk => by have := s_0k hk; omega⟩
theorem s_0r : b_right [s_b0] 0 := fun h h1 h2 => by
  have : b_ht [s_b0] 0 = 0 := rfl
  omega
theorem s_0pur : s_pur s_0 := by
  obtain ⟨l1, l2, l3, l4⟩ := b_lim_lt
  refine ⟨s_0wf, fun k hk => ?_, ⟨rfl, show (80 : Nat) ≤ 1999 by decide⟩, ⟨Nat.one_pos, rfl, fun k hk _ => ⟨Nat.le_refl _, fun _ => Nat.zero_le _⟩⟩, rfl, fun k hk => Nat.zero_le _, fun k h1 hk => ?_, p_all_nil, fun k hk x hx => ?_, fun k hk x hx => ?_, s_0r, fun _ _ => rfl⟩
  · rw [s_0k hk]
    refine ⟨show b_bits 545259519 by unfold b_bits b_sz b_ma; decide, Nat.le_refl _, ?_, show 1000000 < 4294967296 by decide⟩
    show 2 ^ 254 ≤ b_lim * 16 ^ (0 / 8)
    rw [show 0 / 8 = 0 from rfl, Nat.pow_zero, Nat.mul_one]
    exact l4
  · have := s_0k hk
    omega
  · rw [s_0k hk] at hx
    cases hx
  · rw [s_0k hk] at hx
    cases hx
theorem zheadL_row {H : jH} {r p : Nat} (h : ∀ i, i < 80 → jB H r (p + i) = zhead i) : zRow H r p zheadL := fun i u hi => by
  have hl := (List.getElem?_eq_some_iff.mp hi).1
  have h80 : zheadL.length = 80 := by decide
  rw [h i (by omega)]
  unfold zhead
  rw [List.getD_eq_getElem?_getD, hi]
  rfl
section FST
variable {L : Nat} {xs : Nat → Int32} {H : jH}
theorem s_stk {S : Nat} (h : jst0 L xs H) (e1 : 32 ≤ S ∧ jEx S 2 = false) (e2 : 32 ≤ S + 1 ∧ S + 1 < 513) (e3 : ∀ k, k < 70 → jEx (S + 1) k = false ∧ jRL jWs (S + 1) k = S + 2 + k) : zStk S [] H := by
  have r : ∀ k, k < 70 → jR H (S + 1) k = S + 2 + k := fun k hk => f_R h ⟨e2.1, e2.2, e3 k hk⟩
  refine ⟨by decide, f_I h e1, fun k hk => ?_, fun i j hi hj e => ?_, fun k it hk => (by cases hk)⟩
  · rw [r k hk]
    omega
  · rw [r i hi, r j hj] at e
    omega
theorem s_B0 (h : jst0 L xs H) {a j : Nat} (e : 32 ≤ a ∧ jEx a j = false) : jB H a j = 0 := (h.2.2.2.2.2.1 a j e.1 e.2).2.2
theorem s_z32 {r : Nat} (h : ∀ i, i < 32 → jB H r i = 0) : zRow H r 0 p_z32 := fun i u hi => by
  unfold p_z32 at hi
  obtain ⟨h1, h2⟩ := List.getElem?_eq_some_iff.mp hi
  rw [List.length_replicate] at h1
  rw [Nat.zero_add, h i h1, ← h2, List.getElem_replicate]
theorem s_first (h : jst0 L xs H) : s_I H := by
  have hs := f_sh h
  obtain ⟨t1, t2, t3, t4, t5, t6, t7⟩ := h.2.2.2.2.2.2.2.1
  obtain ⟨r1, r2, r3, r4⟩ := h.2.2.2.2.2.2.2.2.1
  obtain ⟨c1, c2, c3, c4, c5⟩ := h.2.2.2.2.2.2.2.2.2.1
  have hpt := h.2.2.2.2.2.2.2.2.2.2.1
  have htr := h.2.2.2.2.2.2.2.2.2.2.2
  have box : ∀ k, k < 4 → (32 ≤ 40 ∧ jEx 40 k = false) ∧ (32 ≤ 41 ∧ jEx 41 k = false) ∧ (32 ≤ 511 ∧ jEx 511 k = false) := by decide +kernel
  have bx : b_bx 513 410 s_b0 0 H := by
    have q0 : jR H 410 0 = 409 := f_R h (by decide +kernel)
    have q1 : jR H 410 1 = 411 := f_R h (by decide +kernel)
    have q4 : jR H 410 4 = 412 := f_R h (by decide +kernel)
    have q5 : jR H 410 5 = 0 := f_R h (by decide +kernel)
    have q8 : jR H 410 8 = 413 := f_R h (by decide +kernel)
    unfold b_bx
    rw [q0, q1, q4, q8]
    refine ⟨⟨gT (sK_410 hs), Or.inl (by decide), q5, f_I h (by decide +kernel), c2, c3⟩, ⟨sK_412 hs, Or.inl (by decide), fun i x hx => (by cases hx)⟩, ⟨sK_411 hs, Or.inl (by decide), s_fb_row fun i hi => by rw [Nat.zero_add]; exact c4 i hi⟩, ⟨⟨82, sK_409 hs, show 81 ≤ 82 by decide, by decide, fun w => absurd w (by decide)⟩, Or.inl (by decide), zheadL_row c5⟩, ⟨sK_413 hs, Or.inl (by decide)⟩⟩
  have mz : b_MZ H := ⟨⟨[], [], hs, s_stk h (by decide +kernel) (by decide) (by decide +kernel), s_stk h (by decide +kernel) (by decide) (by decide +kernel), [], s_stk h (by decide +kernel) (by decide) (by decide +kernel)⟩, Or.inl (f_I h (by decide +kernel))⟩
  have KA : b_KA (b_co [s_b0] 0 (b_ht [s_b0] 0)).1 (b_co [s_b0] 0 (b_ht [s_b0] 0)).2 H := ⟨⟨f_I h (by decide +kernel), by decide, fun k c hc => (by cases hc)⟩, f_L h (by decide +kernel), f_I h (by decide +kernel), Nat.zero_le _⟩
  have CS : b_CS 513 [s_b0] [410] (fun _ => 0) (fun _ => false) 0 H := by
    refine ⟨s_0wf, ⟨rfl, rfl, fun i j h1 h2 => (by have := s_0k h2; omega), c1, fun k hk => ?_⟩, ⟨Nat.one_pos, f_R h (by decide +kernel), fun g hg => ?_⟩, fun k hk => ?_, fun k hk => ?_, s_0r, fun k h1 hk => (by have := s_0k hk; omega), f_I h (by decide +kernel), KA, mz⟩
    · rw [s_0k hk]
      exact ⟨f_R h (by decide +kernel), bx⟩
    · obtain rfl : g = 0 := Nat.le_zero.mp hg
      exact f_R h (by decide +kernel)
    · rw [s_0k hk]
      have q8 : jR H (b_o [410] 0) 8 = 413 := f_R (a := 410) h (by decide +kernel)
      rw [q8]
      have z : ∀ i, i < 8 → 32 ≤ 413 ∧ jEx 413 i = false := by decide +kernel
      exact ⟨fun _ => 0, fun i hi => ⟨f_I h (z i hi), show (0 : Nat) < 4294967296 by decide⟩, by decide⟩
    · rw [s_0k hk]
      exact f_I (a := 410) h (by decide +kernel)
  have z34 : ∀ i, i < 32 → 32 ≤ 34 ∧ jEx 34 i = false := by decide +kernel
  have z509 : ∀ i, i < 32 → 32 ≤ 509 ∧ jEx 509 i = false := by decide +kernel
  have z434 : ∀ i, i < 100 → 32 ≤ 434 ∧ jEx 434 i = false := by decide +kernel
  have z477 : ∀ i, i < 300 → 1 ≤ i → (32 ≤ 477 ∧ jEx 477 i = false) ∧ (32 ≤ 478 ∧ jEx 478 i = false) := by decide +kernel
  have p13 : w_p13 H := ⟨(z13C_of hpt).1, (z13C_of hpt).2, ⟨fun _ => 0, fun j hj => f_I h (z434 j hj)⟩, f_I h (by decide +kernel)⟩
  have KC : b_KC [s_b0] 0 H := ⟨f_I h (by decide +kernel), Nat.one_pos, s_0r, ⟨f_I h (by decide +kernel), by decide, fun k c hc => (by cases hc)⟩, f_I h (by decide +kernel), Nat.zero_le _⟩
  have RS : b_RS [s_b0] (fun _ => 0) (fun _ => false) 0 H := by
    refine ⟨s_0wf, ⟨t2, fun k hk => ?_⟩, fun k hk => ?_, ?_, fun k hk => ?_, Nat.one_pos, f_I h (by decide +kernel), s_0r, fun k hk _ => ?_, fun k h1 h2 => ?_, ⟨0, KC⟩, p13⟩
    · rw [s_0k hk]
      exact ⟨t3, t4, t5, t6⟩
    · rw [s_0k hk]
      exact ⟨zheadL_row fun i hi => by rw [Nat.mul_zero, Nat.zero_add]; exact r4 i hi, r1, s_fb_row fun i hi => by rw [Nat.mul_zero, Nat.zero_add]; exact r3 i hi, fun t x hx => (by cases hx)⟩
    · obtain ⟨S0, h1, d, h2, h3⟩ := b_sm0 htr
      exact ⟨S0, h1, fun k hk => by rw [s_0k hk]; exact ⟨d, h2, h3⟩⟩
    · rw [s_0k hk]
      exact t7
    · rw [s_0k hk]
      exact s_0r
    · have h1' : 1 ≤ k := h1
      exact ⟨f_I h (z477 k h2 h1').1, f_I h (z477 k h2 h1').2⟩
  refine ⟨s_0, [], p_z32, 0, 513, [410], s_0pur, ⟨hs, CS, ⟨f_I h (by decide +kernel), fun k e hk => (by cases hk)⟩, fun k hk => ⟨Nat.zero_le _, f_I h (box k hk).2.1, 0, by decide, f_I h (box k hk).1, fun i u hi => (by cases hi)⟩, by rw [h.2.1]; exact Nat.le_refl _, ⟨f_I h (by decide +kernel), by decide, fun i u hi => (by cases hi)⟩, s_z32 fun i hi => s_B0 h (z34 i hi), by decide, f_I h (by decide +kernel)⟩, RS, t1, ⟨f_I h (by decide +kernel), fun k e hk => (by cases hk)⟩, fun k hk => ⟨Nat.zero_le _, f_I h (box k hk).2.2, fun i u hi => (by cases hi)⟩, ⟨f_I h (by decide +kernel), fun i u hi => (by cases hi)⟩, s_z32 fun i hi => s_B0 h (z509 i hi), f_I h (by decide +kernel)⟩
end FST
