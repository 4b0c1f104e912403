/-! The law's beginning: the class stands, the first block's name is noted. -/
set_option maxRecDepth 100000 in
theorem sK_411 {H : jH} (h : jsh H) : jK H 411 = (101, 32) := sK h (a := 411) rfl (by decide) (by decide)
set_option maxRecDepth 100000 in
theorem sK_412 {H : jH} (h : jsh H) : jK H 412 = (113, 0) := sK h (a := 412) rfl (by decide) (by decide)
set_option maxRecDepth 100000 in
theorem sK_413 {H : jH} (h : jsh H) : jK H 413 = (100, 8) := sK h (a := 413) rfl (by decide) (by decide)
theorem c_any {α : Type} {n s m nb : Nat} {Hb H : jH} (h : jcs n s m Hb nb H) {t k0 : Nat} (k n' s' : Nat) (e : jKs[n]? = some (t, k) ∧ k0 = k ∧ n + 1 = n' ∧ s + k = s') : jcs n' s' m Hb nb (jnew H t k0) := by
  have := c_nw (α := Unit) (Q := fun _ H' => jcs n' s' m Hb nb H') (kk := fun _ H' => some ((), H')) h k n' s' e (fun H' h' => jT_ret h') (Or.inr trivial)
  obtain ⟨x, e1, e2⟩ := this
  cases e1
  exact e2
section STT
variable {L : Nat} {xs : Nat → Int32} {H : jH}
/-- the class alone stands, and the law's rows -/
theorem r_start {Q : Int32 → jH → Prop} (hk : ∀ H, jst0 L xs H → jT (jb (F_L_first 32 31 421 0 H) fun _ h59 => jg ((jK h59 18).1 = 100) (if (28 : Int32) ≤ Int32.ofNat (jK h59 18).2 then B_L_holds_43 18 31 32 421 0 1 0 28 h59 else jg ((jK h59 18).1 = 100) (B_L_holds_43 18 31 32 421 0 1 0 (Int32.ofNat (jK h59 18).2) h59))) Q) : jT (F_L_holds 18 31 (jnew (jH0 L xs) 100 64)) Q := by
  unfold F_L_holds
  refine c_nw (k_H0 L xs) 14 33 78 (by decide +kernel) fun H1 h1 => jT_g (by decide) ?_
  refine jT_b (k_11_init_32 h1 fun HM HC hM gM hC => jT_g (by decide) (jT_nw ?_))
  have e421 : jn HC = 421 := hC.1
  have hT := c_any (α := Unit) (c_rebase hC (by decide)) (t := 103) (k0 := (64 : Int32).toNatClampNeg) 64 422 75274 (by decide +kernel)
  rw [e421]
  refine hk _ ?_
  have hA := c_trans (c_trans hM hC) hT
  have ht : jWs.take 398 = jWs := List.take_of_length_le (by decide +kernel)
  have hMH : ∀ a j, a < 414 → jI (jnew HC 103 (64 : Int32).toNatClampNeg) a j = jI HM a j ∧ jL (jnew HC 103 (64 : Int32).toNatClampNeg) a j = jL HM a j ∧ jB (jnew HC 103 (64 : Int32).toNatClampNeg) a j = jB HM a j := fun a j ha => by
    obtain ⟨p1, p2, p3⟩ := c_old hT (a := a) (j := j) (by omega)
    obtain ⟨q1, q2, q3⟩ := c_old hC (a := a) (j := j) ha
    exact ⟨p1.trans q1, p2.trans q2, p3.trans q3⟩
  obtain ⟨c1, c2, c3, c4, c5⟩ := gM
  refine ⟨c_sp hA (by decide) (by decide +kernel), hA.1, hA.2.1, c_18 hA, fun j => ((c_old hA (by decide)).1).trans (show (if (18 : Nat) = 31 then 0 else if (18 : Nat) = 18 then xs j else (jvals.getD 18 []).getD j 0) = xs j from (if_neg (by decide)).trans (if_pos rfl)), fun a j ha hx => c_0 hA ⟨ha, hx⟩, fun a j h1 h2 hx => ?_, ?_, fun j => ((c_old hA (by decide)).1).trans (show (if (31 : Nat) = 31 then (0 : Int32) else jI (jH0 L xs) 31 j) = 0 from if_pos rfl)⟩
  · rw [hA.2.2.2.1 a j h1 h2 hx, ht]
  · exact ⟨((hMH 398 4 (by decide)).1).trans c1, ((hMH 410 2 (by decide)).1).trans c2, ((hMH 410 3 (by decide)).2.1).trans c3, fun i hi => ((hMH 411 i (by decide)).2.2).trans (c4 i hi), fun i hi => ((hMH 409 (1 + i) (by decide)).2.2).trans (c5 i hi)⟩
/-- the class's state then -/
theorem r_first (h : jst0 L xs H) : s_cls 422 [410] s_0 [] p_z32 0 H := by
  have hs := f_sh h
  obtain ⟨c1, c2, c3, c4, c5⟩ := h.2.2.2.2.2.2.2.1
  have box : ∀ k, k < 4 → (32 ≤ 40 ∧ jEx 40 k = false) ∧ (32 ≤ 41 ∧ jEx 41 k = false) := by decide +kernel
  have bx : b_bx 422 410 s_b0 0 H := by
    have q0 : jR H 410 0 = 409 := f_R h (by decide +kernel)
    have q1 : jR H 410 1 = 411 := f_R h (by decide +kernel)
    have q4 : jR H 410 4 = 412 := f_R h (by decide +kernel)
    have q5 : jR H 410 5 = 0 := f_R h (by decide +kernel)
    have q8 : jR H 410 8 = 413 := f_R h (by decide +kernel)
    unfold b_bx
    rw [q0, q1, q4, q8]
    refine ⟨⟨gT (sK_410 hs), Or.inl (by decide), q5, f_I h (by decide +kernel), c2, c3⟩, ⟨sK_412 hs, Or.inl (by decide), fun i x hx => (by cases hx)⟩, ⟨sK_411 hs, Or.inl (by decide), s_fb_row fun i hi => by rw [Nat.zero_add]; exact c4 i hi⟩, ⟨⟨82, sK_409 hs, show 81 ≤ 82 by decide, by decide, fun w => absurd w (by decide)⟩, Or.inl (by decide), zheadL_row c5⟩, ⟨sK_413 hs, Or.inl (by decide)⟩⟩
  have mz : b_MZ H := ⟨⟨[], [], hs, s_stk h (by decide +kernel) (by decide) (by decide +kernel), s_stk h (by decide +kernel) (by decide) (by decide +kernel), [], s_stk h (by decide +kernel) (by decide) (by decide +kernel)⟩, Or.inl (f_I h (by decide +kernel))⟩
  have KA : b_KA (b_co [s_b0] 0 (b_ht [s_b0] 0)).1 (b_co [s_b0] 0 (b_ht [s_b0] 0)).2 H := ⟨⟨f_I h (by decide +kernel), by decide, fun k c hc => (by cases hc)⟩, f_L h (by decide +kernel), f_I h (by decide +kernel), Nat.zero_le _⟩
  have CS : b_CS 422 [s_b0] [410] (fun _ => 0) (fun _ => false) 0 H := by
    refine ⟨s_0wf, ⟨rfl, rfl, fun i j h1 h2 => (by have := s_0k h2; omega), c1, fun k hk => ?_⟩, ⟨Nat.one_pos, f_R h (by decide +kernel), fun g hg => ?_⟩, fun k hk => ?_, fun k hk => ?_, s_0r, fun k h1 hk => (by have := s_0k hk; omega), f_I h (by decide +kernel), KA, mz⟩
    · rw [s_0k hk]
      exact ⟨f_R h (by decide +kernel), bx⟩
    · obtain rfl : g = 0 := Nat.le_zero.mp hg
      exact f_R h (by decide +kernel)
    · rw [s_0k hk]
      have q8 : jR H (b_o [410] 0) 8 = 413 := f_R (a := 410) h (by decide +kernel)
      rw [q8]
      have z : ∀ i, i < 8 → 32 ≤ 413 ∧ jEx 413 i = false := by decide +kernel
      exact ⟨fun _ => 0, fun i hi => ⟨f_I h (z i hi), show (0 : Nat) < 4294967296 by decide⟩, by decide⟩
    · rw [s_0k hk]
      exact f_I (a := 410) h (by decide +kernel)
  have z34 : ∀ i, i < 32 → 32 ≤ 34 ∧ jEx 34 i = false := by decide +kernel
  exact ⟨hs, CS, ⟨f_I h (by decide +kernel), fun k e hk => (by cases hk)⟩, fun k hk => ⟨Nat.zero_le _, f_I h (box k hk).2, 0, by decide, f_I h (box k hk).1, fun i u hi => (by cases hi)⟩, by rw [h.2.1]; exact Nat.le_refl _, ⟨f_I h (by decide +kernel), by decide, fun i u hi => (by cases hi)⟩, s_z32 fun i hi => (h.2.2.2.2.2.1 34 i (z34 i hi).1 (z34 i hi).2).2.2, by decide, f_I h (by decide +kernel)⟩
end STT
/-! What stands between the law's rounds. -/
def r_St (L : Nat) (xs : Nat → Int32) (k : Nat) (S : s_S) (l : List Nat) (H : jH) : Prop :=
  (∃ nb os kn ki, s_cls nb os S [] kn ki H) ∧ s_pur S ∧ (q_LS l (jI H 31) (jL H 421) ∧ l.length ≤ 2 + 2 * k) ∧ (jK H 18 = (100, L) ∧ jI H 18 = xs) ∧ jn H ≤ 422 + 78 * k ∧ js H ≤ 75274 + 2800 * k
/-- the slots of the last six blocks -/
def r_sl (n : Nat) (bs : List b_k) (T : Nat → Int64) : Prop := ∀ j, n ≤ j + 6 → j < n → q_sl T (j % 6) (b_fn (b_nm bs j))
/-- their heights -/
def r_ht (n : Nat) (bs : List b_k) (a4 : Int64) : Prop := ∀ j, n ≤ j + 6 → j < n → jshrL a4 (Int32.ofNat (8 * (j % 6))) &&& 255 = Int64.ofNat (b_ht bs j)
/-- the account as the law keeps it -/
def r_AC (n : Nat) (a4 : Int64) (a7 : Int32) (S : s_S) (l : List Nat) (T : Nat → Int64) : Prop := r_I l S ∧ S.1.length = n ∧ a7 = Int32.ofNat (b_ht S.1 S.2.2.2.1) ∧ r_sl n S.1 T ∧ r_ht n S.1 a4
def r_RH (L : Nat) (xs : Nat → Int32) (k : Nat) (a4 : Int64) (a6 a7 : Int32) (H : jH) : Prop :=
  ∃ (S : s_S) (l : List Nat) (n : Nat), r_St L xs k S l H ∧ a6 = Int32.ofNat n ∧ 1 ≤ n ∧ n ≤ k + 1 ∧ (jI H 31 59 = 1 ∨ ((∀ p, p < 4 → S.2.2.2.2.2 p = []) ∧ r_AC n a4 a7 S l (jL H 421)))
section BEG
variable {L : Nat} {xs : Nat → Int32} {H : jH}
theorem r_h0 : q_hd (fun _ => 0) (fun _ => 0) 1000000 545259519 0 = zheadL := by decide +kernel
theorem r_I_0 {l : List Nat} (h : q_nv (znm (b_fn zheadL) 80) ∈ l) : r_I l s_0 := by
  have len : s_0.1.length = 1 := rfl
  have j0 : ∀ {j}, j < s_0.1.length → j = 0 := fun h => by rw [len] at h; omega
  refine ⟨⟨s_0pur, rfl, fun _ => rfl⟩, ⟨fun j hj => ?_, fun j hj => ?_⟩, ⟨fun j hj => ?_, fun i j hij hj => ?_⟩, fun j j1 hj => ?_, fun j j1 hj => ?_⟩
  · rw [j0 hj]
    exact ⟨rfl, Nat.le_refl _, Nat.le_succ _⟩
  · rw [j0 hj]
    show 0 = 0 * r_w
    rw [Nat.zero_mul]
  · rw [j0 hj]
    have e : b_nm s_0.1 0 = q_ls (znm (b_fn zheadL) 80) 32 := rfl
    rw [e, q_nv_ls]
    exact h
  · have := j0 hj
    omega
  · have := j0 hj
    omega
  · have := j0 hj
    omega
theorem r_begin {Q : Unit → jH → Prop} (h : jst0 L xs H) (hk : ∀ H', r_RH L xs 0 0 1 0 H' → Q () H') : jT (F_L_first 32 31 421 0 H) Q := by
  have hC := r_first h
  have hK : jK H 31 = (100, 64) := sK_31 hC.1
  have hL : jK H 421 = (103, 64) := sK_421 hC.1
  obtain ⟨M0, hM0⟩ : ∃ M, M = jI H 31 := ⟨_, rfl⟩
  obtain ⟨T0, hT0⟩ : ∃ T, T = jL H 421 := ⟨_, rfl⟩
  have m0 : ∀ j, M0 j = 0 := fun j => by rw [hM0]; exact h.2.2.2.2.2.2.2.2 j
  have z421 : ∀ j, j < 32 → 32 ≤ 421 ∧ jEx 421 j = false := by decide +kernel
  have t0 : ∀ j, j < 32 → T0 j = 0 := fun j hj => by rw [hT0]; exact f_L h (z421 j hj)
  have eH : H = q_h H M0 T0 := q_h_of hM0.symm hT0.symm
  have go : jT (F_L_first 32 31 421 0 (q_h H M0 T0)) Q := by
    unfold F_L_first
    refine jT_b (q_begin (f := b_fn []) hK fun M1 E1 z1 o1 => ?_)
    refine q_head (q_Pd_P (M0 := M0) (T := T0) hK hL) (l := []) (ps := -1) (rs := -1) (pb := fun _ => 0) (rb := fun _ => 0) (Or.inl ⟨by decide, fun _ _ => rfl⟩) (Or.inl ⟨by decide, fun _ _ => rfl⟩) ⟨M1, rfl, E1, z1, o1⟩ (by decide) fun H2 h2 => ?_
    obtain ⟨M2, rfl, E2, z2, o2⟩ := h2
    rw [show ([] : List UInt8) ++ q_hd (fun _ => 0) (fun _ => 0) 1000000 545259519 0 = q_hd (fun _ => 0) (fun _ => 0) 1000000 545259519 0 from rfl, q_hd_len, r_h0] at E2
    refine jT_b (q_name (s := 0) hK hL (by decide) (by decide) E2 fun M3 T3 s3 g3 p3 z3 o3 => ?_)
    rw [q_sI, show (61 : Int32).toNatClampNeg = 61 from rfl]
    have oM3 : ∀ j, 50 ≤ j → M3 j = 0 := fun j hj => (o3 j hj).trans ((o2 j hj).trans (m0 j))
    have ls0 : q_LS [0] (q_up M3 61 1) T3 := by
      have z : ∀ i, i < 3 → q_v 0 i = 0 := by decide
      refine ⟨(q_up_n (by decide)).trans (oM3 60 (by decide)), q_up_e, fun k hk => ?_, fun k a b => ?_⟩
      · have hk' : k < 1 := hk
        obtain rfl : k = 0 := by omega
        rw [p3 _ (Or.inl (by decide)), t0 _ (by decide)]
        rfl
      · have b' : k < 3 := b
        rw [p3 _ (Or.inl (by omega)), t0 _ (by omega)]
        exact z _ (by omega)
    refine jT_g (q_g2 hK (by decide)) (jT_l (jT_b (q_noteL (s := 0) hK hL (by decide) (by decide) ls0 fun M4 T4 a4 n4 c4 d4 => jT_ret (hk _ ?_))))
    refine ⟨s_0, _, 1, ⟨⟨422, [410], p_z32, 0, q_cls_h hC⟩, s_0pur, ⟨by rw [q_h_I, q_h_L]; exact n4, by rw [List.length_append]; show 1 + 1 ≤ 2 + 2 * 0; decide⟩, ⟨h.2.2.2.1, q_h_I18.trans (funext h.2.2.2.2.1)⟩, Nat.le_of_eq h.2.1, Nat.le_of_eq h.2.2.1⟩, rfl, Nat.le_refl _, Nat.le_refl _, ?_⟩
    rw [q_h_I, q_h_L]
    rcases c4 with c4 | ⟨c4, -⟩
    · exact Or.inl c4
    · have s4 : q_sl T4 0 (znm (b_fn zheadL) 80) := q_sl_eq s3 fun i hi => d4 _ (by omega)
      refine Or.inr ⟨fun p hp => rfl, r_I_0 ?_, rfl, rfl, fun j j1 j2 => ?_, fun j j1 j2 => ?_⟩
      · rw [q_v_nv s3]
        exact List.mem_append_right _ (List.mem_singleton.mpr rfl)
      · obtain rfl : j = 0 := by omega
        intro i hi
        have e : b_nm s_0.1 0 = q_ls (znm (b_fn zheadL) 80) 32 := rfl
        rw [e, q_ls_at hi]
        exact s4 i hi
      · obtain rfl : j = 0 := by omega
        decide
  rw [← eH] at go
  exact go
end BEG
