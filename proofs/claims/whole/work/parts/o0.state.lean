/-! The state of both between calls. -/
/-- blocks, their work, which are bad, the tip, those that wait, the boxes -/
abbrev s_S : Type := List b_k × (Nat → Nat) × (Nat → Bool) × Nat × List p_e × (Nat → List UInt8)
/-- what holds of it -/
def s_pur (S : s_S) : Prop :=
  b_wf S.1 ∧ b_bok S.1 ∧ (b_tx S.1 0 = [] ∧ (b_by S.1 0).length ≤ 1999) ∧ b_max S.2.1 S.2.2.1 S.2.2.2.1 S.1.length ∧ S.2.2.1 0 = false ∧ (∀ k, k < S.1.length → S.2.1 k ≤ b_ht S.1 k * 2 ^ 151) ∧ b_clo S.1 S.2.2.1 ∧ p_all S.2.2.2.2.1 ∧ p_bok S.1 ∧ p_bvn S.1 ∧ b_right S.1 S.2.2.2.1 ∧ (∀ k, S.1.length ≤ k → S.2.2.1 k = false)
def s_cls (nb : Nat) (os : List Nat) (S : s_S) (tp kn : List UInt8) (ki : Int32) (H : jH) : Prop :=
  jsh H ∧ b_CS nb S.1 os S.2.1 S.2.2.1 S.2.2.2.1 H ∧ p_PA S.2.2.2.2.1 H ∧ p_b11 S.2.2.2.2.2 H ∧ nb ≤ jn H ∧ (jI H 32 1 = Int32.ofNat tp.length ∧ tp.length ≤ 2000 ∧ zRow H 33 0 tp) ∧ (zRow H 34 0 kn ∧ kn.length = 32 ∧ jI H 32 3 = ki)
def s_ref (S : s_S) (tp kn : List UInt8) (ki : Int32) (H : jH) : Prop :=
  b_RS S.1 S.2.1 S.2.2.1 S.2.2.2.1 H ∧ jI H 445 0 = 300 ∧ p_PB S.2.2.2.2.1 H ∧ p_b18 S.2.2.2.2.2 H ∧ (jI H 421 48 = Int32.ofNat tp.length ∧ zRow H 506 0 tp) ∧ (zRow H 509 0 kn ∧ jI H 421 52 = ki)
/-- the cells of one heap, the kinds of another -/
def s_hy (H H' : jH) : jH := (jK H, jI H', jL H', jR H', jn H, js H, jB H')
theorem s_hy_fr {T : Nat → Nat → Prop} {c s : Nat} {H H' : jH} (h : jgx T c s H H') : jfr (fun a j => T a j ∨ jn H ≤ a) H (s_hy H H') :=
  ⟨rfl, rfl, rfl, fun a j hn => h.2.2.2.2 a j (by
    by_cases q : a < jn H
    · exact q
    · exact absurd (Or.inr (by omega)) hn) fun w => hn (Or.inl w)⟩
theorem w_CB_hy {cs : List w_cn} {H H' : jH} (hK : jK H' 474 = jK H 474) (h : w_CB cs (s_hy H H')) : w_CB cs H' := by
  obtain ⟨h1, h2, h3⟩ := h
  refine ⟨h1, h2, fun k c hk => ?_⟩
  obtain ⟨a1, a2, a3, a4, a5, a6, a7, la, llen, a8, ⟨b1, b2, b3, b4, b5, b6⟩, b7⟩ := h3 k c hk
  exact ⟨a1, a2, a3, a4, a5, a6, a7, la, llen, a8, ⟨hK.trans b1, b2, b3, b4, b5, b6⟩, b7⟩
/-- the class's doings leave the reference as it is -/
theorem s_ref_gx {S : s_S} {tp kn : List UInt8} {ki : Int32} {T : Nat → Nat → Prop} {c s : Nat} {H H' : jH} (h : s_ref S tp kn ki H) (hg : jgx T c s H H') (h513 : 513 ≤ jn H) (hT : ∀ a j, T a j → a < 421 ∨ 513 ≤ a) : s_ref S tp kn ki H' := by
  have hf := s_hy_fr hg
  have u : ∀ a j, (T a j ∨ jn H ≤ a) → a < 421 ∨ 513 ≤ a := fun a j w => by
    rcases w with w | w
    · exact hT a j w
    · omega
  obtain ⟨⟨r1, r2, r3, r4, r5, r6, r7, r8, r9, r10, ⟨cc, k1, k2, k3, k4, k5, k6⟩, r12⟩, h2, h3, h4, ⟨h5, h6⟩, h7, h8⟩ := h
  have hI : ∀ a j, 421 ≤ a → a ≤ 512 → jI H' a j = jI H a j := fun a j q1 q2 => jfr_I hf fun w => by have := u a j w; omega
  have p13 : w_p13 (s_hy H H') := w_p13_T r12 hf fun a j w => by have := u a j w; omega
  have T18 : b_T S.1 (s_hy H H') := b_T_fr r2 hf fun a j w => by have := u a j w; omega
  have D18 : b_D S.1 (s_hy H H') := b_D_fr r3 hf fun a j w => by have := u a j w; omega
  have S18 : b_sm S.2.1 S.1.length (s_hy H H') := b_sm_fr r4 hf fun j w => by have := u _ j w; omega
  have C18 := w_CB_hy (jgx_K hg (by omega)) (w_CB_fr2 k4 hf fun a j w => by have := u a j w; omega)
  have B18 : p_b18 S.2.2.2.2.2 (s_hy H H') := p_b18_fr h4 hf fun a j w => by have := u a j w; omega
  have P18 : p_PB S.2.2.2.2.1 (s_hy H H') := p_PB_fr h3 hf fun a j w => by have := u a j w; omega
  have z506 : zRow (s_hy H H') 506 0 tp := zRow_eq h6 fun i _ => jfr_B hf fun w => by have := u _ _ w; omega
  have z509 : zRow (s_hy H H') 509 0 kn := zRow_eq h7 fun i _ => jfr_B hf fun w => by have := u _ _ w; omega
  refine ⟨⟨r1, T18, D18, S18, fun i hi => (hI 450 i (by decide) (by decide)).trans (r5 i hi), r6, (hI 421 13 (by decide) (by decide)).trans r7, r8, fun k hk e => r9 k hk ((hI 477 k (by decide) (by decide)).symm.trans e), fun k q1 q2 => ⟨(hI 477 k (by decide) (by decide)).trans (r10 k q1 q2).1, (hI 478 k (by decide) (by decide)).trans (r10 k q1 q2).2⟩, ⟨cc, (hI 421 16 (by decide) (by decide)).trans k1, k2, k3, C18, (hI 421 18 (by decide) (by decide)).trans k5, k6⟩, p13⟩, (hI 445 0 (by decide) (by decide)).trans h2, P18, B18, ⟨(hI 421 48 (by decide) (by decide)).trans h5, z506⟩, z509, (hI 421 52 (by decide) (by decide)).trans h8⟩
/-- the machine of the class stays -/
theorem b_MZ_gx {T : Nat → Nat → Prop} {c s : Nat} {H H' : jH} (h : b_MZ H) (hs : jsh H') (hg : jgx T c s H H') (h513 : 513 ≤ jn H) (hT : ∀ a j, T a j → a < 50 ∨ 390 ≤ a) : b_MZ H' := by
  have hf := s_hy_fr hg
  obtain ⟨⟨st, sd, a1, a2, a3, sp, a4⟩, z⟩ := h
  have u : ∀ a j, (T a j ∨ jn H ≤ a) → a < 50 ∨ 390 ≤ a := fun a j w => by
    rcases w with w | w
    · exact hT a j w
    · omega
  have q1 : zStk 171 st (s_hy H H') := zStk_fr a2 hf fun a j w => by have := u a j w; omega
  have q2 : zStk 244 sd (s_hy H H') := zStk_fr a3 hf fun a j w => by have := u a j w; omega
  have q3 : zStk 317 sp (s_hy H H') := zStk_fr a4 hf fun a j w => by have := u a j w; omega
  have q4 : zBase (s_hy H H') := zBase_T z hf fun a j w => by have := u a j w; omega
  exact ⟨⟨st, sd, hs, q1, q2, sp, q3⟩, q4⟩
/-- blocks, tip, work and coins of the class stay while objects are made -/
theorem b_CS_gx {nb : Nat} {bs : List b_k} {os : List Nat} {W : Nat → Nat} {bad : Nat → Bool} {tip : Nat} {T : Nat → Nat → Prop} {c s : Nat} {H H' : jH} (h : b_CS nb bs os W bad tip H) (hs0 : jsh H) (hs : jsh H') (hn : nb ≤ jn H) (hg : jgx T c s H H') (hT : ∀ a j, T a j → a < 50 ∨ (402 < a ∧ a < 409) ∨ (413 < a ∧ a < 513)) : b_CS nb bs os W bad tip H' := by
  have h513 : 513 ≤ jn H := hs0.2.2.2.2.1
  obtain ⟨h1, h2, h3, h4, h5, h6, h7, h8, h9, h10⟩ := h
  have hk : jkp nb H H' := jkp_gx hg hn h513 fun a j w => by have := hT a j w; omega
  have hkn : jkp (jn H) H H' := jkp_gx hg (Nat.le_refl _) h513 fun a j w => by have := hT a j w; omega
  have eI : ∀ a j, 398 ≤ a → a ≤ 400 → jI H' a j = jI H a j ∧ jR H' a j = jR H a j := fun a j q1 q2 => ⟨jgx_I hg (by omega) fun w => by have := hT a j w; omega, jgx_R hg (by omega) fun w => by have := hT a j w; omega⟩
  refine ⟨h1, b_BC_kp h2 hk (eI 398 4 (by decide) (by decide)).1 fun k => (eI 399 k (by decide) (by decide)).2, ⟨h3.1, (eI 398 6 (by decide) (by decide)).2.trans h3.2.1, fun g hg2 => (eI 400 g (by decide) (by decide)).2.trans (h3.2.2 g hg2)⟩, b_wk_kp h4 h2 hk, fun k hk2 => ?_, h6, h7, (eI 398 5 (by decide) (by decide)).1.trans h8, b_KA_kp hs0 h9 hkn fun a j q1 q2 => ⟨jgx_I hg (by omega) fun w => by have := hT a j w; omega, jgx_L hg (by omega) fun w => by have := hT a j w; omega, jgx_R hg (by omega) fun w => by have := hT a j w; omega⟩, b_MZ_gx h10 hs hg h513 fun a j w => by have := hT a j w; omega⟩
  have hd := (h2.2.2.2.2 k hk2).2.1.2.1
  unfold b_dy at hd
  exact (jgx_I hg (by omega) fun w => by have := hT _ _ w; omega).trans (h5 k hk2)
theorem p_PA_gx {ps : List p_e} {T : Nat → Nat → Prop} {c s : Nat} {H H' : jH} (h : p_PA ps H) (hs0 : jsh H) (hg : jgx T c s H H') (hT : ∀ a j, T a j → a < 50 ∨ (402 < a ∧ a < 409)) : p_PA ps H' := by
  have h513 : 513 ≤ jn H := hs0.2.2.2.2.1
  have hkn : jkp (jn H) H H' := jkp_gx hg (Nat.le_refl _) h513 fun a j w => by have := hT a j w; omega
  refine ⟨(jgx_I hg (by omega) fun w => by have := hT _ _ w; omega).trans h.1, fun k e hk => ?_⟩
  obtain ⟨⟨row, s', len, q1⟩, q2⟩ := h.2 k e hk
  rw [jgx_R hg (a := 415) (j := k) (by omega) fun w => by have := hT _ _ w; omega, jgx_L hg (a := 416) (j := k) (by omega) fun w => by have := hT _ _ w; omega]
  exact ⟨⟨row, s', len, (w_xn_kp (w_xn_of hs0 q1) hkn).1⟩, q2⟩
theorem p_b11_gx {bxs : Nat → List UInt8} {T : Nat → Nat → Prop} {c s : Nat} {H H' : jH} (h : p_b11 bxs H) (hg : jgx T c s H H') (h513 : 513 ≤ jn H) (hT : ∀ a j, T a j → a < 36 ∨ 41 < a) : p_b11 bxs H' := by
  have q : p_b11 bxs (s_hy H H') := p_b11_fr h (s_hy_fr hg) fun a j w => by
    rcases w with w | w
    · exact hT a j w
    · omega
  exact q
/-- the reference's doings leave the class as it is -/
theorem s_cls_fr {nb : Nat} {os : List Nat} {S : s_S} {tp kn : List UInt8} {ki : Int32} {T : Nat → Nat → Prop} {H H' : jH} (h : s_cls nb os S tp kn ki H) (hs : jsh H') (hf : jfr T H H') (hT : ∀ a j, T a j → 421 ≤ a ∧ a ≤ 512) : s_cls nb os S tp kn ki H' := by
  obtain ⟨h1, h2, h3, h4, h5, ⟨h6, h7, h8⟩, h9, h10, h11⟩ := h
  refine ⟨hs, b_CS_gx h2 h1 hs h5 (jgx_fr hf) fun a j w => by have := hT a j w; omega, p_PA_fr h3 hf fun a j w => by have := hT a j w; omega, p_b11_fr h4 hf fun a j w => by have := hT a j w; omega, by rw [hf.2.1]; exact h5, ⟨(jfr_I hf fun w => by have := hT _ _ w; omega).trans h6, h7, zRow_eq h8 fun i _ => jfr_B hf fun w => by have := hT _ _ w; omega⟩, zRow_eq h9 fun i _ => jfr_B hf fun w => by have := hT _ _ w; omega, h10, (jfr_I hf fun w => by have := hT _ _ w; omega).trans h11⟩
