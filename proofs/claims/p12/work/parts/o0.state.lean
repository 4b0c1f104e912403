/-! The state of both between calls. -/
/-- blocks, their work, which are bad, the tip, those that wait, the boxes -/
abbrev s_S : Type := List b_k × (Nat → Nat) × (Nat → Bool) × Nat × List p_e × (Nat → List UInt8)
/-- what holds of it -/
def s_pur (S : s_S) : Prop :=
  b_wf S.1 ∧ b_bok S.1 ∧ (b_tx S.1 0 = [] ∧ (b_by S.1 0).length ≤ 1999) ∧ b_max S.2.1 S.2.2.1 S.2.2.2.1 S.1.length ∧ S.2.2.1 0 = false ∧ (∀ k, k < S.1.length → S.2.1 k ≤ b_ht S.1 k * 2 ^ 151) ∧ b_clo S.1 S.2.2.1 ∧ p_all S.2.2.2.2.1 ∧ p_bok S.1 ∧ p_bvn S.1 ∧ b_right S.1 S.2.2.2.1 ∧ (∀ k, S.1.length ≤ k → S.2.2.1 k = false)
def s_cls (nb : Nat) (os : List Nat) (S : s_S) (tp kn : List UInt8) (ki : Int32) (H : jH) : Prop :=
  jsh H ∧ b_CS nb S.1 os S.2.1 S.2.2.1 S.2.2.2.1 H ∧ p_PA S.2.2.2.2.1 H ∧ p_b11 S.2.2.2.2.2 H ∧ nb ≤ jn H ∧ (jI H 32 1 = Int32.ofNat tp.length ∧ tp.length ≤ 2000 ∧ zRow H 33 0 tp) ∧ (zRow H 34 0 kn ∧ kn.length = 32 ∧ jI H 32 3 = ki)
/-- the cells of one heap, the kinds of another -/
def s_hy (H H' : jH) : jH := (jK H, jI H', jL H', jR H', jn H, js H, jB H')
theorem s_hy_fr {T : Nat → Nat → Prop} {c s : Nat} {H H' : jH} (h : jgx T c s H H') : jfr (fun a j => T a j ∨ jn H ≤ a) H (s_hy H H') :=
  ⟨rfl, rfl, rfl, fun a j hn => h.2.2.2.2 a j (by
    by_cases q : a < jn H
    · exact q
    · exact absurd (Or.inr (by omega)) hn) fun w => hn (Or.inl w)⟩
/-- the machine of the class stays -/
theorem b_MZ_gx {T : Nat → Nat → Prop} {c s : Nat} {H H' : jH} (h : b_MZ H) (hs : jsh H') (hg : jgx T c s H H') (h513 : 422 ≤ jn H) (hT : ∀ a j, T a j → a < 50 ∨ 390 ≤ a) : b_MZ H' := by
  have hf := s_hy_fr hg
  obtain ⟨⟨st, sd, a1, a2, a3, sp, a4⟩, z⟩ := h
  have u : ∀ a j, (T a j ∨ jn H ≤ a) → a < 50 ∨ 390 ≤ a := fun a j w => by
    rcases w with w | w
    · exact hT a j w
    · omega
  have q1 : zStk 171 st (s_hy H H') := zStk_fr a2 hf fun a j w => by have := u a j w; omega
  have q2 : zStk 244 sd (s_hy H H') := zStk_fr a3 hf fun a j w => by have := u a j w; omega
  have q3 : zStk 317 sp (s_hy H H') := zStk_fr a4 hf fun a j w => by have := u a j w; omega
  have q4 : zBase (s_hy H H') := zBase_T z hf fun a j w => by have := u a j w; omega
  exact ⟨⟨st, sd, hs, q1, q2, sp, q3⟩, q4⟩
/-- blocks, tip, work and coins of the class stay while objects are made -/
theorem b_CS_gx {nb : Nat} {bs : List b_k} {os : List Nat} {W : Nat → Nat} {bad : Nat → Bool} {tip : Nat} {T : Nat → Nat → Prop} {c s : Nat} {H H' : jH} (h : b_CS nb bs os W bad tip H) (hs0 : jsh H) (hs : jsh H') (hn : nb ≤ jn H) (hg : jgx T c s H H') (hT : ∀ a j, T a j → a < 50 ∨ (402 < a ∧ a < 409) ∨ (413 < a ∧ a < 422)) : b_CS nb bs os W bad tip H' := by
  have h513 : 422 ≤ jn H := hs0.2.2.2.2.1
  obtain ⟨h1, h2, h3, h4, h5, h6, h7, h8, h9, h10⟩ := h
  have hk : jkp nb H H' := jkp_gx hg hn h513 fun a j w => by have := hT a j w; omega
  have hkn : jkp (jn H) H H' := jkp_gx hg (Nat.le_refl _) h513 fun a j w => by have := hT a j w; omega
  have eI : ∀ a j, 398 ≤ a → a ≤ 400 → jI H' a j = jI H a j ∧ jR H' a j = jR H a j := fun a j q1 q2 => ⟨jgx_I hg (by omega) fun w => by have := hT a j w; omega, jgx_R hg (by omega) fun w => by have := hT a j w; omega⟩
  refine ⟨h1, b_BC_kp h2 hk (eI 398 4 (by decide) (by decide)).1 fun k => (eI 399 k (by decide) (by decide)).2, ⟨h3.1, (eI 398 6 (by decide) (by decide)).2.trans h3.2.1, fun g hg2 => (eI 400 g (by decide) (by decide)).2.trans (h3.2.2 g hg2)⟩, b_wk_kp h4 h2 hk, fun k hk2 => ?_, h6, h7, (eI 398 5 (by decide) (by decide)).1.trans h8, b_KA_kp hs0 h9 hkn fun a j q1 q2 => ⟨jgx_I hg (by omega) fun w => by have := hT a j w; omega, jgx_L hg (by omega) fun w => by have := hT a j w; omega, jgx_R hg (by omega) fun w => by have := hT a j w; omega⟩, b_MZ_gx h10 hs hg h513 fun a j w => by have := hT a j w; omega⟩
  have hd := (h2.2.2.2.2 k hk2).2.1.2.1
  unfold b_dy at hd
  exact (jgx_I hg (by omega) fun w => by have := hT _ _ w; omega).trans (h5 k hk2)
theorem p_PA_gx {ps : List p_e} {T : Nat → Nat → Prop} {c s : Nat} {H H' : jH} (h : p_PA ps H) (hs0 : jsh H) (hg : jgx T c s H H') (hT : ∀ a j, T a j → a < 50 ∨ (402 < a ∧ a < 409)) : p_PA ps H' := by
  have h513 : 422 ≤ jn H := hs0.2.2.2.2.1
  have hkn : jkp (jn H) H H' := jkp_gx hg (Nat.le_refl _) h513 fun a j w => by have := hT a j w; omega
  refine ⟨(jgx_I hg (by omega) fun w => by have := hT _ _ w; omega).trans h.1, fun k e hk => ?_⟩
  obtain ⟨⟨row, s', len, q1⟩, q2⟩ := h.2 k e hk
  rw [jgx_R hg (a := 415) (j := k) (by omega) fun w => by have := hT _ _ w; omega, jgx_L hg (a := 416) (j := k) (by omega) fun w => by have := hT _ _ w; omega]
  exact ⟨⟨row, s', len, (w_xn_kp (w_xn_of hs0 q1) hkn).1⟩, q2⟩
theorem p_b11_gx {bxs : Nat → List UInt8} {T : Nat → Nat → Prop} {c s : Nat} {H H' : jH} (h : p_b11 bxs H) (hg : jgx T c s H H') (h513 : 422 ≤ jn H) (hT : ∀ a j, T a j → a < 36 ∨ 41 < a) : p_b11 bxs H' := by
  have q : p_b11 bxs (s_hy H H') := p_b11_fr h (s_hy_fr hg) fun a j w => by
    rcases w with w | w
    · exact hT a j w
    · omega
  exact q
/-- the law's own doings leave the class as it is -/
theorem s_cls_fr {nb : Nat} {os : List Nat} {S : s_S} {tp kn : List UInt8} {ki : Int32} {T : Nat → Nat → Prop} {H H' : jH} (h : s_cls nb os S tp kn ki H) (hs : jsh H') (hf : jfr T H H') (hT : ∀ a j, T a j → a = 31 ∨ a = 421) : s_cls nb os S tp kn ki H' := by
  obtain ⟨h1, h2, h3, h4, h5, ⟨h6, h7, h8⟩, h9, h10, h11⟩ := h
  refine ⟨hs, b_CS_gx h2 h1 hs h5 (jgx_fr hf) fun a j w => by have := hT a j w; omega, p_PA_fr h3 hf fun a j w => by have := hT a j w; omega, p_b11_fr h4 hf fun a j w => by have := hT a j w; omega, by rw [hf.2.1]; exact h5, ⟨(jfr_I hf fun w => by have := hT _ _ w; omega).trans h6, h7, zRow_eq h8 fun i _ => jfr_B hf fun w => by have := hT _ _ w; omega⟩, zRow_eq h9 fun i _ => jfr_B hf fun w => by have := hT _ _ w; omega, h10, (jfr_I hf fun w => by have := hT _ _ w; omega).trans h11⟩
