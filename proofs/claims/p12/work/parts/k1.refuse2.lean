/-! A block comes to the class: the refusal, whole. -/
def b_Trf (B : Nat) : Nat → Nat → Prop := fun a j => b_Tf1 a j ∨ (a = B ∧ (j = 5 ∨ j = 6))
section RF2
variable {Q : Int32 → jH → Prop} {H0 : jH} {bs : List b_k} {os : List Nat} {by_ : List UInt8} {txs : List b_t} {bad : Nat → Bool} {nb0 B row len : Nat}
theorem z1_refusal (hs : jsh H0) (hw : b_wf bs) (hbk : b_bok bs) (hB : b_BC nb0 bs os H0) (hbd : b_bd os bs.length bad H0) (hmd : ∀ p, p < bs.length → b_mdn bs p < 4294967296) (hlay : b_lay by_ txs) (hty : ∀ x ∈ txs, w_ty x.2.1 x.2.2) (hBn : nb0 ≤ B) (hB5 : 422 ≤ B) (hrow : 422 ≤ row) (hrB : row < B) (hlen : by_.length + 1 = len) (hnb : b_nb B row len by_ txs H0)
    (hk : ∀ H', jsh H' → jfr (b_Trf B) H0 H' → (∀ p, b_ref bs bad by_ txs = 0 → b_kn bs (w_sl by_ 4 32) = some p → jR H' B 5 = b_o os p ∧ jI H' B 6 = Int32.ofNat (b_ht bs p + 1)) → Q (b_ref bs bad by_ txs) H') : jT (F_1_refusal 398 B H0) Q := by
  have l300 := hw.2.1
  obtain ⟨⟨k0, r0, r1, r4, r5, r8⟩, ⟨i2, l3, i6, i7⟩, ⟨kn, kw, kA, kr⟩, hz, hzn, hrd, hn5⟩ := hnb
  have b81 := hlay.1
  have b1999 := hlay.2.1
  have k1 : ∀ {H}, jsh H → (jK H 398).1 = 1 := fun hs => gT (sK_398 hs)
  unfold F_1_refusal
  rw [r1]
  unfold b_ref at hk
  refine jT_g k0 (jT_g (k1 hs) (jT_b (jT_eq (b_find1 (p := 0) hw hs hB kn (by decide) (by decide) hzn b_hs_len) (jT_ret ?_))))
  cases hkn : b_kn bs (b_hs (by_.take 80)) with
  | some q =>
    rw [hkn, if_pos (fun w => by cases w)] at hk
    have hq := (b_kn_some hkn).1
    have := (b_o_pos hs hB hq).1
    exact jT_neg (show ¬ b_o os q = 0 by omega) (jT_ret (hk H0 hs jfr_refl fun p w => absurd w (by decide)))
  | none =>
    rw [hkn, if_neg (fun w => w rfl)] at hk
    refine jT_pos rfl ?_
    rw [r0]
    have z5 : zRow H0 row 5 (w_sl by_ 4 32) := w_sl_row hz rfl
    refine jT_g k0 (jT_g (k1 hs) (jT_b (jT_eq (b_find1 (p := 5) hw hs hB kr (by omega) (by omega) z5 (w_sl_len (by omega))) (jT_ret ?_))))
    cases hkp : b_kn bs (w_sl by_ 4 32) with
    | none =>
      rw [hkp] at hk
      exact jT_neg (fun w => w rfl) (jT_ret (hk H0 hs jfr_refl fun p w => absurd w (show ¬ (21 : Int32) = 0 by decide)))
    | some p =>
      rw [hkp] at hk
      have hp := (b_kn_some hkp).1
      have pos := (b_o_pos hs hB hp).1
      have hp3 := b_ht_300 hw hp
      obtain ⟨-, m2⟩ := hB.2.2.2.2 p hp
      have pk : (jK H0 (b_o os p)).1 = 0 := m2.1.1
      have p6 : jI H0 (b_o os p) 6 = Int32.ofNat (b_ht bs p) := m2.1.2.2.2.1
      have pd := m2.1.2.1
      unfold b_dy at pd
      have pB : b_o os p ≠ B := by omega
      have e1 : Int32.ofNat (b_ht bs p) + 1 = Int32.ofNat (b_ht bs p + 1) := jo_add (a := b_ht bs p) (b := 1)
      replace hk : ∀ H', jsh H' → jfr (b_Trf B) H0 H' → (∀ p_1, b_ref2 bs bad by_ txs p = 0 → some p = some p_1 → jR H' B 5 = b_o os p_1 ∧ jI H' B 6 = Int32.ofNat (b_ht bs p_1 + 1)) → Q (b_ref2 bs bad by_ txs p) H' := hk
      rw [show b_oo os (some p) = b_o os p from rfl]
      refine jT_pos (show ¬ b_o os p = 0 by omega) (jT_g k0 (jT_l ?_))
      show jT (jg ((jK (jsR H0 B 5 (b_o os p)) (b_o os p)).1 = 0) _) Q
      have p6' : jI (jsR H0 B 5 (b_o os p)) (b_o os p) 6 = Int32.ofNat (b_ht bs p) := p6
      show jT (jg _ (jg _ (jl (jsI (jsR H0 B 5 (b_o os p)) B 6 (jI (jsR H0 B 5 (b_o os p)) (b_o os p) 6 + 1)) _))) Q
      rw [p6', e1]
      refine jT_g pk (jT_g k0 (jT_l ?_))
      have s1 : jsh (jsI (jsR H0 B 5 (b_o os p)) B 6 (Int32.ofNat (b_ht bs p + 1))) := jsh_sI (jsh_sR hs hB5) (by omega)
      have f1 : jfr (b_Trf B) H0 (jsI (jsR H0 B 5 (b_o os p)) B 6 (Int32.ofNat (b_ht bs p + 1))) := jfr_sI (jfr_sR jfr_refl (Or.inr ⟨rfl, Or.inl rfl⟩)) (Or.inr ⟨rfl, Or.inr rfl⟩)
      have f1' : jfr (fun a j => a = B ∧ (j = 5 ∨ j = 6)) H0 (jsI (jsR H0 B 5 (b_o os p)) B 6 (Int32.ofNat (b_ht bs p + 1))) := jfr_sI (jfr_sR jfr_refl ⟨rfl, Or.inl rfl⟩) ⟨rfl, Or.inr rfl⟩
      have v5 : jR (jsI (jsR H0 B 5 (b_o os p)) B 6 (Int32.ofNat (b_ht bs p + 1))) B 5 = b_o os p := jR_sRe
      have v6 : jI (jsI (jsR H0 B 5 (b_o os p)) B 6 (Int32.ofNat (b_ht bs p + 1))) B 6 = Int32.ofNat (b_ht bs p + 1) := jI_sIe
      obtain ⟨H1, eH⟩ : ∃ H1, H1 = jsI (jsR H0 B 5 (b_o os p)) B 6 (Int32.ofNat (b_ht bs p + 1)) := ⟨_, rfl⟩
      rw [← eH] at s1 f1 f1' v5 v6 ⊢
      have v7 : jI H1 (b_o os p) 7 = if bad p = true then 1 else 0 := (jfr_I f1' (by omega)).trans (hbd p hp)
      rw [v7]
      refine jT_g (by rw [jfr_K f1']; exact pk) ?_
      unfold b_ref2 at hk
      cases hbp : bad p with
      | true =>
        rw [hbp, if_pos rfl] at hk
        exact jT_neg (by decide) (jT_ret (hk H1 s1 f1 fun p w => absurd w (by decide)))
      | false =>
        rw [hbp, if_neg (show ¬ (false = true) by decide)] at hk
        refine jT_pos rfl ?_
        have hB1 : b_BC nb0 bs os H1 := b_BC_kp hB (jkp_fr f1' fun a j hd w => by unfold b_dy at hd; omega) (jfr_I f1' (by omega)) fun k => jfr_R f1' (by omega)
        have tr1 : b_tr (B + 4) txs H1 := ⟨by rw [jfr_K f1']; exact kA, fun j x hx => by
          obtain ⟨⟨w, w2, w3⟩, w4⟩ := hrd j x hx
          rw [jfr_R f1' (by omega)]
          exact ⟨row, _, len, w_x_fr w fun a ha => ⟨jfr_K f1' a, fun q => f1'.2.2.2 a q (by omega)⟩⟩⟩
        exact z1_refuse2 s1 hw hbk hB1 hp (hmd p hp) hlay hty hB5 hrow hlen (by rw [jfr_K f1']; exact k0) ((jfr_R f1' (by omega)).trans r0) ((jfr_R f1' (by omega)).trans r1) ((jfr_R f1' (by omega)).trans r4) ((jfr_I f1' (by omega)).trans i2) ((jfr_L f1' (by omega)).trans l3) v6 (by rw [jfr_K f1']; exact kn) (by rw [jfr_K f1']; exact kr) (zRow_eq hz fun i _ => jfr_B f1' (by omega)) (zRow_eq hzn fun i _ => jfr_B f1' (by omega)) tr1 fun H2 s2 f2 => hk H2 s2 (jfr_trans f1 (jfr_mono f2 fun a j w => Or.inl w)) fun q _ hq => by
          have eq : p = q := Option.some.inj hq
          rw [← eq]
          have nn : ∀ j, ¬ b_Tf1 B j := fun j w => by unfold b_Tf1 b_Trt b_Th3 at w; omega
          exact ⟨(jfr_R f2 (nn 5)).trans v5, (jfr_I f2 (nn 6)).trans v6⟩
end RF2
