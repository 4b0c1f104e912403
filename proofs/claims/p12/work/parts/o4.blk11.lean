/-! The class takes a block. -/
theorem p_PA_kp {ps : List p_e} {H H' : jH} (h : p_PA ps H) (hs0 : jsh H) (hkn : jkp (jn H) H H') (e : ∀ a j, 414 ≤ a → a ≤ 416 → jI H' a j = jI H a j ∧ jL H' a j = jL H a j ∧ jR H' a j = jR H a j) : p_PA ps H' := by
  refine ⟨(e 414 4 (by decide) (by decide)).1.trans h.1, fun k x hk => ?_⟩
  obtain ⟨⟨row, s', len, q1⟩, q2⟩ := h.2 k x hk
  rw [(e 415 k (by decide) (by decide)).2.2, (e 416 k (by decide) (by decide)).2.1]
  exact ⟨⟨row, s', len, (w_xn_kp (w_xn_of hs0 q1) hkn).1⟩, q2⟩
/-- a block's object, as to its name -/
def s_nm11 (B : Nat) (nm : List UInt8) (H : jH) : Prop := 422 ≤ B ∧ (jK H B).1 = 0 ∧ jR H B 1 = B + 1 ∧ jK H (B + 1) = (101, 32) ∧ zRow H (B + 1) 0 nm ∧ nm.length = 32
section BK11
variable {Q : Int32 → jH → Prop} {nb : Nat} {os : List Nat} {S : s_S} {tp kn m nm : List UInt8} {ki code fl : Int32} {H0 H : jH} {p r B a4 : Nat}
/-- the answer about a block -/
theorem z11_225 (hC : s_cls nb os S tp kn ki H) (hp : p < 4) (hB : s_nm11 B nm H)
    (h21 : code = 21 → ∀ H', s_cls nb os (s_bx S (p_bx1 S.2.2.2.2.2 p (p_askm S.1 S.2.2.2.1))) tp kn ki H' → jgx s_TG 0 0 H H' → Q 1 H')
    (h0 : code ≠ 21 → fl = 0 → ∀ H', s_cls nb os (s_bx S (p_bx1 S.2.2.2.2.2 p (p_vd code nm))) tp kn ki H' → jgx s_TG 0 0 H H' → Q 1 H')
    (h1 : code ≠ 21 → fl ≠ 0 → ∀ H', s_cls nb os (s_bx S (p_bxo (p_bx1 S.2.2.2.2.2 p (p_vd code nm)) p (p_tl 2 (b_nm S.1 S.2.2.2.1)))) tp kn ki H' → jgx s_TG 0 0 H H' → Q 1 H') : jT (B_11_send_225 32 (Int32.ofNat p) B code fl H) Q := by
  have hs := hC.1
  obtain ⟨b1, b2, b3, b4, b5, b6⟩ := hB
  have k11 : (jK H 32).1 = 11 := gT (sK_32 hs)
  unfold B_11_send_225
  refine jT_g k11 (jT_b ?_)
  unfold F_11_answerBlock
  refine jT_neg (by omega) ?_
  by_cases c : code = 21
  · refine jT_neg (fun w => w c) (jT_g k11 ?_)
    refine z11_ask (k := fun _ h6 => some ((), h6)) hs hC.2.1.1 hC.2.1.2.1 hC.2.1.2.2.1 hp hC.2.2.2.1 fun H' s' b' f' => jT_ret (jT_g (Or.inr rfl) (jT_ret (h21 c H' (s_cls_bx hC s' f' b') (jfr_TG f' fun a j w => s_TS_TG w))))
  · refine jT_pos c ?_
    unfold B_11_answerBlock_16 B_11_answerBlock_31
    refine jT_pos (by omega) (jT_g b2 (jT_g k11 ?_))
    rw [b3]
    refine p_verd11 hs hp hC.2.2.2.1 (Or.inr ⟨by omega, by omega, by omega, b4, b5, b6⟩) fun H1 s1 x1 f1 => ?_
    have C1 := s_cls_bx hC s1 f1 x1
    have g1 := jfr_TG f1 fun a j w => s_TS_TG w
    unfold B_11_answerBlock_55
    by_cases cf : fl = 0
    · exact jT_pos cf (jT_ret (jT_g (Or.inr rfl) (jT_ret (h0 c cf H1 C1 g1))))
    · obtain ⟨t1, t2, t3, t4⟩ := s_tip11 C1
      obtain ⟨-, hbx⟩ := C1.2.1.2.1.2.2.2.2 _ C1.2.1.2.2.1.1
      have dd := hbx.2.2.1.2.1
      unfold b_dy at dd
      refine jT_neg cf (jT_g (gT (sK_32 s1)) (jT_g (by rw [sR_32_12 s1, sK_398 s1]) (jT_g (by rw [sR_32_12 s1, t1]; exact t2) (jT_g (gT (sK_32 s1)) ?_))))
      rw [sR_32_12 s1, t1]
      exact p_oth11 (k := fun _ h4 => some ((), h4)) s1 hp x1 ⟨by omega, by omega⟩ hbx.2.2.1.1 hbx.2.2.1.2.2 (C1.2.1.1.2.2.2.1 _ C1.2.1.2.2.1.1) fun H2 s2 x2 f2 => by
        have C2 := s_cls_bx C1 s2 f2 x2
        exact jT_ret (jT_g (Or.inr rfl) (jT_ret (h1 c cf H2 C2 (jgx_trans g1 (jfr_TG f2 fun a j w => s_TS_TG w)))))
theorem z11_202 (hC : s_cls nb os S tp kn ki H) (hp : p < 4) (hB : s_nm11 B nm H) (h4 : 32 ≤ a4)
    (h21 : code = 21 → ∀ H', s_cls nb os (s_bx S (p_bx1 S.2.2.2.2.2 p (p_askm S.1 S.2.2.2.1))) tp kn ki H' → jgx s_TG 0 0 H H' → Q 1 H')
    (h0 : code ≠ 21 → b_o os S.2.2.2.1 = a4 → ∀ H', s_cls nb os (s_bx S (p_bx1 S.2.2.2.2.2 p (p_vd code nm))) tp kn ki H' → jgx s_TG 0 0 H H' → Q 1 H')
    (h1 : code ≠ 21 → b_o os S.2.2.2.1 ≠ a4 → ∀ H', s_cls nb os (s_bx S (p_bxo (p_bx1 S.2.2.2.2.2 p (p_vd code nm)) p (p_tl 2 (b_nm S.1 S.2.2.2.1)))) tp kn ki H' → jgx s_TG 0 0 H H' → Q 1 H') : jT (B_11_send_202 32 (Int32.ofNat p) a4 B code H) Q := by
  have hs := hC.1
  obtain ⟨t1, t2, t3, t4⟩ := s_tip11 hC
  unfold B_11_send_202
  refine jT_g (gT (sK_32 hs)) (jT_g (by rw [sR_32_12 hs, sK_398 hs]) (jT_g ⟨Or.inr (by rw [sR_32_12 hs, t1]; show 31 ≤ _; omega), Or.inr (show 31 ≤ _ by omega)⟩ ?_))
  rw [sR_32_12 hs, t1]
  by_cases c : b_o os S.2.2.2.1 = a4
  · exact jT_pos c (z11_225 hC hp hB h21 (fun q _ => h0 q c) fun _ w => absurd rfl w)
  · exact jT_neg c (z11_225 hC hp hB h21 (fun _ w => absurd w (by decide)) fun q _ => h1 q c)
/-- the tip stayed -/
theorem z11_157s (hC : s_cls nb os S tp kn ki H) (hp : p < 4) (hB : s_nm11 B nm H)
    (h21 : code = 21 → ∀ H', s_cls nb os (s_bx S (p_bx1 S.2.2.2.2.2 p (p_askm S.1 S.2.2.2.1))) tp kn ki H' → jgx s_TG 0 0 H H' → Q 1 H')
    (h0 : code ≠ 21 → ∀ H', s_cls nb os (s_bx S (p_bx1 S.2.2.2.2.2 p (p_vd code nm))) tp kn ki H' → jgx s_TG 0 0 H H' → Q 1 H') : jT (B_11_send_157 32 (Int32.ofNat p) (b_o os S.2.2.2.1) B code H) Q := by
  have hs := hC.1
  obtain ⟨t1, t2, t3, t4⟩ := s_tip11 hC
  unfold B_11_send_157
  refine jT_g (gT (sK_32 hs)) (jT_g (by rw [sR_32_12 hs, sK_398 hs]) (jT_g ⟨Or.inr (by rw [sR_32_12 hs, t1]; show 31 ≤ _; omega), Or.inr (show 31 ≤ _ by omega)⟩ ?_))
  exact jT_pos (by rw [sR_32_12 hs, t1]) (z11_202 hC hp hB (by omega) h21 (fun q _ => h0 q) fun _ w => absurd rfl w)
/-- no block -/
theorem z11_157n (hC : s_cls nb os S tp kn ki H) (hp : p < 4) (hk : ∀ H', s_cls nb os (s_no p S) tp kn ki H' → jgx s_TG 0 0 H H' → Q 1 H') : jT (B_11_send_134 32 (Int32.ofNat p) (b_o os S.2.2.2.1) 0 1 H) Q := by
  have hs := hC.1
  obtain ⟨t1, t2, t3, t4⟩ := s_tip11 hC
  have k11 : (jK H 32).1 = 11 := gT (sK_32 hs)
  have gg : (jR H (jR H 32 12) 6 = 0 ∨ jF0 ≤ jR H (jR H 32 12) 6) ∧ (b_o os S.2.2.2.1 = 0 ∨ jF0 ≤ b_o os S.2.2.2.1) := ⟨Or.inr (by rw [sR_32_12 hs, t1]; show 31 ≤ _; omega), Or.inr (show 31 ≤ _ by omega)⟩
  have ge : jR H (jR H 32 12) 6 = b_o os S.2.2.2.1 := by rw [sR_32_12 hs, t1]
  unfold B_11_send_134 B_11_send_157 B_11_send_202 B_11_send_225
  refine jT_pos rfl (jT_g k11 (jT_g (by rw [sR_32_12 hs, sK_398 hs]) (jT_g gg (jT_pos ge (jT_g k11 (jT_g (by rw [sR_32_12 hs, sK_398 hs]) (jT_g gg (jT_pos ge (jT_g k11 (jT_b ?_))))))))))
  unfold F_11_answerBlock B_11_answerBlock_16 B_11_answerBlock_31
  refine jT_pos rfl (jT_neg (fun w => w rfl) (jT_g k11 ?_))
  exact s_no11 hC hp fun H' c' g' => jT_pos rfl (jT_ret (jT_g (Or.inr rfl) (jT_ret (hk H' c' g'))))
/-- the object of a block that came, when its parent has been set -/
theorem s_bx11 {H1 Hx : jH} {U : Nat → Nat → Prop} {row len ht pB : Nat} {b : b_k} {by_ : List UInt8} {txs : List b_t} (hnb : b_nb B row len by_ txs H1) (hf : jfr U H1 Hx) (hB5 : 422 ≤ B) (hrow : 422 ≤ row ∧ row < B) (hlen : by_.length + 1 = len) (hl : len ≤ 2000) (hU : ∀ a j, U a j → a < 422 ∨ (a = B ∧ (j = 5 ∨ j = 6)) ∨ a = B + 3) (e5 : jR Hx B 5 = pB) (e6 : jI Hx B 6 = Int32.ofNat b.2.2.2.1) (q1 : b.1 = by_) (q2 : b.2.1 = b_hs (by_.take 80)) (q3 : b.2.2.2.2.1 = b_b4 by_) (q4 : b.2.2.2.2.2.1 = b_t4 by_) (q5 : b.2.2.2.2.2.2 = txs) : b_bx (jn Hx) B b pB Hx := by
  obtain ⟨⟨a1, a2, a3, a4, a5, a6⟩, ⟨b1, b2, b3, b4⟩, ⟨c1, c2, c3, c4⟩, d1, d2, d3, d4⟩ := hnb
  have n1 := hf.2.1
  have r0 : jR Hx B 0 = row := (jfr_R hf fun w => by have := hU _ _ w; omega).trans a2
  have r1 : jR Hx B 1 = B + 1 := (jfr_R hf fun w => by have := hU _ _ w; omega).trans a3
  have r4 : jR Hx B 4 = B + 4 := (jfr_R hf fun w => by have := hU _ _ w; omega).trans a4
  have r8 : jR Hx B 8 = B + 3 := (jfr_R hf fun w => by have := hU _ _ w; omega).trans a6
  have dy : ∀ a, 422 ≤ a → a < B + 5 → b_dy (jn Hx) a := fun a h1 h2 => Or.inr ⟨h1, by omega⟩
  unfold b_bx
  rw [r0, r1, r4, r8, q1, q2, q3, q4, q5]
  refine ⟨⟨by rw [jfr_K hf]; exact a1, dy _ hB5 (by omega), e5, e6, (jfr_I hf fun w => by have := hU _ _ w; omega).trans b1, (jfr_L hf fun w => by have := hU _ _ w; omega).trans b2⟩, ⟨(jfr_K hf _).trans c3, dy _ (by omega) (by omega), fun i x hx => ?_⟩, ⟨(jfr_K hf _).trans c1, dy _ (by omega) (by omega), zRow_eq d2 fun i _ => jfr_B hf fun w => by have := hU _ _ w; omega⟩, ⟨⟨len, (jfr_K hf _).trans c4, by omega, by omega, fun _ => by omega⟩, dy _ hrow.1 (by omega), zRow_eq d1 fun i _ => jfr_B hf fun w => by have := hU _ _ w; omega⟩, ⟨(jfr_K hf _).trans c2, dy _ (by omega) (by omega)⟩⟩
  obtain ⟨⟨w1, w2, w3⟩, w4⟩ := d3 i x hx
  rw [show jR Hx (B + 4) i = jR H1 (B + 4) i from jfr_R hf fun w => by have := hU _ _ w; omega, n1]
  exact ⟨row, _, len, w_x_fr w1 fun a ha => ⟨jfr_K hf a, fun j => hf.2.2.2 a j fun w => by have := hU _ _ w; omega⟩, w2, w3⟩
end BK11
