/-! The class takes a block, whole. -/
theorem b_ref_kn {bs : List b_k} {bad : Nat → Bool} {by_ : List UInt8} {txs : List b_t} (c : b_ref bs bad by_ txs = 0) : ∃ q, b_kn bs (w_sl by_ 4 32) = some q := by
  cases hq : b_kn bs (w_sl by_ 4 32) with
  | some q => exact ⟨q, rfl⟩
  | none =>
    exfalso
    unfold b_ref at c
    rw [hq] at c
    by_cases c0 : b_kn bs (b_hs (by_.take 80)) ≠ none
    · rw [if_pos c0] at c
      exact absurd c (by decide)
    · rw [if_neg c0] at c
      exact absurd (show (21 : Int32) = 0 from c) (by decide)
section BK11W
variable {Q : Int32 → jH → Prop} {nb : Nat} {os : List Nat} {S : s_S} {tp kn m : List UInt8} {ki : Int32} {H0 : jH} {p r : Nat}
theorem s_Th3 {a j : Nat} (w : b_Th3 a j) : 43 ≤ a ∧ a ≤ 48 := by unfold b_Th3 at w; omega
theorem s_Trf {B a j : Nat} (w : b_Trf B a j) : (43 ≤ a ∧ a ≤ 48) ∨ (402 < a ∧ a < 409) ∨ (a = B ∧ (j = 5 ∨ j = 6)) := by
  unfold b_Trf b_Tf1 b_Trt b_Th3 at w
  omega
theorem s_Tn {B a j : Nat} (w : b_Tn B a j) : a = 403 ∨ a = 405 ∨ a = B ∨ a = 399 ∨ (a = 398 ∧ (j = 4 ∨ j = 10)) := by
  unfold b_Tn b_Tw at w
  omega
theorem z11_blk (hC : s_cls nb os S tp kn ki H0) (hP : s_pur S) (hp : p < 4) (hr : jK H0 r = (101, m.length)) (hr5 : 422 ≤ r) (hz : zRow H0 r 0 m) (hm : m.length ≤ 2000) (hm1 : 1 ≤ m.length) (hu : (m.getD 0 0).toNat = 2)
    (hk : ∀ nb' os' S' H', s_step p m S S' → s_cls nb' os' S' tp kn ki H' → jgx s_TG 77 800 H0 H' → Q 1 H') :
    jT (jb (F_0_read r 43 H0) fun x13 h14 => if ¬ x13 = 0 then jg ((jK h14 32).1 = 11) (jg ((jK h14 (jR h14 32 12)).1 = 1) (jb (F_1_refusal (jR h14 32 12) x13 h14) fun x15 h16 => B_11_send_134 32 (Int32.ofNat p) (b_o os S.2.2.2.1) x13 x15 h16)) else B_11_send_134 32 (Int32.ofNat p) (b_o os S.2.2.2.1) x13 1 h14) Q := by
  have hs := hC.1
  have h513 : 422 ≤ jn H0 := hs.2.2.2.2.1
  have hrn : r < jn H0 := j_old hs hr (by decide)
  have hzd : zRow H0 r 1 (m.drop 1) := by
    have := s_drop_row hz 1
    rwa [Nat.zero_add] at this
  have ld : (m.drop 1).length = m.length - 1 := List.length_drop ..
  have hnbn : nb ≤ jn H0 := hC.2.2.2.2.1
  refine jT_b (z0_read (by_ := m.drop 1) hs hr ⟨hr5, hrn⟩ (by omega) hm hzd (fun txs H1 hl hty s1 g1 nb1 => ?_) fun H1 hno s1 g1 => ?_)
  · have C1 := s_cls_gx hC s1 g1 fun a j w => Or.inr (Or.inl (by have := s_Th3 w; omega))
    have gB : jgx s_TG 77 800 H0 H1 := jgx_mono g1 (fun a j _ w => Or.inl (by have := s_Th3 w; omega)) (Nat.le_refl _) (Nat.le_refl _)
    have hw := hC.2.1.1
    have hbk := hP.2.1
    obtain ⟨B, eB⟩ : ∃ B, B = jn H0 := ⟨_, rfl⟩
    rw [← eB] at nb1 h513 hrn hnbn ⊢
    refine jT_pos (by omega) (jT_g (gT (sK_32 s1)) (jT_g (by rw [sR_32_12 s1, sK_398 s1]) ?_))
    rw [sR_32_12 s1]
    refine jT_b (z1_refusal (nb0 := nb) (B := B) s1 hw hbk C1.2.1.2.1 C1.2.1.2.2.2.2.1 (fun q hq => b_mdn_lt hw hbk hq) hl (fun x hx => (hty x hx).1) hnbn h513 hr5 hrn (by omega) nb1 fun H2 s2 f2 hpar => ?_)
    have uR : ∀ a j, b_Trf B a j → (43 ≤ a ∧ a ≤ 48) ∨ (402 < a ∧ a < 409) ∨ (a = B ∧ (j = 5 ∨ j = 6)) := fun a j w => s_Trf w
    have g2 : jgx (fun a j => (42 ≤ a ∧ a < 50) ∨ (402 < a ∧ a < 409)) 77 800 H0 H2 := by
      have t1 : jgx (fun a j => (42 ≤ a ∧ a < 50) ∨ (402 < a ∧ a < 409) ∨ a = B) 77 800 H0 H1 := jgx_mono g1 (fun a j _ w => Or.inl (by have := s_Th3 w; omega)) (Nat.le_refl _) (Nat.le_refl _)
      have t2 : jgx (fun a j => (42 ≤ a ∧ a < 50) ∨ (402 < a ∧ a < 409) ∨ a = B) 0 0 H1 H2 := jgx_mono (jgx_fr f2) (fun a j _ w => by have := uR a j w; omega) (Nat.le_refl _) (Nat.le_refl _)
      exact jgx_mono (jgx_trans t1 t2) (fun a j h w => by omega) (by omega) (by omega)
    have C2 : s_cls nb os S tp kn ki H2 := s_cls_gx hC s2 g2 fun a j w => Or.inr w
    have gT2 : jgx s_TG 77 800 H0 H2 := jgx_mono g2 (fun a j _ w => Or.inl (by omega)) (Nat.le_refl _) (Nat.le_refl _)
    have nb1' := nb1
    obtain ⟨⟨a1, a2, a3, a4, a5, a6⟩, ⟨b1, b2, b3, b4⟩, ⟨c1, c2, c3, c4⟩, d1, d2, d3, d4⟩ := nb1'
    have nm2 : s_nm11 B (b_hs ((m.drop 1).take 80)) H2 := ⟨h513, by rw [jfr_K f2]; exact a1, (jfr_R f2 fun w => by have := uR _ _ w; omega).trans a3, (jfr_K f2 _).trans c1, zRow_eq d2 fun i _ => jfr_B f2 fun w => by have := uR _ _ w; omega, b_hs_len⟩
    by_cases c : b_ref S.1 S.2.2.1 (m.drop 1) txs = 0
    · rw [c]
      obtain ⟨q, hq⟩ := b_ref_kn c
      obtain ⟨ql, l3, bq, eb, -, ht, fl, nw, bk⟩ := s_nb_ok hP ⟨hl, hty⟩ c hq
      have wb := s_wb hP ⟨hl, hty⟩ c hq
      obtain ⟨pr5, pr6⟩ := hpar q c hq
      have C2' := C2
      obtain ⟨-, ⟨e1, e2, e3, e4, e5, e6, e7, e8, e9, e10⟩, -⟩ := C2'
      have hP' := hP
      obtain ⟨p1, p2, p3, p4, p5, p6, p7, p8, p9, p10, p11, p12⟩ := hP'
      have tl : S.2.2.2.1 < S.1.length := e3.1
      have n2 : jn H0 ≤ jn H2 := gT2.1
      have kp2 : jkp B H0 H2 := jkp_gx g2 (by omega) (by omega) fun a j w => by omega
      have uN : ∀ a j, b_Tn (B + 3) a j → a = 403 ∨ a = 405 ∨ a = B + 3 ∨ a = 399 ∨ (a = 398 ∧ (j = 4 ∨ j = 10)) := fun a j w => s_Tn w
      unfold B_11_send_134
      refine jT_neg (by omega) (jT_neg (fun w => w rfl) (jT_g (gT (sK_32 s2)) (jT_g (by rw [sR_32_12 s2, sK_398 s2]) ?_)))
      rw [sR_32_12 s2]
      have hKA : ∀ Hx, jfr (b_Tn (B + 3)) H2 Hx → b_KA (b_co S.1 S.2.2.2.1 (b_ht S.1 S.2.2.2.1)).1 (b_co S.1 S.2.2.2.1 (b_ht S.1 S.2.2.2.1)).2 Hx := fun Hx fx => by
        refine b_KA_kp hs hC.2.1.2.2.2.2.2.2.2.2.1 (by rw [← eB]; exact jkp_trans kp2 (jkp_fr fx fun a j h w => by have := uN a j w; unfold b_dy at h; omega)) fun a j h1 h2 => ?_
        have hn : ¬ ((42 ≤ a ∧ a < 50) ∨ (402 < a ∧ a < 409)) := by omega
        have hn2 : ¬ b_Tn (B + 3) a j := fun w => by have := uN a j w; omega
        exact ⟨(jfr_I fx hn2).trans (jgx_I g2 (by omega) hn), (jfr_L fx hn2).trans (jgx_L g2 (by omega) hn), (jfr_R fx hn2).trans (jgx_R g2 (by omega) hn)⟩
      have hx : ∀ Hx, jfr (b_Tn (B + 3)) H2 Hx → b_bx (jn H2) B (s_nb S.1 (m.drop 1) txs q) (b_o os q) Hx := fun Hx fx => by
        have := s_bx11 (b := s_nb S.1 (m.drop 1) txs q) (ht := 0) (U := fun a j => b_Trf B a j ∨ b_Tn (B + 3) a j) nb1 (jfr_trans (jfr_mono f2 fun a j w => Or.inl w) (jfr_mono fx fun a j w => Or.inr w)) h513 ⟨hr5, hrn⟩ (by omega) hm (fun a j w => by
          rcases w with w | w
          · have := uR a j w; omega
          · have := uN a j w; omega) ((jfr_R fx fun w => by have := uN _ _ w; omega).trans pr5) ((jfr_I fx fun w => by have := uN _ _ w; omega).trans pr6) rfl rfl rfl rfl rfl
        rw [fx.2.1] at this
        exact this
      have hbw : b_ws B (B + 3) H2 := ⟨s2, by rw [jfr_K f2]; exact a1, (jfr_R f2 fun w => by have := uR _ _ w; omega).trans a6, (jfr_K f2 _).trans c2, by omega, by omega, by omega, by omega, by omega, fun _ => by omega⟩
      refine z1_adopt (nb0 := nb) (nb := jn H2) (B := B) (Wk := B + 3) (b := s_nb S.1 (m.drop 1) txs q) (p := q) s2 e1 e2 e3 e4 e5 e6 e7 e8 hKA e10 nw rfl bk.1 bk.2.1 bq ⟨hnbn, h513⟩ ⟨by omega, by omega⟩ hbw hx ((jfr_I f2 fun w => by have := uR _ _ w; omega).trans b4) p4 (p12 _ (Nat.le_refl _)) p5 wb.2 (by omega) fun tip' bad' code f H3 hc s3 f3 C3 hLF => ?_
      have hc' : b_cho (S.1 ++ [s_nb S.1 (m.drop 1) txs q]) (s_W S (m.drop 1) q) S.2.2.1 S.2.2.2.1 S.1.length tip' bad' code := hc
      have C3' : b_CS (jn H2) (S.1 ++ [s_nb S.1 (m.drop 1) txs q]) (os ++ [B]) (s_W S (m.drop 1) q) bad' tip' H3 := C3
      have hw' := C3'.1
      have ko : ∀ i, i < (os ++ [B]).length → (jK H3 (b_o (os ++ [B]) i)).1 = 0 := fun i hi => (b_o_pos s3 C3'.2.1 (by rw [← C3'.2.1.1]; exact hi)).2
      have u3 : ∀ a j, (b_Tn (B + 3) a j ∨ b_FD (os ++ [B]) a j) → (a = B + 3) ∨ (43 ≤ a ∧ a ≤ 405 ∧ a ≠ 404 ∧ a ≠ 406) ∨ (j = 7 ∧ (jK H3 a).1 = 0) := fun a j w => by
        rcases w with w | w
        · have := uN a j w; omega
        · unfold b_FD at w
          rcases w with w | w | w | ⟨w, i, hi, ei⟩
          · omega
          · omega
          · omega
          · exact Or.inr (Or.inr ⟨w, by rw [ei]; exact ko i hi⟩)
      have K3 : ∀ a, jK H3 a = jK H2 a := fun a => jfr_K f3 a
      have big : ∀ a j, 422 ≤ a → (jK H2 a).1 ≠ 0 → a ≠ B + 3 → ¬ (b_Tn (B + 3) a j ∨ b_FD (os ++ [B]) a j) := fun a j h1 h2 h3 w => by
        rcases u3 a j w with w | w | ⟨-, w⟩
        · omega
        · omega
        · rw [K3] at w; exact h2 w
      have sm : ∀ a j, (a < 43 ∨ (405 < a ∧ a < 422)) → (jK H2 a).1 ≠ 0 → ¬ (b_Tn (B + 3) a j ∨ b_FD (os ++ [B]) a j) := fun a j h1 h2 w => by
        rcases u3 a j w with w | w | ⟨-, w⟩
        · omega
        · omega
        · rw [K3] at w; exact h2 w
      have kB1 : jK H2 (B + 1) = (101, 32) := nm2.2.2.2.1
      have nm3 : s_nm11 B (b_hs ((m.drop 1).take 80)) H3 := ⟨h513, by rw [K3]; exact nm2.2.1, (jfr_R f3 fun w => by
        rcases u3 _ _ w with w | w | ⟨w, -⟩
        · omega
        · omega
        · exact absurd w (by decide)).trans nm2.2.2.1, (K3 _).trans kB1, zRow_eq nm2.2.2.2.2.1 fun i _ => jfr_B f3 (big _ _ (by omega) (by rw [kB1]; decide) (by omega)), b_hs_len⟩
      have kp3 : jkp B H0 H3 := jkp_trans kp2 (jkp_fr f3 fun a j h w => by
        rcases u3 a j w with w | w | ⟨w1, w2⟩
        · unfold b_dy at h; omega
        · unfold b_dy at h; omega
        · rw [K3] at w2; exact ⟨w2, w1⟩)
      have A3 : p_PA S.2.2.2.2.1 H3 := p_PA_kp hC.2.2.1 hs (by rw [← eB]; exact kp3) fun a j h1 h2 => by
        have hn : ¬ ((42 ≤ a ∧ a < 50) ∨ (402 < a ∧ a < 409)) := by omega
        have k2 : (jK H2 a).1 ≠ 0 := by
          rcases (show a = 414 ∨ a = 415 ∨ a = 416 by omega) with e | e | e
          · rw [e, sK_414 s2]; decide
          · rw [e, sK_415 s2]; decide
          · rw [e, sK_416 s2]; decide
        have hn2 := sm a j (by omega) k2
        exact ⟨(jfr_I f3 hn2).trans (jgx_I g2 (by omega) hn), (jfr_L f3 hn2).trans (jgx_L g2 (by omega) hn), (jfr_R f3 hn2).trans (jgx_R g2 (by omega) hn)⟩
      obtain ⟨-, -, -, x4, -, ⟨x6, x7, x8⟩, x9, x10, x11⟩ := C2
      have k32 : (jK H2 32).1 ≠ 0 := by rw [sK_32 s2]; decide
      have k33 : (jK H2 33).1 ≠ 0 := by rw [sK_33 s2]; decide
      have k34 : (jK H2 34).1 ≠ 0 := by rw [sK_34 s2]; decide
      have bx3 : p_b11 S.2.2.2.2.2 H3 := by
        have f3' : jfr (fun a j => (b_Tn (B + 3) a j ∨ b_FD (os ++ [B]) a j) ∧ ¬ (a < 43)) H2 H3 := ⟨f3.1, f3.2.1, f3.2.2.1, fun a j hn => by
          by_cases w : b_Tn (B + 3) a j ∨ b_FD (os ++ [B]) a j
          · by_cases w2 : a < 43
            · exfalso
              rcases u3 a j w with y | y | ⟨-, y⟩
              · omega
              · omega
              · unfold b_Tn b_Tw b_FD at w
                rcases w with w | w | w | w | ⟨-, i, hi, ei⟩
                · omega
                · omega
                · omega
                · omega
                · have := (b_o_pos s3 C3'.2.1 (by rw [← C3'.2.1.1]; exact hi)).1
                  omega
            · exact absurd ⟨w, w2⟩ hn
          · exact f3.2.2.2 a j w⟩
        exact p_b11_fr x4 f3' fun a j w => by omega
      have CC : ∀ ps', p_PA ps' H3 → s_cls (jn H2) (os ++ [B]) (S.1 ++ [s_nb S.1 (m.drop 1) txs q], s_W S (m.drop 1) q, bad', tip', ps', S.2.2.2.2.2) tp kn ki H3 := fun ps' hA => ⟨s3, C3', hA, bx3, Nat.le_of_eq f3.2.1.symm, ⟨(jfr_I f3 (sm _ _ (by omega) k32)).trans x6, x7, zRow_eq x8 fun i _ => jfr_B f3 (sm _ _ (by omega) k33)⟩, zRow_eq x9 fun i _ => jfr_B f3 (sm _ _ (by omega) k34), x10, (jfr_I f3 (sm _ _ (by omega) k32)).trans x11⟩
      have gT3 : jgx s_TG 77 800 H0 H3 := jgx_trans gT2 (jfr_TG f3 fun a j w => by
        rcases w with w | w
        · have := uN a j w; show _ ∨ _; omega
        · unfold b_FD at w
          rcases w with w | w | w | ⟨w, i, hi, ei⟩
          · show _ ∨ _; omega
          · show _ ∨ _; omega
          · show _ ∨ _; omega
          · have h1 := C3'.2.1.2.2.2.2 i (by rw [← C3'.2.1.1]; exact hi)
            have h2 := h1.2.1.2.1
            unfold b_dy at h2
            show _ ∨ _
            omega)
      have otip : b_o (os ++ [B]) S.2.2.2.1 = b_o os S.2.2.2.1 := b_o_lo (by rw [e2.1]; exact tl)
      have c22 := b_cho_22 hc'
      have n21 : code ≠ 21 := fun w => by rw [w] at c22; exact absurd c22 (by decide)
      by_cases et : tip' = S.2.2.2.1
      · subst et
        have st : s_step p m S (S.1 ++ [s_nb S.1 (m.drop 1) txs q], s_W S (m.drop 1) q, bad', S.2.2.2.1, S.2.2.2.2.1, s_blb p S (m.drop 1) S.2.2.2.1 code) := Or.inr (Or.inl ⟨hu, Or.inl ⟨txs, ⟨hl, hty⟩, Or.inr ⟨c, q, hq, _, bad', code, _, hc', Or.inl ⟨rfl, rfl⟩, rfl⟩⟩⟩)
        rw [← otip]
        refine z11_157s (S := (S.1 ++ [s_nb S.1 (m.drop 1) txs q], s_W S (m.drop 1) q, bad', S.2.2.2.1, S.2.2.2.2.1, S.2.2.2.2.2)) (CC _ A3) hp nm3 (fun w => absurd w n21) fun _ H' c' g' => hk (jn H2) (os ++ [B]) _ H' st ?_ (jgx_trans gT3 g')
        unfold s_blb
        rw [if_pos rfl]
        exact c'
      · obtain ⟨hf, hLF⟩ := hLF et
        have etn := (b_tip_n hc' et).1
        have bok := p_bok_new p9 (b := s_nb S.1 (m.drop 1) txs q) (s_isb_tok ⟨hl, hty⟩)
        have hne : b_o (os ++ [B]) tip' ≠ b_o os S.2.2.2.1 := fun w => et (b_o_inj C3'.2.1 C3'.2.2.1.1 (by rw [b_len1]; omega) (w.trans otip.symm))
        have CCA := CC _ A3
        obtain ⟨t1, t2, t3, t4⟩ := s_tip11 CCA
        have t1 : jR H3 398 6 = b_o (os ++ [B]) tip' := t1
        have t2 : (jK H3 (b_o (os ++ [B]) tip')).1 = 0 := t2
        have t3 : jI H3 (b_o (os ++ [B]) tip') 6 = Int32.ofNat (b_ht (S.1 ++ [s_nb S.1 (m.drop 1) txs q]) tip') := t3
        have t4 : 410 ≤ b_o (os ++ [B]) tip' := t4
        have ot4 := (b_o_pos s2 e2 tl).1
        have k11 : (jK H3 32).1 = 11 := gT (sK_32 s3)
        have k398 : (jK H3 (jR H3 32 12)).1 = 1 := by rw [sR_32_12 s3, sK_398 s3]
        unfold B_11_send_157
        refine jT_g k11 (jT_g k398 (jT_g ⟨Or.inr (by rw [sR_32_12 s3, t1]; show 31 ≤ _; omega), Or.inr (show 31 ≤ _ by omega)⟩ (jT_neg (by rw [sR_32_12 s3, t1]; exact hne) (jT_g k11 (jT_g k11 (jT_g k398 (jT_g k11 (jT_g k398 (jT_g k11 (jT_g k398 (jT_g (by rw [sR_32_12 s3, t1]; exact t2) (jT_g (by rw [sR_32_13 s3, sK_414 s3]) ?_))))))))))))
        have e1' : Int32.ofNat (b_ht (S.1 ++ [s_nb S.1 (m.drop 1) txs q]) tip') + 1 = Int32.ofNat (b_ht (S.1 ++ [s_nb S.1 (m.drop 1) txs q]) tip' + 1) := jo_add (b := 1)
        rw [sR_32_12 s3, sR_32_13 s3, sR_398_9 s3, t1, t3, hLF.1, e1']
        refine z6_makeAnew (old := S.2.2.2.1) (f := f) (cs := (b_co (S.1 ++ [s_nb S.1 (m.drop 1) txs q]) tip' (b_ht (S.1 ++ [s_nb S.1 (m.drop 1) txs q]) tip')).1) p8 hw' bok (by rw [b_len1]; omega) hf.2.1 s3 C3'.2.1 hLF C3'.2.2.2.2.2.2.2.2.1.1 C3'.2.2.2.2.2.2.2.2.2 A3 fun H4 s4 f4 M4 A4 => ?_
        have uT : ∀ a j, p_TN a j → (43 ≤ a ∧ a ≤ 391) ∨ (414 ≤ a ∧ a ≤ 420) := fun a j w => by unfold p_TN p_TO at w; omega
        obtain ⟨-, y2, -, y4, y5, ⟨y6, y7, y8⟩, y9, y10, y11⟩ := CCA
        have C4 : s_cls (jn H2) (os ++ [B]) (S.1 ++ [s_nb S.1 (m.drop 1) txs q], s_W S (m.drop 1) q, bad', tip', p_anew (Int32.ofNat (b_ht (S.1 ++ [s_nb S.1 (m.drop 1) txs q]) tip' + 1)) (b_co (S.1 ++ [s_nb S.1 (m.drop 1) txs q]) tip' (b_ht (S.1 ++ [s_nb S.1 (m.drop 1) txs q]) tip')).1 (S.1 ++ [s_nb S.1 (m.drop 1) txs q]) S.2.2.2.1 f S.2.2.2.2.1, S.2.2.2.2.2) tp kn ki H4 :=
          ⟨s4, b_CS_mz C3' s3 y5 (jgx_fr f4) (fun a j w => by have := uT a j w; omega) M4, A4, p_b11_fr y4 f4 (fun a j w => by have := uT a j w; omega), by rw [f4.2.1]; exact y5, ⟨(jfr_I f4 fun w => by have := uT _ _ w; omega).trans y6, y7, zRow_eq y8 fun i _ => jfr_B f4 fun w => by have := uT _ _ w; omega⟩, zRow_eq y9 fun i _ => jfr_B f4 fun w => by have := uT _ _ w; omega, y10, (jfr_I f4 fun w => by have := uT _ _ w; omega).trans y11⟩
        have nm4 : s_nm11 B (b_hs ((m.drop 1).take 80)) H4 := ⟨h513, by rw [jfr_K f4]; exact nm3.2.1, (jfr_R f4 fun w => by have := uT _ _ w; omega).trans nm3.2.2.1, (jfr_K f4 _).trans nm3.2.2.2.1, zRow_eq nm3.2.2.2.2.1 fun i _ => jfr_B f4 fun w => by have := uT _ _ w; omega, b_hs_len⟩
        have gT4 : jgx s_TG 77 800 H0 H4 := jgx_trans gT3 (jfr_TG f4 fun a j w => by have := uT a j w; show _ ∨ _; omega)
        have st : s_step p m S (S.1 ++ [s_nb S.1 (m.drop 1) txs q], s_W S (m.drop 1) q, bad', tip', p_anew (Int32.ofNat (b_ht (S.1 ++ [s_nb S.1 (m.drop 1) txs q]) tip' + 1)) (b_co (S.1 ++ [s_nb S.1 (m.drop 1) txs q]) tip' (b_ht (S.1 ++ [s_nb S.1 (m.drop 1) txs q]) tip')).1 (S.1 ++ [s_nb S.1 (m.drop 1) txs q]) S.2.2.2.1 f S.2.2.2.2.1, s_blb p S (m.drop 1) tip' code) := Or.inr (Or.inl ⟨hu, Or.inl ⟨txs, ⟨hl, hty⟩, Or.inr ⟨c, q, hq, _, bad', code, _, hc', Or.inr ⟨et, f, by rw [etn]; exact hf, rfl⟩, rfl⟩⟩⟩)
        refine z11_202 C4 hp nm4 (by omega) (fun w => absurd w n21) (fun _ w => absurd w hne) fun _ _ H' c' g' => hk (jn H2) (os ++ [B]) _ H' st ?_ (jgx_trans gT4 g')
        have en : b_nm (S.1 ++ [s_nb S.1 (m.drop 1) txs q]) tip' = b_hs ((m.drop 1).take 80) := by
          rw [etn]
          unfold b_nm
          rw [b_g_new]
          rfl
        unfold s_blb
        rw [if_neg et, ← en]
        have c'' := c'
        rw [← en] at c''
        exact c''
    · unfold B_11_send_134
      have st : s_step p m S (s_bx S (p_bx1 S.2.2.2.2.2 p (if b_ref S.1 S.2.2.1 (m.drop 1) txs = 21 then p_askm S.1 S.2.2.2.1 else p_vd (b_ref S.1 S.2.2.1 (m.drop 1) txs) (b_hs ((m.drop 1).take 80))))) := Or.inr (Or.inl ⟨hu, Or.inl ⟨txs, ⟨hl, hty⟩, Or.inl ⟨c, rfl⟩⟩⟩)
      refine jT_neg (by omega) (jT_pos c (z11_157s C2 hp nm2 (fun w H' c' g' => hk nb os _ H' st ?_ (jgx_trans gT2 g')) fun w H' c' g' => hk nb os _ H' st ?_ (jgx_trans gT2 g')))
      · rw [if_pos w]
        exact c'
      · rw [if_neg w]
        exact c'
  · have C1 := s_cls_gx hC s1 g1 fun a j w => Or.inr (Or.inl (by have := s_Th3 w; omega))
    have gB : jgx s_TG 77 800 H0 H1 := jgx_mono g1 (fun a j _ w => Or.inl (by have := s_Th3 w; omega)) (Nat.le_refl _) (Nat.le_refl _)
    exact jT_neg (fun w => w rfl) (z11_157n C1 hp fun H' c' g' => hk _ _ _ H' (Or.inr (Or.inl ⟨hu, Or.inr ⟨hno, rfl⟩⟩)) c' (jgx_trans gB g'))
end BK11W
