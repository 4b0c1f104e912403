/-! The class takes a message: what is quiet, and a transaction. -/
def s_TG : Nat → Nat → Prop := fun a _ => (32 ≤ a ∧ a < 421) ∨ 422 ≤ a
def s_qt : Nat → Nat → Prop := fun a j => (a = 32 ∧ j ≠ 1 ∧ j ≠ 3) ∨ (42 ≤ a ∧ a < 50) ∨ (402 < a ∧ a < 409)
section QT
variable {nb : Nat} {os : List Nat} {S : s_S} {tp kn : List UInt8} {ki : Int32} {T : Nat → Nat → Prop} {c s : Nat} {H H' : jH}
theorem b_CS_mz {bs : List b_k} {W : Nat → Nat} {bad : Nat → Bool} {tip : Nat} (h : b_CS nb bs os W bad tip H) (hs0 : jsh H) (hn : nb ≤ jn H) (hg : jgx T c s H H') (hT : ∀ a j, T a j → a < 392 ∨ (402 < a ∧ a < 409) ∨ (413 < a ∧ a < 422)) (hM : b_MZ H') : b_CS nb bs os W bad tip H' := by
  have h513 : 422 ≤ jn H := hs0.2.2.2.2.1
  obtain ⟨h1, h2, h3, h4, h5, h6, h7, h8, h9, h10⟩ := h
  have hk : jkp nb H H' := jkp_gx hg hn h513 fun a j w => by have := hT a j w; omega
  have hkn : jkp (jn H) H H' := jkp_gx hg (Nat.le_refl _) h513 fun a j w => by have := hT a j w; omega
  have eI : ∀ a j, 398 ≤ a → a ≤ 400 → jI H' a j = jI H a j ∧ jR H' a j = jR H a j := fun a j q1 q2 => ⟨jgx_I hg (by omega) fun w => by have := hT a j w; omega, jgx_R hg (by omega) fun w => by have := hT a j w; omega⟩
  refine ⟨h1, b_BC_kp h2 hk (eI 398 4 (by decide) (by decide)).1 fun k => (eI 399 k (by decide) (by decide)).2, ⟨h3.1, (eI 398 6 (by decide) (by decide)).2.trans h3.2.1, fun g hg2 => (eI 400 g (by decide) (by decide)).2.trans (h3.2.2 g hg2)⟩, b_wk_kp h4 h2 hk, fun k hk2 => ?_, h6, h7, (eI 398 5 (by decide) (by decide)).1.trans h8, b_KA_kp hs0 h9 hkn fun a j q1 q2 => ⟨jgx_I hg (by omega) fun w => by have := hT a j w; omega, jgx_L hg (by omega) fun w => by have := hT a j w; omega, jgx_R hg (by omega) fun w => by have := hT a j w; omega⟩, hM⟩
  have hd := (h2.2.2.2.2 k hk2).2.1.2.1
  unfold b_dy at hd
  exact (jgx_I hg (by omega) fun w => by have := hT _ _ w; omega).trans (h5 k hk2)
theorem zRow_gx {r p : Nat} {l : List UInt8} (h : zRow H r p l) (hg : jgx T c s H H') (hr : r < jn H) (hT : ∀ j, ¬ T r j) : zRow H' r p l := zRow_eq h fun i _ => jgx_B hg hr (hT _)
/-- what the class is stays while something quiet is done -/
theorem s_cls_gx (h : s_cls nb os S tp kn ki H) (hs : jsh H') (hg : jgx T c s H H') (hT : ∀ a j, T a j → s_qt a j) : s_cls nb os S tp kn ki H' := by
  obtain ⟨h1, h2, h3, h4, h5, ⟨h6, h7, h8⟩, h9, h10, h11⟩ := h
  have h513 : 422 ≤ jn H := h1.2.2.2.2.1
  have u : ∀ a j, T a j → (a = 32 ∧ j ≠ 1 ∧ j ≠ 3) ∨ (42 ≤ a ∧ a < 50) ∨ (402 < a ∧ a < 409) := hT
  exact ⟨hs, b_CS_gx h2 h1 hs h5 hg fun a j w => by have := u a j w; omega, p_PA_gx h3 h1 hg fun a j w => by have := u a j w; omega, p_b11_gx h4 hg h513 fun a j w => by have := u a j w; omega, Nat.le_trans h5 hg.1, ⟨(jgx_I hg (by omega) fun w => by have := u _ _ w; omega).trans h6, h7, zRow_gx h8 hg (by omega) fun j w => by have := u _ _ w; omega⟩, zRow_gx h9 hg (by omega) fun j w => by have := u _ _ w; omega, h10, (jgx_I hg (by omega) fun w => by have := u _ _ w; omega).trans h11⟩
theorem s_zTS11 {a j : Nat} (w : zTS11 a j) : (a = 32 ∧ j = 8) ∨ (36 ≤ a ∧ a ≤ 42) := by
  rcases w with (w | w) | w | w <;> omega
theorem s_TS_TG {a j : Nat} (w : zTS11 a j) : s_TG a j := Or.inl (by have := s_zTS11 w; omega)
/-- boxes are written -/
theorem s_cls_bx {b : Nat → List UInt8} (h : s_cls nb os S tp kn ki H) (hs : jsh H') (hf : jfr zTS11 H H') (hb : p_b11 b H') : s_cls nb os (s_bx S b) tp kn ki H' := by
  obtain ⟨h1, h2, h3, h4, h5, ⟨h6, h7, h8⟩, h9, h10, h11⟩ := h
  have u : ∀ a j, zTS11 a j → (a = 32 ∧ j = 8) ∨ (36 ≤ a ∧ a ≤ 42) := fun a j w => s_zTS11 w
  refine ⟨hs, b_CS_gx h2 h1 hs h5 (jgx_fr hf) fun a j w => by have := u a j w; omega, p_PA_gx h3 h1 (jgx_fr hf) fun a j w => by have := u a j w; omega, hb, by rw [hf.2.1]; exact h5, ⟨(jfr_I hf fun w => by have := u _ _ w; omega).trans h6, h7, zRow_eq h8 fun i _ => jfr_B hf fun w => by have := u _ _ w; omega⟩, zRow_eq h9 fun i _ => jfr_B hf fun w => by have := u _ _ w; omega, h10, (jfr_I hf fun w => by have := u _ _ w; omega).trans h11⟩
end QT
theorem jfr_TG {T : Nat → Nat → Prop} {H H' : jH} (hf : jfr T H H') (hT : ∀ a j, T a j → s_TG a j) : jgx s_TG 0 0 H H' := jgx_mono (jgx_fr hf) (fun a j _ w => hT a j w) (Nat.le_refl _) (Nat.le_refl _)
/-- the height and the place of the tip's object -/
theorem s_tip11 {nb : Nat} {os : List Nat} {S : s_S} {tp kn : List UInt8} {ki : Int32} {H : jH} (h : s_cls nb os S tp kn ki H) : jR H 398 6 = b_o os S.2.2.2.1 ∧ (jK H (b_o os S.2.2.2.1)).1 = 0 ∧ jI H (b_o os S.2.2.2.1) 6 = Int32.ofNat (b_ht S.1 S.2.2.2.1) ∧ 410 ≤ b_o os S.2.2.2.1 := by
  obtain ⟨h1, ⟨-, hB, ⟨hl, h6, -⟩, -⟩, -⟩ := h
  obtain ⟨-, hbx⟩ := hB.2.2.2.2 _ hl
  exact ⟨h6, hbx.1.1, hbx.1.2.2.2.1, (b_o_pos h1 hB hl).1⟩
section TX11
variable {α : Type} {R : α → jH → Prop} {k : Unit → jH → Option (α × jH)} {nb : Nat} {os : List Nat} {S : s_S} {tp kn m : List UInt8} {ki : Int32} {H0 : jH} {p r : Nat}
theorem s_drop_row {H : jH} {r q : Nat} {m : List UInt8} (hz : zRow H r q m) (n : Nat) : zRow H r (q + n) (m.drop n) := fun i u hi => by
  rw [List.getElem?_drop] at hi
  have := hz _ _ hi
  rwa [show q + (n + i) = q + n + i by omega] at this
/-- the verdict that it's no message -/
theorem s_no11 (hC : s_cls nb os S tp kn ki H0) (hp : p < 4) (hk : ∀ H', s_cls nb os (s_no p S) tp kn ki H' → jgx s_TG 0 0 H0 H' → jT (k () H') R) : jT (jb (F_11_answerVerdict 32 (Int32.ofNat p) 1 0 H0) k) R :=
  p_verd11 hC.1 hp hC.2.2.2.1 (Or.inl ⟨rfl, rfl⟩) fun H' s' b' f' => hk H' (s_cls_bx hC s' f' b') (jfr_TG f' fun a j w => s_TS_TG w)
theorem z11_tx (hC : s_cls nb os S tp kn ki H0) (hP : s_pur S) (hp : p < 4) (hr : jK H0 r = (101, m.length)) (hr5 : 422 ≤ r) (hz : zRow H0 r 0 m) (hm : m.length ≤ 2000) (hm1 : 1 ≤ m.length) (hu : (m.getD 0 0).toNat = 1)
    (hk : ∀ S' H', s_step p m S S' → s_cls nb os S' tp kn ki H' → jgx s_TG 6 56 H0 H' → jT (k () H') R) : jT (jb (F_11_takeTransaction 32 (Int32.ofNat p) r H0) k) R := by
  have hs := hC.1
  have h513 : 422 ≤ jn H0 := hs.2.2.2.2.1
  have hrn : r < jn H0 := j_old hs hr (by decide)
  have hzd : zRow H0 r 1 (m.drop 1) := by
    have := s_drop_row hz 1
    rwa [Nat.zero_add] at this
  have ld : (m.drop 1).length = m.length - 1 := List.length_drop ..
  unfold F_11_takeTransaction
  refine jT_b (jT_b (jT_imp (z10_read (b := jB H0 r) (s := 1) hs hr hrn (by omega) hm1 rfl) fun o H1 q => ?_))
  obtain ⟨s1, g1, q⟩ := q
  have C1 : s_cls nb os S tp kn ki H1 := s_cls_gx hC s1 g1 fun a j w => absurd w id
  have gT1 : jgx s_TG 6 56 H0 H1 := jgx_mono g1 (fun a j _ w => absurd w id) (Nat.le_refl _) (Nat.le_refl _)
  have k11 : (jK H1 32).1 = 11 := gT (sK_32 s1)
  have no : (∀ y, ¬ w_ty (m.drop 1) y) → jT (B_11_takeTransaction_21 32 (Int32.ofNat p) H1) (fun x h => jT (k x h) R) := fun hn => by
    unfold B_11_takeTransaction_21
    refine jT_g k11 ?_
    exact s_no11 (k := fun _ h2 => some ((), h2)) C1 hp fun H' c' g' => jT_ret (hk _ H' (Or.inl ⟨hu, Or.inr ⟨hn, rfl⟩⟩) c' (jgx_trans gT1 g'))
  have ty : ∀ y, w_ty (m.drop 1) y → ztx (jB H0 r) 1 m.length = some (zshx 1 y) := fun y hy => ztx_ty hy (fun i u hi => hzd i u hi) (by omega)
  rcases q with ⟨x, ex, rfl, zx⟩ | ⟨ex, rfl⟩
  · obtain ⟨y, e2, e3, e4, e5⟩ := w_own hm1 (by omega) ex
    rw [e2] at zx ex
    have zx0 := zx
    obtain ⟨a1, a2, a3, a4, a5, a6, -, -, -, -, -, -, -, -, a15⟩ := zx
    generalize ho : jn H0 = o at *
    have ey : (zshx 1 y).2.2 - 1 = y.2.2 := Nat.add_sub_cancel_left _ _
    rw [ey] at a4
    have kr1 : jK H1 r = (101, m.length) := by rw [jgx_K g1 (by omega)]; exact hr
    have e1 : (1 : Int32) + Int32.ofNat y.2.2 = Int32.ofNat (1 + y.2.2) := jo_add (a := 1)
    refine jT_neg (by omega) (jT_g a1 (jT_g (by rw [kr1]) ?_))
    rw [a4, kr1, e1]
    by_cases c : 1 + y.2.2 = m.length
    · have etb : zcut (jB H0 r) 1 y.2.2 = m.drop 1 := p_cut_row hzd (by omega)
      rw [etb] at e3 e5
      refine jT_pos (by rw [c]) (jT_g k11 (jT_g a1 (jT_g a1 (jT_g (by rw [sR_32_9 s1, sK_43 s1]) ?_))))
      rw [sR_32_9 s1, a5]
      refine jT_b (z3_name r m.length 1 y.2.2 (o + 1) 32 (by omega) (by omega) (by omega) ⟨Nat.le_refl _, by decide⟩ (by omega) H1 s1 kr1 a6 fun H2 s2 f2 v2 => ?_)
      have eB1 : jB H1 r = jB H0 r := funext fun j => jgx_B g1 (by omega) id
      have eB2 : jB H2 r = jB H0 r := by rw [← eB1]; exact funext fun j => jfr_B f2 (by omega)
      have wx : w_x o r 1 m.length (m.drop 1) y (b_hs (m.drop 1)) H2 := by
        have hzz : zTx10 o r m.length 1 (jB H2 r) (zshx 1 y) H2 := by
          rw [eB2]
          refine zTx10_eq zx0 (f2.2.1) (fun a ha => jfr_K f2 a) fun a ha q => ?_
          obtain ⟨z1, z2, z3, z4⟩ := f2.2.2.2 a q (by omega)
          exact ⟨z1, z2, z3⟩
        have := w_x_of (nm := b_hs (m.drop 1)) hzz (by rw [eB2, etb]; exact e3) ((jfr_K f2 r).trans kr1) (by omega) (by omega) h513 hr5 (fun q u hq => ?_) b_hs_len
        · rw [eB2, etb] at this
          exact this
        · obtain ⟨q1, q2⟩ := b_hs_at hq
          rw [Nat.zero_add, q2, v2 q q1, e5]
          refine congrFun (znm_eq fun k hk => ?_) q
          rw [eB1, ← hzd k _ (getD_of (by omega))]
      have C2 : s_cls nb os S tp kn ki H2 := s_cls_gx hC s2 (jgx_trans (S := fun a j => (42 ≤ a ∧ a < 50) ∨ (a = o + 1)) (jgx_mono g1 (fun a j _ w => absurd w id) (Nat.le_refl _) (Nat.le_refl _)) (jgx_mono (jgx_fr f2) (fun a j _ w => by show _ ∨ _; omega) (Nat.le_refl _) (Nat.le_refl _)) |> fun g => jgx_mono (S' := fun a j => 42 ≤ a ∧ a < 50) g (fun a j h w => by rcases w with w | w; exact w; omega) (Nat.le_refl _) (Nat.le_refl _)) fun a j w => Or.inr (Or.inl w)
      have gT2 : jgx s_TG 6 56 H0 H2 := jgx_mono (jgx_trans gT1 (jgx_mono (S' := s_TG) (jgx_fr f2) (fun a j _ w => by show _ ∨ _; omega) (Nat.le_refl _) (Nat.le_refl _))) (fun a j _ w => w) (by omega) (by omega)
      obtain ⟨t1, t2, t3, t4⟩ := s_tip11 C2
      have k11b : (jK H2 32).1 = 11 := gT (sK_32 s2)
      obtain ⟨-, c2, c3, c4, c5, ⟨c6, c7, c8⟩, c9, c10, c11⟩ := C2
      have hall := hP.2.2.2.2.2.2.2.1
      have e6 : Int32.ofNat (b_ht S.1 S.2.2.2.1) + 1 = Int32.ofNat (b_ht S.1 S.2.2.2.1 + 1) := jo_add (b := 1)
      refine jT_g k11b (jT_g k11b (jT_g (by rw [sR_32_12 s2, sK_398 s2]) (jT_g (by rw [sR_32_12 s2, t1]; exact t2) (jT_g (by rw [sR_32_13 s2, sK_414 s2]) ?_))))
      rw [sR_32_12 s2, sR_32_13 s2, t1, t3, e6]
      refine z6_offer (x := (b_hs (m.drop 1), m.drop 1, y)) (ps := S.2.2.2.2.1) (cs := (b_co S.1 S.2.2.2.1 (b_ht S.1 S.2.2.2.1)).1) (sent := true) s2 hall.1 hall.2.1 e3 wx c2.2.2.2.2.2.2.2.2.1.1 c3 c2.2.2.2.2.2.2.2.2.2 fun H3 s3 f3 M3 A3 => ?_
      have ko3 : (jK H3 o).1 = 10 := by rw [jfr_K f3, jfr_K f2]; exact a1
      have k11c : (jK H3 32).1 = 11 := gT (sK_32 s3)
      have uTO : ∀ a j, p_TO a j → (43 ≤ a ∧ a ≤ 391) ∨ (414 ≤ a ∧ a ≤ 420) := fun a j w => by unfold p_TO at w; omega
      have r3 : jR H3 o 3 = o + 1 := (jfr_R f3 (fun w => by have := uTO _ _ w; omega)).trans ((jfr_R f2 (by omega)).trans a5)
      have kn3 : jK H3 (o + 1) = (101, 32) := by rw [jfr_K f3, jfr_K f2]; exact a6
      have zn3 : zRow H3 (o + 1) 0 (b_hs (m.drop 1)) := fun q u hq => by
        obtain ⟨q1, q2⟩ := b_hs_at hq
        rw [jfr_B f3 (fun w => by have := uTO _ _ w; omega), Nat.zero_add, q2, v2 q q1, e5]
        refine congrFun (znm_eq fun k hk => ?_) q
        rw [eB1, ← hzd k _ (getD_of (by omega))]
      have C3 : s_cls nb os (S.1, S.2.1, S.2.2.1, S.2.2.2.1, (s_of S (m.drop 1) y).2, S.2.2.2.2.2) tp kn ki H3 :=
        ⟨s3, b_CS_mz c2 s2 c5 (jgx_fr f3) (fun a j w => by have := uTO _ _ w; omega) M3, A3, p_b11_gx c4 (jgx_fr f3) s2.2.2.2.2.1 (fun a j w => by have := uTO _ _ w; omega), by rw [f3.2.1]; exact c5, ⟨(jfr_I f3 fun w => by have := uTO _ _ w; omega).trans c6, c7, zRow_eq c8 fun i _ => jfr_B f3 fun w => by have := uTO _ _ w; omega⟩, zRow_eq c9 fun i _ => jfr_B f3 fun w => by have := uTO _ _ w; omega, c10, (jfr_I f3 fun w => by have := uTO _ _ w; omega).trans c11⟩
      have gT3 : jgx s_TG 6 56 H0 H3 := jgx_trans gT2 (jfr_TG f3 fun a j w => by have := uTO _ _ w; show _ ∨ _; omega)
      have st : s_step p m S (s_tx p S (m.drop 1) y) := Or.inl ⟨hu, Or.inl ⟨y, e3, rfl⟩⟩
      refine jT_g ko3 (jT_g k11c ?_)
      rw [r3]
      show jT (jb (F_11_answerVerdict 32 (Int32.ofNat p) (s_of S (m.drop 1) y).1 (o + 1) H3) _) _
      refine p_verd11 s3 hp C3.2.2.2.1 (Or.inr ⟨by omega, by omega, by omega, kn3, zn3, b_hs_len⟩) fun H4 s4 b4 f4 => ?_
      have C4 := s_cls_bx C3 s4 f4 b4
      have gT4 := jgx_trans gT3 (jfr_TG f4 fun a j w => s_TS_TG w)
      unfold B_11_takeTransaction_95
      by_cases cv : (s_of S (m.drop 1) y).1 = 0
      · have k4 : (jK H4 o).1 = 10 := by rw [jfr_K f4]; exact ko3
        have r4 : jR H4 o 3 = o + 1 := (jfr_R f4 (fun w => by have := s_zTS11 w; omega)).trans r3
        refine jT_neg (fun w => w cv) (jT_g k4 (jT_g (gT (sK_32 s4)) ?_))
        rw [r4]
        refine p_oth11 s4 hp b4 ⟨by omega, by omega⟩ ((jfr_K f4 _).trans kn3) (zRow_eq zn3 fun i _ => jfr_B f4 fun w => by have := s_zTS11 w; omega) b_hs_len fun H5 s5 b5 f5 => jT_ret (hk _ H5 st ?_ (jgx_trans gT4 (jfr_TG f5 fun a j w => s_TS_TG w)))
        have := s_cls_bx C4 s5 f5 b5
        unfold s_tx s_txb
        rw [if_pos cv]
        exact this
      · refine jT_pos cv (jT_ret (hk _ H4 st ?_ gT4))
        unfold s_tx s_txb
        rw [if_neg cv]
        exact C4
    · refine jT_neg (by rw [jo_eq (by omega) (by omega)]; exact c) (no fun y' hy' => ?_)
      have := ty y' hy'
      rw [ex] at this
      have e := congrArg (fun w : List (Nat × Nat) × List (Nat × Nat) × Nat => w.2.2) (Option.some.inj this)
      have e' : 1 + y.2.2 = 1 + y'.2.2 := e
      have := hy'.2.1
      omega
  · exact jT_pos rfl (no fun y' hy' => by rw [ty y' hy'] at ex; cases ex)
end TX11
