/-! The class judges a block. -/
def b_FJ : Nat → Nat → Prop := fun a _ => 43 ≤ a ∧ a ≤ 397
/-- a block of the class: its height and its transactions -/
def b_bt (B h : Nat) (txs : List b_t) (H : jH) : Prop := (jK H B).1 = 0 ∧ 410 ≤ B ∧ jK H (jR H B 4) = (113, txs.length) ∧ 410 ≤ jR H B 4 ∧ jI H B 6 = Int32.ofNat h ∧ ∀ i x, txs[i]? = some x → ∃ row s len, w_x (jR H (jR H B 4) i) row s len x.2.1 x.2.2 x.1 H
theorem b_bt_fr {B h : Nat} {txs : List b_t} {T : Nat → Nat → Prop} {H H' : jH} (hb : b_bt B h txs H) (hf : jfr T H H') (hT : ∀ a j, T a j → a < 410 ∨ (414 ≤ a ∧ a < 422)) (hB : B < 414 ∨ 422 ≤ B) (hA : jR H B 4 < 414 ∨ 422 ≤ jR H B 4) : b_bt B h txs H' := by
  obtain ⟨b1, b2, b3, b4, b5, b6⟩ := hb
  have nB : ∀ j, ¬ T B j := fun j w => by have := hT B j w; omega
  have nA : ∀ j, ¬ T (jR H B 4) j := fun j w => by have := hT _ j w; omega
  have eA : jR H' B 4 = jR H B 4 := jfr_R hf (nB 4)
  refine ⟨by rw [jfr_K hf]; exact b1, b2, by rw [eA, jfr_K hf]; exact b3, by rw [eA]; exact b4, (jfr_I hf (nB 6)).trans b5, fun i x hx => ?_⟩
  obtain ⟨row, s, len, q⟩ := b6 i x hx
  rw [eA, jfr_R hf (nA i)]
  exact ⟨row, s, len, w_x_jfr q hf fun a j ha w => by have := hT a j w; omega⟩
noncomputable def b_fin (h : Nat) (txs : List b_t) (q : Int32 × b_st) : Int32 × b_st :=
  if q.1 = 0 then (if w_sum (txs.getD 0 ([], [], ([], [], 0))).2.1 (txs.getD 0 ([], [], ([], [], 0))).2.2 ≤ b_sub h + q.2.2.2.1 then (0, q.2) else (35, q.2)) else q
/-- the class's coins as they stand -/
def b_KA (cs : List w_cn) (m : Nat) (H : jH) : Prop := w_CA cs H ∧ jL H 392 5 = w_sumc cs ∧ jI H 392 4 = Int32.ofNat m ∧ m ≤ 3000
theorem w_M_q {st sd : w_R} {T : Nat → Nat → Prop} {H H' : jH} (h : w_M st sd H) (hs : jsh H') (hf : jfr T H H') (hT : ∀ a j, T a j → a ≤ 170 ∨ 390 ≤ a) : w_M st sd H' := by
  obtain ⟨a1, a2, a3, sp, a4⟩ := h
  have hh : ∀ S, zS3 S → ∀ a j, T a j → ¬ (a = S ∧ j = 2) ∧ ¬ (S + 1 ≤ a ∧ a ≤ S + 72) := fun S hS a j q => by
    have := hT _ _ q
    unfold zS3 at hS
    omega
  exact ⟨hs, zStk_fr a2 hf (hh _ zS171), zStk_fr a3 hf (hh _ zS244), sp, zStk_fr a4 hf (hh _ zS317)⟩
section JU2
variable {Q : Int32 → jH → Prop} {B h : Nat} {txs : List b_t} {Hs : jH}
theorem b_KA_fr {cs : List w_cn} {m : Nat} {T : Nat → Nat → Prop} {H H' : jH} (h : b_KA cs m H) (hf : jfr T H H') (hT : ∀ a j, T a j → a < 392 ∨ (a = 392 ∧ j = 8) ∨ (396 ≤ a ∧ a < 422)) : b_KA cs m H' := by
  obtain ⟨h1, h2, h3, h4⟩ := h
  exact ⟨w_CA_fr h1 hf hT, (jfr_L hf fun w => by have := hT _ _ w; omega).trans h2, (jfr_I hf fun w => by have := hT _ _ w; omega).trans h3, h4⟩
theorem z2_jud11 (hb : b_bt B h txs Hs) (hh : h < 300) (hB : B < 414 ∨ 422 ≤ B) (hA : jR Hs B 4 < 414 ∨ 422 ≤ jR Hs B 4) (htl : txs.length ≤ 12) (q0 : Int32 × b_st)
    (hk : ∀ H', jsh H' → jfr b_FJ Hs H' → (∃ st sd, w_M st sd H') → zBase H' → ((b_fin h txs q0).1 = 0 → b_KA (b_fin h txs q0).2.1 (b_fin h txs q0).2.2.1 H') → Q (b_fin h txs q0).1 H') (hne : txs ≠ []) :
    ∀ (r : List b_t) (i fu : Nat) (rt : Bool) (S : b_st) (H : jH), txs.drop i = r → i + r.length = txs.length → r.length < fu → (rt = true ↔ i = 0) → b_toks rt r → jsh H → jfr b_FJ Hs H → (∃ st sd, w_M st sd H) → zBase H → b_KA S.1 S.2.1 H → jI H 49 7 = Int32.ofNat 24 → jI H 49 6 = Int32.ofNat (24 - S.2.2.2) → S.2.2.2 ≤ 24 → b_seq h rt r S = q0 → jT (F_2_judge_11 fu 392 B 49 S.2.2.1 (Int32.ofNat i) H) Q := by
  have nT : ∀ a j, b_FJ a j → a < 410 ∨ (414 ≤ a ∧ a < 422) := fun a j w => by unfold b_FJ at w; omega
  have hA4 : 410 ≤ jR Hs B 4 := hb.2.2.2.1
  have hB4 : 410 ≤ B := hb.2.1
  intro r
  induction r with
  | nil =>
    intro i fu rt S H hd hi hfu hrt htok hs hfr hM hz hK h7 h6 hl hq
    obtain ⟨fu, rfl⟩ : ∃ k, fu = k + 1 := ⟨fu - 1, by omega⟩
    have hq' : (0, S) = q0 := hq
    subst hq'
    have nA : ∀ j, ¬ b_FJ (jR Hs B 4) j := fun j w => by unfold b_FJ at w; omega
    have nB : ∀ j, ¬ b_FJ B j := fun j w => by unfold b_FJ at w; omega
    obtain ⟨b1, b2, b3, b4, b5, b6⟩ := b_bt_fr hb hfr nT hB hA
    obtain ⟨x0, tr, ex⟩ : ∃ x0 tr, txs = x0 :: tr := by
      cases txs with
      | nil => exact absurd rfl hne
      | cons x0 tr => exact ⟨x0, tr, rfl⟩
    have ei : i = txs.length := by
      have : i + 0 = txs.length := hi
      omega
    have l1 : 1 ≤ txs.length := by rw [ex]; exact Nat.succ_le_succ (Nat.zero_le _)
    obtain ⟨row, s, len, hx⟩ := b6 0 x0 (by rw [ex]; rfl)
    have eg : txs.getD 0 ([], [], ([], [], 0)) = x0 := by rw [ex]; rfl
    have sum0 : jL H (jR H (jR H B 4) 0) 6 = w_sum x0.2.1 x0.2.2 := hx.2.2.2.2.2.2.2.2.1
    have hk' := hk H hs hfr hM hz
    unfold b_fin at hk'
    rw [if_pos rfl, eg] at hk'
    have e32 : Int32.ofNat h / 32 = Int32.ofNat (h / 32) := jo_div (a := h) (b := 32) (by omega) (by decide)
    have fin : jT (B_2_judge_188 B S.2.2.1 (b_sub h) H) Q := by
      unfold B_2_judge_188 B_2_judge_220 B_2_judge_221
      rw [b3]
      refine jT_g b1 (jT_g rfl (jT_neg ?_ (jT_g b1 (jT_g ⟨rfl, ?_⟩ (jT_g hx.1.1 ?_)))))
      · show ¬ Int32.ofNat txs.length ≤ Int32.ofNat 0
        rw [jo_le (by omega) (by decide)]
        omega
      · show jin (Int32.ofNat 0) txs.length
        exact jo_in (by decide) (by omega)
      · show jT (if jL H (jR H (jR H B 4) 0) 6 ≤ b_sub h + S.2.2.1 then _ else _) Q
        rw [sum0]
        by_cases c : w_sum x0.2.1 x0.2.2 ≤ b_sub h + S.2.2.1
        · rw [if_pos c] at hk' ⊢
          exact jT_ret (hk' fun _ => hK)
        · rw [if_neg c] at hk' ⊢
          exact jT_ret (hk' fun w => absurd (show (35 : Int32) = 0 from w) (by decide))
    unfold F_2_judge_11 B_2_judge_11
    rw [b3, b5, e32]
    refine jT_g b1 (jT_g rfl (jT_pos (by show Int32.ofNat txs.length ≤ Int32.ofNat i; rw [jo_le (by omega) (by omega)]; omega) (jT_g b1 (jT_g (by decide) (jT_l (jT_pos ?_ fin))))))
    show Int32.ofNat (h / 32) ≤ Int32.ofNat 62
    rw [jo_le (by omega) (by decide)]
    omega
  | cons x r ih =>
    intro i fu rt S H hd hi hfu hrt htok hs hfr hM hz hK h7 h6 hl hq
    obtain ⟨fu, rfl⟩ : ∃ k, fu = k + 1 := ⟨fu - 1, by omega⟩
    have hi' : i + (r.length + 1) = txs.length := hi
    have hfu' : r.length + 1 < fu + 1 := hfu
    obtain ⟨tok, toks⟩ := htok
    have ex : txs[i]? = some x := by
      have : (txs.drop i)[0]? = some x := by rw [hd]; rfl
      rwa [List.getElem?_drop, Nat.add_zero] at this
    have hd' : txs.drop (i + 1) = r := by
      rw [← List.drop_drop, hd]
      rfl
    have sp := ztx_spec tok.2.1.1
    have l8 : x.2.2.1.length ≤ 8 := sp.1
    obtain ⟨b1, b2, b3, b4, b5, b6⟩ := b_bt_fr hb hfr nT hB hA
    obtain ⟨row, s, len, hx⟩ := b6 i x ex
    have e1 : Int32.ofNat i + 1 = Int32.ofNat (i + 1) := jo_add (a := i) (b := 1)
    obtain ⟨o, eo⟩ : ∃ o, o = jR H (jR H B 4) i := ⟨_, rfl⟩
    rw [← eo] at hx
    -- a fault ends it
    have fault : ∀ (v : Int32) (H1 : jH), v ≠ 0 → b_one h rt x S = (v, S) → jsh H1 → jfr b_FJ Hs H1 → (∃ st sd, w_M st sd H1) → zBase H1 → Q v H1 := fun v H1 hv h1 g1 g2 g3 g4 => by
      have hq1 := hq
      unfold b_seq at hq1
      rw [h1, if_neg hv] at hq1
      have hk' := hk H1 g1 g2 g3 g4
      unfold b_fin at hk'
      rw [← hq1, if_neg hv] at hk'
      exact hk' fun w => absurd w hv
    -- what is made
    have tail : ∀ (H1 : jH) (l' : Nat), jsh H1 → jfr b_FJ Hs H1 → (∃ st sd, w_M st sd H1) → zBase H1 → b_KA S.1 S.2.1 H1 → jI H1 49 7 = Int32.ofNat 24 → jI H1 49 6 = Int32.ofNat (24 - l') → l' ≤ 24 → (rt = false → jL H1 392 8 = w_tot S.1 x.2.1 x.2.2 x.2.2.1.length) → (rt = false → ∀ i, i < x.2.2.1.length → w_cf S.1 x.2.1 x.2.2 i ≠ none) →
        (b_one h rt x S = if b_mk S.1 x (b_nin rt x) S.2.1 = 0 then (0, b_nxt h rt x S l') else (b_mk S.1 x (b_nin rt x) S.2.1, S)) → jT (B_2_judge_82 (F_2_judge_11 fu) 392 B 49 S.2.2.1 (Int32.ofNat i) o 0 H1) Q := by
      intro H1 l' s1 f1 M1 z1 K1 h71 h61 hl1 htot hall hone
      obtain ⟨c1, c2, c3, c4, c5, c6⟩ := b_bt_fr hb f1 nT hB hA
      have hxs : ∃ row s len, w_x o row s len x.2.1 x.2.2 x.1 H1 := by
        obtain ⟨row1, q1, q2, hx1⟩ := c6 i x ex
        have : jR H1 (jR H1 B 4) i = o := by
          rw [eo, jfr_R f1 (a := B) fun w => by unfold b_FJ at w; omega, jfr_R f1 fun w => by unfold b_FJ at w; omega, jfr_R hfr (a := B) fun w => by unfold b_FJ at w; omega, jfr_R hfr fun w => by unfold b_FJ at w; omega]
        rw [this] at hx1
        exact ⟨row1, q1, q2, hx1⟩
      obtain ⟨row1, s1', len1, hx1⟩ := hxs
      have k10 : (jK H1 o).1 = 10 := hx1.1.1
      have k2 : (jK H1 392).1 = 2 := gT (sK_392 s1)
      have mk : ∀ v : Int32, v = b_mk S.1 x (b_nin rt x) S.2.1 → jT (B_2_judge_110 (F_2_judge_11 fu) 392 B 49 S.2.2.1 (Int32.ofNat i) o v H1) Q := by
        intro v hv
        unfold B_2_judge_110
        by_cases c : v = 0
        · have hmk0 : b_mk S.1 x (b_nin rt x) S.2.1 = 0 := by rw [← hv]; exact c
          rw [if_pos hmk0] at hone
          obtain ⟨p1, p2, p3⟩ := b_chg_ok (h := h) tok K1.1.2.1 K1.2.2.2 rfl hall hmk0
          refine jT_pos c ?_
          have hq1 := hq
          unfold b_seq at hq1
          rw [hone, if_pos rfl] at hq1
          have go : ∀ (g : Int64) (a3 : Int32), g = (b_nxt h rt x S l').2.2.1 → a3 = (if rt = true then 1 else 0) → jT (B_2_judge_153 (F_2_judge_11 fu) 392 B 49 g (Int32.ofNat i) 392 o (Int32.ofNat h) a3 H1) Q := fun g a3 eg ea => by
            unfold B_2_judge_153
            refine jT_g k2 (z2_change rt ea tok.2.1 s1 hx1 K1.1 K1.2.1 K1.2.2.1 p1 fun H2 s2 f2 A2 v5 v4 => jT_l ?_)
            rw [e1, eg]
            have f2' : jfr b_FJ Hs H2 := jfr_trans f1 (jfr_mono f2 fun a j w => by unfold w_T3c at w; unfold b_FJ; omega)
            refine ih (i + 1) fu false (b_nxt h rt x S l') H2 hd' (by omega) (by omega) ⟨fun w => (by cases w), fun w => absurd w (Nat.succ_ne_zero i)⟩ toks s2 f2' ?_ ?_ ⟨A2, v5, v4, p2⟩ ?_ ?_ hl1 hq1
            · obtain ⟨st, sd, m⟩ := M1
              exact ⟨st, sd, w_M_q m s2 f2 fun a j w => by unfold w_T3c at w; omega⟩
            · exact zBase_T z1 f2 fun a j w => by unfold w_T3c at w; omega
            · exact (jfr_I f2 (by unfold w_T3c; omega)).trans h71
            · exact (jfr_I f2 (by unfold w_T3c; omega)).trans h61
          unfold B_2_judge_136
          rw [c5]
          cases rt with
          | true =>
            have i0 : i = 0 := hrt.mp rfl
            subst i0
            exact jT_pos (by decide) (jT_g c1 (jT_neg (fun w => w rfl) (go _ 1 rfl rfl)))
          | false =>
            have i0 : i ≠ 0 := fun w => by have := hrt.mpr w; cases this
            have hne0 : ¬ Int32.ofNat i = 0 := fun w => i0 ((jo_eq (a := i) (b := 0) (by omega) (by decide)).mp w)
            have esum : jL H1 o 6 = w_sum x.2.1 x.2.2 := hx1.2.2.2.2.2.2.2.2.1
            rw [htot rfl, esum]
            exact jT_neg (by show ¬ Int32.ofNat i ≤ Int32.ofNat 0; rw [jo_le (by omega) (by decide)]; omega) (jT_g k2 (jT_g k10 (jT_l (jT_g c1 (jT_pos hne0 (go _ 0 rfl rfl))))))
        · rw [if_neg (by rw [← hv]; exact c)] at hone
          rw [← hv] at hone
          exact jT_neg c (jT_ret (fault v H1 c hone s1 f1 M1 z1))
      have mk2 : ∀ d : Int32, d = Int32.ofNat (b_nin rt x) → jT (B_2_judge_105 (F_2_judge_11 fu) 392 B 49 S.2.2.1 (Int32.ofNat i) o 392 o d H1) Q := by
        intro d ed
        subst ed
        unfold B_2_judge_105
        refine jT_g k2 (z2_making s1 tok.2.1 hx1 K1.1 K1.2.2.1 (fun e => mk 36 ?_) fun e => mk _ ?_)
        · unfold b_mk
          rw [b_pos e]
        · unfold b_mk
          rw [b_neg fun ⟨j, h1, h2⟩ => h2 (e j h1)]
      unfold B_2_judge_82
      refine jT_neg (fun w => w rfl) ?_
      cases rt with
      | true =>
        have i0 : i = 0 := hrt.mp rfl
        subst i0
        exact jT_neg (fun w => w rfl) (mk2 0 rfl)
      | false =>
        have i0 : i ≠ 0 := fun w => by have := hrt.mpr w; cases this
        have hne0 : ¬ Int32.ofNat i = 0 := fun w => i0 ((jo_eq (a := i) (b := 0) (by omega) (by decide)).mp w)
        rw [hx1.2.1.2.2.1, hx1.2.1.2.2.2.1]
        exact jT_pos hne0 (jT_g k10 (jT_g rfl (mk2 _ rfl)))
    unfold F_2_judge_11 B_2_judge_11
    rw [b3, b5, jo_nat (n := i) (by omega), ← eo]
    refine jT_g b1 (jT_g rfl (jT_neg (by show ¬ Int32.ofNat txs.length ≤ Int32.ofNat i; rw [jo_le (by omega) (by omega)]; omega) (jT_g b1 (jT_g ⟨rfl, jo_in (by omega) (by show i < txs.length; omega)⟩ (jT_l ?_)))))
    have k2 : (jK H 392).1 = 2 := gT (sK_392 hs)
    cases rt with
    | true =>
      have i0 : i = 0 := hrt.mp rfl
      subst i0
      refine jT_neg (fun w => w rfl) ?_
      unfold B_2_judge_49
      refine jT_neg (fun w => w rfl) (jT_pos (by decide) (tail H S.2.2.2 hs hfr hM hz hK h7 h6 hl (fun w => by cases w) (fun w => by cases w) ?_))
      unfold b_one b_nin
      rw [if_pos rfl, if_pos rfl]
    | false =>
      have i0 : i ≠ 0 := fun w => by have := hrt.mpr w; cases this
      have hne0 : ¬ Int32.ofNat i = 0 := fun w => i0 ((jo_eq (a := i) (b := 0) (by omega) (by decide)).mp w)
      have hnle : ¬ Int32.ofNat i ≤ 0 := by
        show ¬ Int32.ofNat i ≤ Int32.ofNat 0
        rw [jo_le (by omega) (by decide)]
        omega
      refine jT_pos hne0 (jT_g b1 (jT_g k2 (z2_take hs tok.2.1 hx hK.1 fun v H1 hv s1 f1 h0 => ?_)))
      have ev := b_jgd_jd hv
      have f1' : jfr b_FJ Hs H1 := jfr_trans hfr (jfr_mono f1 fun a j w => by unfold w_T2 at w; unfold b_FJ; omega)
      have M1 : ∃ st sd, w_M st sd H1 := by
        obtain ⟨st, sd, m⟩ := hM
        exact ⟨st, sd, w_M_q m s1 f1 fun a j w => by unfold w_T2 at w; omega⟩
      have z1 : zBase H1 := zBase_T hz f1 fun a j w => by unfold w_T2 at w; omega
      have K1 : b_KA S.1 S.2.1 H1 := b_KA_fr hK f1 fun a j w => by unfold w_T2 at w; omega
      have h71 : jI H1 49 7 = Int32.ofNat 24 := (jfr_I f1 (by unfold w_T2; omega)).trans h7
      have h61 : jI H1 49 6 = Int32.ofNat (24 - S.2.2.2) := (jfr_I f1 (by unfold w_T2; omega)).trans h6
      unfold B_2_judge_49
      by_cases c : v = 0
      · subst c
        obtain ⟨t1, t2⟩ := h0 rfl
        have hx1 := w_x_jfr hx f1 fun a j ha w => by unfold w_T2 at w; omega
        have k21 : (jK H1 392).1 = 2 := gT (sK_392 s1)
        have J := w_J2_of (cs := S.1) s1 tok.2.1 hx1 t2
        rw [sR_392_6 s1, sR_392_7 s1]
        refine jT_neg (fun w => w rfl) (jT_neg hnle (jT_g k21 (jT_g k21 (jT_g (gT (sK_49 s1)) ?_))))
        refine z7_pass (mx := 24) (tn := 24 - S.2.2.2) (b_fit_ok) (by decide) ⟨M1, z1, h61, h71, J⟩ (by omega) (fun tn' H2 g1 g2 g3 g4 => ?_) fun H2 g2 g3 g4 g5 => ?_
        · rw [show 24 - (24 - S.2.2.2) = S.2.2.2 by omega] at g2
          obtain ⟨M2, z2, h62, h72, J2⟩ := g3
          refine jT_pos (by decide) ?_
          have s2 : jsh H2 := by obtain ⟨st, sd, m⟩ := M2; exact m.1
          refine tail H2 (24 - tn') s2 (jfr_trans f1' (jfr_mono g4 fun a j w => by unfold w_FC at w; unfold b_FJ; omega)) M2 z2 (b_KA_fr K1 g4 fun a j w => by unfold w_FC at w; omega) h72 (by rw [show 24 - (24 - tn') = tn' by omega]; exact h62) (by omega) (fun _ => (jfr_L g4 fun w => by unfold w_FC at w; omega).trans t1) (fun _ => b_jd_0 ev.symm) ?_
          unfold b_one b_nin b_scr
          rw [if_neg (by decide), if_pos ev.symm, g2]
          rfl
        · rw [show 24 - (24 - S.2.2.2) = S.2.2.2 by omega] at g2
          refine jT_neg (fun w => w rfl) ?_
          have s2 : jsh H2 := by obtain ⟨st, sd, m⟩ := g3; exact m.1
          unfold B_2_judge_82 B_2_judge_110
          refine jT_pos (by decide) (jT_neg (by decide) (jT_ret (fault 34 H2 (by decide) ?_ s2 (jfr_trans f1' (jfr_mono g5 fun a j w => by unfold w_FC at w; unfold b_FJ; omega)) g3 g4)))
          unfold b_one b_scr
          rw [if_neg (by decide), if_pos ev.symm, g2]
      · refine jT_pos c ?_
        unfold B_2_judge_82 B_2_judge_110
        refine jT_pos c (jT_neg c (jT_ret (fault v H1 c ?_ s1 f1' M1 z1)))
        unfold b_one
        rw [if_neg (by decide), if_neg (by rw [← ev]; exact c), ← ev]
/-- the class judges a block -/
theorem z2_judge {α : Type} {R : α → jH → Prop} {k : Int32 → jH → Option (α × jH)} {cs : List w_cn} {m : Nat} (hb : b_bt B h txs Hs) (hh : h < 300) (hB : B < 414 ∨ 422 ≤ B) (hA : jR Hs B 4 < 414 ∨ 422 ≤ jR Hs B 4) (htl : txs.length ≤ 12) (hne : txs ≠ []) (htok : b_toks true txs) (hs : jsh Hs) (hM : ∃ st sd, w_M st sd Hs) (hz : zBase Hs) (hK : b_KA cs m Hs)
    (hk : ∀ H', jsh H' → jfr b_FJ Hs H' → (∃ st sd, w_M st sd H') → zBase H' → ((b_all h txs cs m).1 = 0 → b_KA (b_all h txs cs m).2.1 (b_all h txs cs m).2.2.1 H') → jT (k (b_all h txs cs m).1 H') R) : jT (jb (F_2_judge 392 B 49 Hs) k) R := by
  unfold F_2_judge F_7_begin
  have k7 : (jK Hs 49).1 = 7 := gT (sK_49 hs)
  have f2 : jfr (fun a j => a = 49 ∧ (j = 6 ∨ j = 7)) Hs (jsI (jsI Hs 49 7 24) 49 6 0) := jfr_sI (jfr_sI jfr_refl ⟨rfl, Or.inr rfl⟩) ⟨rfl, Or.inl rfl⟩
  have s2 : jsh (jsI (jsI Hs 49 7 24) 49 6 0) := jsh_sI (jsh_sI hs (by decide)) (by decide)
  have v6 : jI (jsI (jsI Hs 49 7 24) 49 6 0) 49 6 = Int32.ofNat 0 := jI_sIe
  have v7 : jI (jsI (jsI Hs 49 7 24) 49 6 0) 49 7 = Int32.ofNat 24 := (jI_sIn (by decide)).trans jI_sIe
  refine jT_b (jT_g k7 (jT_b (jT_g k7 (jT_l (jT_g k7 (jT_l (jT_ret ?_)))))))
  generalize jsI (jsI Hs 49 7 24) 49 6 0 = H2 at f2 s2 v6 v7
  obtain ⟨st, sd, m0⟩ := hM
  refine z2_jud11 (Q := fun v H => jT (k v H) R) hb hh hB hA htl (b_seq h true txs (cs, m, 0, 24)) hk hne txs 0 jfuel true (cs, m, 0, 24) H2 rfl (Nat.zero_add _) (by unfold jfuel; omega) ⟨fun _ => rfl, fun _ => rfl⟩ htok s2 (jfr_mono f2 fun a j w => by unfold b_FJ; omega) ⟨st, sd, w_M_q m0 s2 f2 fun a j w => by omega⟩ (zBase_T hz f2 fun a j w => by omega) (b_KA_fr hK f2 fun a j w => by omega) v7 v6 (Nat.le_refl _) rfl
end JU2
