/-! A block comes to the reference: the answer, when it is refused only. -/
section AR18B
variable {Q : Int32 → jH → Prop} {H0 : jH} {bs : List b_k} {by_ : List UInt8} {txs : List b_t} {bad : Nat → Bool}
theorem y18_arr (hs : jsh H0) (hw : b_wf bs) (hbk : b_bok bs) (hT : b_T bs H0) (hD : b_D bs H0) (hfl : b_fl16 bs.length bad H0) (hmd : ∀ p, p < bs.length → b_mdn bs p < 4294967296) (hz : zRow H0 506 1 by_) (hlay : b_lay by_ txs) (hty : ∀ x ∈ txs, w_ty x.2.1 x.2.2 ∧ x.1 = b_hs x.2.1)
    (hk0 : b_ref bs bad by_ txs ≠ 0 → ∀ H', jsh H' → jfr b_Tax H0 H' → Q (b_ref bs bad by_ txs) H')
    (hk1 : ∀ p H', b_kn bs (w_sl by_ 4 32) = some p → b_ref bs bad by_ txs = 0 → jsh H' → jfr b_Tax H0 H' → b_tp by_ txs H' → zRow H' 507 0 (b_hs (by_.take 80)) → (∀ t x, txs[t]? = some x → zRow H' 480 (32 * t) x.1) → jT (jb (F_16_add 445 (Int32.ofNat p) (Int64.ofNat (b_t4 by_)) (Int64.ofNat (b_b4 by_)) H') fun x43 h44 => F_18_arrives_206 jfuel 421 (Int32.ofNat by_.length) x43 0 h44) Q) : jT (F_18_arrives 421 (Int32.ofNat by_.length) H0) Q := by
  have l300 := hw.2.1
  have hll := b_lay_len hlay
  obtain ⟨b81, b1999, b12, b80, bfl⟩ := hlay
  have k18 : ∀ {H}, jsh H → (jK H 421).1 = 18 := fun hs => gT (sK_421 hs)
  have k16 : ∀ {H}, jsh H → (jK H 445).1 = 16 := fun hs => gT (sK_445 hs)
  have hty' : ∀ x ∈ txs, w_ty x.2.1 x.2.2 := fun x hx => (hty x hx).1
  have hb : ∀ i, i < by_.length → jB H0 506 (1 + i) = by_.getD i 0 := fun i hi => hz i _ (getD_of hi)
  have e81 : (jB H0 506 (1 + 80)).toNat = txs.length := by rw [hb 80 (by omega)]; exact b80
  have hprs := b_prs_of (b := jB H0 506) (e := 1 + by_.length) (txs := txs) (s := 82) hty' (fun i u hi => by
    have hi2 := hi
    rw [← bfl, List.getElem?_drop] at hi2
    rw [show 82 + i = 1 + (81 + i) by omega]
    exact hz _ u hi2) (by omega)
  have hblk : b_blk (jB H0 506) 1 by_.length (b_pl 82 txs) := by
    refine ⟨b81, by rw [e81]; exact b12, by rw [e81]; exact b_pl_len, ?_⟩
    rw [e81]
    show b_prs (jB H0 506) (1 + by_.length) txs.length 82 = some (b_pl 82 txs, 1 + by_.length)
    rw [hprs, show 82 + b_tot txs = 1 + by_.length by omega]
  unfold F_18_arrives
  rw [sR_421_47 hs]
  refine jT_g (k18 hs) (jT_g (k18 hs) ?_)
  refine b_open18 (at_ := 1) (n := by_.length) hs (by decide) (by decide) (sK_506 hs) (by decide) (by omega) (fun l H1 bl s1 f1 v14 v81 vl => ?_) (fun H1 h0 => absurd hblk (h0 _))
  have el : l = b_pl 82 txs := by
    have h1 := bl.2.2.2
    have h2 := hblk.2.2.2
    rw [h1] at h2
    exact congrArg Prod.fst (Option.some.inj h2)
  subst el
  rw [b_pl_len] at v14 vl
  have tp1 : b_tp by_ txs H1 := by
    refine ⟨zRow_eq hz fun i _ => jfr_B f1 (by unfold b_S18; omega), ⟨b81, b1999, b12, b80, bfl⟩, hty', v14, fun t ht => ?_⟩
    by_cases ct : t < txs.length
    · exact v81 t _ (b_pl_at (List.getElem?_eq_getElem ct))
    · obtain rfl : t = txs.length := by omega
      rw [vl, List.take_of_length_le (Nat.le_refl _), show 82 + b_tot txs = 1 + by_.length by omega]
  have f1' : jfr b_Tax H0 H1 := jfr_mono f1 fun a j w => Or.inl w
  rw [sR_421_0 s1, sR_421_47 s1, sR_421_49 s1]
  refine jT_pos (by decide) (jT_g (k18 s1) (jT_g (k18 s1) (jT_g (k18 s1) (jT_g (by rw [sK_422 s1]) (jT_b ?_)))))
  refine z12_name (at_ := 1) (n := 80) (len := 2000) (pl := 0) (len4 := 32) (by decide) (by decide) (by decide) (sK_506 s1) (by decide) (by decide) (sK_507 s1) s1 fun H2 s2 f2 v2 => ?_
  have f2' : jfr b_Tax H0 H2 := jfr_trans f1' (jfr_mono f2 fun a j w => by unfold b_Tax; omega)
  have tp2 : b_tp by_ txs H2 := b_tp_fr tp1 f2 fun a j w => by omega
  have l80 : (by_.take 80).length = 80 := by rw [List.length_take]; omega
  have zn2 : zRow H2 507 0 (b_hs (by_.take 80)) := fun i u hi => by
    obtain ⟨q1, q2⟩ := b_hs_at hi
    rw [q2, v2 i q1, l80]
    refine congrFun (znm_eq fun k hk => ?_) i
    have := tp1.1 k _ (getD_of (l := by_) (by omega))
    rw [this, List.getD_eq_getElem?_getD, List.getD_eq_getElem?_getD, List.getElem?_take, if_pos hk]
  have nTT : ∀ a j, b_Tax a j → (a < 445 ∨ 450 ≤ a) ∨ (a = 445 ∧ j ≠ 1) := fun a j w => by unfold b_Tax b_S18 at w; omega
  have nTD : ∀ a j, b_Tax a j → a ≠ 474 ∧ a ≠ 475 ∧ a ≠ 476 ∧ a ≠ 479 := fun a j w => by unfold b_Tax b_S18 at w; omega
  have T2 := b_T_fr hT f2' nTT
  have D2 := b_D_fr hD f2' nTD
  rw [sR_421_49 s2]
  refine jT_g (k18 s2) (jT_g (k18 s2) (jT_b (jT_eq (b_known (p := 0) hw s2 T2 D2 (sK_507 s2) (by decide) (by decide) zn2 b_hs_len) (jT_ret ?_))))
  unfold b_ref at hk0 hk1
  cases hkn : b_kn bs (b_hs (by_.take 80)) with
  | some q =>
    rw [hkn, if_pos (fun w => by cases w)] at hk0
    have hq300 : q < bs.length := (b_kn_some hkn).1
    exact jT_neg (by show ¬ Int32.ofNat q < Int32.ofNat 0; rw [jo_lt (by omega) (by decide)]; omega) (jT_ret (hk0 (by decide) H2 s2 f2'))
  | none =>
    rw [hkn, if_neg (fun w => w rfl)] at hk0 hk1
    rw [sR_421_47 s2]
    have z5 : zRow H2 506 5 (w_sl by_ 4 32) := w_sl_row tp2.1 rfl
    refine jT_pos (by decide) (jT_g (k18 s2) (jT_g (k18 s2) (jT_b (jT_eq (b_known (p := 5) hw s2 T2 D2 (sK_506 s2) (by decide) (by decide) z5 (w_sl_len (by omega))) (jT_ret ?_)))))
    cases hkp : b_kn bs (w_sl by_ 4 32) with
    | none =>
      rw [hkp] at hk0
      exact jT_neg (by decide) (jT_ret (hk0 (show (21 : Int32) ≠ 0 by decide) H2 s2 f2'))
    | some p =>
      rw [hkp] at hk0 hk1
      have hp : p < bs.length := (b_kn_some hkp).1
      have hp3 := b_ht_300 hw hp
      have fl2 : jI H2 450 p = if bad p = true then 1 else 0 := (jfr_I f2' (by unfold b_Tax b_S18; omega)).trans (hfl p hp)
      rw [sR_421_3 s2]
      refine jT_pos (by show Int32.ofNat 0 ≤ Int32.ofNat p; rw [jo_le (by decide) (by omega)]; omega) (jT_g (k18 s2) (jT_g (k16 s2) (jT_b (jT_eq (b_look4 hw s2 T2 hp) (jT_ret ?_)))))
      rw [fl2]
      replace hk0 : b_ref2 bs bad by_ txs p ≠ 0 → ∀ H', jsh H' → jfr b_Tax H0 H' → Q (b_ref2 bs bad by_ txs p) H' := hk0
      have hk2 := fun H' (h : b_ref2 bs bad by_ txs p = 0) => hk1 p H' rfl h
      clear hk1
      unfold b_ref2 at hk0 hk2
      cases hbp : bad p with
      | true =>
        rw [hbp, if_pos rfl] at hk0
        exact jT_neg (by decide) (jT_ret (hk0 (by decide) H2 s2 f2'))
      | false =>
        rw [hbp, if_neg (show ¬ (false = true) by decide)] at hk0
        refine jT_pos (by decide) (jT_g (k18 s2) (jT_b (jT_eq (y18_head (a := 72) s2 tp2.1 (by omega) b1999) (jT_ret (jT_g (k18 s2) (jT_b (jT_eq (y18_head (a := 68) s2 tp2.1 (by omega) b1999) (jT_ret ?_))))))))
        rw [hbp, if_neg (show ¬ (false = true) by decide)] at hk2
        have b4l : b_b4 by_ < 4294967296 := zho_lt _ _ 4
        have t4l : b_t4 by_ < 4294967296 := zho_lt _ _ 4
        obtain ⟨m1, m2, m3, m4⟩ := b_mst_ok hw hbk (p := p) (t := b_t4 by_) hp hp3 t4l
        have ml := b_bits_lt m1
        have mdl := hmd p hp
        rw [sR_421_3 s2]
        refine jT_g (k18 s2) (jT_g (k16 s2) (jT_b (y16_must hw hbk s2 T2 hp fun H3 s3 f3 => ?_)))
        have f3' : jfr b_Tax H0 H3 := jfr_trans f2' (jfr_mono f3 fun a j w => by unfold b_Tq3 at w; unfold b_Tax; omega)
        by_cases cb : b_b4 by_ = b_mst bs p
        · rw [if_neg (fun w => w cb)] at hk0 hk2
          refine jT_pos (congrArg Int64.ofNat cb) ?_
          rw [sR_421_3 s3]
          have T3 := b_T_fr hT f3' nTT
          refine jT_g (k18 s3) (jT_g (k16 s3) (jT_b (y16_median hw hbk s3 T3 hp fun H4 s4 f4 => ?_)))
          have f4' : jfr b_Tax H0 H4 := jfr_trans f3' (jfr_mono f4 fun a j w => by unfold b_T455 at w; unfold b_Tax; omega)
          by_cases ct : b_t4 by_ ≤ b_mdn bs p
          · rw [if_pos ct] at hk0
            exact jT_neg (by show ¬ Int64.ofNat (b_mdn bs p) < Int64.ofNat (b_t4 by_); rw [lo_lt (by omega) (by omega)]; omega) (jT_ret (hk0 (by decide) H4 s4 f4'))
          · rw [if_neg ct] at hk0 hk2
            refine jT_pos (by show Int64.ofNat (b_mdn bs p) < Int64.ofNat (b_t4 by_); rw [lo_lt (by omega) (by omega)]; omega) ?_
            have f24 : jfr (fun a _ => 452 ≤ a ∧ a ≤ 455) H2 H4 := jfr_trans (jfr_mono f3 fun a j w => by unfold b_Tq3 at w; omega) (jfr_mono f4 fun a j w => by unfold b_T455 at w; omega)
            have zn4 : zRow H4 507 0 (b_hs (by_.take 80)) := zRow_eq zn2 fun i _ => jfr_B f24 (by omega)
            rw [cb] at hk0 hk2
            have hz4 : Int64.ofNat (zho (b_fn by_) (72 + 4) 4) = Int64.ofNat (b_mst bs p) := congrArg Int64.ofNat cb
            rw [hz4]
            refine jT_g (k18 s4) (jT_b (y18_isAbove s4 m1 m2 zn4 b_hs_len fun H5 s5 f5 => ?_))
            have f5' : jfr b_Tax H0 H5 := jfr_trans f4' (jfr_mono f5 fun a j w => by unfold b_Tq3 at w; unfold b_Tax; omega)
            have f25 : jfr (fun a _ => 452 ≤ a ∧ a ≤ 455) H2 H5 := jfr_trans f24 (jfr_mono f5 fun a j w => by unfold b_Tq3 at w; omega)
            by_cases cn : b_tg (b_mst bs p) < b_nn (b_hs (by_.take 80))
            · rw [if_pos cn] at hk0
              rw [if_pos cn]
              exact jT_neg (by decide) (jT_ret (hk0 (by decide) H5 s5 f5'))
            · rw [if_neg cn] at hk0 hk2
              rw [if_neg cn]
              have tp5 : b_tp by_ txs H5 := b_tp_fr tp2 f25 fun a j w => by omega
              refine jT_pos rfl (jT_g (k18 s5) (jT_b (y18_isFramed s5 tp5 fun H6 s6 f6 => ?_)))
              have f6' : jfr b_Tax H0 H6 := jfr_trans f5' (jfr_mono f6 fun a j w => by unfold zS17 at w; unfold b_Tax b_S18; omega)
              have tp6 : b_tp by_ txs H6 := b_tp_fr tp5 f6 fun a j w => by unfold zS17 at w; omega
              cases cs : b_shp txs with
              | false =>
                rw [cs, if_pos rfl] at hk0
                exact jT_neg (fun w => w rfl) (jT_ret (hk0 (by decide) H6 s6 f6'))
              | true =>
                rw [cs, if_neg (show ¬ (true = false) by decide)] at hk0 hk2
                have l1 : 1 ≤ txs.length := by
                  cases txs with
                  | nil => exact absurd cs (by decide)
                  | cons x r => exact Nat.succ_le_succ (Nat.zero_le _)
                refine jT_pos (by decide) (jT_g (k18 s6) (jT_b (y18_isRooted s6 tp6 (fun x hx => (hty x hx).2) l1 fun H7 s7 f7 n7 => ?_)))
                have f7' : jfr b_Tax H0 H7 := jfr_trans f6' (jfr_mono f7 fun a j w => by unfold b_Tq9 b_Tq8 at w; unfold b_Tax; omega)
                have tp7 : b_tp by_ txs H7 := b_tp_fr tp6 f7 fun a j w => by unfold b_Tq9 b_Tq8 at w; omega
                cases cr : b_rtd by_ txs with
                | false =>
                  rw [cr, if_pos rfl] at hk0
                  exact jT_neg (fun w => w rfl) (jT_ret (hk0 (by decide) H7 s7 f7'))
                | true =>
                  rw [cr, if_neg (show ¬ (true = false) by decide)] at hk0 hk2
                  refine jT_pos (by decide) (jT_g (k18 s7) (jT_b (y18_isFaulty s7 tp7 fun H8 s8 f8 => ?_)))
                  have f8' : jfr b_Tax H0 H8 := jfr_trans f7' (jfr_mono f8 fun a j w => by unfold zS17 at w; unfold b_Tax b_S18; omega)
                  have tp8 : b_tp by_ txs H8 := b_tp_fr tp7 f8 fun a j w => by unfold zS17 at w; omega
                  cases cf : b_flf 0 txs with
                  | true =>
                    rw [cf, if_pos rfl] at hk0
                    exact jT_neg (by decide) (jT_ret (hk0 (by decide) H8 s8 f8'))
                  | false =>
                    rw [cf, if_neg (show ¬ (false = true) by decide)] at hk0 hk2
                    have T8 := b_T_fr hT f8' nTT
                    have esz : F_16_size 445 H8 = some (Int32.ofNat bs.length, H8) := by
                      unfold F_16_size
                      rw [jg_t (k16 s8), T8.1]
                    rw [sR_421_3 s8, esz]
                    refine jT_pos (by decide) (jT_g (k18 s8) (jT_g (k16 s8) (jT_b (jT_ret ?_))))
                    by_cases cl : 300 ≤ bs.length
                    · rw [if_pos cl] at hk0
                      exact jT_neg (fun w => w ((jo_eq (b := 300) (by omega) (by decide)).mpr (by omega))) (jT_ret (hk0 (by decide) H8 s8 f8'))
                    · rw [if_neg cl] at hk2
                      rw [sR_421_3 s8]
                      have h28 : jfr (fun a _ => (452 ≤ a ∧ a ≤ 464) ∨ (423 ≤ a ∧ a ≤ 426) ∨ a = 508 ∨ a = 480) H2 H8 := jfr_trans (jfr_trans (jfr_trans (jfr_mono f25 fun a j w => by omega) (jfr_mono f6 fun a j w => by unfold zS17 at w; omega)) (jfr_mono f7 fun a j w => by unfold b_Tq9 b_Tq8 at w; omega)) (jfr_mono f8 fun a j w => by unfold zS17 at w; omega)
                      exact jT_pos (fun w => absurd ((jo_eq (b := 300) (by omega) (by decide)).mp w) (by omega)) (jT_g (k18 s8) (jT_g (k16 s8) (hk2 H8 rfl s8 f8' tp8 (zRow_eq zn2 fun i _ => jfr_B h28 (by omega)) fun t x hx => zRow_eq (n7 t x hx) fun i _ => jfr_B f8 (by unfold zS17; omega))))
        · rw [if_pos cb] at hk0
          exact jT_neg (fun w => cb ((lo_inj (by omega) (by omega)).mp w)) (jT_ret (hk0 (by decide) H3 s3 f3'))
end AR18B
section BK18W
variable {Q : Unit → jH → Prop} {S S' : s_S} {tp kn m : List UInt8} {ki : Int32} {H0 : jH} {p : Nat}
theorem s_c20 {code : Int32} (h : code = 0 ∨ 20 ≤ code) : (1 < code) ∨ (¬ 1 < code ∧ code = 0) := by
  rcases h with h | h
  · exact Or.inr ⟨by rw [h]; decide, h⟩
  · refine Or.inl ?_
    rw [Int32.lt_iff_toInt_lt]
    rw [Int32.le_iff_toInt_le] at h
    have e1 : (1 : Int32).toInt = 1 := by decide
    have e2 : (20 : Int32).toInt = 20 := by decide
    omega
theorem s_br {x24 : Int32} {code : Int32} {H : jH} (h : code = 0 ∨ 20 ≤ code) (hk : jT (B_18_message_89 421 (Int32.ofNat p) x24 code H) Q) : jT (if (1 : Int32) < code then B_18_message_89 421 (Int32.ofNat p) x24 code H else if ¬ (code : Int32) = 0 then B_18_message_108 421 (Int32.ofNat p) x24 code H else B_18_message_89 421 (Int32.ofNat p) x24 code H) Q := by
  rcases s_c20 h with c | ⟨c1, c2⟩
  · exact jT_pos c hk
  · exact jT_neg c1 (jT_neg (fun w => w c2) hk)
theorem s_c1 {code : Int32} (h : code = 0 ∨ 20 ≤ code) : code ≠ 1 := fun w => by
  rw [w] at h
  exact absurd h (by decide)
theorem y18_blk (hs : jsh H0) (hR : s_ref S tp kn ki H0) (hP : s_pur S) (hp : p < 4) (hz : zRow H0 506 0 m) (hm : m.length ≤ 2000) (hm1 : 1 ≤ m.length)
    (hst : (∃ txs, s_isb (m.drop 1) txs ∧ s_blk p S (m.drop 1) txs S') ∨ ((∀ txs, b_lay (m.drop 1) txs → (∀ x ∈ txs, w_ty x.2.1 x.2.2) → False) ∧ S' = s_no p S))
    (hk : ∀ H', jsh H' → jfr s_T18 H0 H' → s_ref S' tp kn ki H' → Q () H') :
    jT (jb (F_18_arrives 421 (Int32.ofNat m.length - 1) H0) fun x25 h26 => if (1 : Int32) < x25 then B_18_message_89 421 (Int32.ofNat p) (Int32.ofNat S.2.2.2.1) x25 h26 else if ¬ (x25 : Int32) = 0 then B_18_message_108 421 (Int32.ofNat p) (Int32.ofNat S.2.2.2.1) x25 h26 else B_18_message_89 421 (Int32.ofNat p) (Int32.ofNat S.2.2.2.1) x25 h26) Q := by
  have k18 : ∀ {H}, jsh H → (jK H 421).1 = 18 := fun hs => gT (sK_421 hs)
  have hzd : zRow H0 506 1 (m.drop 1) := by
    have := s_drop_row hz 1
    rwa [Nat.zero_add] at this
  have ld : (m.drop 1).length = m.length - 1 := List.length_drop ..
  have e1 : Int32.ofNat m.length - 1 = Int32.ofNat (m.length - 1) := jo_sub (b := 1) (by omega)
  have hR1 := hR.1
  obtain ⟨hw, hT, hD, hS, hfl, htl, h13, hri, h477, hlo, ⟨c, hC⟩, hp13⟩ := hR1
  have l300 := hw.2.1
  have t3 : S.2.2.2.1 < 300 := by omega
  rw [e1, ← ld]
  rcases hst with ⟨txs, hb, hst⟩ | ⟨hno, rfl⟩
  · have l81 := hb.1.1
    refine jT_b (y18_arr (by_ := m.drop 1) (txs := txs) hs hw hP.2.1 hT hD hfl (fun q hq => b_mdn_lt hw hP.2.1 hq) hzd hb.1 hb.2 (fun hne H1 s1 f1 => ?_) fun q H1 hq c0 s1 f1 tp1 n1 x1 => ?_)
    · have u1 : ∀ a j, b_Tax a j → (423 ≤ a ∧ a ≤ 426) ∨ (452 ≤ a ∧ a ≤ 464) ∨ a = 480 ∨ a = 481 ∨ a = 507 ∨ a = 508 ∨ (a = 421 ∧ j = 14) := fun a j w => by unfold b_Tax b_S18 at w; omega
      have R1 : s_ref S tp kn ki H1 := s_ref_qt hR f1 fun a j w => by have := u1 a j w; omega
      have F1 : jfr s_T18 H0 H1 := jfr_mono f1 fun a j w => by have := u1 a j w; show 421 ≤ a ∧ a ≤ 512; omega
      have z1 : zRow H1 506 1 (m.drop 1) := zRow_eq hzd fun i _ => jfr_B f1 fun w => by have := u1 _ _ w; omega
      rcases hst with ⟨-, rfl⟩ | ⟨c0, -⟩
      · refine s_br b_ref_1 (y18_89 s1 R1 hp t3 z1 (by omega) (by omega) (s_c1 b_ref_1) (fun e => ⟨rfl, fun H2 s2 f2 R2 => hk H2 s2 (jfr_trans F1 f2) ?_⟩) (fun e _ H2 s2 f2 R2 => hk H2 s2 (jfr_trans F1 f2) ?_) fun _ w => absurd rfl w)
        · rw [if_pos e]
          exact R2
        · rw [if_neg e]
          exact R2
      · exact absurd c0 hne
    · rcases hst with ⟨hne, -⟩ | ⟨-, q', hq', tip', bad', code, ps', hc, hpl, rfl⟩
      · exact absurd c0 hne
      · rw [hq] at hq'
        obtain rfl : q = q' := Option.some.inj hq'
        have u1 : ∀ a j, b_Tax a j → (423 ≤ a ∧ a ≤ 426) ∨ (452 ≤ a ∧ a ≤ 464) ∨ a = 480 ∨ a = 481 ∨ a = 507 ∨ a = 508 ∨ (a = 421 ∧ j = 14) := fun a j w => by unfold b_Tax b_S18 at w; omega
        have R1 : s_ref S tp kn ki H1 := s_ref_qt hR f1 fun a j w => by have := u1 a j w; omega
        have F1 : jfr s_T18 H0 H1 := jfr_mono f1 fun a j w => by have := u1 a j w; show 421 ≤ a ∧ a ≤ 512; omega
        have z1 : zRow H1 506 1 (m.drop 1) := tp1.1
        obtain ⟨ql, l3, bq, eb, hmd, ht, fl, nw, bk⟩ := s_nb_ok hP hb c0 hq
        have wb := s_wb hP hb c0 hq
        have hP' := hP
        obtain ⟨p1, p2, p3, p4, p5, p6, p7, p8, p9, p10, p11, p12⟩ := hP'
        have tk := b_toks_32 nw.2.2.2.2.2.1
        refine y18_store (b := s_nb S.1 (m.drop 1) txs q) s1 R1.1 p2 R1.2.1 nw p3 bq eb ht hmd (b_mdn_lt hw p2 ql) (p12 _ (Nat.le_refl _)) wb.2 p4 p5 p7 z1 n1 tp1.2.2.2.1 (fun t x hx => ⟨x1 t x hx, tk x (List.mem_of_getElem? hx)⟩) fun tip2 bad2 code2 H2 hc2 s2 f2 RS2 d1 d2 => ?_
        have hw' := b_wf_new p1 nw
        obtain ⟨rfl, rfl, rfl⟩ := b_cho_u hw' (by rw [b_len1]; omega) (by rw [b_len1]; omega) hc hc2
        have u2 : ∀ a j, (b_Tst S.1.length a j ∨ b_FE a j) → (423 ≤ a ∧ a ≤ 495) ∨ a = 507 ∨ (a = 421 ∧ (13 ≤ j ∧ j ≤ 28)) := fun a j w => by
          unfold b_Tst b_Tad b_Tj b_Tj51 b_Tq3 b_T455 b_Tar b_Tc b_FE b_FL at w
          omega
        have F2 : jfr s_T18 H0 H2 := jfr_trans F1 (jfr_mono f2 fun a j w => by have := u2 a j w; show 421 ≤ a ∧ a ≤ 512; omega)
        have h300 : jI H2 445 0 = 300 := (jfr_I f2 fun w => by unfold b_Tst b_Tad b_Tj b_Tj51 b_Tq3 b_T455 b_Tar b_Tc b_FE b_FL at w; omega).trans R1.2.1
        have B2 : p_PB S.2.2.2.2.1 H2 := p_PB_fr R1.2.2.1 f2 fun a j w => by have := u2 a j w; omega
        have z2 : zRow H2 506 1 (m.drop 1) := zRow_eq z1 fun i _ => jfr_B f2 fun w => by have := u2 _ _ w; omega
        have R2 : ∀ ps, p_PB ps H2 → s_ref (S.1 ++ [s_nb S.1 (m.drop 1) txs q], s_W S (m.drop 1) q, bad', tip', ps, S.2.2.2.2.2) tp kn ki H2 := fun ps hB => ⟨RS2, h300, hB, p_b18_fr R1.2.2.2.1 f2 (fun a j w => by have := u2 a j w; omega), ⟨(jfr_I f2 fun w => by have := u2 _ _ w; omega).trans R1.2.2.2.2.1.1, zRow_eq R1.2.2.2.2.1.2 fun i _ => jfr_B f2 fun w => by have := u2 _ _ w; omega⟩, zRow_eq R1.2.2.2.2.2.1 fun i _ => jfr_B f2 fun w => by have := u2 _ _ w; omega, (jfr_I f2 fun w => by have := u2 _ _ w; omega).trans R1.2.2.2.2.2.2⟩
        have c22 := b_cho_22 hc
        have c20 : code = 0 ∨ 20 ≤ code := by
          rcases c22 with w | w
          · exact Or.inl w
          · refine Or.inr ?_
            rw [Int32.le_iff_toInt_le] at w ⊢
            have e1 : (22 : Int32).toInt = 22 := by decide
            have e2 : (20 : Int32).toInt = 20 := by decide
            omega
        have n21 : code ≠ 21 := fun w => by rw [w] at c22; exact absurd c22 (by decide)
        have nl : S.1.length < (S.1 ++ [s_nb S.1 (m.drop 1) txs q]).length := by rw [b_len1]; omega
        have tl2 : tip' < (S.1 ++ [s_nb S.1 (m.drop 1) txs q]).length := RS2.2.2.2.2.2.1
        have tl3 : tip' < 300 := by rw [b_len1] at tl2; omega
        have e13 : jI H2 421 13 = Int32.ofNat tip' := RS2.2.2.2.2.2.2.1
        rw [e13]
        rcases hpl with ⟨et, rfl⟩ | ⟨et, f, hf, rfl⟩
        · refine jT_pos (by rw [et]) ?_
          rw [y18_code s2 hw' RS2.2.1 nl RS2.2.2.2.2.1 d1 d2]
          refine jT_ret (s_br c20 (y18_89 (S := (S.1 ++ [s_nb S.1 (m.drop 1) txs q], s_W S (m.drop 1) q, bad', tip', S.2.2.2.2.1, S.2.2.2.2.2)) s2 (R2 _ B2) hp t3 z2 (by omega) (by omega) (s_c1 c20) (fun w => absurd w n21) (fun _ _ H3 s3 f3 R3 => hk H3 s3 (jfr_trans F2 f3) ?_) fun _ w => absurd et w))
          unfold s_blb
          rw [if_pos et]
          exact R3
        · refine jT_neg (by rw [jo_eq (by omega) (by omega)]; exact et) (jT_g (k18 s2) ?_)
          have etn := (b_tip_n hc et).1
          have bok := p_bok_new p9 (b := s_nb S.1 (m.drop 1) txs q) (s_isb_tok hb)
          have bvn := p_bvn_new p10 (b := s_nb S.1 (m.drop 1) txs q) (b_flf_vn fl)
          obtain ⟨c', hC'⟩ := RS2.2.2.2.2.2.2.2.2.2.2.1
          refine y18_renew (tip := tip') (old := S.2.2.2.1) (f := f) p8 s2 hw' bok RS2.2.1 RS2.2.2.1 tl2 (by rw [b_len1]; omega) hf e13 RS2.2.2.2.2.2.2.2.1 hC' RS2.2.2.2.2.2.2.2.2.2.2.2 (p_co_vn hw' bvn tl2) B2 fun H3 s3 f3 C3 q3 B3 => ?_
          have u3 : ∀ a j, p_TR a j → (423 ≤ a ∧ a ≤ 444) ∨ (456 ≤ a ∧ a ≤ 473) ∨ a = 481 ∨ (482 ≤ a ∧ a ≤ 488) ∨ (496 ≤ a ∧ a ≤ 505) ∨ a = 507 ∨ (a = 421 ∧ (j = 14 ∨ j = 16 ∨ j = 17 ∨ j = 18 ∨ j = 36 ∨ (57 ≤ j ∧ j ≤ 60))) := fun a j w => by
            unfold p_TR p_TC b_FN at w
            omega
          have R3 := s_ref_ps (R2 _ B2) f3 (fun a j w => by have := u3 a j w; omega) ⟨_, C3⟩ q3 B3
          have F3 : jfr s_T18 H0 H3 := jfr_trans F2 (jfr_mono f3 fun a j w => by have := u3 a j w; show 421 ≤ a ∧ a ≤ 512; omega)
          have z3 : zRow H3 506 1 (m.drop 1) := zRow_eq z2 fun i _ => jfr_B f3 fun w => by have := u3 _ _ w; omega
          have RS3 := R3.1
          have e478 : jI H3 478 S.1.length = jI H2 478 S.1.length := jfr_I f3 fun w => by have := u3 _ _ w; omega
          rw [y18_code s3 hw' RS3.2.1 nl RS3.2.2.2.2.1 (fun e => by rw [e478]; exact d1 e) d2]
          have en : b_nm (S.1 ++ [s_nb S.1 (m.drop 1) txs q]) tip' = b_hs ((m.drop 1).take 80) := by
            rw [etn]
            unfold b_nm
            rw [b_g_new]
            rfl
          refine jT_ret (s_br c20 (y18_89 s3 R3 hp t3 z3 (by omega) (by omega) (s_c1 c20) (fun w => absurd w n21) (fun _ w => absurd w et) fun _ _ H4 s4 f4 R4 => hk H4 s4 (jfr_trans F3 f4) ?_))
          unfold s_blb
          rw [if_neg et]
          have R4' := R4
          rw [show b_nm (S.1 ++ [s_nb S.1 (m.drop 1) txs q], s_W S (m.drop 1) q, bad', tip', p_anew (Int32.ofNat (b_ht (S.1 ++ [s_nb S.1 (m.drop 1) txs q]) tip' + 1)) (b_co (S.1 ++ [s_nb S.1 (m.drop 1) txs q]) tip' (b_ht (S.1 ++ [s_nb S.1 (m.drop 1) txs q]) tip')).1 (S.1 ++ [s_nb S.1 (m.drop 1) txs q]) S.2.2.2.1 f S.2.2.2.2.1, S.2.2.2.2.2).1 tip' = b_hs ((m.drop 1).take 80) from en] at R4'
          exact R4'
  · unfold F_18_arrives
    rw [sR_421_47 hs]
    refine jT_b (jT_g (k18 hs) (jT_g (k18 hs) ?_))
    refine b_open18 (at_ := 1) (n := (m.drop 1).length) hs (by decide) (by decide) (sK_506 hs) (by decide) (by omega) (fun l H1 bl => ?_) fun H1 _ s1 f1 => ?_
    · obtain ⟨txs, h1, h2⟩ := b_blk_lay hzd (by omega) bl
      exact (hno txs h1 fun x hx => (h2 x hx).1).elim
    · have R1 : s_ref S tp kn ki H1 := s_ref_qt hR f1 fun a j w => by unfold b_S18 at w; omega
      have F1 : jfr s_T18 H0 H1 := jfr_mono f1 fun a j w => by unfold b_S18 at w; show 421 ≤ a ∧ a ≤ 512; omega
      refine jT_neg (fun w => w rfl) (jT_ret (jT_neg (by decide) (jT_pos (by decide) ?_)))
      unfold B_18_message_108
      refine jT_pos (by decide) (jT_g (k18 s1) (jT_g (k18 s1) ?_))
      exact s_no18 (o := 0) R1 s1 hp fun H2 s2 f2 R2 => y18_135 s2 R2 hp t3 (fun _ => hk H2 s2 (jfr_trans F1 (jfr_mono f2 fun a j w => s_TS_T18 w)) R2) fun w => absurd rfl w
end BK18W
