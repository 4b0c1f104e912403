/-! A block comes to the reference: what it is refused for. -/
def b_ref2 (bs : List b_k) (bad : Nat → Bool) (by_ : List UInt8) (txs : List b_t) (p : Nat) : Int32 :=
  if bad p = true then 22 else if b_b4 by_ ≠ b_mst bs p then 23 else if b_t4 by_ ≤ b_mdn bs p then 24 else if b_tg (b_b4 by_) < b_nn (b_hs (by_.take 80)) then 25 else if b_shp txs = false then 26 else if b_rtd by_ txs = false then 27 else if b_flf 0 txs = true then 28 else if 300 ≤ bs.length then 30 else 0
def b_ref (bs : List b_k) (bad : Nat → Bool) (by_ : List UInt8) (txs : List b_t) : Int32 :=
  if b_kn bs (b_hs (by_.take 80)) ≠ none then 20 else
  match b_kn bs (w_sl by_ 4 32) with
  | none => 21
  | some p => b_ref2 bs bad by_ txs p
def b_Tax : Nat → Nat → Prop := fun a j => b_S18 a j ∨ (423 ≤ a ∧ a ≤ 426) ∨ a = 507 ∨ a = 508 ∨ a = 480 ∨ (452 ≤ a ∧ a ≤ 455)
section AR18
variable {Q : Int32 → jH → Prop} {H0 : jH} {bs : List b_k} {by_ : List UInt8} {txs : List b_t} {bad : Nat → Bool}
theorem y18_arrives (hs : jsh H0) (hw : b_wf bs) (hbk : b_bok bs) (hT : b_T bs H0) (hD : b_D bs H0) (hfl : b_fl16 bs.length bad H0) (hmd : ∀ p, p < bs.length → b_mdn bs p < 4294967296) (hz : zRow H0 506 1 by_) (hlay : b_lay by_ txs) (hty : ∀ x ∈ txs, w_ty x.2.1 x.2.2 ∧ x.1 = b_hs x.2.1)
    (hk0 : ∀ H', jsh H' → jfr b_Tax H0 H' → Q (b_ref bs bad by_ txs) H')
    (hk1 : ∀ p H', b_kn bs (w_sl by_ 4 32) = some p → b_ref bs bad by_ txs = 0 → jsh H' → jfr b_Tax H0 H' → b_tp by_ txs H' → zRow H' 507 0 (b_hs (by_.take 80)) → (∀ t x, txs[t]? = some x → zRow H' 480 (32 * t) x.1) → jT (jb (F_16_add 445 (Int32.ofNat p) (Int64.ofNat (b_t4 by_)) (Int64.ofNat (b_b4 by_)) H') fun x43 h44 => F_18_arrives_206 jfuel 421 (Int32.ofNat by_.length) x43 0 h44) Q) : jT (F_18_arrives 421 (Int32.ofNat by_.length) H0) Q := by
  have l300 := hw.2.1
  have hll := b_lay_len hlay
  obtain ⟨b81, b1999, b12, b80, bfl⟩ := hlay
  have k18 : ∀ {H}, jsh H → (jK H 421).1 = 18 := fun hs => gT (sK_421 hs)
  have k16 : ∀ {H}, jsh H → (jK H 445).1 = 16 := fun hs => gT (sK_445 hs)
  have hty' : ∀ x ∈ txs, w_ty x.2.1 x.2.2 := fun x hx => (hty x hx).1
  have hb : ∀ i, i < by_.length → jB H0 506 (1 + i) = by_.getD i 0 := fun i hi => hz i _ (getD_of hi)
  have e81 : (jB H0 506 (1 + 80)).toNat = txs.length := by rw [hb 80 (by omega)]; exact b80
  have hprs := b_prs_of (b := jB H0 506) (e := 1 + by_.length) (txs := txs) (s := 82) hty' (fun i u hi => by
    have hi2 := hi
    rw [← bfl, List.getElem?_drop] at hi2
    rw [show 82 + i = 1 + (81 + i) by omega]
    exact hz _ u hi2) (by omega)
  have hblk : b_blk (jB H0 506) 1 by_.length (b_pl 82 txs) := by
    refine ⟨b81, by rw [e81]; exact b12, by rw [e81]; exact b_pl_len, ?_⟩
    rw [e81]
    show b_prs (jB H0 506) (1 + by_.length) txs.length 82 = some (b_pl 82 txs, 1 + by_.length)
    rw [hprs, show 82 + b_tot txs = 1 + by_.length by omega]
  unfold F_18_arrives
  rw [sR_421_47 hs]
  refine jT_g (k18 hs) (jT_g (k18 hs) ?_)
  refine b_open18 (at_ := 1) (n := by_.length) hs (by decide) (by decide) (sK_506 hs) (by decide) (by omega) (fun l H1 bl s1 f1 v14 v81 vl => ?_) (fun H1 h0 => absurd hblk (h0 _))
  have el : l = b_pl 82 txs := by
    have h1 := bl.2.2.2
    have h2 := hblk.2.2.2
    rw [h1] at h2
    exact congrArg Prod.fst (Option.some.inj h2)
  subst el
  rw [b_pl_len] at v14 vl
  have tp1 : b_tp by_ txs H1 := by
    refine ⟨zRow_eq hz fun i _ => jfr_B f1 (by unfold b_S18; omega), ⟨b81, b1999, b12, b80, bfl⟩, hty', v14, fun t ht => ?_⟩
    by_cases ct : t < txs.length
    · exact v81 t _ (b_pl_at (List.getElem?_eq_getElem ct))
    · obtain rfl : t = txs.length := by omega
      rw [vl, List.take_of_length_le (Nat.le_refl _), show 82 + b_tot txs = 1 + by_.length by omega]
  have f1' : jfr b_Tax H0 H1 := jfr_mono f1 fun a j w => Or.inl w
  rw [sR_421_0 s1, sR_421_47 s1, sR_421_49 s1]
  refine jT_pos (by decide) (jT_g (k18 s1) (jT_g (k18 s1) (jT_g (k18 s1) (jT_g (by rw [sK_422 s1]) (jT_b ?_)))))
  refine z12_name (at_ := 1) (n := 80) (len := 2000) (pl := 0) (len4 := 32) (by decide) (by decide) (by decide) (sK_506 s1) (by decide) (by decide) (sK_507 s1) s1 fun H2 s2 f2 v2 => ?_
  have f2' : jfr b_Tax H0 H2 := jfr_trans f1' (jfr_mono f2 fun a j w => by unfold b_Tax; omega)
  have tp2 : b_tp by_ txs H2 := b_tp_fr tp1 f2 fun a j w => by omega
  have l80 : (by_.take 80).length = 80 := by rw [List.length_take]; omega
  have zn2 : zRow H2 507 0 (b_hs (by_.take 80)) := fun i u hi => by
    obtain ⟨q1, q2⟩ := b_hs_at hi
    rw [q2, v2 i q1, l80]
    refine congrFun (znm_eq fun k hk => ?_) i
    have := tp1.1 k _ (getD_of (l := by_) (by omega))
    rw [this, List.getD_eq_getElem?_getD, List.getD_eq_getElem?_getD, List.getElem?_take, if_pos hk]
  have nTT : ∀ a j, b_Tax a j → (a < 445 ∨ 450 ≤ a) ∨ (a = 445 ∧ j ≠ 1) := fun a j w => by unfold b_Tax b_S18 at w; omega
  have nTD : ∀ a j, b_Tax a j → a ≠ 474 ∧ a ≠ 475 ∧ a ≠ 476 ∧ a ≠ 479 := fun a j w => by unfold b_Tax b_S18 at w; omega
  have T2 := b_T_fr hT f2' nTT
  have D2 := b_D_fr hD f2' nTD
  rw [sR_421_49 s2]
  refine jT_g (k18 s2) (jT_g (k18 s2) (jT_b (jT_eq (b_known (p := 0) hw s2 T2 D2 (sK_507 s2) (by decide) (by decide) zn2 b_hs_len) (jT_ret ?_))))
  unfold b_ref at hk0 hk1
  cases hkn : b_kn bs (b_hs (by_.take 80)) with
  | some q =>
    rw [hkn, if_pos (fun w => by cases w)] at hk0
    have hq300 : q < bs.length := (b_kn_some hkn).1
    exact jT_neg (by show ¬ Int32.ofNat q < Int32.ofNat 0; rw [jo_lt (by omega) (by decide)]; omega) (jT_ret (hk0 H2 s2 f2'))
  | none =>
    rw [hkn, if_neg (fun w => w rfl)] at hk0 hk1
    rw [sR_421_47 s2]
    have z5 : zRow H2 506 5 (w_sl by_ 4 32) := w_sl_row tp2.1 rfl
    refine jT_pos (by decide) (jT_g (k18 s2) (jT_g (k18 s2) (jT_b (jT_eq (b_known (p := 5) hw s2 T2 D2 (sK_506 s2) (by decide) (by decide) z5 (w_sl_len (by omega))) (jT_ret ?_)))))
    cases hkp : b_kn bs (w_sl by_ 4 32) with
    | none =>
      rw [hkp] at hk0
      exact jT_neg (by decide) (jT_ret (hk0 H2 s2 f2'))
    | some p =>
      rw [hkp] at hk0 hk1
      have hp : p < bs.length := (b_kn_some hkp).1
      have hp3 := b_ht_300 hw hp
      have fl2 : jI H2 450 p = if bad p = true then 1 else 0 := (jfr_I f2' (by unfold b_Tax b_S18; omega)).trans (hfl p hp)
      rw [sR_421_3 s2]
      refine jT_pos (by show Int32.ofNat 0 ≤ Int32.ofNat p; rw [jo_le (by decide) (by omega)]; omega) (jT_g (k18 s2) (jT_g (k16 s2) (jT_b (jT_eq (b_look4 hw s2 T2 hp) (jT_ret ?_)))))
      rw [fl2]
      replace hk0 : ∀ H', jsh H' → jfr b_Tax H0 H' → Q (b_ref2 bs bad by_ txs p) H' := hk0
      have hk2 := fun H' (h : b_ref2 bs bad by_ txs p = 0) => hk1 p H' rfl h
      clear hk1
      unfold b_ref2 at hk0 hk2
      cases hbp : bad p with
      | true =>
        rw [hbp, if_pos rfl] at hk0
        exact jT_neg (by decide) (jT_ret (hk0 H2 s2 f2'))
      | false =>
        rw [hbp, if_neg (show ¬ (false = true) by decide)] at hk0
        refine jT_pos (by decide) (jT_g (k18 s2) (jT_b (jT_eq (y18_head (a := 72) s2 tp2.1 (by omega) b1999) (jT_ret (jT_g (k18 s2) (jT_b (jT_eq (y18_head (a := 68) s2 tp2.1 (by omega) b1999) (jT_ret ?_))))))))
        rw [hbp, if_neg (show ¬ (false = true) by decide)] at hk2
        have b4l : b_b4 by_ < 4294967296 := zho_lt _ _ 4
        have t4l : b_t4 by_ < 4294967296 := zho_lt _ _ 4
        obtain ⟨m1, m2, m3, m4⟩ := b_mst_ok hw hbk (p := p) (t := b_t4 by_) hp hp3 t4l
        have ml := b_bits_lt m1
        have mdl := hmd p hp
        rw [sR_421_3 s2]
        refine jT_g (k18 s2) (jT_g (k16 s2) (jT_b (y16_must hw hbk s2 T2 hp fun H3 s3 f3 => ?_)))
        have f3' : jfr b_Tax H0 H3 := jfr_trans f2' (jfr_mono f3 fun a j w => by unfold b_Tq3 at w; unfold b_Tax; omega)
        by_cases cb : b_b4 by_ = b_mst bs p
        · rw [if_neg (fun w => w cb)] at hk0 hk2
          refine jT_pos (congrArg Int64.ofNat cb) ?_
          rw [sR_421_3 s3]
          have T3 := b_T_fr hT f3' nTT
          refine jT_g (k18 s3) (jT_g (k16 s3) (jT_b (y16_median hw hbk s3 T3 hp fun H4 s4 f4 => ?_)))
          have f4' : jfr b_Tax H0 H4 := jfr_trans f3' (jfr_mono f4 fun a j w => by unfold b_T455 at w; unfold b_Tax; omega)
          by_cases ct : b_t4 by_ ≤ b_mdn bs p
          · rw [if_pos ct] at hk0
            exact jT_neg (by show ¬ Int64.ofNat (b_mdn bs p) < Int64.ofNat (b_t4 by_); rw [lo_lt (by omega) (by omega)]; omega) (jT_ret (hk0 H4 s4 f4'))
          · rw [if_neg ct] at hk0 hk2
            refine jT_pos (by show Int64.ofNat (b_mdn bs p) < Int64.ofNat (b_t4 by_); rw [lo_lt (by omega) (by omega)]; omega) ?_
            have f24 : jfr (fun a _ => 452 ≤ a ∧ a ≤ 455) H2 H4 := jfr_trans (jfr_mono f3 fun a j w => by unfold b_Tq3 at w; omega) (jfr_mono f4 fun a j w => by unfold b_T455 at w; omega)
            have zn4 : zRow H4 507 0 (b_hs (by_.take 80)) := zRow_eq zn2 fun i _ => jfr_B f24 (by omega)
            rw [cb] at hk0 hk2
            have hz4 : Int64.ofNat (zho (b_fn by_) (72 + 4) 4) = Int64.ofNat (b_mst bs p) := congrArg Int64.ofNat cb
            rw [hz4]
            refine jT_g (k18 s4) (jT_b (y18_isAbove s4 m1 m2 zn4 b_hs_len fun H5 s5 f5 => ?_))
            have f5' : jfr b_Tax H0 H5 := jfr_trans f4' (jfr_mono f5 fun a j w => by unfold b_Tq3 at w; unfold b_Tax; omega)
            have f25 : jfr (fun a _ => 452 ≤ a ∧ a ≤ 455) H2 H5 := jfr_trans f24 (jfr_mono f5 fun a j w => by unfold b_Tq3 at w; omega)
            by_cases cn : b_tg (b_mst bs p) < b_nn (b_hs (by_.take 80))
            · rw [if_pos cn] at hk0
              rw [if_pos cn]
              exact jT_neg (by decide) (jT_ret (hk0 H5 s5 f5'))
            · rw [if_neg cn] at hk0 hk2
              rw [if_neg cn]
              have tp5 : b_tp by_ txs H5 := b_tp_fr tp2 f25 fun a j w => by omega
              refine jT_pos rfl (jT_g (k18 s5) (jT_b (y18_isFramed s5 tp5 fun H6 s6 f6 => ?_)))
              have f6' : jfr b_Tax H0 H6 := jfr_trans f5' (jfr_mono f6 fun a j w => by unfold zS17 at w; unfold b_Tax b_S18; omega)
              have tp6 : b_tp by_ txs H6 := b_tp_fr tp5 f6 fun a j w => by unfold zS17 at w; omega
              cases cs : b_shp txs with
              | false =>
                rw [cs, if_pos rfl] at hk0
                exact jT_neg (fun w => w rfl) (jT_ret (hk0 H6 s6 f6'))
              | true =>
                rw [cs, if_neg (show ¬ (true = false) by decide)] at hk0 hk2
                have l1 : 1 ≤ txs.length := by
                  cases txs with
                  | nil => exact absurd cs (by decide)
                  | cons x r => exact Nat.succ_le_succ (Nat.zero_le _)
                refine jT_pos (by decide) (jT_g (k18 s6) (jT_b (y18_isRooted s6 tp6 (fun x hx => (hty x hx).2) l1 fun H7 s7 f7 n7 => ?_)))
                have f7' : jfr b_Tax H0 H7 := jfr_trans f6' (jfr_mono f7 fun a j w => by unfold b_Tq9 b_Tq8 at w; unfold b_Tax; omega)
                have tp7 : b_tp by_ txs H7 := b_tp_fr tp6 f7 fun a j w => by unfold b_Tq9 b_Tq8 at w; omega
                cases cr : b_rtd by_ txs with
                | false =>
                  rw [cr, if_pos rfl] at hk0
                  exact jT_neg (fun w => w rfl) (jT_ret (hk0 H7 s7 f7'))
                | true =>
                  rw [cr, if_neg (show ¬ (true = false) by decide)] at hk0 hk2
                  refine jT_pos (by decide) (jT_g (k18 s7) (jT_b (y18_isFaulty s7 tp7 fun H8 s8 f8 => ?_)))
                  have f8' : jfr b_Tax H0 H8 := jfr_trans f7' (jfr_mono f8 fun a j w => by unfold zS17 at w; unfold b_Tax b_S18; omega)
                  have tp8 : b_tp by_ txs H8 := b_tp_fr tp7 f8 fun a j w => by unfold zS17 at w; omega
                  cases cf : b_flf 0 txs with
                  | true =>
                    rw [cf, if_pos rfl] at hk0
                    exact jT_neg (by decide) (jT_ret (hk0 H8 s8 f8'))
                  | false =>
                    rw [cf, if_neg (show ¬ (false = true) by decide)] at hk0 hk2
                    have T8 := b_T_fr hT f8' nTT
                    have esz : F_16_size 445 H8 = some (Int32.ofNat bs.length, H8) := by
                      unfold F_16_size
                      rw [jg_t (k16 s8), T8.1]
                    rw [sR_421_3 s8, esz]
                    refine jT_pos (by decide) (jT_g (k18 s8) (jT_g (k16 s8) (jT_b (jT_ret ?_))))
                    by_cases cl : 300 ≤ bs.length
                    · rw [if_pos cl] at hk0
                      exact jT_neg (fun w => w ((jo_eq (b := 300) (by omega) (by decide)).mpr (by omega))) (jT_ret (hk0 H8 s8 f8'))
                    · rw [if_neg cl] at hk2
                      rw [sR_421_3 s8]
                      have h28 : jfr (fun a _ => (452 ≤ a ∧ a ≤ 464) ∨ (423 ≤ a ∧ a ≤ 426) ∨ a = 508 ∨ a = 480) H2 H8 := jfr_trans (jfr_trans (jfr_trans (jfr_mono f25 fun a j w => by omega) (jfr_mono f6 fun a j w => by unfold zS17 at w; omega)) (jfr_mono f7 fun a j w => by unfold b_Tq9 b_Tq8 at w; omega)) (jfr_mono f8 fun a j w => by unfold zS17 at w; omega)
                      exact jT_pos (fun w => absurd ((jo_eq (b := 300) (by omega) (by decide)).mp w) (by omega)) (jT_g (k18 s8) (jT_g (k16 s8) (hk2 H8 rfl s8 f8' tp8 (zRow_eq zn2 fun i _ => jfr_B h28 (by omega)) fun t x hx => zRow_eq (n7 t x hx) fun i _ => jfr_B f8 (by unfold zS17; omega))))
        · rw [if_pos cb] at hk0
          exact jT_neg (fun w => cb ((lo_inj (by omega) (by omega)).mp w)) (jT_ret (hk0 H3 s3 f3'))
end AR18
