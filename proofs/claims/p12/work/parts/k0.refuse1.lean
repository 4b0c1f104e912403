/-! A block comes to the class: what it is refused for. -/
def b_Tf1 : Nat → Nat → Prop := fun a j => b_Trt a j ∨ a = 403 ∨ a = 404 ∨ a = 406
section RF1
variable {Q : Int32 → jH → Prop} {H0 : jH} {bs : List b_k} {os : List Nat} {by_ : List UInt8} {txs : List b_t} {bad : Nat → Bool} {nb0 B row len : Nat}
/-- from the parent on -/
theorem z1_refuse2 {p : Nat} (hs : jsh H0) (hw : b_wf bs) (hbk : b_bok bs) (hB : b_BC nb0 bs os H0) (hp : p < bs.length) (hmd : b_mdn bs p < 4294967296) (hlay : b_lay by_ txs) (hty : ∀ x ∈ txs, w_ty x.2.1 x.2.2) (hB5 : 422 ≤ B) (hrow : 422 ≤ row) (hlen : by_.length + 1 = len)
    (k0 : (jK H0 B).1 = 0) (r0 : jR H0 B 0 = row) (r1 : jR H0 B 1 = B + 1) (r4 : jR H0 B 4 = B + 4) (i2 : jI H0 B 2 = Int32.ofNat (b_b4 by_)) (l3 : jL H0 B 3 = Int64.ofNat (b_t4 by_)) (i6 : jI H0 B 6 = Int32.ofNat (b_ht bs p + 1)) (kn : jK H0 (B + 1) = (101, 32)) (kr : jK H0 row = (101, len)) (hz : zRow H0 row 1 by_) (hzn : zRow H0 (B + 1) 0 (b_hs (by_.take 80))) (htr : b_tr (B + 4) txs H0)
    (hk : ∀ H', jsh H' → jfr b_Tf1 H0 H' → Q (if b_b4 by_ ≠ b_mst bs p then 23 else if b_t4 by_ ≤ b_mdn bs p then 24 else if b_tg (b_b4 by_) < b_nn (b_hs (by_.take 80)) then 25 else if b_shp txs = false then 26 else if b_rtd by_ txs = false then 27 else if b_flf 0 txs = true then 28 else if 300 ≤ bs.length then 30 else 0) H') :
    jT (jg ((jK H0 B).1 = 0) (jg ((jK H0 398).1 = 1) (jb (F_1_bitsBehind 398 (b_o os p) H0) fun x7 h8 => if jI H0 B 2 = x7 then jg ((jK h8 B).1 = 0) (jg ((jK h8 398).1 = 1) (jb (F_1_median 398 (b_o os p) h8) fun x9 h10 => if x9 < jL h8 B 3 then jg ((jK h10 398).1 = 1) (jg ((jK h10 B).1 = 0) (jb (F_1_setTarget (jR h10 398 11) (jI h10 B 2) h10) fun _ h12 => jg ((jK h12 B).1 = 0) (jg ((jK h12 398).1 = 1) (jb (F_1_isAbove (jR h12 B 1) (jR h12 398 11) h12) fun x13 h14 => if x13 = 0 then jg ((jK h14 B).1 = 0) (jb (F_0_isShaped B h14) fun x15 h16 => if ¬ x15 = 0 then jg ((jK h16 398).1 = 1) (jg ((jK h16 398).1 = 1) (jg ((jK h16 398).1 = 1) (jg ((jK h16 B).1 = 0) (jb (F_0_isRooted B (jR h16 398 15) (jR h16 398 16) (jR h16 398 0) h16) fun x17 h18 => if ¬ x17 = 0 then jg ((jK h18 B).1 = 0) (jb (F_0_isFaulty B h18) fun x19 h20 => if x19 = 0 then jg ((jK h20 398).1 = 1) (if (300 : Int32) ≤ jI h20 398 4 then B_1_refusal_178 h20 else jg ((jK h20 B).1 = 0) (if jI h20 B 6 < (300 : Int32) then B_1_refusal_184 0 h20 else B_1_refusal_178 h20)) else some (28, h20)) else some (27, h18))))) else some (26, h16)) else some (25, h14))))) else some (24, h10))) else some (23, h8)))) Q := by
  have l300 := hw.2.1
  have hp3 := b_ht_300 hw hp
  have hle := b_ht_le hw hp
  have k1 : ∀ {H}, jsh H → (jK H 398).1 = 1 := fun hs => gT (sK_398 hs)
  have kB : ∀ {H}, jfr b_Tf1 H0 H → (jK H B).1 = 0 := fun hf => by rw [jfr_K hf]; exact k0
  have nT : ∀ a j, 422 ≤ a → ¬ b_Tf1 a j := fun a j q w => by unfold b_Tf1 b_Trt b_Th3 at w; omega
  have nBC : ∀ a j, b_Tf1 a j → a < 398 ∨ (a = 398 ∧ j ≠ 4) ∨ (399 < a ∧ a < 409) ∨ (413 < a ∧ a < 422) := fun a j w => by unfold b_Tf1 b_Trt b_Th3 at w; omega
  have b4l : b_b4 by_ < 4294967296 := zho_lt _ _ 4
  have t4l : b_t4 by_ < 4294967296 := zho_lt _ _ 4
  obtain ⟨m1, m2, m3, m4⟩ := b_mst_ok hw hbk (p := p) (t := b_t4 by_) hp hp3 t4l
  have ml := b_bits_lt m1
  refine jT_g k0 (jT_g (k1 hs) (z1_bitsBehind hw hbk hs hB hp fun H3 s3 f3 => ?_))
  have f3' : jfr b_Tf1 H0 H3 := jfr_mono f3 fun a j w => by unfold b_Tt at w; unfold b_Tf1; omega
  rw [i2]
  by_cases cb : b_b4 by_ = b_mst bs p
  · rw [if_neg (fun w => w cb)] at hk
    refine jT_pos (congrArg Int32.ofNat cb) (jT_g (kB f3') (jT_g (k1 s3) (z1_median hw hbk s3 (b_BC_fr hB f3' nBC) hp fun H4 s4 f4 => ?_)))
    have f4' : jfr b_Tf1 H0 H4 := jfr_trans f3' (jfr_mono f4 fun a j w => by unfold b_T406 at w; unfold b_Tf1; omega)
    rw [(jfr_L f3' (nT B 3 hB5)).trans l3]
    by_cases ct : b_t4 by_ ≤ b_mdn bs p
    · rw [if_pos ct] at hk
      exact jT_neg (by rw [lo_lt (by omega) (by omega)]; omega) (jT_ret (hk H4 s4 f4'))
    · rw [if_neg ct] at hk
      rw [sR_398_11 s4, (jfr_I f4' (nT B 2 hB5)).trans i2, cb]
      refine jT_pos (by rw [lo_lt (by omega) (by omega)]; omega) (jT_g (k1 s4) (jT_g (kB f4') (jT_b (z1_setTarget (sK_403 s4) (by decide) (by have := m1.1; omega) (by have := m1.2.1; omega) fun H5 f5 r5 => ?_))))
      have f5' : jfr b_Tf1 H0 H5 := jfr_trans f4' (jfr_mono f5 fun a j w => by unfold b_Ta at w; unfold b_Tf1; omega)
      have s5 : jsh H5 := jsh_lo s4 f5 fun a j w => by unfold b_Ta at w; omega
      have ltg : b_tg (b_mst bs p) < 256 ^ 32 := Nat.lt_of_le_of_lt m2 b_lim_lt.1
      rw [sR_398_11 s5, (jfr_R f5' (nT B 1 hB5)).trans r1, z1_isAbove (by rw [jfr_K f5']; exact kn) (sK_403 s5) (zRow_eq hzn fun i _ => jfr_B f5' (nT _ _ (by omega))) b_hs_len r5 ltg]
      rw [cb] at hk
      refine jT_g (kB f5') (jT_g (k1 s5) (jT_b (jT_ret ?_)))
      have tr5 : b_tr (B + 4) txs H5 := ⟨by rw [jfr_K f5']; exact htr.1, fun j x hx => by
        obtain ⟨r, s, l, w⟩ := htr.2 j x hx
        rw [jfr_R f5' (nT _ _ (by omega))]
        exact ⟨r, s, l, w_x_jfr w f5' nT⟩⟩
      by_cases cn : b_tg (b_mst bs p) < b_nn (b_hs (by_.take 80))
      · rw [if_pos cn] at hk
        rw [if_pos cn]
        exact jT_neg (by decide) (jT_ret (hk H5 s5 f5'))
      · rw [if_neg cn] at hk
        rw [if_neg cn, z0_isShaped (kB f5') ((jfr_R f5' (nT B 4 hB5)).trans r4) tr5 hty hlay.2.2.1]
        refine jT_pos rfl (jT_g (kB f5') (jT_b (jT_ret ?_)))
        cases cs : b_shp txs with
        | false =>
          rw [cs, if_pos rfl] at hk
          exact jT_neg (fun w => w rfl) (jT_ret (hk H5 s5 f5'))
        | true =>
          rw [cs, if_neg (show ¬ (true = false) by decide)] at hk
          have l1 : 1 ≤ txs.length := by
            cases txs with
            | nil => exact absurd cs (by decide)
            | cons x r => exact Nat.succ_le_succ (Nat.zero_le _)
          rw [sR_398_15 s5, sR_398_16 s5, sR_398_0 s5]
          refine jT_pos (by decide) (jT_g (k1 s5) (jT_g (k1 s5) (jT_g (k1 s5) (jT_g (kB f5') (jT_b (z0_isRooted s5 (kB f5') ((jfr_R f5' (nT B 0 hB5)).trans r0) ((jfr_R f5' (nT B 4 hB5)).trans r4) hB5 (by omega) hrow (by rw [jfr_K f5']; exact kr) (by have := hlay.2.1; omega) (zRow_eq hz fun i _ => jfr_B f5' (nT _ _ hrow)) hlen hlay.1 tr5 l1 hlay.2.2.1 fun H6 s6 f6 => ?_))))))
          have f6' : jfr b_Tf1 H0 H6 := jfr_trans f5' (jfr_mono f6 fun a j w => Or.inl w)
          have tr6 : b_tr (B + 4) txs H6 := ⟨by rw [jfr_K f6']; exact htr.1, fun j x hx => by
            obtain ⟨r, s, l, w⟩ := htr.2 j x hx
            rw [jfr_R f6' (nT _ _ (by omega))]
            exact ⟨r, s, l, w_x_jfr w f6' nT⟩⟩
          cases cr : b_rtd by_ txs with
          | false =>
            rw [cr, if_pos rfl] at hk
            exact jT_neg (fun w => w rfl) (jT_ret (hk H6 s6 f6'))
          | true =>
            rw [cr, if_neg (show ¬ (true = false) by decide)] at hk
            rw [z0_isFaulty s6 (kB f6') ((jfr_R f6' (nT B 4 hB5)).trans r4) tr6 hty hlay.2.2.1]
            refine jT_pos (by decide) (jT_g (kB f6') (jT_b (jT_ret ?_)))
            cases cf : b_flf 0 txs with
            | true =>
              rw [cf, if_pos rfl] at hk
              exact jT_neg (by decide) (jT_ret (hk H6 s6 f6'))
            | false =>
              rw [cf, if_neg (show ¬ (false = true) by decide)] at hk
              have B6 := b_BC_fr hB f6' nBC
              rw [B6.2.2.2.1, (jfr_I f6' (nT B 6 hB5)).trans i6]
              unfold B_1_refusal_178 B_1_refusal_184
              refine jT_pos rfl (jT_g (k1 s6) ?_)
              by_cases cl : 300 ≤ bs.length
              · rw [if_pos cl] at hk
                exact jT_pos (by show Int32.ofNat 300 ≤ _; rw [jo_le (by decide) (by omega)]; exact cl) (jT_ret (hk H6 s6 f6'))
              · rw [if_neg cl] at hk
                exact jT_neg (by show ¬ Int32.ofNat 300 ≤ _; rw [jo_le (by decide) (by omega)]; exact cl) (jT_g (kB f6') (jT_pos (by show _ < Int32.ofNat 300; rw [jo_lt (by omega) (by decide)]; omega) (jT_ret (hk H6 s6 f6'))))
  · rw [if_pos cb] at hk
    exact jT_neg (fun w => cb ((jo_eq32 b4l (by omega)).mp w)) (jT_ret (hk H3 s3 f3'))
end RF1
