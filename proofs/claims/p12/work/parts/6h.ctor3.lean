/-! The first block. -/
def zheadL : List UInt8 := [1, 0, 0, 0] ++ List.replicate 64 0 ++ [64, 66, 15, 0, 255, 255, 127, 32, 0, 0, 0, 0]
def zhead (i : Nat) : UInt8 := zheadL.getD i 0
/-- what is known of the class's chain at the beginning -/
def jc1 (H : jH) : Prop := jI H 398 4 = 1 ∧ jI H 410 2 = 545259519 ∧ jL H 410 3 = 1000000 ∧ (∀ i, i < 32 → jB H 411 i = znm zhead 80 i) ∧ (∀ i, i < 80 → jB H 409 (1 + i) = zhead i)
theorem k_1_tail {Hb : jH} {Q : Unit → jH → Prop} {H : jH} (hc : jcs 410 74971 381 Hb 32 H) (hz : ∀ j, jB H 409 j = 0) (hk : ∀ H', jcs 414 75020 388 Hb 32 H' → jc1 H' → Q () H') :
    jT (jg ((jK H 409).1 = 101 ∧ jin 1 (jK H 409).2) (jl (jsB H 409 (1 : Int32).toNatClampNeg (jbu 1)) fun h49 => F_1_init_122 jfuel 398 43 409 0 h49)) Q := by
  refine c_sB hc (by rw [c_Kf hc (q := (101, 82)) (by decide +kernel)]; decide) (by decide +kernel) fun H0 hc b0 => ?_
  obtain ⟨f, ef⟩ : ∃ f, jfuel = f + 5 := ⟨4294967291, rfl⟩
  rw [ef]
  unfold F_1_init_122 B_1_init_122
  refine jT_neg (by decide) ?_
  refine c_sB hc (by rw [c_Kf hc (q := (101, 82)) (by decide +kernel)]; decide) (by decide +kernel) fun H1 hc b1 => ?_
  refine c_sB hc (by rw [c_Kf hc (q := (101, 82)) (by decide +kernel)]; decide) (by decide +kernel) fun H2 hc b2 => ?_
  refine jT_l ?_
  unfold F_1_init_122 B_1_init_122
  refine jT_neg (by decide) ?_
  refine c_sB hc (by rw [c_Kf hc (q := (101, 82)) (by decide +kernel)]; decide) (by decide +kernel) fun H3 hc b3 => ?_
  refine c_sB hc (by rw [c_Kf hc (q := (101, 82)) (by decide +kernel)]; decide) (by decide +kernel) fun H4 hc b4 => ?_
  refine jT_l ?_
  unfold F_1_init_122 B_1_init_122
  refine jT_neg (by decide) ?_
  refine c_sB hc (by rw [c_Kf hc (q := (101, 82)) (by decide +kernel)]; decide) (by decide +kernel) fun H5 hc b5 => ?_
  refine c_sB hc (by rw [c_Kf hc (q := (101, 82)) (by decide +kernel)]; decide) (by decide +kernel) fun H6 hc b6 => ?_
  refine jT_l ?_
  unfold F_1_init_122 B_1_init_122
  refine jT_neg (by decide) ?_
  refine c_sB hc (by rw [c_Kf hc (q := (101, 82)) (by decide +kernel)]; decide) (by decide +kernel) fun H7 hc b7 => ?_
  refine c_sB hc (by rw [c_Kf hc (q := (101, 82)) (by decide +kernel)]; decide) (by decide +kernel) fun H8 hc b8 => ?_
  refine jT_l ?_
  unfold F_1_init_122 B_1_init_122
  refine jT_pos (by decide) ?_
  have hbytes : ∀ i, i < 80 → jB H8 409 (1 + i) = zhead i := by
    intro i hi
    rw [b8, b7, b6, b5, b4, b3, b2, b1, b0, hz]
    revert i
    decide +kernel
  have hr := c_rebase hc (by decide)
  refine c_nw hr 9 411 74980 (by decide +kernel) fun H10 hr => ?_
  refine jT_g (by decide) ?_
  refine jT_b (k_0_init_410 hr fun H11 hr e2 e3 => ?_)
  refine jT_g (c_K hr (by decide +kernel)) (jT_g (c_K hr (by decide +kernel)) ?_)
  rw [c_R hr (a := 410) (j := 1) (v := 411) (by decide +kernel)]
  have hc11 := c_trans hc hr
  refine jT_b (z3_name (N := 414) 409 82 1 80 411 32 (by omega) (by omega) (by omega) (by omega) (by omega) H11 (c_sp hc11 (by decide) (by decide +kernel)) (c_Kf hr (by decide +kernel)) (c_Kf hr (by decide +kernel)) fun H12 hs12 hf12 hb12 => ?_)
  have hc12 : jcs 414 75020 385 Hb 32 H12 := by
    refine c_fr hc11 hf12 fun a j h => ?_
    rcases h with rfl | ⟨rfl, rfl⟩ | rfl | rfl | rfl | ⟨rfl, _⟩ <;> exact ⟨by decide, rfl⟩
  have n410 : ∀ j : Nat, ¬ ((410 : Nat) = 44 ∨ ((410 : Nat) = 43 ∧ j = 1) ∨ (410 : Nat) = 45 ∨ (410 : Nat) = 46 ∨ (410 : Nat) = 48 ∨ ((410 : Nat) = 411 ∧ j < 32)) := fun j => by omega
  have n409 : ∀ j : Nat, ¬ ((409 : Nat) = 44 ∨ ((409 : Nat) = 43 ∧ j = 1) ∨ (409 : Nat) = 45 ∨ (409 : Nat) = 46 ∨ (409 : Nat) = 48 ∨ ((409 : Nat) = 411 ∧ j < 32)) := fun j => by omega
  have g2 := (jfr_I hf12 (n410 2)).trans e2
  have g3 := (jfr_L hf12 (n410 3)).trans e3
  have hB11 : ∀ i, i < 80 → jB H11 409 (1 + i) = zhead i := fun i hi => ((c_old hr (by decide)).2.2).trans (hbytes i hi)
  have gb : ∀ i, i < 80 → jB H12 409 (1 + i) = zhead i := fun i hi => (jfr_B hf12 (n409 _)).trans (hB11 i hi)
  have gn : ∀ i, i < 32 → jB H12 411 i = znm zhead 80 i := fun i hi => by
    rw [hb12 i hi, znm_eq (c := zhead) hB11]
  have q73 : zlow (jB H8 409) 73 = 545259519 := by
    unfold zlow
    rw [show jB H8 409 73 = zhead 72 from hbytes 72 (by decide), show jB H8 409 (73 + 1) = zhead 73 from hbytes 73 (by decide), show jB H8 409 (73 + 2) = zhead 74 from hbytes 74 (by decide), show jB H8 409 (73 + 3) = zhead 75 from hbytes 75 (by decide)]
    decide +kernel
  have q69 : zlow (jB H8 409) 69 = 1000000 := by
    unfold zlow
    rw [show jB H8 409 69 = zhead 68 from hbytes 68 (by decide), show jB H8 409 (69 + 1) = zhead 69 from hbytes 69 (by decide), show jB H8 409 (69 + 2) = zhead 70 from hbytes 70 (by decide), show jB H8 409 (69 + 3) = zhead 71 from hbytes 71 (by decide)]
    decide +kernel
  rw [q73] at g2
  rw [q69] at g3
  refine jT_g (c_K hc12 (by decide +kernel)) ?_
  refine c_sRf hc12 (by rw [c_R hc12 (v := 399) (by decide +kernel), c_Kf hc12 (q := (114, 300)) (by decide +kernel), c_Kf hc12 (a := 410) (q := (0, 9)) (by decide +kernel)]; decide) 399 0 410 386 (c_R hc12 (v := 399) (by decide +kernel)) rfl rfl (by decide +kernel) fun H13 hc13 f13 => ?_
  refine jT_g (c_K hc13 (by decide +kernel)) ?_
  refine c_sRf hc13 (by rw [c_R hc13 (v := 400) (by decide +kernel), c_Kf hc13 (q := (114, 300)) (by decide +kernel), c_Kf hc13 (a := 410) (q := (0, 9)) (by decide +kernel)]; decide) 400 0 410 387 (c_R hc13 (v := 400) (by decide +kernel)) rfl rfl (by decide +kernel) fun H14 hc14 f14 => ?_
  refine c_sIf hc14 (c_K hc14 (by decide +kernel)) (by decide +kernel) fun H15 hc15 v15 f15 => ?_
  refine c_sRf hc15 (c_K hc15 (by decide +kernel)) 398 6 410 388 rfl rfl rfl (by decide +kernel) fun H16 hc16 f16 => ?_
  have hB : jB H16 = jB H12 := by rw [f16.2.2, f15.2.2, f14.2.2, f13.2.2]
  have hL : jL H16 = jL H12 := by rw [f16.2.1, f15.2.1, f14.2.1, f13.2.1]
  refine jT_ret (hk _ hc16 ⟨by rw [f16.1, v15], ?_, by rw [hL]; exact g3, fun i hi => by rw [hB]; exact gn i hi, fun i hi => by rw [hB]; exact gb i hi⟩)
  rw [f16.1, f15.1 410 2 (by decide), f14.1, f13.1]
  exact g2
theorem k_1_init_398 {Hb : jH} {Q : Unit → jH → Prop} {H : jH} (hc : jcs 399 73203 368 Hb 32 H) (hk : ∀ H', jcs 414 75020 388 Hb 32 H' → jc1 H' → Q () H') : jT (F_1_init 398 43 392 49 H) Q := by
  unfold F_1_init
  refine jT_g (by decide) ?_
  refine jT_g (by decide) ?_
  refine c_nw hc 300 400 73503 (by decide +kernel) fun H287 hc287 => ?_
  refine c_sR hc287 (c_K hc287 (by decide +kernel)) 398 3 399 369 rfl rfl rfl (by decide +kernel) fun H288 hc288 => ?_
  refine jT_g (by decide) ?_
  refine c_nw hc288 300 401 73803 (by decide +kernel) fun H289 hc289 => ?_
  refine c_sR hc289 (c_K hc289 (by decide +kernel)) 398 7 400 370 rfl rfl rfl (by decide +kernel) fun H290 hc290 => ?_
  refine jT_g (by decide) ?_
  refine c_nw hc290 300 402 74103 (by decide +kernel) fun H291 hc291 => ?_
  refine c_sR hc291 (c_K hc291 (by decide +kernel)) 398 8 401 371 rfl rfl rfl (by decide +kernel) fun H292 hc292 => ?_
  refine jT_g (by decide) ?_
  refine c_nw hc292 300 403 74403 (by decide +kernel) fun H293 hc293 => ?_
  refine c_sR hc293 (c_K hc293 (by decide +kernel)) 398 9 402 372 rfl rfl rfl (by decide +kernel) fun H294 hc294 => ?_
  refine jT_g (by decide) ?_
  refine c_nw hc294 9 404 74412 (by decide +kernel) fun H295 hc295 => ?_
  refine c_sR hc295 (c_K hc295 (by decide +kernel)) 398 11 403 373 rfl rfl rfl (by decide +kernel) fun H296 hc296 => ?_
  refine jT_g (by decide) ?_
  refine c_nw hc296 9 405 74421 (by decide +kernel) fun H297 hc297 => ?_
  refine c_sR hc297 (c_K hc297 (by decide +kernel)) 398 12 404 374 rfl rfl rfl (by decide +kernel) fun H298 hc298 => ?_
  refine jT_g (by decide) ?_
  refine c_nw hc298 9 406 74430 (by decide +kernel) fun H299 hc299 => ?_
  refine c_sR hc299 (c_K hc299 (by decide +kernel)) 398 13 405 375 rfl rfl rfl (by decide +kernel) fun H300 hc300 => ?_
  refine jT_g (by decide) ?_
  refine c_nw hc300 11 407 74441 (by decide +kernel) fun H301 hc301 => ?_
  refine c_sR hc301 (c_K hc301 (by decide +kernel)) 398 14 406 376 rfl rfl rfl (by decide +kernel) fun H302 hc302 => ?_
  refine jT_g (by decide) ?_
  refine c_nw hc302 416 408 74857 (by decide +kernel) fun H303 hc303 => ?_
  refine c_sR hc303 (c_K hc303 (by decide +kernel)) 398 15 407 377 rfl rfl rfl (by decide +kernel) fun H304 hc304 => ?_
  refine jT_g (by decide) ?_
  refine c_nw hc304 32 409 74889 (by decide +kernel) fun H305 hc305 => ?_
  refine c_sR hc305 (c_K hc305 (by decide +kernel)) 398 16 408 378 rfl rfl rfl (by decide +kernel) fun H306 hc306 => ?_
  refine c_sR hc306 (c_K hc306 (by decide +kernel)) 398 0 43 379 rfl rfl rfl (by decide +kernel) fun H307 hc307 => ?_
  refine c_sR hc307 (c_K hc307 (by decide +kernel)) 398 1 392 380 rfl rfl rfl (by decide +kernel) fun H308 hc308 => ?_
  refine c_sR hc308 (c_K hc308 (by decide +kernel)) 398 2 49 381 rfl rfl rfl (by decide +kernel) fun H309 hc309 => ?_
  refine jT_g (by decide) ?_
  refine c_nw0 hc309 82 410 74971 (by decide +kernel) fun H310 hc310 hz => ?_
  exact k_1_tail hc310 hz hk
theorem k_11_init_32 {Hb : jH} {Q : Unit → jH → Prop} {H : jH} (hc : jcs 33 78 0 Hb 32 H) (hk : ∀ H1 H', jcs 414 75020 388 Hb 32 H1 → jc1 H1 → jcs 421 75210 398 H1 414 H' → Q () H') : jT (F_11_init 32 H) Q := by
  unfold F_11_init
  refine jT_g (by decide) ?_
  refine jT_g (by decide) ?_
  refine c_nw hc 2000 34 2078 (by decide +kernel) fun H1 hc1 => ?_
  refine c_sR hc1 (c_K hc1 (by decide +kernel)) 32 0 33 1 rfl rfl rfl (by decide +kernel) fun H2 hc2 => ?_
  refine jT_g (by decide) ?_
  refine c_nw hc2 32 35 2110 (by decide +kernel) fun H3 hc3 => ?_
  refine c_sR hc3 (c_K hc3 (by decide +kernel)) 32 2 34 2 rfl rfl rfl (by decide +kernel) fun H4 hc4 => ?_
  refine jT_g (by decide) ?_
  refine c_nm hc4 4 8000 40 34114 6 (by decide +kernel) fun H5 hc5 => ?_
  refine c_sR hc5 (c_K hc5 (by decide +kernel)) 32 4 35 7 rfl rfl rfl (by decide +kernel) fun H6 hc6 => ?_
  refine jT_g (by decide) ?_
  refine c_nw hc6 4 41 34118 (by decide +kernel) fun H7 hc7 => ?_
  refine c_sR hc7 (c_K hc7 (by decide +kernel)) 32 5 40 8 rfl rfl rfl (by decide +kernel) fun H8 hc8 => ?_
  refine jT_g (by decide) ?_
  refine c_nw hc8 4 42 34122 (by decide +kernel) fun H9 hc9 => ?_
  refine c_sR hc9 (c_K hc9 (by decide +kernel)) 32 6 41 9 rfl rfl rfl (by decide +kernel) fun H10 hc10 => ?_
  refine jT_g (by decide) ?_
  refine c_nw hc10 2000 43 36122 (by decide +kernel) fun H11 hc11 => ?_
  refine c_sR hc11 (c_K hc11 (by decide +kernel)) 32 7 42 10 rfl rfl rfl (by decide +kernel) fun H12 hc12 => ?_
  refine c_nw hc12 6 44 36128 (by decide +kernel) fun H13 hc13 => ?_
  refine jT_g (by decide) ?_
  refine jT_b (k_3_init_43 hc13 fun H24 hc24 => ?_)
  refine c_sR hc24 (c_K hc24 (by decide +kernel)) 32 9 43 16 rfl rfl rfl (by decide +kernel) fun H25 hc25 => ?_
  refine c_nw hc25 8 50 38805 (by decide +kernel) fun H26 hc26 => ?_
  refine jT_g (c_K hc26 (by decide +kernel)) ?_
  refine jT_g (by decide) ?_
  rw [c_R hc26 (a := 32) (j := 9) (v := 43) (by decide +kernel)]
  refine jT_b (k_7_init_49 hc26 fun H271 hc271 => ?_)
  refine c_sR hc271 (c_K hc271 (by decide +kernel)) 32 10 49 362 rfl rfl rfl (by decide +kernel) fun H272 hc272 => ?_
  refine c_nw hc272 9 393 68670 (by decide +kernel) fun H273 hc273 => ?_
  refine jT_g (by decide) ?_
  refine jT_b (k_2_init_392 hc273 fun H284 hc284 => ?_)
  refine c_sR hc284 (c_K hc284 (by decide +kernel)) 32 11 392 368 rfl rfl rfl (by decide +kernel) fun H285 hc285 => ?_
  refine c_nw hc285 17 399 73203 (by decide +kernel) fun H286 hc286 => ?_
  refine jT_g (c_K hc286 (by decide +kernel)) ?_
  refine jT_g (c_K hc286 (by decide +kernel)) ?_
  refine jT_g (c_K hc286 (by decide +kernel)) ?_
  refine jT_g (by decide) ?_
  rw [c_R hc286 (a := 32) (j := 9) (v := 43) (by decide +kernel), c_R hc286 (a := 32) (j := 11) (v := 392) (by decide +kernel), c_R hc286 (a := 32) (j := 10) (v := 49) (by decide +kernel)]
  refine jT_b (k_1_init_398 hc286 fun H320 hc320 g320 => ?_)
  have hr320 := c_rebase hc320 (by decide)
  refine c_sR hr320 (c_K hr320 (by decide +kernel)) 32 12 398 389 rfl rfl rfl (by decide +kernel) fun H321 hc321 => ?_
  refine c_nw hc321 10 415 75030 (by decide +kernel) fun H322 hc322 => ?_
  refine jT_g (c_K hc322 (by decide +kernel)) ?_
  refine jT_g (c_K hc322 (by decide +kernel)) ?_
  refine jT_g (by decide) ?_
  rw [c_R hc322 (a := 32) (j := 11) (v := 392) (by decide +kernel), c_R hc322 (a := 32) (j := 10) (v := 49) (by decide +kernel)]
  refine jT_b (k_6_init_414 hc322 fun H337 hc337 => ?_)
  refine c_sR hc337 (c_K hc337 (by decide +kernel)) 32 13 414 398 rfl rfl rfl (by decide +kernel) fun H338 hc338 => ?_
  exact jT_ret (hk _ _ hc320 g320 hc338)
