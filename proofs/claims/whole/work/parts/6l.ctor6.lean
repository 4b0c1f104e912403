/-! The reference's tree and its first block. -/
section JT1
variable {n s m nb : Nat} {Hb H : jH} {α : Type} {Q : α → jH → Prop}
theorem c_sLf {P : Prop} [Decidable P] {a i : Nat} {v : Int64} {kk : jH → Option (α × jH)} (h : jcs n s m Hb nb H) (hP : P) (e : nb ≤ a ∧ jEx a i = true) (hk : ∀ H', jcs n s m Hb nb H' → jL H' a i = v → ((∀ b j, ¬ (b = a ∧ j = i) → jL H' b j = jL H b j) ∧ jI H' = jI H ∧ jB H' = jB H) → jT (kk H') Q) : jT (jg P (jl (jsL H a i v) kk)) Q :=
  jT_g hP (jT_l (hk _ (c_set h (fun _ j => ⟨rfl, rfl⟩) rfl rfl rfl rfl fun b j hb => ⟨rfl, jup_ne (c_ne e hb), rfl⟩) jup_eq ⟨fun b j hb => jup_ne hb, rfl, rfl⟩))
theorem c_sBf {P : Prop} [Decidable P] {a i : Nat} {v : UInt8} {kk : jH → Option (α × jH)} (h : jcs n s m Hb nb H) (hP : P) (e : nb ≤ a ∧ jEx a i = true) (hk : ∀ H', jcs n s m Hb nb H' → (∀ j, jB H' a j = if j = i then v else jB H a j) → (jI H' = jI H ∧ jL H' = jL H) → jT (kk H') Q) : jT (jg P (jl (jsB H a i v) kk)) Q := by
  refine jT_g hP (jT_l (hk _ (c_set h (fun _ j => ⟨rfl, rfl⟩) rfl rfl rfl rfl fun b j hb => ⟨rfl, rfl, jup_ne (c_ne e hb)⟩) (fun j => ?_) ⟨rfl, rfl⟩))
  by_cases hj : j = i
  · rw [if_pos hj, hj]
    exact jB_sBe
  · rw [if_neg hj]
    exact jB_sBn hj
end JT1
def jt1 (H : jH) : Prop := jI H 445 0 = 300 ∧ jI H 445 1 = 1 ∧ jI H 446 0 = -1 ∧ jI H 447 0 = 0 ∧ jL H 448 0 = 1000000 ∧ jL H 449 0 = 545259519 ∧ jI H 450 0 = 0
theorem jt1_fr {S : Nat → Nat → Prop} {H H' : jH} (h : jt1 H) (hf : jfr S H H') (hS : ∀ a j, 445 ≤ a → a ≤ 450 → ¬ S a j) : jt1 H' := by
  obtain ⟨a1, a2, a3, a4, a5, a6, a7⟩ := h
  exact ⟨(jfr_I hf (hS 445 0 (by decide) (by decide))).trans a1, (jfr_I hf (hS 445 1 (by decide) (by decide))).trans a2, (jfr_I hf (hS 446 0 (by decide) (by decide))).trans a3, (jfr_I hf (hS 447 0 (by decide) (by decide))).trans a4, (jfr_L hf (hS 448 0 (by decide) (by decide))).trans a5, (jfr_L hf (hS 449 0 (by decide) (by decide))).trans a6, (jfr_I hf (hS 450 0 (by decide) (by decide))).trans a7⟩
theorem jt1_eq {H H' : jH} (h : jt1 H) (e : ∀ a j, 445 ≤ a → a ≤ 450 → jI H' a j = jI H a j ∧ jL H' a j = jL H a j) : jt1 H' := by
  obtain ⟨a1, a2, a3, a4, a5, a6, a7⟩ := h
  exact ⟨((e 445 0 (by decide) (by decide)).1).trans a1, ((e 445 1 (by decide) (by decide)).1).trans a2, ((e 446 0 (by decide) (by decide)).1).trans a3, ((e 447 0 (by decide) (by decide)).1).trans a4, ((e 448 0 (by decide) (by decide)).2).trans a5, ((e 449 0 (by decide) (by decide)).2).trans a6, ((e 450 0 (by decide) (by decide)).1).trans a7⟩
theorem zK16_c {s m : Nat} {Hb H : jH} (hc : jcs 456 s 434 Hb 421 H) : zK16 H :=
  ⟨c_K hc (by decide +kernel), c_R hc (by decide +kernel), c_R hc (by decide +kernel), c_R hc (by decide +kernel), c_R hc (by decide +kernel), c_Kf hc (by decide +kernel), c_Kf hc (by decide +kernel), c_Kf hc (by decide +kernel), c_Kf hc (by decide +kernel)⟩
/-- the sums of the first block -/
def kJoin (H : jH) : Option (Unit × jH) :=
  jb (F_16_open 545259519 452 H) fun _ h => jg ((jK h 445).1 = 16) (jb (F_16_quotient 445 h) fun _ h2 => F_16_join_91 jfuel 445 (-1) 0 0 0 h2)
def jTr (H : jH) : Prop := ∃ HA HB : jH, zK16 HA ∧ kJoin HA = some ((), HB) ∧ ∀ j, jI H 451 j = jI HB 451 j
theorem jTr_eq {H H' : jH} (h : jTr H) (e : ∀ j, jI H' 451 j = jI H 451 j) : jTr H' := by
  obtain ⟨HA, HB, h1, h2, h3⟩ := h
  exact ⟨HA, HB, h1, h2, fun j => (e j).trans (h3 j)⟩
theorem k_16_tail {Hb : jH} {Q : Unit → jH → Prop} {H : jH} (hc : jcs 456 111295 434 Hb 421 H) (hz : jI H 445 1 = 0) (hk : ∀ H', jcs 456 111295 434 Hb 421 H' → jt1 H' → jTr H' → Q () H') :
    jT (if (300 : Int32) < (2 : Int32) then B_16_init_107 445 1000000 445 H else (if (300 : Int32) < (300 : Int32) then B_16_init_107 445 1000000 445 H else B_16_init_109 445 1000000 445 300 H)) Q := by
  refine jT_neg (by decide) (jT_neg (by decide) ?_)
  unfold B_16_init_109
  refine c_sIf hc (c_K hc (by decide +kernel)) (by decide +kernel) fun H1 hc v1 f1 => ?_
  refine jT_g (c_K hc (by decide +kernel)) (jT_b ?_)
  have hz1 : jI H1 445 1 = 0 := (f1.1 445 1 (by decide)).trans hz
  unfold F_16_join
  rw [hz1]
  refine jT_g (c_K hc (by decide +kernel)) (jT_l (jT_g (c_K hc (by decide +kernel)) ?_))
  rw [c_R hc (a := 445) (j := 2) (v := 446) (by decide +kernel), c_Kf hc (a := 446) (q := (100, 300)) (by decide +kernel)]
  refine c_sIf hc (by decide) (by decide +kernel) fun H2 hc v2 f2 => ?_
  refine jT_g (c_K hc (by decide +kernel)) (jT_neg (by decide) ?_)
  unfold B_16_join_36
  rw [c_R hc (a := 445) (j := 3) (v := 447) (by decide +kernel), c_Kf hc (a := 447) (q := (100, 300)) (by decide +kernel)]
  refine c_sIf hc (by decide) (by decide +kernel) fun H3 hc v3 f3 => ?_
  refine jT_g (c_K hc (by decide +kernel)) ?_
  rw [c_R hc (a := 445) (j := 4) (v := 448) (by decide +kernel), c_Kf hc (a := 448) (q := (103, 300)) (by decide +kernel)]
  refine c_sLf hc (by decide) (by decide +kernel) fun H4 hc v4 f4 => ?_
  refine jT_g (c_K hc (by decide +kernel)) ?_
  rw [c_R hc (a := 445) (j := 5) (v := 449) (by decide +kernel), c_Kf hc (a := 449) (q := (103, 300)) (by decide +kernel)]
  refine c_sLf hc (by decide) (by decide +kernel) fun H5 hc v5 f5 => ?_
  refine jT_g (c_K hc (by decide +kernel)) ?_
  rw [c_R hc (a := 445) (j := 6) (v := 450) (by decide +kernel), c_Kf hc (a := 450) (q := (102, 300)) (by decide +kernel)]
  refine c_sIf hc (by decide) (by decide +kernel) fun H6 hc v6 f6 => ?_
  refine jT_g (c_K hc (by decide +kernel)) ?_
  refine c_sIf hc (c_K hc (by decide +kernel)) (by decide +kernel) fun H7 hc v7 f7 => ?_
  have h1 : jt1 H7 := by
    refine ⟨?_, ?_, ?_, ?_, ?_, ?_, ?_⟩
    · rw [f7.1 445 0 (by decide), f6.1 445 0 (by decide), f5.2.1, f4.2.1, f3.1 445 0 (by decide), f2.1 445 0 (by decide)]; exact v1
    · rw [v7, f6.1 445 1 (by decide), f5.2.1, f4.2.1, f3.1 445 1 (by decide), f2.1 445 1 (by decide), hz1]; rfl
    · rw [f7.1 446 0 (by decide), f6.1 446 0 (by decide), f5.2.1, f4.2.1, f3.1 446 0 (by decide)]; exact v2
    · rw [f7.1 447 0 (by decide), f6.1 447 0 (by decide), f5.2.1, f4.2.1]; exact v3
    · rw [f7.2.1, f6.2.1, f5.1 448 0 (by decide)]; exact v4.trans (by decide)
    · rw [f7.2.1, f6.2.1]; exact v5
    · rw [f7.1 450 0 (by decide)]; exact v6.trans (by decide)
  have hS : ∀ a j : Nat, 445 ≤ a → a ≤ 450 → ¬ zS16 a j := fun a j h1 h2 h => by
    rcases h with h | h | h | h <;> omega
  have hfr : ∀ {H H' : jH}, jcs 456 111295 434 Hb 421 H → jfr zS16 H H' → jcs 456 111295 434 Hb 421 H' := fun hc hf => c_fr hc hf (fun a j h => by
    rcases h with rfl | rfl | rfl | rfl <;> exact ⟨by decide, rfl⟩) (Or.inr fun j => ⟨fun h => by rcases h with h | h | h | h <;> exact absurd h (by decide), fun h => by rcases h with h | h | h | h <;> exact absurd h (by decide)⟩)
  refine jT_g (c_K hc (by decide +kernel)) ?_
  rw [c_R hc (a := 445) (j := 8) (v := 452) (by decide +kernel)]
  have hzA := zK16_c hc (m := 0)
  have key : jT (kJoin H7) (fun _ h => jcs 456 111295 434 Hb 421 h ∧ jt1 h) := by
    refine jT_b (jT_imp (z16_open 452 (by decide) _ H7 hzA) fun _ H8 hf8 => ?_)
    have hc8 := hfr hc hf8
    refine jT_g (c_K hc8 (by decide +kernel)) (jT_b (jT_imp (z16_quotient H8 (zK16_c hc8 (m := 0))) fun _ H9 hf9 => ?_))
    have hc9 := hfr hc8 hf9
    refine jT_imp (z16_join_91 (-1) 0 (by decide) (fun h => absurd h (by decide)) H9 (zK16_c hc9 (m := 0)) 40 0 jfuel 0 H9 rfl (by unfold jfuel; omega) jfr_refl) fun _ H10 hf10 => ?_
    exact ⟨hfr hc9 hf10, jt1_fr (jt1_fr (jt1_fr h1 hf8 hS) hf9 hS) hf10 hS⟩
  obtain ⟨x, hx, hQ⟩ := key
  have hTr : jTr x.2 := ⟨H7, x.2, hzA, hx, fun j => rfl⟩
  exact ⟨x, hx, jT_ret (hk x.2 hQ.1 hQ.2 hTr)⟩
/-- the first block's bytes and name -/
def jr1 (H : jH) : Prop := jI H 475 0 = 80 ∧ jI H 477 0 = 1 ∧ (∀ i, i < 32 → jB H 476 i = znm zhead 80 i) ∧ (∀ i, i < 80 → jB H 474 i = zhead i)
theorem k_18_tail {Hb HT : jH} {Q : Unit → jH → Prop} {H : jH} {s1 : Nat} (hcT : jcs 456 s1 434 Hb 421 HT) (gT : jt1 HT) (gS : jTr HT) (hc : jcs 513 1173692 492 HT 456 H) (hk : ∀ H', jcs 513 1173692 492 Hb 421 H' → jt1 H' → jr1 H' → jTr H' → Q () H') :
    jT (jg ((jK H (jR H 421 6)).1 = 101 ∧ jin 0 (jK H (jR H 421 6)).2) (jl (jsB H (jR H 421 6) (0 : Int32).toNatClampNeg (jbu 1)) fun h155 => F_18_init_431 jfuel 421 0 h155)) Q := by
  have g := jt1_eq gT (H' := H) fun a j h1 h2 => ⟨(c_old hc (by omega)).1, (c_old hc (by omega)).2.1⟩
  have gS := jTr_eq gS (H' := H) fun j => (c_old hc (by decide)).1
  have hc := c_trans hcT hc
  have hz : ∀ i, ¬ (jEx 474 i = true) → jB H 474 i = 0 := fun i hx => (c_0 hc ⟨by decide, by simpa using hx⟩).2.2
  rw [c_R hc (a := 421) (j := 6) (v := 474) (by decide +kernel), c_Kf hc (a := 474) (q := (101, 600000)) (by decide +kernel)]
  refine c_sBf hc (by decide) (by decide +kernel) fun H0 hc b0 e0 => ?_
  obtain ⟨f, ef⟩ : ∃ f, jfuel = f + 5 := ⟨4294967291, rfl⟩
  rw [ef]
  unfold F_18_init_431 B_18_init_431
  refine jT_neg (by decide) (jT_g (c_K hc (by decide +kernel)) ?_)
  rw [c_R hc (a := 421) (j := 6) (v := 474) (by decide +kernel), c_Kf hc (a := 474) (q := (101, 600000)) (by decide +kernel)]
  refine c_sBf hc (by decide) (by decide +kernel) fun H1 hc b1 e1 => ?_
  refine jT_g (c_K hc (by decide +kernel)) ?_
  rw [c_R hc (a := 421) (j := 6) (v := 474) (by decide +kernel), c_Kf hc (a := 474) (q := (101, 600000)) (by decide +kernel)]
  refine c_sBf hc (by decide) (by decide +kernel) fun H2 hc b2 e2 => ?_
  refine jT_l ?_
  unfold F_18_init_431 B_18_init_431
  refine jT_neg (by decide) (jT_g (c_K hc (by decide +kernel)) ?_)
  rw [c_R hc (a := 421) (j := 6) (v := 474) (by decide +kernel), c_Kf hc (a := 474) (q := (101, 600000)) (by decide +kernel)]
  refine c_sBf hc (by decide) (by decide +kernel) fun H3 hc b3 e3 => ?_
  refine jT_g (c_K hc (by decide +kernel)) ?_
  rw [c_R hc (a := 421) (j := 6) (v := 474) (by decide +kernel), c_Kf hc (a := 474) (q := (101, 600000)) (by decide +kernel)]
  refine c_sBf hc (by decide) (by decide +kernel) fun H4 hc b4 e4 => ?_
  refine jT_l ?_
  unfold F_18_init_431 B_18_init_431
  refine jT_neg (by decide) (jT_g (c_K hc (by decide +kernel)) ?_)
  rw [c_R hc (a := 421) (j := 6) (v := 474) (by decide +kernel), c_Kf hc (a := 474) (q := (101, 600000)) (by decide +kernel)]
  refine c_sBf hc (by decide) (by decide +kernel) fun H5 hc b5 e5 => ?_
  refine jT_g (c_K hc (by decide +kernel)) ?_
  rw [c_R hc (a := 421) (j := 6) (v := 474) (by decide +kernel), c_Kf hc (a := 474) (q := (101, 600000)) (by decide +kernel)]
  refine c_sBf hc (by decide) (by decide +kernel) fun H6 hc b6 e6 => ?_
  refine jT_l ?_
  unfold F_18_init_431 B_18_init_431
  refine jT_neg (by decide) (jT_g (c_K hc (by decide +kernel)) ?_)
  rw [c_R hc (a := 421) (j := 6) (v := 474) (by decide +kernel), c_Kf hc (a := 474) (q := (101, 600000)) (by decide +kernel)]
  refine c_sBf hc (by decide) (by decide +kernel) fun H7 hc b7 e7 => ?_
  refine jT_g (c_K hc (by decide +kernel)) ?_
  rw [c_R hc (a := 421) (j := 6) (v := 474) (by decide +kernel), c_Kf hc (a := 474) (q := (101, 600000)) (by decide +kernel)]
  refine c_sBf hc (by decide) (by decide +kernel) fun H8 hc b8 e8 => ?_
  refine jT_l ?_
  unfold F_18_init_431 B_18_init_431
  refine jT_pos (by decide) ?_
  have hI : jI H8 = jI H := by rw [e8.1, e7.1, e6.1, e5.1, e4.1, e3.1, e2.1, e1.1, e0.1]
  have hL : jL H8 = jL H := by rw [e8.2, e7.2, e6.2, e5.2, e4.2, e3.2, e2.2, e1.2, e0.2]
  have hbytes : ∀ i, i < 80 → jB H8 474 i = zhead i := by
    intro i hi
    rw [b8, b7, b6, b5, b4, b3, b2, b1, b0]
    by_cases hx : jEx 474 i = true
    · have : i = 0 ∨ i = 68 ∨ i = 69 ∨ i = 70 ∨ i = 71 ∨ i = 72 ∨ i = 73 ∨ i = 74 ∨ i = 75 := by
        revert i
        decide +kernel
      generalize jB H 474 i = b
      rcases this with rfl | rfl | rfl | rfl | rfl | rfl | rfl | rfl | rfl <;> rfl
    · rw [hz i hx]
      revert i
      decide +kernel
  have g8 : jt1 H8 := jt1_eq g fun a j _ _ => ⟨by rw [hI], by rw [hL]⟩
  refine jT_g (c_K hc (by decide +kernel)) ?_
  rw [c_R hc (a := 421) (j := 7) (v := 475) (by decide +kernel), c_Kf hc (a := 475) (q := (100, 300)) (by decide +kernel)]
  refine c_sIf hc (by decide) (by decide +kernel) fun H9 hc v9 f9 => ?_
  have g9 : jt1 H9 := jt1_eq g8 fun a j h1 h2 => ⟨f9.1 a j (by omega), by rw [f9.2.1]⟩
  refine jT_g (c_K hc (by decide +kernel)) (jT_g (c_K hc (by decide +kernel)) (jT_g (c_K hc (by decide +kernel)) ?_))
  rw [c_R hc (a := 421) (j := 0) (v := 422) (by decide +kernel), c_R hc (a := 421) (j := 6) (v := 474) (by decide +kernel), c_R hc (a := 421) (j := 8) (v := 476) (by decide +kernel)]
  refine jT_g (c_K hc (by decide +kernel)) (jT_b ?_)
  refine z12_name (a1 := 474) (len := 600000) (at_ := 0) (n := 80) (a4 := 476) (pl := 0) (len4 := 9600) (by omega) (by omega) (by omega) (c_Kf hc (by decide +kernel)) (by omega) (by omega) (c_Kf hc (by decide +kernel)) (c_sp hc (by decide) (by decide +kernel)) fun H10 hs10 hf10 hb10 => ?_
  have hc10 : jcs 513 1173692 492 Hb 421 H10 := by
    refine c_fr hc hf10 (fun a j h => ?_) (Or.inr fun j => ⟨fun h => by omega, fun h => by omega⟩)
    rcases h with rfl | rfl | rfl | rfl | ⟨rfl, _⟩ <;> exact ⟨by decide, rfl⟩
  have nS : ∀ a j : Nat, 427 ≤ a → a ≠ 476 → ¬ (a = 423 ∨ a = 424 ∨ a = 425 ∨ a = 426 ∨ (a = 476 ∧ 0 ≤ j ∧ j < 0 + 32)) := fun a j h1 h2 h => by omega
  have g10 : jt1 H10 := jt1_fr g9 hf10 fun a j h1 h2 => nS a j (by omega) (by omega)
  have gb : ∀ i, i < 80 → jB H10 474 i = zhead i := fun i hi => by
    rw [jfr_B hf10 (nS 474 i (by decide) (by decide)), f9.2.2]
    exact hbytes i hi
  have gn : ∀ i, i < 32 → jB H10 476 i = znm zhead 80 i := fun i hi => by
    have q := hb10 i hi
    rw [Nat.zero_add] at q
    rw [q, znm_eq (c := zhead)]
    intro k hk
    rw [Nat.zero_add, f9.2.2]
    exact hbytes k hk
  have g80 : jI H10 475 0 = 80 := (jfr_I hf10 (nS 475 0 (by decide) (by decide))).trans v9
  refine jT_g (c_K hc10 (by decide +kernel)) ?_
  rw [c_R hc10 (a := 421) (j := 9) (v := 477) (by decide +kernel), c_Kf hc10 (a := 477) (q := (100, 300)) (by decide +kernel)]
  refine c_sIf hc10 (by decide) (by decide +kernel) fun H11 hc11 v11 f11 => ?_
  have g451 : ∀ j, jI H11 451 j = jI H 451 j := fun j => by rw [f11.1 451 j (by omega), jfr_I hf10 (nS 451 j (by decide) (by decide)), f9.1 451 j (by omega), hI]
  refine jT_ret (hk _ hc11 (jt1_eq g10 fun a j h1 h2 => ⟨f11.1 a j (by omega), by rw [f11.2.1]⟩) ⟨(f11.1 475 0 (by decide)).trans g80, v11, fun i hi => ?_, fun i hi => ?_⟩ (jTr_eq gS g451))
  · rw [f11.2.2]
    exact gn i hi
  · rw [f11.2.2]
    exact gb i hi
theorem k_13_init_428 {Hb : jH} {Q : Unit → jH → Prop} {H : jH} (hc : jcs 429 75342 403 Hb 421 H) (hk : ∀ H', jcs 435 75990 409 Hb 421 H' → jPt H' → Q () H') : jT (F_13_init 428 H) Q := by
  unfold F_13_init
  refine jT_g (by decide) ?_
  refine jT_g (by decide) ?_
  refine c_nwI hc 480 430 75822 (by decide +kernel) fun H352 hcA z429 => ?_
  have hc352 := c_rebase hcA (by decide)
  refine c_sR hc352 (c_K hc352 (by decide +kernel)) 428 0 429 404 rfl rfl rfl (by decide +kernel) fun H353 hc353 => ?_
  refine jT_g (by decide) ?_
  refine c_nw hc353 22 431 75844 (by decide +kernel) fun H354 hc354 => ?_
  refine c_sR hc354 (c_K hc354 (by decide +kernel)) 428 1 430 405 rfl rfl rfl (by decide +kernel) fun H355 hc355 => ?_
  refine jT_g (by decide) ?_
  refine c_nw hc355 22 432 75866 (by decide +kernel) fun H356 hc356 => ?_
  refine c_sR hc356 (c_K hc356 (by decide +kernel)) 428 2 431 406 rfl rfl rfl (by decide +kernel) fun H357 hc357 => ?_
  refine jT_g (by decide) ?_
  refine c_nwI hc357 20 433 75886 (by decide +kernel) fun H358 hcB z432 => ?_
  have hc358 := c_rebase hcB (by decide)
  refine c_sR hc358 (c_K hc358 (by decide +kernel)) 428 3 432 407 rfl rfl rfl (by decide +kernel) fun H359 hc359 => ?_
  refine jT_g (by decide) ?_
  refine c_nw hc359 4 434 75890 (by decide +kernel) fun H360 hc360 => ?_
  refine c_sI hc360 (by rw [c_Kf hc360 (q := (102, 4)) (by decide +kernel)]; decide) (by decide +kernel) fun H361 hc361 => ?_
  refine c_sI hc361 (by rw [c_Kf hc361 (q := (102, 4)) (by decide +kernel)]; decide) (by decide +kernel) fun H362 hc362 => ?_
  refine c_sI hc362 (by rw [c_Kf hc362 (q := (102, 4)) (by decide +kernel)]; decide) (by decide +kernel) fun H363 hc363 => ?_
  refine c_sI hc363 (by rw [c_Kf hc363 (q := (102, 4)) (by decide +kernel)]; decide) (by decide +kernel) fun H364 hc364 => ?_
  refine c_sR hc364 (c_K hc364 (by decide +kernel)) 428 4 433 408 rfl rfl rfl (by decide +kernel) fun H365 hc365 => ?_
  refine jT_g (by decide) ?_
  refine c_nw hc365 100 435 75990 (by decide +kernel) fun H366 hc366 => ?_
  refine c_sR hc366 (c_K hc366 (by decide +kernel)) 428 5 434 409 rfl rfl rfl (by decide +kernel) fun H367 hc367 => ?_
  refine jT_g (c_K hc367 (by decide +kernel)) ?_
  have hC := c_trans hcA (c_trans hcB hc367)
  have q429 : ∀ j, jI H367 429 j = 0 := fun j => ((c_old hc367 (a := 429) (j := j) (by decide)).1).trans (((c_old hcB (a := 429) (j := j) (by decide)).1).trans (z429 j))
  have q432 : ∀ j, jI H367 432 j = 0 := fun j => ((c_old hc367 (a := 432) (j := j) (by decide)).1).trans (z432 j)
  have qt : jT (kTail H367) (fun _ h => jcs 435 75990 409 Hb 421 h) := k_13_tail hC fun _ h => h
  obtain ⟨x, hx, hQ⟩ := qt
  exact ⟨x, hx, hk x.2 hQ ⟨H367, x.2, ⟨c_K hC (by decide +kernel), c_R hC (by decide +kernel), c_R hC (by decide +kernel), c_Kf hC (by decide +kernel), c_Kf hC (by decide +kernel), q429, q432⟩, hx, fun j => ⟨rfl, rfl⟩⟩⟩

theorem k_15_init_427 {Hb : jH} {Q : Unit → jH → Prop} {H : jH} (hc : jcs 428 75335 403 Hb 421 H) (hk : ∀ H', jcs 437 80022 413 Hb 421 H' → Q () H') : jT (F_15_init 427 422 H) Q := by
  unfold F_15_init
  refine jT_g (by decide) ?_
  refine c_nw hc 7 429 75342 (by decide +kernel) fun H351 hc351 => ?_
  refine jT_g (by decide) ?_
  refine jT_b (k_13_init_428 hc351 fun H368 hc368 hp368 => ?_)
  refine c_sRf hc368 (c_K hc368 (by decide +kernel)) 427 1 428 410 rfl rfl rfl (by decide +kernel) fun H369 hc369 f369 => ?_
  have hp369 : jPt H369 := jPt_eq hp368 fun j => by rw [f369.1]; exact ⟨rfl, rfl⟩
  refine jT_g (by decide) ?_
  refine c_nw hc369 4000 436 79990 (by decide +kernel) (e435 := Or.inr hp369) fun H370 hc370 => ?_
  refine c_sR hc370 (c_K hc370 (by decide +kernel)) 427 7 435 411 rfl rfl rfl (by decide +kernel) fun H371 hc371 => ?_
  refine jT_g (by decide) ?_
  refine c_nw hc371 32 437 80022 (by decide +kernel) fun H372 hc372 => ?_
  refine c_sR hc372 (c_K hc372 (by decide +kernel)) 427 9 436 412 rfl rfl rfl (by decide +kernel) fun H373 hc373 => ?_
  refine c_sR hc373 (c_K hc373 (by decide +kernel)) 427 0 422 413 rfl rfl rfl (by decide +kernel) fun H374 hc374 => ?_
  exact jT_ret (hk _ hc374)

theorem k_16_init_445 {Hb : jH} {Q : Unit → jH → Prop} {H : jH} (hc : jcs 446 97664 424 Hb 421 H) (hz : ∀ j, jI H 445 j = 0) (hk : ∀ H', jcs 456 111295 434 Hb 421 H' → jt1 H' → jTr H' → Q () H') : jT (F_16_init 445 300 1000000 H) Q := by
  unfold F_16_init
  have hr := c_rebase hc (by decide)
  refine jT_g (by decide) ?_
  refine jT_g (by decide) ?_
  refine c_nw hr 300 447 97964 (by decide +kernel) fun H397 hc397 => ?_
  refine c_sR hc397 (c_K hc397 (by decide +kernel)) 445 2 446 425 rfl rfl rfl (by decide +kernel) fun H398 hc398 => ?_
  refine jT_g (by decide) ?_
  refine c_nw hc398 300 448 98264 (by decide +kernel) fun H399 hc399 => ?_
  refine c_sR hc399 (c_K hc399 (by decide +kernel)) 445 3 447 426 rfl rfl rfl (by decide +kernel) fun H400 hc400 => ?_
  refine jT_g (by decide) ?_
  refine c_nw hc400 300 449 98564 (by decide +kernel) fun H401 hc401 => ?_
  refine c_sR hc401 (c_K hc401 (by decide +kernel)) 445 4 448 427 rfl rfl rfl (by decide +kernel) fun H402 hc402 => ?_
  refine jT_g (by decide) ?_
  refine c_nw hc402 300 450 98864 (by decide +kernel) fun H403 hc403 => ?_
  refine c_sR hc403 (c_K hc403 (by decide +kernel)) 445 5 449 428 rfl rfl rfl (by decide +kernel) fun H404 hc404 => ?_
  refine jT_g (by decide) ?_
  refine c_nw hc404 300 451 99164 (by decide +kernel) fun H405 hc405 => ?_
  refine c_sR hc405 (c_K hc405 (by decide +kernel)) 445 6 450 429 rfl rfl rfl (by decide +kernel) fun H406 hc406 => ?_
  refine jT_g (by decide) ?_
  refine c_nw hc406 12000 452 111164 (by decide +kernel) fun H407 hc407 => ?_
  refine c_sR hc407 (c_K hc407 (by decide +kernel)) 445 7 451 430 rfl rfl rfl (by decide +kernel) fun H408 hc408 => ?_
  refine jT_g (by decide) ?_
  refine c_nw hc408 40 453 111204 (by decide +kernel) fun H409 hc409 => ?_
  refine c_sR hc409 (c_K hc409 (by decide +kernel)) 445 8 452 431 rfl rfl rfl (by decide +kernel) fun H410 hc410 => ?_
  refine jT_g (by decide) ?_
  refine c_nw hc410 40 454 111244 (by decide +kernel) fun H411 hc411 => ?_
  refine c_sR hc411 (c_K hc411 (by decide +kernel)) 445 9 453 432 rfl rfl rfl (by decide +kernel) fun H412 hc412 => ?_
  refine jT_g (by decide) ?_
  refine c_nw hc412 40 455 111284 (by decide +kernel) fun H413 hc413 => ?_
  refine c_sR hc413 (c_K hc413 (by decide +kernel)) 445 10 454 433 rfl rfl rfl (by decide +kernel) fun H414 hc414 => ?_
  refine jT_g (by decide) ?_
  refine c_nw hc414 11 456 111295 (by decide +kernel) fun H415 hc415 => ?_
  refine c_sR hc415 (c_K hc415 (by decide +kernel)) 445 11 455 434 rfl rfl rfl (by decide +kernel) fun H416 hc416 => ?_
  exact k_16_tail (c_trans hc hc416) (((c_old hc416 (by decide)).1).trans (hz 1)) hk

theorem k_18_init_421 {Hb : jH} {Q : Unit → jH → Prop} {H : jH} (hc : jcs 422 75207 398 Hb 421 H) (hk : ∀ H', jcs 513 1173692 492 Hb 421 H' → jt1 H' → jr1 H' → jTr H' → Q () H') : jT (F_18_init 421 H) Q := by
  unfold F_18_init
  refine jT_g (by decide) ?_
  refine c_nw hc 4 423 75211 (by decide +kernel) fun H339 hc339 => ?_
  refine jT_g (by decide) ?_
  refine jT_b (k_12_init_422 hc339 fun H348 hc348 => ?_)
  refine c_sR hc348 (c_K hc348 (by decide +kernel)) 421 0 422 403 rfl rfl rfl (by decide +kernel) fun H349 hc349 => ?_
  refine c_nw hc349 10 428 75335 (by decide +kernel) fun H350 hc350 => ?_
  refine jT_g (c_K hc350 (by decide +kernel)) ?_
  refine jT_g (by decide) ?_
  rw [c_R hc350 (a := 421) (j := 0) (v := 422) (by decide +kernel)]
  refine jT_b (k_15_init_427 hc350 fun H375 hc375 => ?_)
  refine c_sR hc375 (c_K hc375 (by decide +kernel)) 421 1 427 414 rfl rfl rfl (by decide +kernel) fun H376 hc376 => ?_
  refine c_nw hc376 17 438 80039 (by decide +kernel) fun H377 hc377 => ?_
  refine jT_g (c_K hc377 (by decide +kernel)) ?_
  refine jT_g (c_K hc377 (by decide +kernel)) ?_
  refine jT_g (by decide) ?_
  rw [c_R hc377 (a := 421) (j := 0) (v := 422) (by decide +kernel), c_R hc377 (a := 421) (j := 1) (v := 427) (by decide +kernel)]
  refine jT_b (k_14_init_437 hc377 fun H394 hc394 => ?_)
  refine c_sR hc394 (c_K hc394 (by decide +kernel)) 421 2 437 424 rfl rfl rfl (by decide +kernel) fun H395 hc395 => ?_
  refine c_nwI hc395 12 446 97664 (by decide +kernel) fun H396 hc396 hzT => ?_
  refine jT_g (by decide) ?_
  refine jT_b (k_16_init_445 hc396 hzT fun HT hcT gT gS => ?_)
  have hrT := c_rebase hcT (by decide)
  refine c_sR hrT (c_K hrT (by decide +kernel)) 421 3 445 435 rfl rfl rfl (by decide +kernel) fun H418 hc418 => ?_
  refine c_nw hc418 15 457 111310 (by decide +kernel) fun H419 hc419 => ?_
  refine jT_g (by decide) ?_
  refine jT_b (k_17_init_456 hc419 fun H436 hc436 => ?_)
  refine c_sR hc436 (c_K hc436 (by decide +kernel)) 421 4 456 444 rfl rfl rfl (by decide +kernel) fun H437 hc437 => ?_
  refine c_nw hc437 15 466 111389 (by decide +kernel) fun H438 hc438 => ?_
  refine jT_g (by decide) ?_
  refine jT_b (k_17_init_465 hc438 fun H455 hc455 => ?_)
  refine c_sR hc455 (c_K hc455 (by decide +kernel)) 421 5 465 453 rfl rfl rfl (by decide +kernel) fun H456 hc456 => ?_
  refine jT_g (by decide) ?_
  refine c_nw hc456 600000 475 711453 (by decide +kernel) fun H457 hc457 => ?_
  refine c_sR hc457 (c_K hc457 (by decide +kernel)) 421 6 474 454 rfl rfl rfl (by decide +kernel) fun H458 hc458 => ?_
  refine jT_g (by decide) ?_
  refine c_nw hc458 300 476 711753 (by decide +kernel) fun H459 hc459 => ?_
  refine c_sR hc459 (c_K hc459 (by decide +kernel)) 421 7 475 455 rfl rfl rfl (by decide +kernel) fun H460 hc460 => ?_
  refine jT_g (by decide) ?_
  refine c_nw hc460 9600 477 721353 (by decide +kernel) fun H461 hc461 => ?_
  refine c_sR hc461 (c_K hc461 (by decide +kernel)) 421 8 476 456 rfl rfl rfl (by decide +kernel) fun H462 hc462 => ?_
  refine jT_g (by decide) ?_
  refine c_nw hc462 300 478 721653 (by decide +kernel) fun H463 hc463 => ?_
  refine c_sR hc463 (c_K hc463 (by decide +kernel)) 421 9 477 457 rfl rfl rfl (by decide +kernel) fun H464 hc464 => ?_
  refine jT_g (by decide) ?_
  refine c_nw hc464 300 479 721953 (by decide +kernel) fun H465 hc465 => ?_
  refine c_sR hc465 (c_K hc465 (by decide +kernel)) 421 10 478 458 rfl rfl rfl (by decide +kernel) fun H466 hc466 => ?_
  refine jT_g (by decide) ?_
  refine c_nw hc466 115200 480 837153 (by decide +kernel) fun H467 hc467 => ?_
  refine c_sR hc467 (c_K hc467 (by decide +kernel)) 421 11 479 459 rfl rfl rfl (by decide +kernel) fun H468 hc468 => ?_
  refine jT_g (by decide) ?_
  refine c_nw hc468 384 481 837537 (by decide +kernel) fun H469 hc469 => ?_
  refine c_sR hc469 (c_K hc469 (by decide +kernel)) 421 12 480 460 rfl rfl rfl (by decide +kernel) fun H470 hc470 => ?_
  refine jT_g (by decide) ?_
  refine c_nw hc470 13 482 837550 (by decide +kernel) fun H471 hc471 => ?_
  refine c_sR hc471 (c_K hc471 (by decide +kernel)) 421 15 481 461 rfl rfl rfl (by decide +kernel) fun H472 hc472 => ?_
  refine jT_g (by decide) ?_
  refine c_nw hc472 54400 483 891950 (by decide +kernel) fun H473 hc473 => ?_
  refine c_sR hc473 (c_K hc473 (by decide +kernel)) 421 20 482 462 rfl rfl rfl (by decide +kernel) fun H474 hc474 => ?_
  refine jT_g (by decide) ?_
  refine c_nw hc474 1700 484 893650 (by decide +kernel) fun H475 hc475 => ?_
  refine c_sR hc475 (c_K hc475 (by decide +kernel)) 421 21 483 463 rfl rfl rfl (by decide +kernel) fun H476 hc476 => ?_
  refine jT_g (by decide) ?_
  refine c_nw hc476 1700 485 895350 (by decide +kernel) fun H477 hc477 => ?_
  refine c_sR hc477 (c_K hc477 (by decide +kernel)) 421 22 484 464 rfl rfl rfl (by decide +kernel) fun H478 hc478 => ?_
  refine jT_g (by decide) ?_
  refine c_nw hc478 1700 486 897050 (by decide +kernel) fun H479 hc479 => ?_
  refine c_sR hc479 (c_K hc479 (by decide +kernel)) 421 23 485 465 rfl rfl rfl (by decide +kernel) fun H480 hc480 => ?_
  refine jT_g (by decide) ?_
  refine c_nw hc480 1700 487 898750 (by decide +kernel) fun H481 hc481 => ?_
  refine c_sR hc481 (c_K hc481 (by decide +kernel)) 421 24 486 466 rfl rfl rfl (by decide +kernel) fun H482 hc482 => ?_
  refine jT_g (by decide) ?_
  refine c_nw hc482 1700 488 900450 (by decide +kernel) fun H483 hc483 => ?_
  refine c_sR hc483 (c_K hc483 (by decide +kernel)) 421 25 487 467 rfl rfl rfl (by decide +kernel) fun H484 hc484 => ?_
  refine jT_g (by decide) ?_
  refine c_nw hc484 1700 489 902150 (by decide +kernel) fun H485 hc485 => ?_
  refine c_sR hc485 (c_K hc485 (by decide +kernel)) 421 26 488 468 rfl rfl rfl (by decide +kernel) fun H486 hc486 => ?_
  refine jT_g (by decide) ?_
  refine c_nw hc486 54400 490 956550 (by decide +kernel) fun H487 hc487 => ?_
  refine c_sR hc487 (c_K hc487 (by decide +kernel)) 421 29 489 469 rfl rfl rfl (by decide +kernel) fun H488 hc488 => ?_
  refine jT_g (by decide) ?_
  refine c_nw hc488 1700 491 958250 (by decide +kernel) fun H489 hc489 => ?_
  refine c_sR hc489 (c_K hc489 (by decide +kernel)) 421 30 490 470 rfl rfl rfl (by decide +kernel) fun H490 hc490 => ?_
  refine jT_g (by decide) ?_
  refine c_nw hc490 1700 492 959950 (by decide +kernel) fun H491 hc491 => ?_
  refine c_sR hc491 (c_K hc491 (by decide +kernel)) 421 31 491 471 rfl rfl rfl (by decide +kernel) fun H492 hc492 => ?_
  refine jT_g (by decide) ?_
  refine c_nw hc492 1700 493 961650 (by decide +kernel) fun H493 hc493 => ?_
  refine c_sR hc493 (c_K hc493 (by decide +kernel)) 421 32 492 472 rfl rfl rfl (by decide +kernel) fun H494 hc494 => ?_
  refine jT_g (by decide) ?_
  refine c_nw hc494 1700 494 963350 (by decide +kernel) fun H495 hc495 => ?_
  refine c_sR hc495 (c_K hc495 (by decide +kernel)) 421 33 493 473 rfl rfl rfl (by decide +kernel) fun H496 hc496 => ?_
  refine jT_g (by decide) ?_
  refine c_nw hc496 1700 495 965050 (by decide +kernel) fun H497 hc497 => ?_
  refine c_sR hc497 (c_K hc497 (by decide +kernel)) 421 34 494 474 rfl rfl rfl (by decide +kernel) fun H498 hc498 => ?_
  refine jT_g (by decide) ?_
  refine c_nw hc498 1700 496 966750 (by decide +kernel) fun H499 hc499 => ?_
  refine c_sR hc499 (c_K hc499 (by decide +kernel)) 421 35 495 475 rfl rfl rfl (by decide +kernel) fun H500 hc500 => ?_
  refine jT_g (by decide) ?_
  refine c_nw hc500 84000 497 1050750 (by decide +kernel) fun H501 hc501 => ?_
  refine c_sR hc501 (c_K hc501 (by decide +kernel)) 421 37 496 476 rfl rfl rfl (by decide +kernel) fun H502 hc502 => ?_
  refine jT_g (by decide) ?_
  refine c_nw hc502 42 498 1050792 (by decide +kernel) fun H503 hc503 => ?_
  refine c_sR hc503 (c_K hc503 (by decide +kernel)) 421 38 497 477 rfl rfl rfl (by decide +kernel) fun H504 hc504 => ?_
  refine jT_g (by decide) ?_
  refine c_nw hc504 1344 499 1052136 (by decide +kernel) fun H505 hc505 => ?_
  refine c_sR hc505 (c_K hc505 (by decide +kernel)) 421 39 498 478 rfl rfl rfl (by decide +kernel) fun H506 hc506 => ?_
  refine jT_g (by decide) ?_
  refine c_nw hc506 42 500 1052178 (by decide +kernel) fun H507 hc507 => ?_
  refine c_sR hc507 (c_K hc507 (by decide +kernel)) 421 40 499 479 rfl rfl rfl (by decide +kernel) fun H508 hc508 => ?_
  refine jT_g (by decide) ?_
  refine c_nw hc508 42 501 1052220 (by decide +kernel) fun H509 hc509 => ?_
  refine c_sR hc509 (c_K hc509 (by decide +kernel)) 421 41 500 480 rfl rfl rfl (by decide +kernel) fun H510 hc510 => ?_
  refine jT_g (by decide) ?_
  refine c_nw hc510 336 502 1052556 (by decide +kernel) fun H511 hc511 => ?_
  refine c_sR hc511 (c_K hc511 (by decide +kernel)) 421 42 501 481 rfl rfl rfl (by decide +kernel) fun H512 hc512 => ?_
  refine jT_g (by decide) ?_
  refine c_nw hc512 336 503 1052892 (by decide +kernel) fun H513 hc513 => ?_
  refine c_sR hc513 (c_K hc513 (by decide +kernel)) 421 43 502 482 rfl rfl rfl (by decide +kernel) fun H514 hc514 => ?_
  refine jT_g (by decide) ?_
  refine c_nw hc514 42 504 1052934 (by decide +kernel) fun H515 hc515 => ?_
  refine c_sR hc515 (c_K hc515 (by decide +kernel)) 421 44 503 483 rfl rfl rfl (by decide +kernel) fun H516 hc516 => ?_
  refine jT_g (by decide) ?_
  refine c_nw hc516 84000 505 1136934 (by decide +kernel) fun H517 hc517 => ?_
  refine c_sR hc517 (c_K hc517 (by decide +kernel)) 421 45 504 484 rfl rfl rfl (by decide +kernel) fun H518 hc518 => ?_
  refine jT_g (by decide) ?_
  refine c_nw hc518 42 506 1136976 (by decide +kernel) fun H519 hc519 => ?_
  refine c_sR hc519 (c_K hc519 (by decide +kernel)) 421 46 505 485 rfl rfl rfl (by decide +kernel) fun H520 hc520 => ?_
  refine jT_g (by decide) ?_
  refine c_nw hc520 2000 507 1138976 (by decide +kernel) fun H521 hc521 => ?_
  refine c_sR hc521 (c_K hc521 (by decide +kernel)) 421 47 506 486 rfl rfl rfl (by decide +kernel) fun H522 hc522 => ?_
  refine jT_g (by decide) ?_
  refine c_nw hc522 32 508 1139008 (by decide +kernel) fun H523 hc523 => ?_
  refine c_sR hc523 (c_K hc523 (by decide +kernel)) 421 49 507 487 rfl rfl rfl (by decide +kernel) fun H524 hc524 => ?_
  refine jT_g (by decide) ?_
  refine c_nw hc524 448 509 1139456 (by decide +kernel) fun H525 hc525 => ?_
  refine c_sR hc525 (c_K hc525 (by decide +kernel)) 421 50 508 488 rfl rfl rfl (by decide +kernel) fun H526 hc526 => ?_
  refine jT_g (by decide) ?_
  refine c_nw hc526 32 510 1139488 (by decide +kernel) fun H527 hc527 => ?_
  refine c_sR hc527 (c_K hc527 (by decide +kernel)) 421 51 509 489 rfl rfl rfl (by decide +kernel) fun H528 hc528 => ?_
  refine jT_g (by decide) ?_
  refine c_nw hc528 32000 511 1171488 (by decide +kernel) fun H529 hc529 => ?_
  refine c_sR hc529 (c_K hc529 (by decide +kernel)) 421 53 510 490 rfl rfl rfl (by decide +kernel) fun H530 hc530 => ?_
  refine jT_g (by decide) ?_
  refine c_nw hc530 4 512 1171492 (by decide +kernel) fun H531 hc531 => ?_
  refine c_sR hc531 (c_K hc531 (by decide +kernel)) 421 54 511 491 rfl rfl rfl (by decide +kernel) fun H532 hc532 => ?_
  refine jT_g (by decide) ?_
  refine c_nw hc532 2200 513 1173692 (by decide +kernel) fun H533 hc533 => ?_
  refine c_sR hc533 (c_K hc533 (by decide +kernel)) 421 55 512 492 rfl rfl rfl (by decide +kernel) fun H534 hc534 => ?_
  refine jT_g (c_K hc534 (by decide +kernel)) ?_
  exact k_18_tail hcT gT gS hc534 hk
