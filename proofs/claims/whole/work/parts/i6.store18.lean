/-! The reference keeps a block and looks for its tip. -/
theorem w_CB_new {n : Nat} {cs : List w_cn} {T : Nat → Nat → Prop} {H H' : jH} (h : w_CB cs H) (hf : jfr T H H') (hT : ∀ a j, T a j → (a ≠ 474 ∨ 2000 * n ≤ j) ∧ (a < 482 ∨ 488 < a) ∧ ¬ (a = 421 ∧ (j = 17 ∨ j = 18))) (hn : n < 300) (e1 : jI H 445 1 = Int32.ofNat n) (e2 : jI H' 445 1 = Int32.ofNat (n + 1)) : w_CB cs H' := by
  obtain ⟨h1, h2, h3⟩ := h
  have m : ∀ a j, 482 ≤ a → a ≤ 488 → ¬ T a j := fun a j q q2 w => by have := hT a j w; omega
  refine ⟨(jfr_I hf fun w => (hT _ _ w).2.2 ⟨rfl, Or.inl rfl⟩).trans h1, h2, fun k c hk => ?_⟩
  obtain ⟨a1, a2, a3, a4, a5, a6, a7, la, llen, a8, ⟨b1, b2, b3, b4, b5, b6⟩, b7⟩ := h3 k c hk
  rw [e1, jo_nat (n := n) (by omega)] at b7
  exact ⟨a1, zRow_eq a2 fun i _ => jfr_B hf (m 482 _ (by decide) (by decide)), (jfr_L hf (m 483 _ (by decide) (by decide))).trans a3, (jfr_L hf (m 484 _ (by decide) (by decide))).trans a4, (jfr_I hf (m 485 _ (by decide) (by decide))).trans a5, (jfr_I hf (m 486 _ (by decide) (by decide))).trans a6, (jfr_I hf (m 488 _ (by decide) (by decide))).trans a7, la, llen, (jfr_I hf (m 487 _ (by decide) (by decide))).trans a8, ⟨(jfr_K hf 474).trans b1, b2, b3, zRow_eq b4 fun i hi => jfr_B hf fun w => by have := hT _ _ w; omega, b5, b6⟩, by rw [e2, jo_nat (n := n + 1) (by omega)]; omega⟩
theorem b_toks_32 : ∀ {r : List b_t} {rt : Bool}, b_toks rt r → ∀ x ∈ r, x.1.length = 32
  | x :: r, rt, h, z, hz => by
    rcases List.mem_cons.mp hz with rfl | hz
    · exact h.1.1
    · exact b_toks_32 h.2 z hz
def b_Tst (n : Nat) : Nat → Nat → Prop := fun a j => b_Tad n a j ∨ b_Tar n a j
section ST18
variable {Q : Int32 → jH → Prop} {H0 : jH} {bs : List b_k} {b : b_k} {bad : Nat → Bool} {W : Nat → Nat} {tip : Nat}
theorem b_KC_new {c : Nat} {H H' : jH} (hw : b_wf bs) (h : b_KC bs c H) (hf : jfr (b_Tst bs.length) H H') (hn : bs.length < 300) (e1 : jI H 445 1 = Int32.ofNat bs.length) (e2 : jI H' 445 1 = Int32.ofNat (bs.length + 1)) : b_KC (bs ++ [b]) c H' := by
  obtain ⟨h1, h2, h3, k1, k2, k3⟩ := h
  have u : ∀ a j, b_Tst bs.length a j → (a ≠ 474 ∨ 2000 * bs.length ≤ j) ∧ (a < 482 ∨ 488 < a) ∧ ¬ (a = 421 ∧ (j = 17 ∨ j = 18)) ∧ a ≠ 421 := fun a j w => by
    unfold b_Tst b_Tad b_Tj b_Tj51 b_Tq3 b_T455 b_Tar b_Tc at w
    omega
  refine ⟨(jfr_I hf fun w => (u _ _ w).2.2.2 rfl).trans h1, by rw [b_len1]; omega, (b_right_lo hw h2).mpr h3, ?_⟩
  rw [b_ht_lo h2, b_co_lo hw h2]
  exact ⟨w_CB_new k1 hf (fun a j w => ⟨(u a j w).1, (u a j w).2.1, (u a j w).2.2.1⟩) hn e1 e2, (jfr_I hf fun w => (u _ _ w).2.2.2 rfl).trans k2, k3⟩
theorem y18_store (hs : jsh H0) (hR : b_RS bs W bad tip H0) (hbk : b_bok bs) (h300 : jI H0 445 0 = 300) (hnw : b_nw bs b) (h00 : b_tx bs 0 = [] ∧ (b_by bs 0).length ≤ 1999) (hbp : bad b.2.2.1 = false) (eb : b.2.2.2.2.1 = b_mst bs b.2.2.1) (ht : b.2.2.2.2.2.1 < 4294967296) (hm : b_mdn bs b.2.2.1 < b.2.2.2.2.2.1) (hmd : b_mdn bs b.2.2.1 < 4294967296) (hbn : bad bs.length = false) (hpw : W b.2.2.1 + b_w1 b.2.2.2.2.1 < 2 ^ 256)
    (hmx : b_max W bad tip bs.length) (hb0 : bad 0 = false) (hclo : b_clo bs bad)
    (hz : zRow H0 506 1 b.1) (hzn : zRow H0 507 0 b.2.1) (h14 : jI H0 421 14 = Int32.ofNat b.2.2.2.2.2.2.length) (hx : ∀ t x, b.2.2.2.2.2.2[t]? = some x → zRow H0 480 (32 * t) x.1 ∧ x.1.length = 32)
    (hk : ∀ tip' bad' code H', b_cho (bs ++ [b]) (nup W bs.length (W b.2.2.1 + b_w1 b.2.2.2.2.1)) bad tip bs.length tip' bad' code → jsh H' → jfr (fun a j => b_Tst bs.length a j ∨ b_FE a j) H0 H' → b_RS (bs ++ [b]) (nup W bs.length (W b.2.2.1 + b_w1 b.2.2.2.2.1)) bad' tip' H' → (bad' bs.length = true → (jI H' 478 bs.length = 0 ∧ code = 22) ∨ (jI H' 478 bs.length = code ∧ ¬ code ≤ 0)) → (bad' bs.length = false → code = 0) →
      jT (if jI H' 421 13 = Int32.ofNat tip then B_18_arrives_352 421 (Int32.ofNat bs.length) H' else jg ((jK H' 421).1 = 18) (jb (F_18_renew 421 (Int32.ofNat tip) H') fun _ h8 => B_18_arrives_352 421 (Int32.ofNat bs.length) h8)) Q) :
    jT (jb (F_16_add 445 (Int32.ofNat b.2.2.1) (Int64.ofNat b.2.2.2.2.2.1) (Int64.ofNat b.2.2.2.2.1) H0) fun x43 h44 => F_18_arrives_206 jfuel 421 (Int32.ofNat b.1.length) x43 0 h44) Q := by
  obtain ⟨hw, hT, hD, hS, hfl, htl, h13, hr, h477, hlo, ⟨c, hKC⟩, hp⟩ := hR
  obtain ⟨n1, n2, n3, n4, n5, n6, n7⟩ := hnw
  have k18 : ∀ {H}, jsh H → (jK H 421).1 = 18 := fun hs => gT (sK_421 hs)
  refine jT_b (y16_add hs hw hbk hT hfl hS h300 n1 n3 n4 hbp eb ht hm hmd hbn hpw fun H1 s1 f1 t1 fl1 sm1 => ?_)
  have f1' : jfr (b_Tst bs.length) H0 H1 := jfr_mono f1 fun a j w => Or.inl w
  have lo1 : ∀ a j, (a = 506 ∨ a = 507 ∨ a = 480 ∨ a = 421 ∨ a = 474 ∨ a = 475 ∨ a = 476 ∨ a = 479) → ¬ b_Tad bs.length a j := fun a j q w => by
    unfold b_Tad b_Tj b_Tj51 b_Tq3 b_T455 at w
    omega
  refine y18_keep s1 n1 n5.2.1 (zRow_eq hz fun i _ => jfr_B f1 (lo1 _ _ (by omega))) n2 (zRow_eq hzn fun i _ => jfr_B f1 (lo1 _ _ (by omega))) ((jfr_I f1 (lo1 _ _ (by omega))).trans h14) n5.2.2.1 (fun t x ht => ⟨zRow_eq (hx t x ht).1 fun i _ => jfr_B f1 (lo1 _ _ (by omega)), (hx t x ht).2⟩) fun H2 s2 f2 r1 r2 r3 r4 => ?_
  have f2' : jfr (b_Tst bs.length) H0 H2 := jfr_trans f1' (jfr_mono f2 fun a j w => Or.inr w)
  have nw : b_nw bs b := ⟨n1, n2, n3, n4, n5, n6, n7⟩
  have hw2 := b_wf_new hw nw
  have t2 : b_T (bs ++ [b]) H2 := b_T_fr t1 f2 fun a j w => by unfold b_Tar b_Tc at w; omega
  have fl2 : b_fl16 (bs ++ [b]).length bad H2 := fun i hi => by
    rw [b_len1] at hi
    exact (jfr_I f2 fun w => by unfold b_Tar b_Tc at w; omega).trans (fl1 i hi)
  have sm2 : b_sm (nup W bs.length (W b.2.2.1 + b_w1 b.2.2.2.2.1)) (bs ++ [b]).length H2 := by
    rw [b_len1]
    exact b_sm_fr sm1 f2 fun j w => by unfold b_Tar b_Tc at w; omega
  have D2 : b_D (bs ++ [b]) H2 := by
    refine b_D_new hw nw hD (fun a q j => ⟨jfr_B f1 (lo1 _ _ (by omega)), jfr_I f1 (lo1 _ _ (by omega))⟩) f2 (fun x hx1 => ?_) (fun k hk x hx1 => ?_) (fun k hk => ?_) r1 r2 r3 r4
    · obtain ⟨t, ht⟩ := List.getElem?_of_mem hx1
      exact (hx t x ht).2
    · by_cases c0 : k = 0
      · rw [c0, h00.1] at hx1
        cases hx1
      · obtain ⟨-, -, -, q, -⟩ := hw.2.2.2.2 k (by omega) hk
        exact b_toks_32 q x hx1
    · by_cases c0 : k = 0
      · rw [c0, h00.1]
        exact ⟨by have := h00.2; omega, by decide⟩
      · obtain ⟨-, -, q, -⟩ := hw.2.2.2.2 k (by omega) hk
        exact ⟨by have := q.2.1; omega, q.2.2.1⟩
  have v13 : jI H2 421 13 = Int32.ofNat tip := (jfr_I f2' fun w => by unfold b_Tst b_Tad b_Tj b_Tj51 b_Tq3 b_T455 b_Tar b_Tc at w; omega).trans h13
  have n78 : ∀ a j, a = 477 ∨ a = 478 → ¬ b_Tst bs.length a j := fun a j q w => by unfold b_Tst b_Tad b_Tj b_Tj51 b_Tq3 b_T455 b_Tar b_Tc at w; omega
  have lo2 : ∀ k, bs.length ≤ k → k < 300 → jI H2 477 k = 0 ∧ jI H2 478 k = 0 := fun k q1 q2 => ⟨(jfr_I f2' (n78 _ _ (Or.inl rfl))).trans (hlo k q1 q2).1, (jfr_I f2' (n78 _ _ (Or.inr rfl))).trans (hlo k q1 q2).2⟩
  have e1m : jI H2 445 1 = Int32.ofNat (bs.length + 1) := by
    have := t2.1
    rwa [b_len1] at this
  have KC2 : b_KC (bs ++ [b]) c H2 := b_KC_new hw hKC f2' n1 hT.1 e1m
  have p2 : w_p13 H2 := w_p13_T hp f2' fun a j w => by unfold b_Tst b_Tad b_Tj b_Tj51 b_Tq3 b_T455 b_Tar b_Tc at w; omega
  unfold B_18_ar
  rw [v13]
  refine jT_g (k18 s2) (jT_l (jT_g (k18 s2) ?_))
  refine b_choose s2 hw2 t2 D2 sm2 fl2 v13 ((b_right_lo hw htl).mpr hr) (fun k hk1 e => ?_) (lo2 _ (Nat.le_refl _) n1).2 (fun k q1 q2 => lo2 k (by rw [b_len1] at q1; omega) q2) ⟨c, KC2⟩ p2 b_len1.symm htl (b_max_eq hmx fun i hi => if_neg (by omega)) hbn hb0 (b_clo_new hclo hbp) fun tip' bad' code H3 hch s3 f3 R3 c1 c2 => ?_
  · rw [b_len1] at hk1
    by_cases q : k < bs.length
    · refine (b_right_lo hw q).mpr (h477 k q ?_)
      rw [← e]
      exact (jfr_I f2' (n78 _ _ (Or.inl rfl))).symm
    · obtain rfl : k = bs.length := by omega
      rw [(lo2 _ (Nat.le_refl _) n1).1] at e
      exact absurd e (by decide)
  · exact jT_g (k18 s3) (hk tip' bad' code H3 hch s3 (jfr_trans (jfr_mono f2' fun a j w => Or.inl w) (jfr_mono f3 fun a j w => Or.inr w)) R3 c1 c2)
/-- the code that comes of it -/
theorem y18_code {n : Nat} {code : Int32} {H : jH} (hs : jsh H) (hw : b_wf bs) (hT : b_T bs H) (hn : n < bs.length) (hfl : b_fl16 bs.length bad H) (c1 : bad n = true → (jI H 478 n = 0 ∧ code = 22) ∨ (jI H 478 n = code ∧ ¬ code ≤ 0)) (c2 : bad n = false → code = 0) : B_18_arrives_352 421 (Int32.ofNat n) H = some (code, H) := by
  have l300 := hw.2.1
  have k18 : (jK H 421).1 = 18 := gT (sK_421 hs)
  have g : jin (Int32.ofNat n) 300 := jo_in (by omega) (by omega)
  unfold B_18_arrives_352 B_18_arrives_393
  rw [jg_t k18, sR_421_3 hs, jg_t (gT (sK_445 hs)), b_look4 hw hs hT hn, jb_ok, hfl n hn, sR_421_10 hs, jo_nat (n := n) (by omega)]
  cases hb : bad n with
  | false =>
    rw [c2 hb]
    rfl
  | true =>
    rw [if_neg (show ¬ (if true = true then (1 : Int32) else 0) = 0 by decide), if_pos (show ¬ (1 : Int64) = 0 by decide), jg_t k18, jg_t (gA (sK_478 hs) g)]
    rcases c1 hb with ⟨q1, q2⟩ | ⟨q1, q2⟩
    · rw [q1, if_pos (by decide), q2]
    · rw [q1, if_neg q2, jg_t k18, jg_t (gA (sK_478 hs) g)]
end ST18
