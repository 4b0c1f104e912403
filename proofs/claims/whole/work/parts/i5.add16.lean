/-! The reference's tree takes a block. -/
def b_Tad (n : Nat) : Nat → Nat → Prop := fun a j => b_Tj n a j ∨ b_T455 a j
theorem jsh_Tad {H H' : jH} {n : Nat} (hs : jsh H) (hf : jfr (b_Tad n) H H') : jsh H' := jsh_fr hs hf (by
    have : ∀ q ∈ jRs, q.1 ≠ 446 ∧ q.1 ≠ 447 ∧ q.1 ≠ 448 ∧ q.1 ≠ 449 ∧ q.1 ≠ 450 ∧ q.1 ≠ 451 ∧ q.1 ≠ 452 ∧ q.1 ≠ 453 ∧ q.1 ≠ 454 ∧ q.1 ≠ 455 ∧ (q.1 ≠ 445 ∨ q.2.1 ≠ 1) := by decide +kernel
    intro q hq w
    have := this q hq
    unfold b_Tad b_Tj b_Tj51 b_Tq3 b_T455 at w
    omega) fun a ha j w => by unfold b_Tad b_Tj b_Tj51 b_Tq3 b_T455 at w; omega
section AD16
variable {Q : Int32 → jH → Prop} {H0 : jH} {bs : List b_k} {b : b_k} {bad : Nat → Bool} {W : Nat → Nat}
theorem y16_add (hs : jsh H0) (hw : b_wf bs) (hbk : b_bok bs) (hT : b_T bs H0) (hfl : b_fl16 bs.length bad H0) (hS : b_sm W bs.length H0) (h300 : jI H0 445 0 = 300) (hn : bs.length < 300) (hp : b.2.2.1 < bs.length) (eh : b.2.2.2.1 = b_ht bs b.2.2.1 + 1) (hbp : bad b.2.2.1 = false) (eb : b.2.2.2.2.1 = b_mst bs b.2.2.1) (ht : b.2.2.2.2.2.1 < 4294967296) (hm : b_mdn bs b.2.2.1 < b.2.2.2.2.2.1) (hmd : b_mdn bs b.2.2.1 < 4294967296) (hbn : bad bs.length = false) (hpw : W b.2.2.1 + b_w1 b.2.2.2.2.1 < 2 ^ 256)
    (hk : ∀ H', jsh H' → jfr (b_Tad bs.length) H0 H' → b_T (bs ++ [b]) H' → b_fl16 (bs.length + 1) bad H' → b_sm (nup W bs.length (W b.2.2.1 + b_w1 b.2.2.2.2.1)) (bs.length + 1) H' → Q (Int32.ofNat bs.length) H') : jT (F_16_add 445 (Int32.ofNat b.2.2.1) (Int64.ofNat b.2.2.2.2.2.1) (Int64.ofNat b.2.2.2.2.1) H0) Q := by
  have k16 : ∀ {H}, jsh H → (jK H 445).1 = 16 := fun hs => gT (sK_445 hs)
  have gp : jin (Int32.ofNat b.2.2.1) 300 := jo_in (by omega) (by omega)
  have n0 : 1 ≤ bs.length := hw.1
  have hp3 : b_ht bs b.2.2.1 + 1 < 301 := by have := b_ht_300 hw hp; omega
  have hle := b_ht_le hw hp
  obtain ⟨c1, c2, c3, c4⟩ := b_mst_ok hw hbk (p := b.2.2.1) (t := b.2.2.2.2.2.1) hp (by omega) ht
  rw [← eb] at c1 c2 c3
  have c5 : b.2.2.2.2.1 < 2147483648 := by have := b_bits_lt c1; omega
  obtain ⟨l1, l2, l3, l4⟩ := b_lim_lt
  have p1 : (2 : Nat) ^ 255 ≤ 2 ^ 256 := by decide +kernel
  have p2 : (2 : Nat) ^ 256 + 2 ^ 256 < 256 ^ 40 := by decide +kernel
  have htg : b_tg b.2.2.2.2.1 < 2 ^ 256 := by
    generalize 2 ^ 255 = u at l2 p1
    generalize 2 ^ 256 = v at p1 ⊢
    omega
  unfold F_16_add
  rw [b_isBlk hw hs hT hp, jb_ok, sR_445_6 hs, jo_nat (n := b.2.2.1) (by omega), hfl _ hp, hbp]
  refine jT_g (k16 hs) (jT_pos (by decide) (jT_g (k16 hs) (jT_g (gA (sK_450 hs) gp) (jT_pos (by decide) (jT_g (k16 hs) ?_)))))
  refine jT_b (y16_must hw hbk hs hT hp fun H1 s1 f1 => ?_)
  have f1' : jfr (b_Tad bs.length) H0 H1 := jfr_mono f1 fun a j w => Or.inl (Or.inr (Or.inr (Or.inr w)))
  have t1 : b_T bs H1 := b_T_fr hT f1 fun a j w => by unfold b_Tq3 at w; omega
  have e3 : ¬ ((4294967295 : Int64) < Int64.ofNat b.2.2.2.2.2.1) := by
    rw [show (4294967295 : Int64) = Int64.ofNat 4294967295 from rfl, lo_lt (by decide) (by omega)]
    omega
  refine jT_pos (by rw [eb]) (jT_neg e3 (jT_g (k16 s1) (jT_b (y16_median hw hbk s1 t1 hp fun H2 s2 f2 => ?_))))
  have f2' : jfr (b_Tad bs.length) H0 H2 := jfr_trans f1' (jfr_mono f2 fun a j w => Or.inr w)
  have f02 : jfr (fun a _ => (452 ≤ a ∧ a ≤ 455)) H0 H2 := jfr_trans (jfr_mono f1 fun a j w => by unfold b_Tq3 at w; omega) (jfr_mono f2 fun a j w => by unfold b_T455 at w; omega)
  have t2 : b_T bs H2 := b_T_fr hT f02 fun a j w => by omega
  have S2 := b_sm_fr hS f02 fun j w => by omega
  have fl2 : b_fl16 bs.length bad H2 := fun i hi => (jfr_I f02 (by omega)).trans (hfl i hi)
  have v0 : jI H2 445 0 = 300 := (jfr_I f02 (by omega)).trans h300
  refine jT_pos (by rw [lo_lt (by omega) (by omega)]; exact hm) (jT_g (k16 s2) (jT_g (k16 s2) ?_))
  rw [t2.1, v0]
  refine jT_pos (fun w => absurd ((jo_eq (b := 300) (by omega) (by decide)).mp w) (by omega)) (jT_g (k16 s2) ?_)
  have hS2 := S2
  obtain ⟨S0, hS0, hr⟩ := S2
  have hrp : r51 H2 b.2.2.1 (S0 + W b.2.2.1) := hr _ hp
  refine jT_b (y16_join (n := bs.length) (h := b_ht bs b.2.2.1) s2 t2.1 hn hp (t2.2 _ hp).2.1 c1 htg hrp (by generalize 2 ^ 256 = u at *; omega) fun H3 s3 f3 w1 w2 w3 w4 w5 w6 w7 => ?_)
  have f3' : jfr (b_Tad bs.length) H0 H3 := jfr_trans f2' (jfr_mono f3 fun a j w => Or.inl w)
  have es : Int32.ofNat (bs.length + 1) - 1 = Int32.ofNat bs.length := jo_sub (b := 1) (by omega)
  rw [w1, es]
  refine jT_g (k16 s3) (jT_ret (hk H3 s3 f3' (b_T_new t2 f3 w1 w2 n0 (by rw [eh]; exact w3) w4 w5) (b_fl16_new fl2 f3 w6 hbn) ?_))
  refine ⟨S0, hS0, fun i hi => ?_⟩
  by_cases c : i < bs.length
  · have : r51 H3 i (S0 + W i) := r51_fr (hr i c) f3 fun j j1 j2 w => by unfold b_Tj b_Tj51 b_Tq3 at w; omega
    unfold nup
    rw [if_neg (by omega)]
    exact this
  · obtain rfl : i = bs.length := by omega
    unfold nup
    rw [if_pos rfl, ← Nat.add_assoc, Nat.add_comm _ (b_w1 _)]
    exact w7
end AD16
