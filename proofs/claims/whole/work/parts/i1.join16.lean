/-! The reference joins a block to its tree: the sums. -/
def r51 (H : jH) (k n : Nat) : Prop := ∃ d : Nat → Nat, (∀ i, i < 40 → jI H 451 (40 * k + i) = Int32.ofNat (d i) ∧ d i < 256) ∧ nv 256 d 40 = n
theorem r51_fr {T : Nat → Nat → Prop} {H H' : jH} {k n : Nat} (h : r51 H k n) (hf : jfr T H H') (hT : ∀ j, 40 * k ≤ j → j < 40 * k + 40 → ¬ T 451 j) : r51 H' k n := by
  obtain ⟨d, h1, h2⟩ := h
  exact ⟨d, fun i hi => ⟨(jfr_I hf (hT _ (by omega) (by omega))).trans (h1 i hi).1, (h1 i hi).2⟩, h2⟩
def b_Tj51 (k : Nat) : Nat → Nat → Prop := fun a j => a = 451 ∧ 40 * k ≤ j ∧ j < 40 * k + 40
section JN
variable {H0 : jH}
theorem y16_join91 {Q : Unit → jH → Prop} {p : Int32} {k x y : Nat} (hz : zK16 H0) (hk3 : k < 300) (hx : r40 H0 452 x) (hp : (p = -1 ∧ y = 0) ∨ ∃ q, p = Int32.ofNat q ∧ q < 300 ∧ q ≠ k ∧ r51 H0 q y) (hlt : x + y < 256 ^ 40) (hk : ∀ H', jfr (b_Tj51 k) H0 H' → r51 H' k (x + y) → Q () H') : jT (F_16_join_91 jfuel 445 p (Int32.ofNat k) 0 0 H0) Q := by
  obtain ⟨d, d1, d2⟩ := hx
  obtain ⟨e, e1, e2, e3⟩ : ∃ e : Nat → Nat, (∀ i, i < 40 → e i < 256) ∧ nv 256 e 40 = y ∧ ((p = -1 ∧ ∀ i, e i = 0) ∨ ∃ q, p = Int32.ofNat q ∧ q < 300 ∧ q ≠ k ∧ ∀ i, i < 40 → jI H0 451 (40 * q + i) = Int32.ofNat (e i)) := by
    rcases hp with ⟨h1, h2⟩ | ⟨q, h1, h2, h3, e, h4, h5⟩
    · exact ⟨fun _ => 0, fun i _ => show 0 < 256 by decide, by rw [h2]; exact nv_zero fun _ _ => rfl, Or.inl ⟨h1, fun _ => rfl⟩⟩
    · exact ⟨e, fun i hi => (h4 i hi).2, h5, Or.inr ⟨q, h1, h2, h3, fun i hi => (h4 i hi).1⟩⟩
  have loop : ∀ (dd i fu t : Nat) (w : Nat → Nat) (H : jH), i + dd = 40 → dd < fu → t ≤ 1 → jfr (b_Tj51 k) H0 H → (∀ j, j < i → jI H 451 (40 * k + j) = Int32.ofNat (w j) ∧ w j < 256) → nv 256 w i + t * 256 ^ i = nv 256 d i + nv 256 e i → jT (F_16_join_91 fu 445 p (Int32.ofNat k) (Int32.ofNat t) (Int32.ofNat i) H) Q := by
    intro dd
    induction dd with
    | zero =>
      intro i fu t w H hi hfu ht hf hv hh
      obtain ⟨fu, rfl⟩ : ∃ k, fu = k + 1 := ⟨fu - 1, by omega⟩
      obtain rfl : i = 40 := by omega
      have t0 : t = 0 := by
        rcases (show t = 0 ∨ t = 1 by omega) with h | h
        · exact h
        · rw [h, Nat.one_mul, d2, e2] at hh
          generalize 256 ^ 40 = z at hh hlt
          omega
      subst t0
      rw [Nat.zero_mul, Nat.add_zero, d2, e2] at hh
      unfold F_16_join_91 B_16_join_91
      exact jT_pos (by decide) (jT_ret (hk H hf ⟨w, hv, hh⟩))
    | succ dd ih =>
      intro i fu t w H hi hfu ht hf hv hh
      obtain ⟨fu, rfl⟩ : ∃ k, fu = k + 1 := ⟨fu - 1, by omega⟩
      have hzH : zK16 H := zK16_fr hz (jfr_mono hf fun a j u => Or.inl u.1)
      obtain ⟨a1, a2, a3, a4, a5, a6, a7, a8, a9⟩ := hzH
      have n52 : ∀ j, ¬ b_Tj51 k 452 j := fun j u => absurd u.1 (by decide)
      have ei : Int32.ofNat i + 1 = Int32.ofNat (i + 1) := jo_add (a := i) (b := 1)
      have ek : (40 : Int32) * Int32.ofNat k + Int32.ofNat i = Int32.ofNat (40 * k + i) := by
        rw [show (40 : Int32) = Int32.ofNat 40 from rfl, jo_mul, jo_add]
      have hd := d1 i (by omega)
      have he := e1 i (by omega)
      have g : jin (Int32.ofNat i) 40 := jo_in (by omega) (by omega)
      have g2 : jin (Int32.ofNat (40 * k + i)) 12000 := jo_in (by omega) (by omega)
      have ex : Int32.ofNat (d i) + Int32.ofNat (e i) + Int32.ofNat t = Int32.ofNat (d i + e i + t) := by rw [jo_add, jo_add]
      have er : jrem (Int32.ofNat (d i + e i + t)) 256 = Int32.ofNat ((d i + e i + t) % 256) := jo_rem (b := 256) (by omega) (by decide)
      have eq : Int32.ofNat (d i + e i + t) / 256 = Int32.ofNat ((d i + e i + t) / 256) := jo_div (b := 256) (by omega) (by decide)
      have tail : jT (B_16_join_125 (F_16_join_91 fu) 445 p (Int32.ofNat k) (Int32.ofNat t) (Int32.ofNat i) (Int32.ofNat (d i)) (Int32.ofNat (e i)) H) Q := by
        unfold B_16_join_125
        rw [ex]
        refine jT_l ?_
        rw [er, eq, ei, ek, a2, a6, jo_nat (n := 40 * k + i) (by omega)]
        refine jT_g a1 (jT_g (by decide) (jT_g ⟨rfl, by decide, g2⟩ (jT_l (jT_g (by decide) (jT_l (jT_l ?_))))))
        refine ih (i + 1) fu ((d i + e i + t) / 256) (nup w i ((d i + e i + t) % 256)) _ (by omega) (by omega) (by omega) (jfr_sI hf ⟨rfl, by omega, by omega⟩) (fun j hj => ?_) ?_
        · unfold nup
          by_cases c : j = i
          · rw [c, if_pos rfl]
            exact ⟨jI_sIe, Nat.mod_lt _ (by decide)⟩
          · rw [if_neg c]
            exact ⟨(jI_sIn (by omega)).trans (hv j (by omega)).1, (hv j (by omega)).2⟩
        · have h1 : nv 256 (nup w i ((d i + e i + t) % 256)) (i + 1) = nv 256 w i + (d i + e i + t) % 256 * 256 ^ i := by
            have hx : nv 256 (nup w i ((d i + e i + t) % 256)) i = nv 256 w i := nv_ext fun j hj => by
              unfold nup
              rw [if_neg (by omega)]
            show nv 256 (nup w i ((d i + e i + t) % 256)) i + nup w i ((d i + e i + t) % 256) i * 256 ^ i = _
            rw [hx]
            unfold nup
            rw [if_pos rfl]
          rw [h1, nv_succ, nv_succ, Nat.pow_succ]
          have hdm := Nat.div_add_mod (d i + e i + t) 256
          generalize (d i + e i + t) / 256 = yy at hdm ⊢
          generalize (d i + e i + t) % 256 = zz at hdm ⊢
          generalize 256 ^ i = ww at hh ⊢
          have e4 : (256 * yy + zz) * ww = (d i + e i + t) * ww := by rw [hdm]
          rw [Nat.add_mul, Nat.add_mul, Nat.add_mul] at e4
          have e5 : yy * (ww * 256) = 256 * yy * ww := by rw [Nat.mul_comm ww, ← Nat.mul_assoc, Nat.mul_comm yy]
          rw [e5]
          generalize 256 * yy * ww = p1 at e4 ⊢
          omega
      unfold F_16_join_91 B_16_join_91
      rw [a3, a7, jo_nat (n := i) (by omega), (jfr_I hf (n52 i)).trans hd.1]
      refine jT_neg (by show ¬ Int32.ofNat 40 ≤ _; rw [jo_le (by decide) (by omega)]; omega) (jT_g a1 (jT_g ⟨rfl, g⟩ ?_))
      rcases e3 with ⟨h1, h2⟩ | ⟨q, h1, h2, h3, h4⟩
      · rw [h2 i, h1] at tail
        rw [h1]
        exact jT_neg (by decide) tail
      · have eq2 : (40 : Int32) * Int32.ofNat q + Int32.ofNat i = Int32.ofNat (40 * q + i) := by
          rw [show (40 : Int32) = Int32.ofNat 40 from rfl, jo_mul, jo_add]
        have ev : jI H 451 (40 * q + i) = Int32.ofNat (e i) := (jfr_I hf fun u => by unfold b_Tj51 at u; omega).trans (h4 i (by omega))
        rw [h1] at tail ⊢
        rw [eq2, a2, a6, jo_nat (n := 40 * q + i) (by omega), ev]
        exact jT_pos (by show Int32.ofNat 0 ≤ _; rw [jo_le (by decide) (by omega)]; omega) (jT_g a1 (jT_g ⟨rfl, jo_in (by omega) (by show _ < 12000; omega)⟩ tail))
  exact loop 40 0 jfuel 0 (fun _ => 0) H0 rfl (by unfold jfuel; omega) (by decide) jfr_refl (fun j hj => absurd hj (Nat.not_lt_zero j)) rfl
def b_Tj (n : Nat) : Nat → Nat → Prop := fun a j => (a = 445 ∧ j = 1) ∨ (446 ≤ a ∧ a ≤ 450 ∧ j = n) ∨ b_Tj51 n a j ∨ b_Tq3 a j
theorem jsh_Tj {H H' : jH} {n : Nat} (hs : jsh H) (hf : jfr (b_Tj n) H H') : jsh H' := jsh_fr hs hf (by
    have : ∀ q ∈ jRs, q.1 ≠ 446 ∧ q.1 ≠ 447 ∧ q.1 ≠ 448 ∧ q.1 ≠ 449 ∧ q.1 ≠ 450 ∧ q.1 ≠ 451 ∧ q.1 ≠ 452 ∧ q.1 ≠ 453 ∧ q.1 ≠ 454 ∧ (q.1 ≠ 445 ∨ q.2.1 ≠ 1) := by decide +kernel
    intro q hq w
    have := this q hq
    unfold b_Tj b_Tj51 b_Tq3 at w
    omega) fun a ha j w => by unfold b_Tj b_Tj51 b_Tq3 at w; omega
theorem y16_join {Q : Unit → jH → Prop} {n q h t b y : Nat} (hs : jsh H0) (h1 : jI H0 445 1 = Int32.ofNat n) (hn : n < 300) (hq : q < n) (hh : jI H0 447 q = Int32.ofNat h) (hb : b_bits b) (hle : b_tg b < 2 ^ 256) (hy : r51 H0 q y) (hlt : b_w1 b + y < 256 ^ 40)
    (hk : ∀ H', jsh H' → jfr (b_Tj n) H0 H' → jI H' 445 1 = Int32.ofNat (n + 1) → jI H' 446 n = Int32.ofNat q → jI H' 447 n = Int32.ofNat (h + 1) → jL H' 448 n = Int64.ofNat t → jL H' 449 n = Int64.ofNat b → jI H' 450 n = 0 → r51 H' n (b_w1 b + y) → Q () H') : jT (F_16_join 445 (Int32.ofNat q) (Int64.ofNat t) (Int64.ofNat b) H0) Q := by
  have k16 : ∀ {H}, jsh H → (jK H 445).1 = 16 := fun hs => gT (sK_445 hs)
  have g : jin (Int32.ofNat n) 300 := jo_in (by omega) (by omega)
  have gq : jin (Int32.ofNat q) 300 := jo_in (by omega) (by omega)
  have eh : Int32.ofNat h + 1 = Int32.ofNat (h + 1) := jo_add (a := h) (b := 1)
  have en : Int32.ofNat n + 1 = Int32.ofNat (n + 1) := jo_add (a := n) (b := 1)
  obtain ⟨H1, e1⟩ : ∃ H1, H1 = jsI H0 446 n (Int32.ofNat q) := ⟨_, rfl⟩
  have f1 : jfr (b_Tj n) H0 H1 := by rw [e1]; exact jfr_sI jfr_refl (Or.inr (Or.inl ⟨by decide, by decide, rfl⟩))
  have s1 := jsh_Tj hs f1
  have v1 : jI H1 447 q = Int32.ofNat h := by rw [e1]; exact hh
  obtain ⟨H2, e2⟩ : ∃ H2, H2 = jsI H1 447 n (Int32.ofNat (h + 1)) := ⟨_, rfl⟩
  have f2 : jfr (b_Tj n) H0 H2 := by rw [e2]; exact jfr_sI f1 (Or.inr (Or.inl ⟨by decide, by decide, rfl⟩))
  have s2 := jsh_Tj hs f2
  obtain ⟨H3, e3⟩ : ∃ H3, H3 = jsL H2 448 n (Int64.ofNat t) := ⟨_, rfl⟩
  have f3 : jfr (b_Tj n) H0 H3 := by rw [e3]; exact jfr_sL f2 (Or.inr (Or.inl ⟨by decide, by decide, rfl⟩))
  have s3 := jsh_Tj hs f3
  obtain ⟨H4, e4⟩ : ∃ H4, H4 = jsL H3 449 n (Int64.ofNat b) := ⟨_, rfl⟩
  have f4 : jfr (b_Tj n) H0 H4 := by rw [e4]; exact jfr_sL f3 (Or.inr (Or.inl ⟨by decide, by decide, rfl⟩))
  have s4 := jsh_Tj hs f4
  obtain ⟨H5, e5⟩ : ∃ H5, H5 = jsI H4 450 n (0 &&& 1) := ⟨_, rfl⟩
  have f5 : jfr (b_Tj n) H0 H5 := by rw [e5]; exact jfr_sI f4 (Or.inr (Or.inl ⟨by decide, by decide, rfl⟩))
  have s5 := jsh_Tj hs f5
  have v5 : jI H5 445 1 = Int32.ofNat n := by rw [e5, e4, e3, e2, e1]; exact h1
  obtain ⟨H6, e6⟩ : ∃ H6, H6 = jsI H5 445 1 (Int32.ofNat (n + 1)) := ⟨_, rfl⟩
  have f6 : jfr (b_Tj n) H0 H6 := by rw [e6]; exact jfr_sI f5 (Or.inl ⟨rfl, rfl⟩)
  have s6 := jsh_Tj hs f6
  have w1 : jI H6 445 1 = Int32.ofNat (n + 1) := by rw [e6]; exact jI_sIe
  have w2 : jI H6 446 n = Int32.ofNat q := by
    have : jI H6 446 n = jI H1 446 n := by rw [e6, e5, e4, e3, e2]; rfl
    rw [this, e1]; exact jI_sIe
  have w3 : jI H6 447 n = Int32.ofNat (h + 1) := by
    have : jI H6 447 n = jI H2 447 n := by rw [e6, e5, e4, e3]; rfl
    rw [this, e2]; exact jI_sIe
  have w4 : jL H6 448 n = Int64.ofNat t := by
    have : jL H6 448 n = jL H3 448 n := by rw [e6, e5, e4]; rfl
    rw [this, e3]; exact jL_sLe
  have w5 : jL H6 449 n = Int64.ofNat b := by
    have : jL H6 449 n = jL H4 449 n := by rw [e6, e5]; rfl
    rw [this, e4]; exact jL_sLe
  have w6 : jI H6 450 n = 0 := by
    have : jI H6 450 n = jI H5 450 n := by rw [e6]; rfl
    rw [this, e5]; exact jI_sIe
  obtain ⟨b1, b2, b3, b4⟩ := hb
  have fin : jT (jg ((jK H6 445).1 = 16) (jb (F_16_open (Int64.ofNat b) (jR H6 445 8) H6) fun _ h11 => jg ((jK h11 445).1 = 16) (jb (F_16_quotient 445 h11) fun _ h13 => F_16_join_91 jfuel 445 (Int32.ofNat q) (Int32.ofNat n) 0 0 h13))) Q := by
    rw [sR_445_8 s6]
    refine jT_g (k16 s6) (jT_b (y16_open rfl (Or.inl rfl) (zK16_s s6) (by omega) (by omega) fun H7 f7 r7 => ?_))
    have f7' : jfr (b_Tj n) H0 H7 := jfr_trans f6 (jfr_mono f7 fun a j w => Or.inr (Or.inr (Or.inr (Or.inl w))))
    have s7 := jsh_Tj hs f7'
    refine jT_g (k16 s7) (jT_b (y16_quotient (zK16_s s7) r7 hle fun H8 f8 r8 => ?_))
    have f8' : jfr (b_Tj n) H0 H8 := jfr_trans f7' (jfr_mono f8 fun a j w => Or.inr (Or.inr (Or.inr w)))
    have s8 := jsh_Tj hs f8'
    have hy8 : r51 H8 q y := r51_fr hy f8' fun j j1 j2 w => by unfold b_Tj b_Tj51 b_Tq3 at w; omega
    refine y16_join91 (zK16_s s8) hn r8 (Or.inr ⟨q, rfl, by omega, by omega, hy8⟩) hlt fun H9 f9 r9 => ?_
    have f9' : jfr (b_Tj n) H0 H9 := jfr_trans f8' (jfr_mono f9 fun a j w => Or.inr (Or.inr (Or.inl w)))
    have f69 : jfr (fun a _ => 451 ≤ a ∧ a ≤ 454) H6 H9 := jfr_trans (jfr_trans (jfr_mono f7 fun a j w => by unfold b_Ta at w; omega) (jfr_mono f8 fun a j w => by unfold b_Tq3 at w; omega)) (jfr_mono f9 fun a j w => by unfold b_Tj51 at w; omega)
    exact hk H9 (jsh_Tj hs f9') f9' ((jfr_I f69 (by omega)).trans w1) ((jfr_I f69 (by omega)).trans w2) ((jfr_I f69 (by omega)).trans w3) ((jfr_L f69 (by omega)).trans w4) ((jfr_L f69 (by omega)).trans w5) ((jfr_I f69 (by omega)).trans w6) r9
  unfold F_16_join
  rw [h1, sR_445_2 hs]
  refine jT_g (k16 hs) (jT_l (jT_g (k16 hs) ?_))
  rw [jo_nat (n := n) (by omega), jo_nat (n := q) (by omega), ← e1]
  refine jT_g ?_ (jT_l (jT_g (k16 s1) ?_))
  · rw [sK_446 hs]
    exact ⟨rfl, by decide, g⟩
  rw [sR_445_3 s1, v1, eh]
  refine jT_pos (by show Int32.ofNat 0 ≤ _; rw [jo_le (by decide) (by omega)]; omega) (jT_g (k16 s1) (jT_g (gA (sK_447 s1) gq) ?_))
  unfold B_16_join_36
  rw [sK_447 s1, jo_nat (n := n) (by omega), ← e2]
  refine jT_g ⟨rfl, by decide, g⟩ (jT_l (jT_g (k16 s2) ?_))
  rw [sR_445_4 s2, sK_448 s2, ← e3]
  refine jT_g ⟨rfl, g⟩ (jT_l (jT_g (k16 s3) ?_))
  rw [sR_445_5 s3, sK_449 s3, ← e4]
  refine jT_g ⟨rfl, g⟩ (jT_l (jT_g (k16 s4) ?_))
  rw [sR_445_6 s4, sK_450 s4, ← e5]
  refine jT_g ⟨rfl, g⟩ (jT_l (jT_g (k16 s5) (jT_g (k16 s5) ?_)))
  rw [v5, en, ← e6]
  exact jT_l fin
end JN
/-- the first block's sum -/
theorem b_sm0 {H : jH} (h : jTr H) : ∃ S0, S0 ≤ 2 ^ 256 ∧ r51 H 0 S0 := by
  obtain ⟨HA, HB, hz, hj, he⟩ := h
  obtain ⟨l1, l2, l3, l4⟩ := b_lim_lt
  have p1 : (2 : Nat) ^ 255 ≤ 2 ^ 256 := by decide +kernel
  have p2 : (2 : Nat) ^ 256 < 256 ^ 40 := by decide +kernel
  have hlim : b_lim < 2 ^ 256 := by
    generalize 2 ^ 255 = u at l2 p1
    generalize 2 ^ 256 = v at p1 ⊢
    omega
  have hle : 2 ^ 256 / (b_lim + 1) ≤ 2 ^ 256 := Nat.div_le_self _ _
  refine ⟨2 ^ 256 / (b_lim + 1), hle, ?_⟩
  have key : jT (kJoin HA) (fun _ h => r51 h 0 (2 ^ 256 / (b_lim + 1))) := by
    unfold kJoin
    refine jT_b (y16_open (n := 545259519) rfl (Or.inl rfl) hz (by decide) (by decide) fun H1 f1 r1 => ?_)
    have z1 : zK16 H1 := zK16_fr hz (jfr_mono f1 fun a j w => b_Ta16 (Or.inl rfl) a j w)
    refine jT_g z1.1 (jT_b (y16_quotient z1 (n := b_lim) r1 hlim fun H2 f2 r2 => ?_))
    have z2 : zK16 H2 := zK16_fr z1 (jfr_mono f2 fun a j w => by unfold b_Tq3 at w; unfold zS16; omega)
    refine y16_join91 (y := 0) (k := 0) z2 (by decide) r2 (Or.inl ⟨rfl, rfl⟩) (by rw [Nat.add_zero]; exact Nat.lt_of_le_of_lt hle p2) fun H3 f3 r3 => r3
  obtain ⟨x, hx, hQ⟩ := key
  rw [hj] at hx
  obtain ⟨d, d1, d2⟩ : r51 HB 0 (2 ^ 256 / (b_lim + 1)) := by
    have : x = ((), HB) := (Option.some.inj hx).symm
    rw [this] at hQ
    exact hQ
  exact ⟨d, fun i hi => ⟨(he _).trans (d1 i hi).1, (d1 i hi).2⟩, d2⟩
