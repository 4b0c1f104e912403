/-! Bytes are laid upon the tape. -/
section FEED
variable {Q : Int32 → jH → Prop} {nb : Nat} {os : List Nat} {S : s_S} {tp kn : List UInt8} {ki : Int32} {H : jH}
theorem q_feed {w1 w2 w3 w4 w5 : Int32} (hC : s_cls nb os S tp kn ki H) (h20 : tp.length + 20 ≤ 2000) (hk : ∀ H', s_cls nb os S (tp ++ s_fb (fun i => zwb ([w1, w2, w3, w4, w5].getD (i / 4) 0) (i % 4)) 20) kn ki H' → q_fr 0 0 H H' → Q 1 H') : jT (F_11_feed 32 w1 w2 w3 w4 w5 H) Q := by
  have hs := hC.1
  obtain ⟨x1, x2, x3⟩ := hC.2.2.2.2.2.1
  refine z11_feed (t := tp.length) hs x2 x1 (fun h => by omega) fun H1 _ s1 f1 v1 b1 => ?_
  have tl : (tp ++ s_fb (fun i => zwb ([w1, w2, w3, w4, w5].getD (i / 4) 0) (i % 4)) 20).length = tp.length + 20 := by rw [List.length_append, s_fb_len]
  have C1 : s_cls nb os (s_bx S S.2.2.2.2.2) (tp ++ s_fb (fun i => zwb ([w1, w2, w3, w4, w5].getD (i / 4) 0) (i % 4)) 20) kn ki H1 := s_cls_sm hC s1 f1 (fun a j w => by omega) (p_b11_fr hC.2.2.2.1 f1 fun a j w => by omega) ⟨by rw [tl]; exact v1, by omega, zRow_app (zRow_eq x3 fun i hi => jfr_B f1 (by omega)) (by rw [Nat.zero_add]; exact s_fb_row b1)⟩ ⟨zRow_eq hC.2.2.2.2.2.2.1 fun i _ => jfr_B f1 (by omega), hC.2.2.2.2.2.2.2.1, (jfr_I f1 (by omega)).trans hC.2.2.2.2.2.2.2.2⟩
  exact hk H1 C1 (q_fr_gx hs (jgx_sm f1 fun a j w => Or.inl (by omega)))
end FEED
def q_cl (M : Nat → Int32) (k : Nat) : Nat → Int32 := fun j => if 51 ≤ j ∧ j < 51 + k then 0 else M j
theorem q_cl0 {M : Nat → Int32} : q_cl M 0 = M := funext fun j => if_neg (by omega)
theorem q_cl_s {M : Nat → Int32} {k : Nat} : q_up (q_cl M k) (51 + k) 0 = q_cl M (k + 1) := funext fun j => by
  unfold q_up q_cl
  by_cases c : j = 51 + k
  · rw [if_pos c, if_pos (by omega)]
  · rw [if_neg c]
    by_cases d : 51 ≤ j ∧ j < 51 + k
    · rw [if_pos d, if_pos (by omega)]
    · rw [if_neg d, if_neg (by omega)]
theorem q_cl_o {M : Nat → Int32} {k j : Nat} (h : j < 51 ∨ 51 + k ≤ j) : q_cl M k j = M j := if_neg (by omega)
section TAPE
variable {Q : Int32 → jH → Prop} {H : jH} {M : Nat → Int32} {T : Nat → Int64}
theorem q_190 {r : Int32} (hK : jK H 31 = (100, 64)) (hr : r = 0 ∨ r = 1) (hk : Q r (q_h H (q_cl M 5) T)) : ∀ (d k fu : Nat), k + d = 5 → d < fu → jT (F_L_put_190 fu 31 r (Int32.ofNat (51 + k)) (q_h H (q_cl M k) T)) Q := by
  intro d
  induction d with
  | zero =>
    intro k fu hkd hf
    obtain rfl : k = 5 := by omega
    obtain ⟨fu, rfl⟩ : ∃ k, fu = k + 1 := ⟨fu - 1, by omega⟩
    unfold F_L_put_190 B_L_put_190
    exact jT_pos (by decide) (jT_g hr (jT_ret hk))
  | succ d ih =>
    intro k fu hkd hf
    obtain ⟨fu, rfl⟩ : ∃ k, fu = k + 1 := ⟨fu - 1, by omega⟩
    have e1 : Int32.ofNat (51 + k) + 1 = Int32.ofNat (51 + (k + 1)) := jo_add (a := 51 + k) (b := 1)
    unfold F_L_put_190 B_L_put_190
    rw [e1, jo_nat (n := 51 + k) (by omega), q_sI, q_cl_s]
    exact jT_neg (by show ¬ Int32.ofNat 56 ≤ _; rw [jo_le (by omega) (by omega)]; omega) (jT_g (q_g2 hK (jo_in (by omega) (by omega))) (jT_l (jT_l (ih (k + 1) fu (by omega) (by omega)))))
end TAPE
/-- what went to the tape: full parts of 20 are fed, the rest waits -/
def q_Pt (nb : Nat) (os : List Nat) (S : s_S) (kn : List UInt8) (ki : Int32) (H0 : jH) (M0 : Nat → Int32) (T : Nat → Int64) (l : List UInt8) (H : jH) : Prop :=
  s_cls nb os S (l.take (20 * (l.length / 20))) kn ki H ∧ ((jK H 18 = jK H0 18 ∧ jI H 18 = jI H0 18) ∧ jn H ≤ jn H0 ∧ js H ≤ js H0) ∧ jL H 421 = T ∧ (jI H 31 48 = Int32.ofNat l.length ∧ jI H 31 49 = 1 ∧ jI H 31 50 = Int32.ofNat (l.length % 20)) ∧ (∀ i, i < l.length % 20 → zwb (jI H 31 (51 + i / 4)) (i % 4) = b_fn l (20 * (l.length / 20) + i)) ∧ (∀ i, l.length % 20 ≤ i → i < 4 * ((l.length % 20 + 3) / 4) → zwb (jI H 31 (51 + i / 4)) (i % 4) = 0) ∧ ∀ j, j < 48 ∨ 56 ≤ j → jI H 31 j = M0 j
section TAPE2
variable {nb : Nat} {os : List Nat} {S : s_S} {kn : List UInt8} {ki : Int32} {H0 H : jH} {M0 M : Nat → Int32} {T : Nat → Int64} {l : List UInt8}
theorem q_104 {c W0 : Int32} {n q : Nat} (en : n = l.length) (eq : q = n % 20) (hl : n < 1000) (hC : s_cls nb os S (l.take (20 * (n / 20))) kn ki H) (h18 : (jK H 18 = jK H0 18 ∧ jI H 18 = jI H0 18) ∧ jn H ≤ jn H0 ∧ js H ≤ js H0)
    (h48 : M 48 = Int32.ofNat n ∧ M 49 = 1) (hb : ∀ i, i < q → zwb (M (51 + i / 4)) (i % 4) = b_fn l (20 * (n / 20) + i)) (ho : ∀ j, j < 48 ∨ 56 ≤ j → M j = M0 j)
    (hz : ∀ k, q % 4 ≤ k → k < 4 → zwb W0 k = 0) (hv : ∀ k, k < q % 4 → zwb W0 k = zwb (M (51 + q / 4)) k) : jT (B_L_put_104 32 31 c (Int32.ofNat q) (Int32.ofNat (51 + q / 4)) 31 (Int32.ofNat (51 + q / 4)) W0 (q_h H M T)) (fun r H' => r = 1 ∧ q_Pt nb os S kn ki H0 M0 T (l ++ [jbu c]) H') := by
  have hs := hC.1
  have hK : jK H 31 = (100, 64) := sK_31 hs
  have q20 : q < 20 := by omega
  have r4 : jrem (Int32.ofNat q) 4 = Int32.ofNat (q % 4) := jo_rem (a := q) (b := 4) (by omega) (by omega)
  have m8 : (8 : Int32) * Int32.ofNat (q % 4) = Int32.ofNat (8 * (q % 4)) := jo_mul (a := 8) (b := q % 4)
  have s24 : (24 : Int32) - Int32.ofNat (8 * (q % 4)) = Int32.ofNat (24 - 8 * (q % 4)) := jo_sub (a := 24) (b := 8 * (q % 4)) (by omega)
  have n1 : Int32.ofNat n + 1 = Int32.ofNat (n + 1) := jo_add (a := n) (b := 1)
  have q1 : Int32.ofNat q + 1 = Int32.ofNat (q + 1) := jo_add (a := q) (b := 1)
  have r20 : jrem (Int32.ofNat (q + 1)) 20 = Int32.ofNat ((q + 1) % 20) := jo_rem (a := q + 1) (b := 20) (by omega) (by omega)
  have g : jin (Int32.ofNat (51 + q / 4)) 64 := jo_in (by omega) (by omega)
  obtain ⟨W1, hW1⟩ : ∃ w, w = W0 ||| jshl (c &&& 255) (Int32.ofNat (24 - 8 * (q % 4))) := ⟨_, rfl⟩
  have hw1 : ∀ k, k < 4 → zwb W1 k = if k = q % 4 then jbu c else zwb W0 k := fun k hk => by rw [hW1]; exact q_or (by omega) hk (hz _ (Nat.le_refl _) (by omega))
  obtain ⟨M3, hM3⟩ : ∃ M3, M3 = q_up (q_up (q_up (q_up M (51 + q / 4) W0) (51 + q / 4) W1) 48 (Int32.ofNat (n + 1))) 50 (Int32.ofNat ((q + 1) % 20)) := ⟨_, rfl⟩
  have o3 : ∀ j, j ≠ 51 + q / 4 → j ≠ 48 → j ≠ 50 → M3 j = M j := fun j a b d => by rw [hM3, q_up_n d, q_up_n b, q_up_n a, q_up_n a]
  have v50 : M3 50 = Int32.ofNat ((q + 1) % 20) := by rw [hM3]; exact q_up_e
  have v48 : M3 48 = Int32.ofNat (n + 1) := by rw [hM3, q_up_n (by decide)]; exact q_up_e
  have vat : M3 (51 + q / 4) = W1 := by rw [hM3, q_up_n (by omega), q_up_n (by omega)]; exact q_up_e
  have ln : (l ++ [jbu c]).length = n + 1 := by rw [List.length_append, ← en]; rfl
  have b3 : ∀ i, i ≤ q → zwb (M3 (51 + i / 4)) (i % 4) = b_fn (l ++ [jbu c]) (20 * (n / 20) + i) := fun i hi => by
    by_cases c1 : i = q
    · rw [c1, vat, hw1 _ (by omega), if_pos rfl, show 20 * (n / 20) + q = l.length by omega]
      exact b_fn_new.symm
    · rw [b_fn_app (by omega), ← hb i (by omega)]
      by_cases c2 : i / 4 = q / 4
      · rw [c2, vat, hw1 _ (by omega), if_neg (by omega), hv _ (by omega)]
      · rw [o3 _ (by omega) (by omega) (by omega)]
  have z3 : ∀ i, q + 1 ≤ i → i < 4 * ((q + 1 + 3) / 4) → zwb (M3 (51 + i / 4)) (i % 4) = 0 := fun i a b => by
    rw [show 51 + i / 4 = 51 + q / 4 by omega, vat, hw1 _ (by omega), if_neg (by omega)]
    exact hz _ (by omega) (by omega)
  have ho3 : ∀ j, j < 48 ∨ 56 ≤ j → M3 j = M0 j := fun j hj => (o3 j (by omega) (by omega) (by omega)).trans (ho j hj)
  unfold B_L_put_104
  rw [jo_nat (n := 51 + q / 4) (by omega), r4, m8, s24, q1, r20, q_sI]
  refine jT_g (q_g2 hK g) (jT_l (jT_g (q_g1 hK g) (jT_g (by decide) (jT_g (q_g2 hK g) (jT_l ?_)))))
  rw [q_h_I, q_up_e, ← hW1, q_sI]
  refine jT_g (q_g1 hK (by decide)) (jT_g (q_g2 hK (by decide)) (jT_l ?_))
  rw [q_h_I, show (48 : Int32).toNatClampNeg = 48 from rfl, q_up_n (show 48 ≠ 51 + q / 4 by omega), q_up_n (show 48 ≠ 51 + q / 4 by omega), h48.1, n1, q_sI]
  refine jT_g (by decide) (jT_g (q_g2 hK (by decide)) (jT_l ?_))
  rw [show (50 : Int32).toNatClampNeg = 50 from rfl, q_sI, ← hM3]
  have C3 : s_cls nb os S (l.take (20 * (n / 20))) kn ki (q_h H M3 T) := q_cls_h hC
  by_cases c19 : q = 19
  · refine jT_pos (by rw [c19]; decide) (jT_g (q_g1 hK (by decide)) (jT_g (q_g1 hK (by decide)) (jT_g (q_g1 hK (by decide)) (jT_g (q_g1 hK (by decide)) (jT_g (q_g1 hK (by decide)) (jT_g (gT (sK_32 C3.1)) ?_))))))
    rw [q_h_I]
    have lt : (l.take (20 * (n / 20))).length = 20 * (n / 20) := by rw [List.length_take]; omega
    refine jT_b (q_feed C3 (by omega) fun H5 C5 f5 => ?_)
    obtain ⟨⟨a1, a2⟩, a3, a4, a5, a6⟩ := f5
    rw [q_h_I] at a3
    rw [q_h_L] at a4
    have K5 : jK H5 31 = (100, 64) := sK_31 C5.1
    have e5 : H5 = q_h H5 (q_cl M3 0) T := by rw [q_cl0]; exact q_h_of a3 a4
    have fin := q_190 (Q := fun r H' => r = 1 ∧ q_Pt nb os S kn ki H0 M0 T (l ++ [jbu c]) H') (H := H5) (M := M3) (T := T) (r := 1) K5 (Or.inr rfl) ⟨rfl, ?_⟩ 5 0 jfuel rfl (by unfold jfuel; omega)
    · rw [← e5] at fin
      exact fin
    have d20 : (n + 1) / 20 = n / 20 + 1 := by omega
    have m20 : (n + 1) % 20 = 0 := by omega
    unfold q_Pt
    rw [q_h_I, q_h_L, ln, d20, m20]
    refine ⟨?_, ⟨⟨a1.trans h18.1.1, a2.trans (Eq.trans q_h_I18 h18.1.2)⟩, Nat.le_trans a5 h18.2.1, Nat.le_trans a6 h18.2.2⟩, rfl, ⟨(q_cl_o (by decide)).trans v48, (q_cl_o (by decide)).trans ((o3 49 (by omega) (by decide) (by decide)).trans h48.2), (q_cl_o (by decide)).trans (v50.trans (by rw [c19]))⟩, fun i hi => absurd hi (Nat.not_lt_zero i), fun i a b => by omega, fun j hj => (q_cl_o (by omega)).trans (ho3 j hj)⟩
    have et : (l ++ [jbu c]).take (20 * (n / 20 + 1)) = l.take (20 * (n / 20)) ++ s_fb (fun i => zwb ([M3 51, M3 52, M3 53, M3 54, M3 55].getD (i / 4) 0) (i % 4)) 20 := by
      rw [List.take_of_length_le (by rw [ln]; omega)]
      refine List.ext_getElem? fun i => ?_
      by_cases i1 : i < 20 * (n / 20)
      · rw [List.getElem?_append_left (show i < l.length by omega), List.getElem?_append_left (by rw [lt]; exact i1), List.getElem?_take_of_lt i1]
      · rw [List.getElem?_append_right (l₁ := l.take (20 * (n / 20))) (by rw [lt]; omega), lt]
        by_cases i2 : i < n + 1
        · have x := b3 (i - 20 * (n / 20)) (by omega)
          have gl : (l ++ [jbu c])[i]? = some (b_fn (l ++ [jbu c]) i) := by
            unfold b_fn
            rw [List.getD_eq_getElem?_getD, List.getElem?_eq_getElem (by rw [ln]; exact i2)]
            rfl
          have gr : (s_fb (fun i => zwb ([M3 51, M3 52, M3 53, M3 54, M3 55].getD (i / 4) 0) (i % 4)) 20)[i - 20 * (n / 20)]? = some (zwb ([M3 51, M3 52, M3 53, M3 54, M3 55].getD ((i - 20 * (n / 20)) / 4) 0) ((i - 20 * (n / 20)) % 4)) := by
            unfold s_fb
            rw [List.getElem?_map, List.getElem?_range (by omega)]
            rfl
          have gm : ∀ k, k < 5 → [M3 51, M3 52, M3 53, M3 54, M3 55].getD k 0 = M3 (51 + k) := fun k hk => by
            rcases (show k = 0 ∨ k = 1 ∨ k = 2 ∨ k = 3 ∨ k = 4 by omega) with rfl | rfl | rfl | rfl | rfl <;> rfl
          rw [gl, gr, gm _ (by omega), x]
          congr 2
          omega
        · rw [List.getElem?_eq_none (by rw [ln]; omega), List.getElem?_eq_none (by rw [s_fb_len]; omega)]
    rw [et]
    exact q_cls_h C5
  · refine jT_neg (by show ¬ Int32.ofNat 19 ≤ _; rw [jo_le (by omega) (by omega)]; omega) (jT_g (Or.inr rfl) (jT_ret ⟨rfl, ?_⟩))
    have d20 : (n + 1) / 20 = n / 20 := by omega
    have m20 : (n + 1) % 20 = q + 1 := by omega
    unfold q_Pt
    rw [q_h_I, q_h_L, ln, d20, m20]
    refine ⟨?_, ⟨⟨h18.1.1, Eq.trans q_h_I18 h18.1.2⟩, h18.2⟩, rfl, ⟨v48, (o3 49 (by omega) (by decide) (by decide)).trans h48.2, v50.trans (by rw [Nat.mod_eq_of_lt (by omega)])⟩, fun i hi => b3 i (by omega), z3, ho3⟩
    rw [List.take_append_of_le_length (by omega)]
    exact C3
theorem q_Pt_P : q_P (q_Pt nb os S kn ki H0 M0 T) T := by
  refine ⟨fun l c H h hl => ?_, fun l H h => ⟨sK_421 h.1.1, h.2.2.1⟩⟩
  obtain ⟨hC, h18, hT, ⟨h48, h49, h50⟩, hb, hz, ho⟩ := h
  obtain ⟨M, hM⟩ : ∃ M, M = jI H 31 := ⟨_, rfl⟩
  rw [← hM] at h48 h49 h50 hb hz ho
  have eH : H = q_h H M T := q_h_of hM.symm hT
  have hK : jK H 31 = (100, 64) := sK_31 hC.1
  obtain ⟨q, hq⟩ : ∃ q, q = l.length % 20 := ⟨_, rfl⟩
  rw [← hq] at h50 hb hz
  have d4 : Int32.ofNat q / 4 = Int32.ofNat (q / 4) := jo_div (a := q) (b := 4) (by omega) (by omega)
  have r4 : jrem (Int32.ofNat q) 4 = Int32.ofNat (q % 4) := jo_rem (a := q) (b := 4) (by omega) (by omega)
  have e51 : (51 : Int32) + Int32.ofNat (q / 4) = Int32.ofNat (51 + q / 4) := jo_add (a := 51) (b := q / 4)
  have go : jT (F_L_put 32 31 421 c (q_h H M T)) (fun r H' => r = 1 ∧ q_Pt nb os S kn ki H0 M0 T (l ++ [jbu c]) H') := by
    unfold F_L_put
    rw [q_h_I, show (49 : Int32).toNatClampNeg = 49 from rfl, h49, show (50 : Int32).toNatClampNeg = 50 from rfl, h50]
    refine jT_g (q_g1 hK (by decide)) (jT_pos (by decide) (jT_g (q_g1 hK (by decide)) (jT_pos (by decide) (jT_g (q_g1 hK (by decide)) (jT_l ?_)))))
    rw [d4, r4, e51]
    refine jT_g (by decide) (jT_l ?_)
    rw [jo_nat (n := 51 + q / 4) (by omega)]
    refine jT_g (by decide) (jT_if (fun c4 => ?_) (fun c4 => ?_))
    · have c4' : q % 4 ≠ 0 := fun w => c4 (by rw [w]; rfl)
      refine jT_g (q_g1 hK (jo_in (by omega) (by omega))) (q_104 rfl hq hl hC h18 ⟨h48, h49⟩ hb ho (fun k a b => ?_) fun k _ => rfl)
      have := hz (4 * (q / 4) + k) (by omega) (by omega)
      rw [show (4 * (q / 4) + k) / 4 = q / 4 by omega, show (4 * (q / 4) + k) % 4 = k by omega] at this
      exact this
    · have c4' : q % 4 = 0 := by
        have w := Classical.not_not.mp c4
        rw [show (0 : Int32) = Int32.ofNat 0 from rfl, jo_eq (by omega) (by decide)] at w
        exact w
      exact q_104 rfl hq hl hC h18 ⟨h48, h49⟩ hb ho (fun k _ b => zwb_0 b) fun k a => by omega
  rw [← eH] at go
  exact go
/-- a message is begun -/
theorem q_open {Q : Int32 → jH → Prop} {kd : Int32} {k : Int32 → jH → Option (Int32 × jH)} (hC : s_cls nb os S [] kn ki H) (h1 : jI H 31 = M) (h2 : jL H 421 = T) (hk : ∀ H', q_Pt nb os S kn ki H M T [jbu kd] H' → jT (k 1 H') Q) : jT (jb (F_L_open 32 31 421 kd H) k) Q := by
  have hK : jK H 31 = (100, 64) := sK_31 hC.1
  have eH : H = q_h H M T := q_h_of h1 h2
  obtain ⟨M1, hM1⟩ : ∃ M1, M1 = q_up (q_up (q_up M 49 1) 48 0) 50 0 := ⟨_, rfl⟩
  have loop : ∀ (d i fu : Nat), i + d = 5 → d < fu → jT (F_L_open_19 fu 32 31 421 kd (Int32.ofNat (51 + i)) (q_h H (q_cl M1 i) T)) (fun r H' => jT (k r H') Q) := by
    intro d
    induction d with
    | zero =>
      intro i fu hi hf
      obtain rfl : i = 5 := by omega
      obtain ⟨fu, rfl⟩ : ∃ k, fu = k + 1 := ⟨fu - 1, by omega⟩
      unfold F_L_open_19 B_L_open_19
      refine jT_pos (by decide) (q_put (q_Pt_P (nb := nb) (os := os) (S := S) (kn := kn) (ki := ki) (H0 := H) (M0 := M) (T := T)) (l := []) ?_ (by decide) rfl fun H' h' => jT_g (Or.inr rfl) (jT_ret (hk H' h')))
      unfold q_Pt
      rw [q_h_I, q_h_L]
      refine ⟨q_cls_h hC, ⟨⟨rfl, q_h_I18⟩, Nat.le_refl _, Nat.le_refl _⟩, rfl, ⟨(q_cl_o (by decide)).trans ?_, (q_cl_o (by decide)).trans ?_, (q_cl_o (by decide)).trans ?_⟩, fun i hi => absurd hi (Nat.not_lt_zero i), fun i a b => ?_, fun j hj => (q_cl_o (by omega)).trans ?_⟩
      · rw [hM1]; rfl
      · rw [hM1]; rfl
      · rw [hM1]; rfl
      · have : i < 0 := b
        omega
      · rw [hM1, q_up_n (by omega), q_up_n (by omega), q_up_n (by omega)]
    | succ d ih =>
      intro i fu hi hf
      obtain ⟨fu, rfl⟩ : ∃ k, fu = k + 1 := ⟨fu - 1, by omega⟩
      have e1 : Int32.ofNat (51 + i) + 1 = Int32.ofNat (51 + (i + 1)) := jo_add (a := 51 + i) (b := 1)
      unfold F_L_open_19 B_L_open_19
      rw [e1, jo_nat (n := 51 + i) (by omega), q_sI, q_cl_s]
      exact jT_neg (by show ¬ Int32.ofNat 56 ≤ _; rw [jo_le (by omega) (by omega)]; omega) (jT_g (q_g2 hK (jo_in (by omega) (by omega))) (jT_l (jT_l (ih (i + 1) fu (by omega) (by omega)))))
  have go : jT (F_L_open 32 31 421 kd (q_h H M T)) (fun r H' => jT (k r H') Q) := by
    unfold F_L_open
    refine jT_g (q_g2 hK (by decide)) (jT_l (jT_g (q_g2 hK (by decide)) (jT_l (jT_g (q_g2 hK (by decide)) (jT_l ?_)))))
    rw [q_sI, q_sI, q_sI]
    have := loop 5 0 jfuel rfl (by unfold jfuel; omega)
    rw [q_cl0, hM1] at this
    exact this
  rw [← eH] at go
  exact jT_b go
/-- a message is sent -/
theorem q_send {Q : Int32 → jH → Prop} {p : Nat} (hP : s_pur S) (hp : p < 4) (h : q_Pt nb os S kn ki H0 M0 T l H) (hl : 1 ≤ l.length) (hl2 : l.length < 1000)
    (hk : ∀ nb' os' S' H', s_step p l S S' → s_cls nb' os' S' [] kn ki H' → ((jK H' 18 = jK H0 18 ∧ jI H' 18 = jI H0 18) ∧ jn H' ≤ jn H0 + 78 ∧ js H' ≤ js H0 + 2800) → jL H' 421 = T → (∀ j, j < 48 ∨ 56 ≤ j → jI H' 31 j = M0 j) → Q 1 H') : jT (F_L_send 32 31 (Int32.ofNat p) H) Q := by
  obtain ⟨hC, h18, hT, ⟨h48, h49, h50⟩, hb, hz, ho⟩ := h
  obtain ⟨M, hM⟩ : ∃ M, M = jI H 31 := ⟨_, rfl⟩
  rw [← hM] at h48 h49 h50 hb hz ho
  have eH : H = q_h H M T := q_h_of hM.symm hT
  have hK : jK H 31 = (100, 64) := sK_31 hC.1
  have k11 : (jK H 32).1 = 11 := gT (sK_32 hC.1)
  obtain ⟨n, hn⟩ : ∃ n, n = l.length := ⟨_, rfl⟩
  rw [← hn] at hC h48 h50 hb hz hl hl2
  have lt : (l.take (20 * (n / 20))).length = 20 * (n / 20) := by rw [List.length_take]; omega
  -- behind the last feed
  have fin : ∀ (tp : List UInt8) (H1 : jH), s_cls nb os S tp kn ki H1 → n ≤ tp.length → tp.take n = l → jI H1 31 = M → jL H1 421 = T → ((jK H1 18 = jK H0 18 ∧ jI H1 18 = jI H0 18) ∧ jn H1 ≤ jn H0 ∧ js H1 ≤ js H0) → jT (B_L_send_34 32 31 (Int32.ofNat p) H1) Q := fun tp H1 C1 hn1 et i1 l1 f1 => by
    have K1 : jK H1 31 = (100, 64) := sK_31 C1.1
    have e1 : H1 = q_h H1 M T := q_h_of i1 l1
    unfold B_L_send_34 B_L_send_39
    rw [e1, q_sI, show (50 : Int32).toNatClampNeg = 50 from rfl]
    refine jT_g (q_g2 K1 (by decide)) (jT_l (jT_neg (by decide) (jT_g (q_g1 K1 (by decide)) (jT_g (gT (sK_32 (q_h_sh C1.1))) ?_))))
    rw [q_h_I, show (48 : Int32).toNatClampNeg = 48 from rfl, q_up_n (by decide), h48]
    have C2 : s_cls nb os S tp kn ki (q_h H1 (q_up M 50 0) T) := q_cls_h C1
    refine jT_b (z11_sendw C2 hP hp hl hn1 fun nb' os' S' H' st C' g' => jT_neg (by decide) ?_)
    unfold B_L_send_66
    obtain ⟨⟨a1, a2⟩, a3, a4, a5, a6⟩ := q_fr_gx C2.1 g'
    rw [et] at st
    refine jT_g (Or.inr rfl) (jT_ret (hk nb' os' S' H' st C' ⟨⟨a1.trans f1.1.1, a2.trans (Eq.trans q_h_I18 f1.1.2)⟩, Nat.le_trans a5 (Nat.add_le_add_right f1.2.1 78), Nat.le_trans a6 (Nat.add_le_add_right f1.2.2 2800)⟩ (a4.trans q_h_L) fun j hj => ?_))
    rw [a3, q_h_I, q_up_n (by omega)]
    exact ho j hj
  have go : jT (F_L_send 32 31 (Int32.ofNat p) (q_h H M T)) Q := by
    unfold F_L_send
    rw [q_h_I, show (50 : Int32).toNatClampNeg = 50 from rfl, h50]
    refine jT_g (q_g1 hK (by decide)) (jT_if (fun c => ?_) (fun c => ?_))
    · have c' : n % 20 = 0 := by
        rw [show (0 : Int32) = Int32.ofNat 0 from rfl, jo_eq (by omega) (by decide)] at c
        exact c
      rw [← eH]
      exact fin _ H hC (by omega) (by rw [List.take_take, Nat.min_eq_left (by omega)]; exact List.take_of_length_le (by omega)) hM.symm hT h18
    · refine jT_g (q_g1 hK (by decide)) (jT_g (q_g1 hK (by decide)) (jT_g (q_g1 hK (by decide)) (jT_g (q_g1 hK (by decide)) (jT_g (q_g1 hK (by decide)) (jT_g k11 ?_)))))
      refine jT_b (q_feed (q_cls_h hC) (by omega) fun H5 C5 f5 => jT_neg (by decide) ?_)
      obtain ⟨⟨a1, a2⟩, a3, a4, a5, a6⟩ := f5
      have c' : n % 20 ≠ 0 := fun w => c (by rw [w]; rfl)
      refine fin _ H5 C5 (by rw [List.length_append, lt, s_fb_len]; omega) ?_ (a3.trans q_h_I) (a4.trans q_h_L) ⟨⟨a1.trans h18.1.1, a2.trans (Eq.trans q_h_I18 h18.1.2)⟩, Nat.le_trans a5 h18.2.1, Nat.le_trans a6 h18.2.2⟩
      refine List.ext_getElem? fun i => ?_
      by_cases i2 : i < n
      · rw [List.getElem?_take_of_lt i2]
        by_cases i1 : i < 20 * (n / 20)
        · rw [List.getElem?_append_left (by rw [lt]; exact i1), List.getElem?_take_of_lt i1]
        · rw [List.getElem?_append_right (by rw [lt]; omega), lt]
          have x := hb (i - 20 * (n / 20)) (by omega)
          have gl : l[i]? = some (b_fn l i) := by
            unfold b_fn
            rw [List.getD_eq_getElem?_getD, List.getElem?_eq_getElem (by omega)]
            rfl
          have gm : ∀ k, k < 5 → [M 51, M 52, M 53, M 54, M 55].getD k 0 = M (51 + k) := fun k hk => by
            rcases (show k = 0 ∨ k = 1 ∨ k = 2 ∨ k = 3 ∨ k = 4 by omega) with rfl | rfl | rfl | rfl | rfl <;> rfl
          have gr : (s_fb (fun i => zwb ([M 51, M 52, M 53, M 54, M 55].getD (i / 4) 0) (i % 4)) 20)[i - 20 * (n / 20)]? = some (zwb ([M 51, M 52, M 53, M 54, M 55].getD ((i - 20 * (n / 20)) / 4) 0) ((i - 20 * (n / 20)) % 4)) := by
            unfold s_fb
            rw [List.getElem?_map, List.getElem?_range (by omega)]
            rfl
          show (s_fb (fun i => zwb ([M 51, M 52, M 53, M 54, M 55].getD (i / 4) 0) (i % 4)) 20)[i - 20 * (n / 20)]? = _
          rw [gl, gr, gm _ (by omega), x]
          congr 2
          omega
      · rw [List.getElem?_eq_none (by rw [List.length_take]; omega), List.getElem?_eq_none (by omega)]
  rw [← eH] at go
  exact go
end TAPE2
