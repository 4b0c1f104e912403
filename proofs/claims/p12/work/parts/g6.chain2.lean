/-! The class's chain: replaying, moving, condemning. -/
/-- c stands in the chain of j -/
def b_on (bs : List b_k) (c j : Nat) : Prop := b_ht bs c ≤ b_ht bs j ∧ b_at bs j (b_ht bs c) = c
theorem b_on_self {bs : List b_k} {c : Nat} : b_on bs c c := ⟨Nat.le_refl _, b_at_self⟩
theorem b_on_pa {bs : List b_k} (hw : b_wf bs) {c j : Nat} (hj : j < bs.length) (hj1 : 1 ≤ j) : b_on bs c j ↔ j = c ∨ b_on bs c (b_pa bs j) := by
  obtain ⟨p1, p2, -⟩ := hw.2.2.2.2 j hj1 hj
  constructor
  · rintro ⟨h1, h2⟩
    by_cases e : b_ht bs c = b_ht bs j
    · rw [e, b_at_self] at h2
      exact Or.inl h2
    · refine Or.inr ⟨by omega, ?_⟩
      rw [← b_at_pa hw hj hj1 (by omega)]
      exact h2
  · rintro (rfl | ⟨h1, h2⟩)
    · exact b_on_self
    · refine ⟨by omega, ?_⟩
      rw [b_at_pa hw hj hj1 h1]
      exact h2
theorem b_on_0 {bs : List b_k} (hw : b_wf bs) {c : Nat} (hc : c < bs.length) (h : b_on bs c 0) : c = 0 := by
  obtain ⟨h1, h2⟩ := h
  rw [hw.2.2.1] at h1
  have e : b_ht bs c = 0 := by omega
  exact b_ht_0 hw hc e
/-- what is bad when c has been condemned -/
noncomputable def b_bad' (bs : List b_k) (bad : Nat → Bool) (c : Nat) : Nat → Bool := fun j => b_if (bad j = true ∨ b_on bs c j) true false
theorem b_bad'_t {bs : List b_k} {bad : Nat → Bool} {c j : Nat} : b_bad' bs bad c j = true ↔ bad j = true ∨ b_on bs c j := by
  unfold b_bad'
  by_cases h : bad j = true ∨ b_on bs c j
  · rw [b_pos h]
    exact ⟨fun _ => h, fun _ => rfl⟩
  · rw [b_neg h]
    exact ⟨fun w => (by cases w), fun w => absurd w h⟩
def b_cnt (bad : Nat → Bool) : Nat → Nat
  | 0 => 0
  | k + 1 => b_cnt bad k + if bad k = true then 1 else 0
theorem b_cnt_le {bad : Nat → Bool} : ∀ n, b_cnt bad n ≤ n
  | 0 => Nat.le_refl _
  | n + 1 => by
    have := b_cnt_le (bad := bad) n
    unfold b_cnt
    split <;> omega
/-- children of what is bad are bad -/
def b_clo (bs : List b_k) (bad : Nat → Bool) : Prop := ∀ k, 1 ≤ k → k < bs.length → bad (b_pa bs k) = true → bad k = true
theorem b_Re {H : jH} {a i v : Nat} : jR (jsR H a i v) a i = v := if_pos ⟨rfl, rfl⟩
theorem b_Ra {H : jH} {a i b j v : Nat} (h : b ≠ a) : jR (jsR H a i v) b j = jR H b j := if_neg fun q => h q.1
theorem b_Rn {H : jH} {a i b j v : Nat} (h : j ≠ i) : jR (jsR H a i v) b j = jR H b j := if_neg fun q => h q.2
section CH2
variable {α : Type} {nb tip : Nat} {bs : List b_k} {os : List Nat} {Hs : jH} {bad : Nat → Bool}
theorem z1_replay {Q : α → jH → Prop} {k : Unit → jH → Option (α × jH)} {f : Nat} (hw : b_wf bs) (hs : jsh Hs) (hB : b_BC nb bs os Hs) (hL : b_LN bs os tip Hs) (hf : f ≤ b_ht bs tip) (hr : b_right bs tip)
    (hk : ∀ H', jsh H' → jfr b_FA Hs H' → b_KA (b_co bs tip f).1 (b_co bs tip f).2 H' → jT (k () H') Q) : jT (jb (F_1_replay 398 (Int32.ofNat f) Hs) k) Q := by
  have l300 := hw.2.1
  have ht3 := b_ht_300 hw hL.1
  have hfit := b_co_ok hw hL.1 (h := b_ht bs tip) (Nat.le_refl _) fun g g1 g2 => hr g g1 g2
  have loop : ∀ (d h fu : Nat) (H : jH), h + d = f → d < fu → jsh H → jfr b_FA Hs H → b_KA (b_co bs tip h).1 (b_co bs tip h).2 H → jT (F_1_replay_9 fu 398 (Int32.ofNat f) (Int32.ofNat (h + 1)) H) (fun v h => jT (k v h) Q) := by
    intro d
    induction d with
    | zero =>
      intro h fu H hd hfu hs1 hfr hK
      obtain ⟨fu, rfl⟩ : ∃ k, fu = k + 1 := ⟨fu - 1, by omega⟩
      obtain rfl : h = f := by omega
      unfold F_1_replay_9 B_1_replay_9 B_1_replay_40
      exact jT_pos (by rw [jo_lt (by omega) (by omega)]; omega) (jT_ret (hk H hs1 hfr hK))
    | succ d ih =>
      intro h fu H hd hfu hs1 hfr hK
      obtain ⟨fu, rfl⟩ : ∃ k, fu = k + 1 := ⟨fu - 1, by omega⟩
      have hB1 : b_BC nb bs os H := b_BC_fr hB hfr fun a j w => by unfold b_FA at w; omega
      have hL1 : b_LN bs os tip H := b_LN_fr hL hfr fun a j w => by unfold b_FA at w; omega
      obtain ⟨q1, q2, q3⟩ := b_at_ok hw hL.1 (h := h + 1) (by omega)
      have hk1 := b_ht_pos hw q3 (by omega)
      obtain ⟨-, -, play, ptok, -⟩ := hw.2.2.2.2 _ hk1 q3
      obtain ⟨m1, m2, m3⟩ := b_bx_bt hs1 (hB1.2.2.2.2 _ q3).2
      have e1 : Int32.ofNat (h + 1) + 1 = Int32.ofNat (h + 1 + 1) := jo_add (a := h + 1) (b := 1)
      have m1' : b_bt (b_o os (b_at bs tip (h + 1))) (h + 1) (b_tx bs (b_at bs tip (h + 1))) H := by
        have e : (b_g bs (b_at bs tip (h + 1))).2.2.2.1 = h + 1 := q2
        rw [e] at m1
        exact m1
      unfold F_1_replay_9 B_1_replay_9
      rw [sR_398_7 hs1, sR_398_1 hs1, jo_nat (n := h + 1) (by omega), hL1.2.2 _ (by omega), e1]
      refine jT_neg (by rw [jo_lt (by omega) (by omega)]; omega) (jT_neg (by show ¬ Int32.ofNat 300 ≤ _; rw [jo_le (by decide) (by omega)]; omega) (jT_g (gT (sK_398 hs1)) (jT_g (gT (sK_398 hs1)) (jT_g (gA (sK_400 hs1) (jo_in (by omega) (by show _ < 300; omega))) (jT_g (gT (sK_392 hs1)) ?_)))))
      refine z2_apply m1' m2 m3 play.2.2.1 ptok (hfit.2.2 (h + 1) (by omega) (by omega)) hs1 hK fun H2 s2 f2 K2 => jT_l (ih (h + 1) fu H2 (by omega) (by omega) s2 (jfr_trans hfr f2) K2)
  unfold F_1_replay
  rw [sR_398_1 hs]
  exact jT_b (jT_g (gT (sK_398 hs)) (jT_g (gT (sK_392 hs)) (z2_clear hs fun H1 s1 f1 K1 => loop f 0 jfuel H1 (Nat.zero_add _) (by unfold jfuel; omega) s1 f1 K1)))
/-- what moving writes -/
def b_FM : Nat → Nat → Prop := fun a j => a = 400 ∨ a = 402 ∨ (a = 398 ∧ (j = 6 ∨ j = 10))
theorem jRs_400 : ∀ q ∈ jRs, q.1 ≠ 400 ∧ q.1 ≠ 402 ∧ ¬ (q.1 = 398 ∧ q.2.1 = 6) := by decide +kernel
theorem jsh_sRm {H : jH} {a i v : Nat} (hs : jsh H) (h : a = 400 ∨ a = 402 ∨ (a = 398 ∧ i = 6)) : jsh (jsR H a i v) := by
  obtain ⟨a0, a1, a2, a3, a4⟩ := hs
  refine ⟨a0, a1, a2, fun q hq hc => (jup_ne fun w => ?_).trans (a3 q hq hc), a4⟩
  obtain ⟨n1, n2, n3⟩ := jRs_400 q hq
  omega
/-- the blocks that are left, from the lowest on -/
def b_LF (bs : List b_k) (os : List Nat) (old f : Nat) (H : jH) : Prop := jI H 398 10 = Int32.ofNat (b_ht bs old - f) ∧ ∀ i, i < b_ht bs old - f → jR H 402 i = b_o os (b_at bs old (f + 1 + i))
theorem z1_move {Q : α → jH → Prop} {k : Unit → jH → Option (α × jH)} {x f : Nat} (hw : b_wf bs) (hs : jsh Hs) (hB : b_BC nb bs os Hs) (hL : b_LN bs os tip Hs) (hx : x < bs.length) (hf : b_isf bs x tip f) (h10 : jI Hs 398 10 = 0) (h401 : ∀ h, f < h → h ≤ b_ht bs x → jR Hs 401 h = b_o os (b_at bs x h))
    (hk : ∀ H', jsh H' → jfr b_FM Hs H' → b_LN bs os x H' → b_LF bs os tip f H' → jT (k () H') Q) : jT (jb (F_1_move 398 (Int32.ofNat f) (b_o os x) Hs) k) Q := by
  have l300 := hw.2.1
  have hx3 := b_ht_300 hw hx
  have ht3 := b_ht_300 hw hL.1
  obtain ⟨f1, f2, f3, f4⟩ := hf
  have nB : ∀ a j, b_FM a j → a < 398 ∨ (a = 398 ∧ j ≠ 4) ∨ (399 < a ∧ a < 409) ∨ (413 < a ∧ a < 422) := fun a j w => by unfold b_FM at w; omega
  -- the second loop
  have loop2 : ∀ (d h fu : Nat) (H : jH), h + d = b_ht bs x → f ≤ h → d < fu → jsh H → jfr b_FM Hs H → (∀ g, g ≤ h → jR H 400 g = b_o os (b_at bs x g)) → b_LF bs os tip f H → jT (F_1_move_57 fu 398 (b_o os x) (Int32.ofNat (h + 1)) H) (fun v h => jT (k v h) Q) := by
    intro d
    induction d with
    | zero =>
      intro h fu H hd hfh hfu hs1 hfr hR hLF
      obtain ⟨fu, rfl⟩ : ∃ k, fu = k + 1 := ⟨fu - 1, by omega⟩
      have hB1 := b_BC_fr hB hfr nB
      obtain ⟨-, m2⟩ := hB1.2.2.2.2 _ hx
      have s2 : jsh (jsR H 398 6 (b_o os x)) := jsh_sRm hs1 (Or.inr (Or.inr ⟨rfl, rfl⟩))
      have fr2 : jfr b_FM Hs (jsR H 398 6 (b_o os x)) := jfr_sR hfr (Or.inr (Or.inr ⟨rfl, Or.inl rfl⟩))
      unfold F_1_move_57 B_1_move_57 B_1_move_90
      rw [show jI H (b_o os x) 6 = Int32.ofNat (b_ht bs x) from m2.1.2.2.2.1]
      refine jT_g m2.1.1 (jT_pos (by rw [jo_lt (by omega) (by omega)]; omega) (jT_g (gT (sK_398 hs1)) (jT_l (jT_ret (hk _ s2 fr2 ⟨hx, b_Re, fun g hg => (b_Ra (by decide)).trans (hR g (by omega))⟩ ⟨hLF.1, fun i hi => (b_Ra (by decide)).trans (hLF.2 i hi)⟩)))))
    | succ d ih =>
      intro h fu H hd hfh hfu hs1 hfr hR hLF
      obtain ⟨fu, rfl⟩ : ∃ k, fu = k + 1 := ⟨fu - 1, by omega⟩
      have hB1 := b_BC_fr hB hfr nB
      obtain ⟨-, m2⟩ := hB1.2.2.2.2 _ hx
      obtain ⟨q1, q2, q3⟩ := b_at_ok hw hx (h := h + 1) (by omega)
      have e401 : jR H 401 (h + 1) = b_o os (b_at bs x (h + 1)) := (jfr_R hfr (by unfold b_FM; omega)).trans (h401 (h + 1) (by omega) (by omega))
      have e1 : Int32.ofNat (h + 1) + 1 = Int32.ofNat (h + 1 + 1) := jo_add (a := h + 1) (b := 1)
      have kz : (jK H (b_o os (b_at bs x (h + 1)))).1 = 0 := (b_o_pos hs1 hB1 q3).2
      have s2 : jsh (jsR H 400 (h + 1) (b_o os (b_at bs x (h + 1)))) := jsh_sRm hs1 (Or.inl rfl)
      have fr2 : jfr b_FM Hs (jsR H 400 (h + 1) (b_o os (b_at bs x (h + 1)))) := jfr_sR hfr (Or.inl rfl)
      have g : jin (Int32.ofNat (h + 1)) 300 := jo_in (by omega) (by omega)
      unfold F_1_move_57 B_1_move_57
      rw [show jI H (b_o os x) 6 = Int32.ofNat (b_ht bs x) from m2.1.2.2.2.1, sR_398_7 hs1, sR_398_8 hs1, jo_nat (n := h + 1) (by omega), e401, e1]
      refine jT_g m2.1.1 (jT_neg (by rw [jo_lt (by omega) (by omega)]; omega) (jT_neg (by show ¬ Int32.ofNat 300 ≤ _; rw [jo_le (by decide) (by omega)]; omega) (jT_g (gT (sK_398 hs1)) (jT_g (gT (sK_398 hs1)) (jT_g (gA (sK_401 hs1) g) (jT_g ⟨gT (sK_400 hs1), by rw [sK_400 hs1]; exact g, Or.inr kz⟩ (jT_l (jT_l ?_))))))))
      refine ih (h + 1) fu _ (by omega) (by omega) (by omega) s2 fr2 (fun g hg => ?_) ⟨hLF.1, fun i hi => (b_Ra (by decide)).trans (hLF.2 i hi)⟩
      by_cases c : g = h + 1
      · rw [c]
        exact b_Re
      · exact (b_Rn c).trans (hR g (by omega))
  -- the first loop
  have loop1 : ∀ (d i fu : Nat) (H : jH), f + i + d = b_ht bs tip → d < fu → jsh H → jfr b_FM Hs H → jI H 398 10 = Int32.ofNat i → (∀ g, jR H 400 g = jR Hs 400 g) → jR H 398 6 = b_o os tip → (∀ n, n < i → jR H 402 n = b_o os (b_at bs tip (f + 1 + n))) → jT (F_1_move_4 fu 398 (Int32.ofNat f) (b_o os x) (Int32.ofNat (f + 1 + i)) H) (fun v h => jT (k v h) Q) := by
    intro d
    induction d with
    | zero =>
      intro i fu H hd hfu hs1 hfr h10 h400 h6 h402
      obtain ⟨fu, rfl⟩ : ∃ k, fu = k + 1 := ⟨fu - 1, by omega⟩
      have hB1 := b_BC_fr hB hfr nB
      obtain ⟨-, m2⟩ := hB1.2.2.2.2 _ hL.1
      have ef : Int32.ofNat f + 1 = Int32.ofNat (f + 1) := jo_add (a := f) (b := 1)
      unfold F_1_move_4 B_1_move_4 B_1_move_53
      rw [h6, show jI H (b_o os tip) 6 = Int32.ofNat (b_ht bs tip) from m2.1.2.2.2.1, ef]
      refine jT_g (gT (sK_398 hs1)) (jT_g m2.1.1 (jT_pos (by rw [jo_lt (by omega) (by omega)]; omega) (jT_l ?_)))
      refine loop2 (b_ht bs x - f) f jfuel H (by omega) (Nat.le_refl _) (by unfold jfuel; omega) hs1 hfr (fun g hg => ?_) ⟨by rw [h10]; congr 1; omega, fun n hn => h402 n (by omega)⟩
      rw [h400, hL.2.2 g (by omega), b_isf_lo hw hx hL.1 ⟨f1, f2, f3, f4⟩ g hg]
    | succ d ih =>
      intro i fu H hd hfu hs1 hfr h10 h400 h6 h402
      obtain ⟨fu, rfl⟩ : ∃ k, fu = k + 1 := ⟨fu - 1, by omega⟩
      have hB1 := b_BC_fr hB hfr nB
      obtain ⟨-, m2⟩ := hB1.2.2.2.2 _ hL.1
      obtain ⟨q1, q2, q3⟩ := b_at_ok hw hL.1 (h := f + 1 + i) (by omega)
      have e400 : jR H 400 (f + 1 + i) = b_o os (b_at bs tip (f + 1 + i)) := (h400 _).trans (hL.2.2 _ (by omega))
      have kz : (jK H (b_o os (b_at bs tip (f + 1 + i)))).1 = 0 := (b_o_pos hs1 hB1 q3).2
      have e1 : Int32.ofNat (f + 1 + i) + 1 = Int32.ofNat (f + 1 + (i + 1)) := jo_add (a := f + 1 + i) (b := 1)
      have e2 : Int32.ofNat i + 1 = Int32.ofNat (i + 1) := jo_add (a := i) (b := 1)
      have s2 : jsh (jsR H 402 i (b_o os (b_at bs tip (f + 1 + i)))) := jsh_sRm hs1 (Or.inr (Or.inl rfl))
      have g : jin (Int32.ofNat (f + 1 + i)) 300 := jo_in (by omega) (by omega)
      have g2 : jin (Int32.ofNat i) 300 := jo_in (by omega) (by omega)
      have e10 : jI (jsR H 402 i (b_o os (b_at bs tip (f + 1 + i)))) 398 10 = Int32.ofNat i := h10
      unfold F_1_move_4 B_1_move_4
      rw [h6, show jI H (b_o os tip) 6 = Int32.ofNat (b_ht bs tip) from m2.1.2.2.2.1, h10, sR_398_7 hs1, sR_398_9 hs1, jo_nat (n := f + 1 + i) (by omega), jo_nat (n := i) (by omega), e400, e1]
      refine jT_g (gT (sK_398 hs1)) (jT_g m2.1.1 (jT_neg (by rw [jo_lt (by omega) (by omega)]; omega) (jT_neg (by show ¬ Int32.ofNat 300 ≤ _; rw [jo_le (by decide) (by omega)]; omega) (jT_g (gT (sK_398 hs1)) (jT_g (gT (sK_398 hs1)) (jT_g (gT (sK_398 hs1)) (jT_g (gA (sK_400 hs1) g) (jT_g ⟨gT (sK_402 hs1), by rw [sK_402 hs1]; exact g2, Or.inr kz⟩ (jT_l (jT_g (gT (sK_398 s2)) (jT_g (gT (sK_398 s2)) ?_)))))))))))
      rw [e10, e2]
      refine jT_l (jT_l (ih (i + 1) fu _ (by omega) (by omega) (jsh_sI s2 (by decide)) (jfr_sI (jfr_sR hfr (Or.inr (Or.inl rfl))) (Or.inr (Or.inr ⟨rfl, Or.inr rfl⟩))) jI_sIe (fun g => (b_Ra (by decide)).trans (h400 g)) ((b_Ra (by decide)).trans h6) fun n hn => ?_))
      show jR (jsR H 402 i (b_o os (b_at bs tip (f + 1 + i)))) 402 n = _
      by_cases c : n = i
      · rw [c]
        exact b_Re
      · exact (b_Rn c).trans (h402 n (by omega))
  have ef : Int32.ofNat f + 1 = Int32.ofNat (f + 1) := jo_add (a := f) (b := 1)
  unfold F_1_move
  refine jT_b (jT_l ?_)
  rw [ef]
  exact loop1 (b_ht bs tip - f) 0 jfuel Hs (by omega) (by unfold jfuel; omega) hs jfr_refl h10 (fun _ => rfl) hL.2.1 fun n hn => absurd hn (Nat.not_lt_zero n)
/-- what condemning writes -/
def b_FC7 (os : List Nat) : Nat → Nat → Prop := fun a j => (a = 398 ∧ j = 5) ∨ (j = 7 ∧ ∃ i, i < os.length ∧ a = b_o os i)
theorem z1_condemn {Q : α → jH → Prop} {k : Unit → jH → Option (α × jH)} {c : Nat} (hw : b_wf bs) (hs : jsh Hs) (hB : b_BC nb bs os Hs) (hb : b_bd os bs.length bad Hs) (hclo : b_clo bs bad) (hc : c < bs.length) (hc1 : 1 ≤ c)
    (hk : ∀ H', jsh H' → jfr (b_FC7 os) Hs H' → b_BC nb bs os H' → b_bd os bs.length (b_bad' bs bad c) H' → jI H' 398 5 = Int32.ofNat (b_cnt (b_bad' bs bad c) bs.length) → jT (k () H') Q) : jT (jb (F_1_condemn 398 (b_o os c) Hs) k) Q := by
  have l300 := hw.2.1
  have hlen : os.length = bs.length := hB.1
  have o410 : ∀ {H : jH}, jsh H → b_BC nb bs os H → ∀ i, i < bs.length → 410 ≤ b_o os i ∧ b_dy nb (b_o os i) ∧ (jK H (b_o os i)).1 = 0 := fun hs h i hi => ⟨(b_o_pos hs h hi).1, (h.2.2.2.2 i hi).2.1.2.1, (b_o_pos hs h hi).2⟩
  have keep : ∀ {H H1 : jH}, b_BC nb bs os H → jsh H → jfr (b_FC7 os) H H1 → b_BC nb bs os H1 := fun h hs hf => b_BC_kp h (jkp_fr hf fun a j ha w => by
    rcases w with w | ⟨w1, i, hi, w2⟩
    · unfold b_dy at ha
      omega
    · rw [w2]
      exact ⟨(o410 hs h i (by omega)).2.2, w1⟩) (jfr_I hf fun w => by
    rcases w with w | ⟨w1, -⟩ <;> omega) fun n => jfr_R hf fun w => by
    rcases w with w | ⟨w1, i, hi, w2⟩
    · omega
    · have := (o410 hs h i (by omega)).1
      omega
  have loop : ∀ (d i fu : Nat) (H : jH), i + d = bs.length → d < fu → jsh H → jfr (b_FC7 os) Hs H → b_BC nb bs os H → jI H 398 5 = Int32.ofNat (b_cnt (b_bad' bs bad c) i) → (∀ n, n < i → jI H (b_o os n) 7 = if b_bad' bs bad c n = true then 1 else 0) → (∀ n, i ≤ n → n < bs.length → jI H (b_o os n) 7 = if bad n = true ∨ n = c then 1 else 0) → jT (F_1_condemn_12 fu 398 (Int32.ofNat i) H) (fun v h => jT (k v h) Q) := by
    intro d
    induction d with
    | zero =>
      intro i fu H hd hfu hs1 hfr hB1 h5 h7 h8
      obtain ⟨fu, rfl⟩ : ∃ k, fu = k + 1 := ⟨fu - 1, by omega⟩
      obtain rfl : i = bs.length := by omega
      unfold F_1_condemn_12 B_1_condemn_12
      rw [hB1.2.2.2.1]
      exact jT_g (gT (sK_398 hs1)) (jT_pos (by rw [jo_le (by omega) (by omega)]; exact Nat.le_refl _) (jT_ret (hk H hs1 hfr hB1 h7 h5)))
    | succ d ih =>
      intro i fu H hd hfu hs1 hfr hB1 h5 h7 h8
      obtain ⟨fu, rfl⟩ : ∃ k, fu = k + 1 := ⟨fu - 1, by omega⟩
      have hi : i < bs.length := by omega
      obtain ⟨q1, q2⟩ := hB1.2.2.2.2 i hi
      have e1 : Int32.ofNat i + 1 = Int32.ofNat (i + 1) := jo_add (a := i) (b := 1)
      have hcnt := b_cnt_le (bad := b_bad' bs bad c) i
      -- the end of a round: the flag of i is right
      have fin : ∀ (H1 : jH), jsh H1 → jfr (b_FC7 os) Hs H1 → b_BC nb bs os H1 → jI H1 398 5 = Int32.ofNat (b_cnt (b_bad' bs bad c) i) → (∀ n, n ≤ i → jI H1 (b_o os n) 7 = if b_bad' bs bad c n = true then 1 else 0) → (∀ n, i < n → n < bs.length → jI H1 (b_o os n) 7 = if bad n = true ∨ n = c then 1 else 0) → jT (B_1_condemn_49 (F_1_condemn_12 fu) 398 (Int32.ofNat i) (b_o os i) H1) (fun v h => jT (k v h) Q) := by
        intro H1 s1 fr1 B1 g5 g7 g8
        have g7' : ∀ n, n < i + 1 → jI H1 (b_o os n) 7 = if b_bad' bs bad c n = true then 1 else 0 := fun n hn => g7 n (by omega)
        have ei := g7 i (Nat.le_refl _)
        unfold B_1_condemn_49 B_1_condemn_66
        rw [ei, e1]
        by_cases cb : b_bad' bs bad c i = true
        · rw [if_pos cb]
          have e5 : jI H1 398 5 + 1 = Int32.ofNat (b_cnt (b_bad' bs bad c) (i + 1)) := by
            rw [g5, show b_cnt (b_bad' bs bad c) (i + 1) = b_cnt (b_bad' bs bad c) i + 1 by show _ + (if _ then 1 else 0) = _; rw [if_pos cb]]
            exact jo_add (b := 1)
          rw [e5]
          have fr2 : jfr (fun a j => a = 398 ∧ j = 5) H1 (jsI H1 398 5 (Int32.ofNat (b_cnt (b_bad' bs bad c) (i + 1)))) := jfr_sI jfr_refl ⟨rfl, rfl⟩
          refine jT_g (o410 s1 B1 i hi).2.2 (jT_neg (by decide) (jT_g (gT (sK_398 s1)) (jT_g (gT (sK_398 s1)) (jT_l (jT_l (ih (i + 1) fu _ (by omega) (by omega) (jsh_sI s1 (by decide)) (jfr_trans fr1 (jfr_mono fr2 fun a j w => Or.inl w)) (keep B1 s1 (jfr_mono fr2 fun a j w => Or.inl w)) jI_sIe (fun n hn => ?_) fun n hn hn2 => ?_))))))
          · rw [jfr_I fr2 fun w => absurd w.2 (by decide)]
            exact g7' n hn
          · rw [jfr_I fr2 fun w => absurd w.2 (by decide)]
            exact g8 n (by omega) hn2
        · rw [if_neg cb]
          have e5 : jI H1 398 5 = Int32.ofNat (b_cnt (b_bad' bs bad c) (i + 1)) := by
            rw [g5, show b_cnt (b_bad' bs bad c) (i + 1) = b_cnt (b_bad' bs bad c) i + 0 by show _ + (if _ then 1 else 0) = _; rw [if_neg cb]]
            rfl
          exact jT_g (o410 s1 B1 i hi).2.2 (jT_pos (by decide) (jT_l (ih (i + 1) fu H1 (by omega) (by omega) s1 fr1 B1 e5 g7' fun n hn hn2 => g8 n (by omega) hn2)))
      -- the flag of i as it stands
      have e7 := h8 i (Nat.le_refl _) hi
      unfold F_1_condemn_12 B_1_condemn_12
      rw [hB1.2.2.2.1, sR_398_3 hs1, jo_nat (n := i) (by omega), q1]
      refine jT_g (gT (sK_398 hs1)) (jT_neg (by rw [jo_le (by omega) (by omega)]; omega) (jT_g (gT (sK_398 hs1)) (jT_g (gA (sK_399 hs1) (jo_in (by omega) (by show _ < 300; omega))) (jT_l (jT_g q2.1.1 ?_)))))
      have stay : ((bad i = true ∨ i = c) ↔ b_bad' bs bad c i = true) → jT (B_1_condemn_49 (F_1_condemn_12 fu) 398 (Int32.ofNat i) (b_o os i) H) (fun v h => jT (k v h) Q) := fun hiff => by
        refine fin H hs1 hfr hB1 h5 (fun n hn => ?_) fun n hn hn2 => h8 n (by omega) hn2
        by_cases cn : n = i
        · subst cn
          rw [e7]
          by_cases cb : bad n = true ∨ n = c
          · rw [if_pos cb, if_pos (hiff.mp cb)]
          · rw [if_neg cb, if_neg fun w => cb (hiff.mpr w)]
        · exact h7 n (by omega)
      by_cases c0 : i = 0
      · subst c0
        have e5 : jR H (b_o os 0) 5 = 0 := q2.1.2.2.1
        refine jT_pos e5 (stay ?_)
        rw [b_bad'_t]
        refine ⟨fun w => w.imp id fun e => by omega, fun w => w.imp id fun e => ?_⟩
        have := b_on_0 hw hc e
        omega
      · obtain ⟨p1, p2, -⟩ := hw.2.2.2.2 i (by omega) hi
        have hp : b_pa bs i < bs.length := by omega
        have e5 : jR H (b_o os i) 5 = b_o os (b_pa bs i) := by
          rw [q2.1.2.2.1]
          unfold b_po
          rw [if_neg c0]
        have hpp := o410 hs1 hB1 _ hp
        have ep7 := h7 _ (show b_pa bs i < i from p1)
        rw [e5]
        refine jT_neg (by omega) (jT_g q2.1.1 (jT_g hpp.2.2 ?_))
        rw [ep7]
        by_cases cp : b_bad' bs bad c (b_pa bs i) = true
        · rw [if_pos cp]
          have hbi : b_bad' bs bad c i = true := by
            rw [b_bad'_t] at cp ⊢
            rcases cp with cp | cp
            · exact Or.inl (hclo i (by omega) hi cp)
            · exact Or.inr ((b_on_pa hw hi (by omega)).mpr (Or.inr cp))
          have fr2 : jfr (b_FC7 os) H (jsI H (b_o os i) 7 1) := jfr_sI jfr_refl (Or.inr ⟨rfl, i, by omega, rfl⟩)
          have hn398 : (398 : Nat) ≠ b_o os i := by have := (o410 hs1 hB1 i hi).1; omega
          refine jT_neg (by decide) (jT_g ⟨q2.1.1, Or.inr rfl⟩ (jT_l (fin _ (jsh_sI hs1 (by have := (o410 hs1 hB1 i hi).1; omega)) (jfr_trans hfr fr2) (keep hB1 hs1 fr2) ((jI_sIa hn398).trans h5) (fun n hn => ?_) fun n hn hn2 => ?_)))
          · by_cases cn : n = i
            · subst cn
              rw [if_pos hbi]
              exact jI_sIe
            · exact (jI_sIa (hB1.2.2.1 n i (by omega) hi)).trans (h7 n (by omega))
          · exact (jI_sIa fun w => hB1.2.2.1 i n hn hn2 w.symm).trans (h8 n (by omega) hn2)
        · rw [if_neg cp]
          refine jT_pos rfl (stay ?_)
          rw [b_bad'_t]
          rw [b_bad'_t] at cp
          refine ⟨fun w => w.imp id fun e => by rw [e]; exact b_on_self, fun w => w.imp id fun e => ?_⟩
          rcases (b_on_pa hw hi (by omega)).mp e with e | e
          · exact e
          · exact absurd (Or.inr e) cp
  have hcp := o410 hs hB c hc
  have fr1 : jfr (b_FC7 os) Hs (jsI Hs (b_o os c) 7 1) := jfr_sI jfr_refl (Or.inr ⟨rfl, c, by omega, rfl⟩)
  have s1 : jsh (jsI Hs (b_o os c) 7 1) := jsh_sI hs (by omega)
  have B1 := keep hB hs fr1
  have fr2 : jfr (b_FC7 os) (jsI Hs (b_o os c) 7 1) (jsI (jsI Hs (b_o os c) 7 1) 398 5 0) := jfr_sI jfr_refl (Or.inl ⟨rfl, rfl⟩)
  unfold F_1_condemn
  refine jT_b (jT_g ⟨hcp.2.2, Or.inr rfl⟩ (jT_l (jT_g (gT (sK_398 s1)) (jT_l ?_))))
  refine loop bs.length 0 jfuel _ (Nat.zero_add _) (by unfold jfuel; omega) (jsh_sI s1 (by decide)) (jfr_trans fr1 fr2) (keep B1 s1 fr2) jI_sIe (fun n hn => absurd hn (Nat.not_lt_zero n)) fun n _ hn2 => ?_
  have hn398 : b_o os n ≠ 398 := by have := (o410 hs hB n hn2).1; omega
  refine (jI_sIa hn398).trans ?_
  by_cases cn : n = c
  · subst cn
    rw [if_pos (Or.inr rfl)]
    exact jI_sIe
  · refine (jI_sIa fun w => cn (b_o_inj hB hn2 hc w)).trans ((hb n hn2).trans ?_)
    by_cases cb : bad n = true
    · rw [if_pos cb, if_pos (Or.inl cb)]
    · rw [if_neg cb, if_neg]
      rintro (w | w)
      · exact cb w
      · exact cn w
end CH2
