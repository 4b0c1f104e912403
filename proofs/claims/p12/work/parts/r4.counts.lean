/-! The end of a round: what is counted. -/
def jF12 (r : Int32) (H : jH) : Prop := (r = 1 ∨ jI H 31 59 = 1) ∧ jK H 31 = (100, 64) ∧ jn H ≤ 600031 ∧ js H ≤ 7302250
section CNT
variable {nb : Nat} {os : List Nat} {S : s_S} {tp kn : List UInt8} {ki : Int32} {H : jH}
theorem q_cnt0 (hC : s_cls nb os S tp kn ki H) : F_11_count 32 0 H = some (Int32.ofNat S.1.length, H) := q_count hC 0
theorem q_cnt1 (hC : s_cls nb os S tp kn ki H) : F_11_count 32 1 H = some (Int32.ofNat (b_ht S.1 S.2.2.2.1), H) := q_count hC 1
theorem q_cnt2 (hC : s_cls nb os S tp kn ki H) : F_11_count 32 2 H = some (Int32.ofNat (b_co S.1 S.2.2.2.1 (b_ht S.1 S.2.2.2.1)).1.length, H) := q_count hC 2
theorem q_cnt3 (hC : s_cls nb os S tp kn ki H) : F_11_count 32 3 H = some (Int32.ofNat S.2.2.2.2.1.length, H) := q_count hC 3
theorem q_cnt5 (hC : s_cls nb os S tp kn ki H) : F_11_count 32 5 H = some (Int32.ofNat (b_cnt S.2.2.1 S.1.length), H) := q_count hC 5
end CNT
theorem r_St_fr {L : Nat} {xs : Nat → Int32} {k nb : Nat} {os : List Nat} {S S2 : s_S} {l : List Nat} {kn : List UInt8} {ki : Int32} {H H' : jH} (h : r_St L xs k S l H) (hC : s_cls nb os S2 [] kn ki H') (hP : s_pur S2) (hf : q_fr 0 0 H H') : r_St L xs k S2 l H' := by
  obtain ⟨-, -, ⟨h3, h4⟩, ⟨h5, h6⟩, h7, h8⟩ := h
  obtain ⟨⟨a1, a2⟩, a3, a4, a5, a6⟩ := hf
  exact ⟨⟨nb, os, kn, ki, hC⟩, hP, ⟨by rw [a3, a4]; exact h3, h4⟩, ⟨a1.trans h5, a2.trans h6⟩, Nat.le_trans a5 h7, Nat.le_trans a6 h8⟩
theorem r_St_pur {L : Nat} {xs : Nat → Int32} {k : Nat} {S : s_S} {l : List Nat} {H : jH} (h : r_St L xs k S l H) : s_pur S := h.2.1
theorem r_fin {L : Nat} {xs : Nat → Int32} {k : Nat} {S : s_S} {l : List Nat} {H : jH} (h : r_St L xs k S l H) (hk : k ≤ 28) {r : Int32} (hr : r = 1 ∨ jI H 31 59 = 1) : jF12 r H := by
  obtain ⟨⟨nb, os, kn, ki, hC⟩, -, -, -, h7, h8⟩ := h
  exact ⟨hr, sK_31 hC.1, by omega, by omega⟩
/-- what must hold in the end of a round, if nothing was passed over -/
def r_SF (n : Nat) (a4 : Int64) (a7 a15 a20 : Int32) (S : s_S) (l : List Nat) (T : Nat → Int64) : Prop :=
  r_AC n a4 a7 S l T ∧ (∃ tb, q_sl T 7 tb ∧ q_val S (q_ls tb 32) 0 = if a20 = 0 then -1 else 5000000000) ∧ (a20 ≠ 0 → ∃ g bn, a15 = Int32.ofNat g ∧ g ≤ b_ht S.1 S.2.2.2.1 ∧ q_sl T 6 bn ∧ ∀ i, i < 32 → (b_nm S.1 (b_at S.1 S.2.2.2.1 g)).getD i 0 = bn i)
section END_
variable {L : Nat} {xs : Nat → Int32} {k n : Nat} {S : s_S} {l : List Nat} {H : jH} {a4 : Int64} {a7 a8 a15 a19 a20 : Int32} {k48 : Nat → Nat → Nat → Nat → Int64 → Int32 → Int32 → Int32 → Int32 → jH → Option (Int32 × jH)}
theorem r_fail (h : r_St L xs k S l H) (hk : k ≤ 28) (h59 : jI H 31 59 = 1) {a6 a9 : Int32} : jT (B_L_holds_632 k48 18 31 32 421 a4 a6 a7 a8 a9 H) jF12 := by
  unfold B_L_holds_632 B_L_holds_633
  exact jT_neg (fun w => w rfl) (jT_g (Or.inl rfl) (jT_ret (r_fin h hk (Or.inr h59))))
theorem r_519 (hk : k ≤ 27) (h : r_St L xs (k + 1) S l H) (hn : 1 ≤ n ∧ n ≤ k + 2) (h19 : a19 = 0 ∨ a19 = 1) (hs : jI H 31 59 = 1 ∨ (a19 = 1 ∧ (∀ p, p < 4 → S.2.2.2.2.2 p = []) ∧ r_SF n a4 a7 a15 a20 S l (jL H 421)))
    (next : ∀ H', r_RH L xs (k + 1) a4 (Int32.ofNat n) a7 H' → jT (k48 18 31 32 421 a4 (Int32.ofNat n) a7 a8 (Int32.ofNat k + 1) H') jF12) : jT (B_L_holds_519 k48 18 31 32 421 a4 (Int32.ofNat n) a7 a8 (Int32.ofNat k) a15 a19 a20 H) jF12 := by
  have h0 := h
  obtain ⟨⟨nb, os, kn, ki, hC⟩, hP, -⟩ := h0
  have k11 : (jK H 32).1 = 11 := gT (sK_32 hC.1)
  have hL : jK H 421 = (103, 64) := sK_421 hC.1
  -- a question that must come out: else it was passed over
  have no : ∀ c : Prop, (r_SF n a4 a7 a15 a20 S l (jL H 421) → ¬ c) → c → jI H 31 59 = 1 := fun c h1 h2 => by
    rcases hs with w | ⟨-, -, w⟩
    · exact w
    · exact absurd h2 (h1 w)
  have fl : ∀ {c : Prop}, (r_SF n a4 a7 a15 a20 S l (jL H 421) → ¬ c) → c → jT (B_L_holds_632 k48 18 31 32 421 a4 (Int32.ofNat n) a7 a8 (Int32.ofNat k) H) jF12 := fun h1 h2 => r_fail h (by omega) (no _ h1 h2)
  -- the coin
  have coin : jT (B_L_holds_602 k48 18 31 32 421 a4 (Int32.ofNat n) a7 a8 (Int32.ofNat k) a20 H) jF12 := by
    unfold B_L_holds_602
    obtain ⟨tb, htb, hval⟩ : ∃ tb, q_sl (jL H 421) 7 tb ∧ (r_SF n a4 a7 a15 a20 S l (jL H 421) → q_val S (q_ls tb 32) 0 = if a20 = 0 then -1 else 5000000000) := by
      rcases hs with w | ⟨-, -, w⟩
      · by_cases c : r_SF n a4 a7 a15 a20 S l (jL H 421)
        · obtain ⟨tb, x, y⟩ := c.2.1
          exact ⟨tb, x, fun _ => y⟩
        · exact ⟨_, q_sl_any, fun w2 => absurd w2 c⟩
      · obtain ⟨tb, x, y⟩ := w.2.1
        exact ⟨tb, x, fun _ => y⟩
    refine jT_b (q_coin hC htb fun H2 C2 f2 => ?_)
    have h2 : r_St L xs (k + 1) S l H2 := r_St_fr h C2 hP f2
    have e59 : jI H2 31 59 = jI H 31 59 := by rw [f2.2.1]
    have fin : ∀ v : Int64, (r_SF n a4 a7 a15 a20 S l (jL H 421) → q_val S (q_ls tb 32) 0 = v) → jT (B_L_holds_624 k48 18 31 32 421 a4 (Int32.ofNat n) a7 a8 (Int32.ofNat k) (q_val S (q_ls tb 32) 0) v H2) jF12 := fun v hv => by
      unfold B_L_holds_624
      refine jT_if (fun c => r_fail h2 (by omega) (e59.trans (no _ (fun w => fun q => q (hv w)) c))) fun _ => ?_
      unfold B_L_holds_633
      refine jT_pos (by decide) (jT_l (next H2 ⟨S, l, n, h2, rfl, hn.1, hn.2, ?_⟩))
      rw [e59, f2.2.2.1]
      rcases hs with w | ⟨-, w1, w2⟩
      · exact Or.inl w
      · exact Or.inr ⟨w1, w2.1⟩
    refine jT_if (fun c => fin (-1) fun w => (hval w).trans (if_pos c)) fun c => fin 5000000000 fun w => (hval w).trans (if_neg c)
  have cs : r_SF n a4 a7 a15 a20 S l (jL H 421) → r_cs l (b_ht S.1 S.2.2.2.1) (b_co S.1 S.2.2.2.1 (b_ht S.1 S.2.2.2.1)) := fun w => r_I_cs w.1.1
  have htot : r_SF n a4 a7 a15 a20 S l (jL H 421) → w_sumc (b_co S.1 S.2.2.2.1 (b_ht S.1 S.2.2.2.1)).1 = 5000000000 * Int32.toInt64 a7 := fun w => by
    have hh := b_ht_300 (r_I_wf w.1.1) (r_I_tip w.1.1)
    rw [(cs w).2.2.1, w.1.2.2.1, lo_of (by omega)]
    exact (lo_mul (a := 5000000000)).symm
  unfold B_L_holds_519
  refine jT_if (fun c => ?_) fun _ => ?_
  · refine r_fail h (by omega) ?_
    rcases hs with w | ⟨w, -⟩
    · exact w
    · rw [w] at c
      exact absurd c (by decide)
  refine jT_g k11 (jT_b (jT_eq (q_cnt0 hC) (jT_ret (jT_if (fun c => fl (fun w => fun q => q (by rw [w.1.2.1])) c) fun _ => ?_))))
  refine jT_g k11 (jT_b (jT_eq (q_cnt1 hC) (jT_ret (jT_if (fun c => fl (fun w => fun q => q w.1.2.2.1.symm) c) fun _ => ?_))))
  refine jT_g k11 (jT_b (jT_eq (q_cnt2 hC) (jT_ret (jT_if (fun c => fl (fun w => fun q => q (by rw [(cs w).1]; exact w.1.2.2.1.symm)) c) fun _ => ?_))))
  refine jT_g k11 (jT_b (jT_eq (q_total hC) (jT_ret (jT_if (fun c => fl (fun w => fun q => q (htot w)) c) fun _ => ?_))))
  refine jT_g k11 (jT_b (jT_eq (q_cnt3 hC) (jT_ret (jT_if (fun c => fl (fun w => fun q => q (by rw [w.1.1.1.2.1]; rfl)) c) fun _ => ?_))))
  refine jT_g k11 (jT_b (jT_eq (q_cnt5 hC) (jT_ret (jT_if (fun c => fl (fun w => fun q => q (by rw [r_cnt w.1.1.1.2.2]; rfl)) c) fun _ => ?_))))
  refine jT_if (fun _ => coin) fun c20 => ?_
  rcases hs with w | ⟨-, -, w⟩
  · exact jT_b (q_isAtE hC a15 (jT_pos rfl (r_fail h (by omega) w)) (jT_neg (by decide) coin))
  · obtain ⟨g, bn, rfl, g2, g3, g4⟩ := w.2.2 c20
    exact jT_b (q_isAt hC g2 g3 g4 (jT_neg (by decide) coin))
end END_
