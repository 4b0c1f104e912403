/-! The law's digest: one part of 64 bytes. -/
def q_s8 (M : Nat → Int32) (p : Nat) : z8 := (M p, M (p + 1), M (p + 2), M (p + 3), M (p + 4), M (p + 5), M (p + 6), M (p + 7))
theorem q_g1 {H : jH} {i : Int32} (hK : jK H 31 = (100, 64)) (h : jin i 64) : (jK H 31).1 = 100 ∧ jin i (jK H 31).2 := by rw [hK]; exact ⟨rfl, h⟩
theorem q_g2 {H : jH} {i : Int32} (hK : jK H 31 = (100, 64)) (h : jin i 64) : (jK H 31).1 = 100 ∧ jF0 ≤ 31 ∧ jin i (jK H 31).2 := by rw [hK]; exact ⟨rfl, Nat.le_refl _, h⟩
theorem q_g3 {H : jH} {i : Int32} (hK : jK H 421 = (103, 64)) (h : jin i 64) : (jK H 421).1 = 103 ∧ jin i (jK H 421).2 := by rw [hK]; exact ⟨rfl, h⟩
theorem q_const {H : jH} : ∀ i, i < 64 → F_L_constant (Int32.ofNat i) H = some (jval_2.getD i 0, H)
  | 0, _ => rfl
  | 1, _ => rfl
  | 2, _ => rfl
  | 3, _ => rfl
  | 4, _ => rfl
  | 5, _ => rfl
  | 6, _ => rfl
  | 7, _ => rfl
  | 8, _ => rfl
  | 9, _ => rfl
  | 10, _ => rfl
  | 11, _ => rfl
  | 12, _ => rfl
  | 13, _ => rfl
  | 14, _ => rfl
  | 15, _ => rfl
  | 16, _ => rfl
  | 17, _ => rfl
  | 18, _ => rfl
  | 19, _ => rfl
  | 20, _ => rfl
  | 21, _ => rfl
  | 22, _ => rfl
  | 23, _ => rfl
  | 24, _ => rfl
  | 25, _ => rfl
  | 26, _ => rfl
  | 27, _ => rfl
  | 28, _ => rfl
  | 29, _ => rfl
  | 30, _ => rfl
  | 31, _ => rfl
  | 32, _ => rfl
  | 33, _ => rfl
  | 34, _ => rfl
  | 35, _ => rfl
  | 36, _ => rfl
  | 37, _ => rfl
  | 38, _ => rfl
  | 39, _ => rfl
  | 40, _ => rfl
  | 41, _ => rfl
  | 42, _ => rfl
  | 43, _ => rfl
  | 44, _ => rfl
  | 45, _ => rfl
  | 46, _ => rfl
  | 47, _ => rfl
  | 48, _ => rfl
  | 49, _ => rfl
  | 50, _ => rfl
  | 51, _ => rfl
  | 52, _ => rfl
  | 53, _ => rfl
  | 54, _ => rfl
  | 55, _ => rfl
  | 56, _ => rfl
  | 57, _ => rfl
  | 58, _ => rfl
  | 59, _ => rfl
  | 60, _ => rfl
  | 61, _ => rfl
  | 62, _ => rfl
  | 63, _ => rfl
  | n + 64, h => absurd h (by omega)
theorem q_r6 {x : Int32} {H : jH} : F_L_right x 6 H = some (jushr x 6 ||| jshl x 26, H) := rfl
theorem q_r11 {x : Int32} {H : jH} : F_L_right x 11 H = some (jushr x 11 ||| jshl x 21, H) := rfl
theorem q_r25 {x : Int32} {H : jH} : F_L_right x 25 H = some (jushr x 25 ||| jshl x 7, H) := rfl
theorem q_r2 {x : Int32} {H : jH} : F_L_right x 2 H = some (jushr x 2 ||| jshl x 30, H) := rfl
theorem q_r13 {x : Int32} {H : jH} : F_L_right x 13 H = some (jushr x 13 ||| jshl x 19, H) := rfl
theorem q_r22 {x : Int32} {H : jH} : F_L_right x 22 H = some (jushr x 22 ||| jshl x 10, H) := rfl
theorem q_r7 {x : Int32} {H : jH} : F_L_right x 7 H = some (jushr x 7 ||| jshl x 25, H) := rfl
theorem q_r18 {x : Int32} {H : jH} : F_L_right x 18 H = some (jushr x 18 ||| jshl x 14, H) := rfl
theorem q_r17 {x : Int32} {H : jH} : F_L_right x 17 H = some (jushr x 17 ||| jshl x 15, H) := rfl
theorem q_r19 {x : Int32} {H : jH} : F_L_right x 19 H = some (jushr x 19 ||| jshl x 13, H) := rfl
def q_sh (M : Nat → Int32) (k : Nat) : Nat → Int32 := fun j => if 40 + k < j ∧ j ≤ 47 then M (j - 1) else M j
theorem q_sh7 {M : Nat → Int32} : q_sh M 7 = M := funext fun j => if_neg (by omega)
def q_end (M : Nat → Int32) (s u : Int32) : Nat → Int32 := q_up (q_up (q_sh M 0) 44 (q_sh M 0 44 + s)) 40 (s + u)
section QW
variable {Q : Unit → jH → Prop} {H : jH} {T : Nat → Int64}
theorem q_248 {k28 : Nat → Int32 → jH → Option (Unit × jH)} {a2 s u : Int32} {M : Nat → Int32} (hK : jK H 31 = (100, 64)) (hk : jT (k28 31 (a2 + 1) (q_h H (q_end M s u) T)) Q) : ∀ (k fu : Nat), k ≤ 7 → k < fu → jT (F_L_work_248 k28 fu 31 a2 s u (Int32.ofNat k) (q_h H (q_sh M k) T)) Q
  | 0, fu, _, hf => by
    obtain ⟨fu, rfl⟩ : ∃ k, fu = k + 1 := ⟨fu - 1, by omega⟩
    unfold F_L_work_248 B_L_work_248
    refine jT_pos (by decide) (jT_g (q_g1 hK (by decide)) (jT_g (q_g2 hK (by decide)) (jT_l (jT_g (q_g2 hK (by decide)) (jT_l (jT_l ?_))))))
    rw [q_sI, q_sI, q_h_I]
    exact hk
  | k + 1, fu, h7, hf => by
    obtain ⟨fu, rfl⟩ : ∃ k, fu = k + 1 := ⟨fu - 1, by omega⟩
    have e1 : (39 : Int32) + Int32.ofNat (k + 1) = Int32.ofNat (40 + k) := (jo_add (a := 39) (b := k + 1)).trans (by rw [show 39 + (k + 1) = 40 + k by omega])
    have e2 : (40 : Int32) + Int32.ofNat (k + 1) = Int32.ofNat (41 + k) := (jo_add (a := 40) (b := k + 1)).trans (by rw [show 40 + (k + 1) = 41 + k by omega])
    have e3 : Int32.ofNat (k + 1) + (-1) = Int32.ofNat k := by
      have es : Int32.ofNat (k + 1) - 1 = Int32.ofNat k := jo_sub (a := k + 1) (b := 1) (by omega)
      rw [← es]
      exact (Int32.sub_eq_add_neg _ _).symm
    unfold F_L_work_248 B_L_work_248
    rw [e1, e2, e3]
    refine jT_neg (by show ¬ _ ≤ Int32.ofNat 0; rw [jo_le (by omega) (by decide)]; omega) (jT_g (q_g1 hK (jo_in (by omega) (by omega))) (jT_g (q_g2 hK (jo_in (by omega) (by omega))) (jT_l (jT_l ?_))))
    rw [jo_nat (n := 40 + k) (by omega), jo_nat (n := 41 + k) (by omega), q_sI, q_h_I]
    have e : q_up (q_sh M (k + 1)) (41 + k) (q_sh M (k + 1) (40 + k)) = q_sh M k := funext fun j => by
      unfold q_up q_sh
      by_cases c : j = 41 + k
      · subst c
        rw [if_pos rfl, if_neg (by omega), if_pos (by omega), show 41 + k - 1 = 40 + k by omega]
      · rw [if_neg c]
        by_cases d : 40 + k < j ∧ j ≤ 47
        · rw [if_pos (by omega), if_pos d]
        · rw [if_neg (by omega), if_neg d]
    rw [e]
    exact q_248 hK hk k fu (by omega) (by omega)
theorem q_125 {k28 : Nat → Int32 → jH → Option (Unit × jH)} {M : Nat → Int32} {i p : Nat} (hK : jK H 31 = (100, 64)) (hi : i < 64) (hp : p < 16) (hk : jT (k28 31 (Int32.ofNat i + 1) (q_h H (q_end M (zone (jval_2.getD i 0) (M p) (q_s8 M 40)) (ztwo (q_s8 M 40))) T)) Q) : jT (B_L_work_125 k28 31 (Int32.ofNat i) (Int32.ofNat p) (q_h H M T)) Q := by
  have h7 := q_248 (Q := Q) (T := T) (k28 := k28) (a2 := Int32.ofNat i) (M := M) hK hk 7 jfuel (Nat.le_refl _) (by unfold jfuel; omega)
  rw [q_sh7] at h7
  unfold B_L_work_125
  refine jT_g (q_g1 hK (by decide)) (jT_l (jT_g (q_g1 hK (by decide)) (jT_l (jT_g (q_g1 hK (by decide)) (jT_b (jT_eq q_r6 (jT_ret (jT_b (jT_eq q_r11 (jT_ret (jT_b (jT_eq q_r25 (jT_ret ?_)))))))))))))
  refine jT_g (q_g1 hK (by decide)) (jT_g (q_g1 hK (by decide)) (jT_b (jT_eq (q_const i hi) (jT_ret (jT_g (q_g1 hK (jo_in (by omega) (by omega))) (jT_l ?_))))))
  refine jT_b (jT_eq q_r2 (jT_ret (jT_b (jT_eq q_r13 (jT_ret (jT_b (jT_eq q_r22 (jT_ret ?_))))))))
  refine jT_g (q_g1 hK (by decide)) (jT_g (q_g1 hK (by decide)) (jT_g (q_g1 hK (by decide)) (jT_g (q_g1 hK (by decide)) (jT_l ?_))))
  rw [q_h_I, jo_nat (n := p) (by omega)]
  exact h7
/-- what holds behind i rounds -/
def q_rn (w : Nat → Int32) (s : z8) (M0 : Nat → Int32) (i : Nat) (M : Nat → Int32) : Prop :=
  q_s8 M 40 = zrun w s i ∧ (∀ t, i ≤ t + 16 → t < max i 16 → M (t % 16) = zW w t) ∧ ∀ j, (16 ≤ j ∧ j < 40) ∨ 48 ≤ j → M j = M0 j
theorem q_end_40 {M : Nat → Int32} {s u : Int32} : q_s8 (q_end M s u) 40 = (s + u, M 40, M 41, M 42, M 43 + s, M 44, M 45, M 46) := rfl
theorem q_end_o {M : Nat → Int32} {s u : Int32} {j : Nat} (h : j < 40 ∨ 48 ≤ j) : q_end M s u j = M j := by
  unfold q_end
  rw [q_up_n (by omega), q_up_n (by omega)]
  exact if_neg (by omega)
theorem q_rn_end {w : Nat → Int32} {s : z8} {M0 M : Nat → Int32} {i : Nat} (h1 : q_s8 M 40 = zrun w s i) (h2 : ∀ t, i + 1 ≤ t + 16 → t < max (i + 1) 16 → M (t % 16) = zW w t) (h3 : ∀ j, (16 ≤ j ∧ j < 40) ∨ 48 ≤ j → M j = M0 j) {v : Int32} (hv : v = zW w i) :
    q_rn w s M0 (i + 1) (q_end M (zone (jval_2.getD i 0) v (q_s8 M 40)) (ztwo (q_s8 M 40))) := by
  refine ⟨?_, fun t a b => ?_, fun j hj => (q_end_o (by omega)).trans (h3 j hj)⟩
  · rw [q_end_40, hv]
    show _ = zstep (jval_2.getD i 0) (zW w i) (zrun w s i)
    rw [← h1]
    rfl
  · rw [q_end_o (by omega)]
    exact h2 t a b
theorem q_ac (a b c d : Int32) : ((a + b) + c) + d = ((a + c) + b) + d := by rw [Int32.add_assoc a b c, Int32.add_comm b c, ← Int32.add_assoc]
theorem q_zW {w : Nat → Int32} {i : Nat} (h : 16 ≤ i) : zW w i = (((zW w (i - 16)) + (((jushr (zW w (i - 15)) 7 ||| jshl (zW w (i - 15)) 25) ^^^ (jushr (zW w (i - 15)) 18 ||| jshl (zW w (i - 15)) 14)) ^^^ (jushr (zW w (i - 15)) 3))) + zW w (i - 7)) + (((jushr (zW w (i - 2)) 17 ||| jshl (zW w (i - 2)) 15) ^^^ (jushr (zW w (i - 2)) 19 ||| jshl (zW w (i - 2)) 13)) ^^^ (jushr (zW w (i - 2)) 10)) := by
  conv => lhs; unfold zW
  rw [if_neg (by omega)]
  exact q_ac _ _ _ _
theorem q_28 {w : Nat → Int32} {s : z8} {M0 : Nat → Int32} (hK : jK H 31 = (100, 64)) (hk : ∀ M, q_rn w s M0 64 M → jT (F_L_work_301 jfuel 31 0 (q_h H M T)) Q) : ∀ (d i fu : Nat) (M : Nat → Int32), i + d = 64 → d < fu → q_rn w s M0 i M → jT (F_L_work_28 fu 31 (Int32.ofNat i) (q_h H M T)) Q := by
  intro d
  induction d with
  | zero =>
    intro i fu M hi hf h
    obtain rfl : i = 64 := by omega
    obtain ⟨fu, rfl⟩ : ∃ k, fu = k + 1 := ⟨fu - 1, by omega⟩
    unfold F_L_work_28 B_L_work_28
    exact jT_pos (by decide) (hk M h)
  | succ d ih =>
    intro i fu M hi hf h
    obtain ⟨fu, rfl⟩ : ∃ k, fu = k + 1 := ⟨fu - 1, by omega⟩
    obtain ⟨h1, h2, h3⟩ := h
    have er : jrem (Int32.ofNat i) 16 = Int32.ofNat (i % 16) := jo_rem (a := i) (b := 16) (by omega) (by omega)
    have ei : Int32.ofNat i + 1 = Int32.ofNat (i + 1) := jo_add (a := i) (b := 1)
    unfold F_L_work_28 B_L_work_28
    refine jT_neg (by show ¬ Int32.ofNat 64 ≤ _; rw [jo_le (by omega) (by omega)]; omega) (jT_g (by decide) (jT_l ?_))
    rw [er]
    by_cases c : i ≤ 15
    · refine jT_pos (by show _ ≤ Int32.ofNat 15; rw [jo_le (by omega) (by omega)]; exact c) (q_125 hK (by omega) (by omega) ?_)
      rw [ei]
      exact ih (i + 1) fu _ (by omega) (by omega) (q_rn_end h1 (fun t a b => h2 t (by omega) (by omega)) h3 (h2 i (by omega) (by omega)))
    · have e14 : Int32.ofNat i + 14 = Int32.ofNat (i + 14) := jo_add (a := i) (b := 14)
      have e9 : Int32.ofNat i + 9 = Int32.ofNat (i + 9) := jo_add (a := i) (b := 9)
      have r1 : jrem (Int32.ofNat (i + 1)) 16 = Int32.ofNat ((i + 1) % 16) := jo_rem (a := i + 1) (b := 16) (by omega) (by omega)
      have r14 : jrem (Int32.ofNat (i + 14)) 16 = Int32.ofNat ((i + 14) % 16) := jo_rem (a := i + 14) (b := 16) (by omega) (by omega)
      have r9 : jrem (Int32.ofNat (i + 9)) 16 = Int32.ofNat ((i + 9) % 16) := jo_rem (a := i + 9) (b := 16) (by omega) (by omega)
      have g : ∀ n, jin (Int32.ofNat (n % 16)) 64 := fun n => jo_in (by omega) (by omega)
      have m1 : M ((i + 1) % 16) = zW w (i - 15) := by rw [show (i + 1) % 16 = (i - 15) % 16 by omega]; exact h2 _ (by omega) (by omega)
      have m14 : M ((i + 14) % 16) = zW w (i - 2) := by rw [show (i + 14) % 16 = (i - 2) % 16 by omega]; exact h2 _ (by omega) (by omega)
      have m9 : M ((i + 9) % 16) = zW w (i - 7) := by rw [show (i + 9) % 16 = (i - 7) % 16 by omega]; exact h2 _ (by omega) (by omega)
      have m0 : M (i % 16) = zW w (i - 16) := by rw [show i % 16 = (i - 16) % 16 by omega]; exact h2 _ (by omega) (by omega)
      rw [ei, e14, e9, r1, r14, r9]
      refine jT_neg (by show ¬ _ ≤ Int32.ofNat 15; rw [jo_le (by omega) (by omega)]; exact c) (jT_g (by decide) (jT_g (q_g1 hK (g _)) (jT_l (jT_g (by decide) (jT_g (q_g1 hK (g _)) (jT_l (jT_g (q_g1 hK (g _)) ?_)))))))
      refine jT_b (jT_eq q_r7 (jT_ret (jT_b (jT_eq q_r18 (jT_ret (jT_g (by decide) (jT_g (q_g1 hK (g _)) (jT_b (jT_eq q_r17 (jT_ret (jT_b (jT_eq q_r19 (jT_ret (jT_g (q_g2 hK (g _)) (jT_l ?_)))))))))))))))
      rw [jo_nat (n := (i + 1) % 16) (by omega), jo_nat (n := (i + 14) % 16) (by omega), jo_nat (n := (i + 9) % 16) (by omega), jo_nat (n := i % 16) (by omega), q_sI, q_h_I, m1, m14, m9, m0]
      rw [← q_zW (w := w) (i := i) (by omega)]
      refine q_125 hK (by omega) (by omega) ?_
      rw [ei, q_up_e]
      refine ih (i + 1) fu _ (by omega) (by omega) (q_rn_end (M := q_up M (i % 16) (zW w i)) ?_ (fun t a b => ?_) (fun j hj => (q_up_n (by omega)).trans (h3 j hj)) rfl)
      · rw [← h1]
        unfold q_s8
        rw [q_up_n (by omega), q_up_n (by omega), q_up_n (by omega), q_up_n (by omega), q_up_n (by omega), q_up_n (by omega), q_up_n (by omega), q_up_n (by omega)]
      · by_cases d : t = i
        · rw [d, q_up_e]
        · rw [q_up_n (by omega)]
          exact h2 t (by omega) (by omega)
def q_ad (M : Nat → Int32) (k : Nat) : Nat → Int32 := fun j => if 32 ≤ j ∧ j < 32 + k then M j + M (j + 8) else M j
def q_cp (M : Nat → Int32) (k : Nat) : Nat → Int32 := fun j => if 40 ≤ j ∧ j < 40 + k then M (j - 8) else M j
theorem q_301 {M : Nat → Int32} (hK : jK H 31 = (100, 64)) (hk : Q () (q_h H (q_ad M 8) T)) : ∀ (d i fu : Nat), i + d = 8 → d < fu → jT (F_L_work_301 fu 31 (Int32.ofNat i) (q_h H (q_ad M i) T)) Q := by
  intro d
  induction d with
  | zero =>
    intro i fu hi hf
    obtain rfl : i = 8 := by omega
    obtain ⟨fu, rfl⟩ : ∃ k, fu = k + 1 := ⟨fu - 1, by omega⟩
    unfold F_L_work_301 B_L_work_301
    exact jT_pos (by decide) (jT_ret hk)
  | succ d ih =>
    intro i fu hi hf
    obtain ⟨fu, rfl⟩ : ∃ k, fu = k + 1 := ⟨fu - 1, by omega⟩
    have e1 : (32 : Int32) + Int32.ofNat i = Int32.ofNat (32 + i) := jo_add (a := 32)
    have e2 : (40 : Int32) + Int32.ofNat i = Int32.ofNat (40 + i) := jo_add (a := 40)
    have e3 : Int32.ofNat i + 1 = Int32.ofNat (i + 1) := jo_add (a := i) (b := 1)
    unfold F_L_work_301 B_L_work_301
    rw [e1, e2, e3]
    refine jT_neg (by show ¬ Int32.ofNat 8 ≤ _; rw [jo_le (by omega) (by omega)]; omega) (jT_g (q_g1 hK (jo_in (by omega) (by omega))) (jT_g (q_g1 hK (jo_in (by omega) (by omega))) (jT_g (q_g2 hK (jo_in (by omega) (by omega))) (jT_l (jT_l ?_)))))
    rw [jo_nat (n := 32 + i) (by omega), jo_nat (n := 40 + i) (by omega), q_sI, q_h_I]
    have e : q_up (q_ad M i) (32 + i) (q_ad M i (32 + i) + q_ad M i (40 + i)) = q_ad M (i + 1) := funext fun j => by
      unfold q_up q_ad
      by_cases c : j = 32 + i
      · subst c
        rw [if_pos rfl, if_neg (by omega), if_neg (by omega), if_pos (by omega), show 32 + i + 8 = 40 + i by omega]
      · rw [if_neg c]
        by_cases d : 32 ≤ j ∧ j < 32 + i
        · rw [if_pos d, if_pos (by omega)]
        · rw [if_neg d, if_neg (by omega)]
    rw [e]
    exact ih (i + 1) fu (by omega) (by omega)
theorem q_2 {M : Nat → Int32} (hK : jK H 31 = (100, 64)) (hk : jT (F_L_work_28 jfuel 31 0 (q_h H (q_cp M 8) T)) Q) : ∀ (d i fu : Nat), i + d = 8 → d < fu → jT (F_L_work_2 fu 31 (Int32.ofNat i) (q_h H (q_cp M i) T)) Q := by
  intro d
  induction d with
  | zero =>
    intro i fu hi hf
    obtain rfl : i = 8 := by omega
    obtain ⟨fu, rfl⟩ : ∃ k, fu = k + 1 := ⟨fu - 1, by omega⟩
    unfold F_L_work_2 B_L_work_2
    exact jT_pos (by decide) hk
  | succ d ih =>
    intro i fu hi hf
    obtain ⟨fu, rfl⟩ : ∃ k, fu = k + 1 := ⟨fu - 1, by omega⟩
    have e1 : (32 : Int32) + Int32.ofNat i = Int32.ofNat (32 + i) := jo_add (a := 32)
    have e2 : (40 : Int32) + Int32.ofNat i = Int32.ofNat (40 + i) := jo_add (a := 40)
    have e3 : Int32.ofNat i + 1 = Int32.ofNat (i + 1) := jo_add (a := i) (b := 1)
    unfold F_L_work_2 B_L_work_2
    rw [e1, e2, e3]
    refine jT_neg (by show ¬ Int32.ofNat 8 ≤ _; rw [jo_le (by omega) (by omega)]; omega) (jT_g (q_g1 hK (jo_in (by omega) (by omega))) (jT_g (q_g2 hK (jo_in (by omega) (by omega))) (jT_l (jT_l ?_))))
    rw [jo_nat (n := 32 + i) (by omega), jo_nat (n := 40 + i) (by omega), q_sI, q_h_I]
    have e : q_up (q_cp M i) (40 + i) (q_cp M i (32 + i)) = q_cp M (i + 1) := funext fun j => by
      unfold q_up q_cp
      by_cases c : j = 40 + i
      · subst c
        rw [if_pos rfl, if_neg (by omega), if_pos (by omega), show 40 + i - 8 = 32 + i by omega]
      · rw [if_neg c]
        by_cases d : 40 ≤ j ∧ j < 40 + i
        · rw [if_pos d, if_pos (by omega)]
        · rw [if_neg d, if_neg (by omega)]
    rw [e]
    exact ih (i + 1) fu (by omega) (by omega)
theorem q_cp0 {M : Nat → Int32} : q_cp M 0 = M := funext fun j => if_neg (by omega)
theorem q_ad0 {M : Nat → Int32} : q_ad M 0 = M := funext fun j => if_neg (by omega)
/-- one part is worked in -/
theorem q_work {M : Nat → Int32} (hK : jK H 31 = (100, 64)) (hk : ∀ M', (∀ j, (16 ≤ j ∧ j < 32) ∨ 48 ≤ j → M' j = M j) → q_s8 M' 32 = zadd (q_s8 M 32) (zrun M (q_s8 M 32) 64) → Q () (q_h H M' T)) : jT (F_L_work 31 421 (q_h H M T)) Q := by
  unfold F_L_work
  have h2 := q_2 (Q := Q) (H := H) (T := T) (M := M) hK ?_ 8 0 jfuel rfl (by unfold jfuel; omega)
  · rw [q_cp0] at h2
    exact h2
  have s40 : q_s8 (q_cp M 8) 40 = q_s8 M 32 := rfl
  refine q_28 (w := M) (s := q_s8 M 32) (M0 := q_cp M 8) hK (fun M1 h => ?_) 64 0 jfuel (q_cp M 8) rfl (by unfold jfuel; omega) ⟨s40, fun t a b => ?_, fun j _ => rfl⟩
  · obtain ⟨a1, -, a3⟩ := h
    have h3 := q_301 (Q := Q) (H := H) (T := T) (M := M1) hK (hk _ (fun j hj => ?_) ?_) 8 0 jfuel rfl (by unfold jfuel; omega)
    · rw [q_ad0] at h3
      exact h3
    · have e1 : q_ad M1 8 j = M1 j := if_neg (by omega)
      have e2 : q_cp M 8 j = M j := if_neg (by omega)
      rw [e1, a3 j (by omega), e2]
    · have e : ∀ k, k < 8 → M1 (32 + k) = M (32 + k) := fun k hk => (a3 _ (by omega)).trans (if_neg (by omega))
      have e' : q_s8 M1 32 = q_s8 M 32 := by
        unfold q_s8
        rw [show M1 32 = M 32 from e 0 (by decide), show M1 (32 + 1) = M (32 + 1) from e 1 (by decide), show M1 (32 + 2) = M (32 + 2) from e 2 (by decide), show M1 (32 + 3) = M (32 + 3) from e 3 (by decide), show M1 (32 + 4) = M (32 + 4) from e 4 (by decide), show M1 (32 + 5) = M (32 + 5) from e 5 (by decide), show M1 (32 + 6) = M (32 + 6) from e 6 (by decide), show M1 (32 + 7) = M (32 + 7) from e 7 (by decide)]
      rw [← a1, ← e']
      rfl
  · have ht : t < 16 := by omega
    rw [Nat.mod_eq_of_lt ht, zW_lt ht]
    exact if_neg (by omega)
end QW
