/-! The law's digest of bytes that are laid one by one. -/
/-- the state behind p parts of bytes -/
def q_zs (b : Nat → UInt8) : Nat → z8
  | 0 => (jval_1.getD 0 0, jval_1.getD 1 0, jval_1.getD 2 0, jval_1.getD 3 0, jval_1.getD 4 0, jval_1.getD 5 0, jval_1.getD 6 0, jval_1.getD 7 0)
  | p + 1 => zadd (q_zs b p) (zrun (fun j => z4 b (64 * p + 4 * j)) (q_zs b p) 64)
theorem zW_cg {w u : Nat → Int32} (h : ∀ j, j < 16 → w j = u j) (i : Nat) : zW w i = zW u i := by
  induction i using Nat.strongRecOn with
  | _ i ih =>
    by_cases c : i < 16
    · rw [zW_lt c, zW_lt c, h i c]
    · rw [q_zW (w := w) (by omega), q_zW (w := u) (by omega), ih (i - 16) (by omega), ih (i - 15) (by omega), ih (i - 7) (by omega), ih (i - 2) (by omega)]
theorem zrun_cg {w u : Nat → Int32} (h : ∀ j, j < 16 → w j = u j) (s : z8) : ∀ n, zrun w s n = zrun u s n
  | 0 => rfl
  | n + 1 => by
    show zstep _ (zW w n) (zrun w s n) = zstep _ (zW u n) (zrun u s n)
    rw [zW_cg h n, zrun_cg h s n]
theorem z4_cg {b c : Nat → UInt8} {i : Nat} (h : ∀ k, k < 4 → b (i + k) = c (i + k)) : z4 b i = z4 c i := q_z4 fun k hk => (zwb_z4 hk).trans (h k hk)
theorem q_zs_cg {b c : Nat → UInt8} : ∀ {p : Nat}, (∀ i, i < 64 * p → b i = c i) → q_zs b p = q_zs c p
  | 0, _ => rfl
  | p + 1, h => by
    show zadd (q_zs b p) (zrun _ (q_zs b p) 64) = zadd (q_zs c p) (zrun _ (q_zs c p) 64)
    rw [q_zs_cg (p := p) fun i hi => h i (by omega), zrun_cg fun j hj => z4_cg fun k hk => h _ (by omega)]
/-- n bytes of f have been laid -/
def q_E (f : Nat → UInt8) (n : Nat) (M : Nat → Int32) : Prop := M 48 = Int32.ofNat n ∧ q_s8 M 32 = q_zs f (n / 64) ∧ ∀ i, i < n % 64 → zwb (M (i / 4)) (i % 4) = f (64 * (n / 64) + i)
theorem q_E_cg {f g : Nat → UInt8} {n : Nat} {M : Nat → Int32} (h : q_E f n M) (e : ∀ i, i < n → f i = g i) : q_E g n M :=
  ⟨h.1, h.2.1.trans (q_zs_cg fun i hi => e i (by omega)), fun i hi => (h.2.2 i hi).trans (e _ (by omega))⟩
theorem q_E_eq {f : Nat → UInt8} {n : Nat} {M M' : Nat → Int32} (h : q_E f n M) (e : ∀ j, j < 49 → M' j = M j) : q_E f n M' := by
  refine ⟨(e 48 (by decide)).trans h.1, Eq.trans ?_ h.2.1, fun i hi => by rw [e _ (by omega)]; exact h.2.2 i hi⟩
  unfold q_s8
  rw [e 32 (by decide), e (32 + 1) (by decide), e (32 + 2) (by decide), e (32 + 3) (by decide), e (32 + 4) (by decide), e (32 + 5) (by decide), e (32 + 6) (by decide), e (32 + 7) (by decide)]
section QD
variable {Q : Unit → jH → Prop} {H : jH} {M : Nat → Int32} {T : Nat → Int64} {f : Nat → UInt8} {n : Nat}
theorem q_begin (hK : jK H 31 = (100, 64)) (hk : ∀ M', q_E f 0 M' → M' 49 = 0 → (∀ j, 50 ≤ j → M' j = M j) → Q () (q_h H M' T)) : jT (F_L_begin 31 (q_h H M T)) Q := by
  unfold F_L_begin
  refine jT_g (q_g2 hK (by decide)) (jT_l (jT_g (q_g2 hK (by decide)) (jT_l (jT_g (q_g2 hK (by decide)) (jT_l (jT_g (q_g2 hK (by decide)) (jT_l (jT_g (q_g2 hK (by decide)) (jT_l (jT_g (q_g2 hK (by decide)) (jT_l (jT_g (q_g2 hK (by decide)) (jT_l (jT_g (q_g2 hK (by decide)) (jT_l (jT_g (q_g2 hK (by decide)) (jT_l (jT_g (q_g2 hK (by decide)) (jT_l (jT_ret ?_))))))))))))))))))))
  rw [q_sI, q_sI, q_sI, q_sI, q_sI, q_sI, q_sI, q_sI, q_sI, q_sI]
  refine hk _ ⟨rfl, rfl, fun i hi => absurd hi (Nat.not_lt_zero i)⟩ rfl fun j hj => ?_
  have n : ∀ k : Nat, k < 50 → j ≠ k := fun k hk => by omega
  rw [q_up_n (n _ (by decide)), q_up_n (n _ (by decide)), q_up_n (n _ (by decide)), q_up_n (n _ (by decide)), q_up_n (n _ (by decide)), q_up_n (n _ (by decide)), q_up_n (n _ (by decide)), q_up_n (n _ (by decide)), q_up_n (n _ (by decide)), q_up_n (n _ (by decide))]
theorem q_add {c : Int32} (hK : jK H 31 = (100, 64)) (hn : n < 2000000) (h : q_E f n M) (e : f n = jbu c) (hk : ∀ M', q_E f (n + 1) M' → (∀ j, 49 ≤ j → M' j = M j) → Q () (q_h H M' T)) : jT (F_L_add 31 421 c (q_h H M T)) Q := by
  obtain ⟨h1, h2, h3⟩ := h
  obtain ⟨i, hi⟩ : ∃ i, i = n % 64 := ⟨_, rfl⟩
  have hi64 : i < 64 := by omega
  have r64 : jrem (Int32.ofNat n) 64 = Int32.ofNat i := by rw [hi]; exact jo_rem (a := n) (b := 64) (by omega) (by omega)
  have d4 : Int32.ofNat i / 4 = Int32.ofNat (i / 4) := jo_div (a := i) (b := 4) (by omega) (by omega)
  have r4 : jrem (Int32.ofNat i) 4 = Int32.ofNat (i % 4) := jo_rem (a := i) (b := 4) (by omega) (by omega)
  have m8 : (8 : Int32) * Int32.ofNat (i % 4) = Int32.ofNat (8 * (i % 4)) := jo_mul (a := 8) (b := i % 4)
  have s24 : (24 : Int32) - Int32.ofNat (8 * (i % 4)) = Int32.ofNat (24 - 8 * (i % 4)) := jo_sub (a := 24) (b := 8 * (i % 4)) (by omega)
  have n1 : Int32.ofNat n + 1 = Int32.ofNat (n + 1) := jo_add (a := n) (b := 1)
  have r1 : jrem (Int32.ofNat (n + 1)) 64 = Int32.ofNat ((n + 1) % 64) := jo_rem (a := n + 1) (b := 64) (by omega) (by omega)
  have g4 : jin (Int32.ofNat (i / 4)) 64 := jo_in (by omega) (by omega)
  obtain ⟨w, hw⟩ : ∃ w, w = (M (i / 4) &&& (jshl 255 (Int32.ofNat (24 - 8 * (i % 4))) ^^^ (-1))) ||| jshl (c &&& 255) (Int32.ofNat (24 - 8 * (i % 4))) := ⟨_, rfl⟩
  have hwb : ∀ k, k < 4 → zwb w k = if k = i % 4 then jbu c else zwb (M (i / 4)) k := fun k hk => by rw [hw]; exact q_set (by omega) hk
  obtain ⟨M2, hM2⟩ : ∃ M2, M2 = q_up (q_up M (i / 4) w) 48 (Int32.ofNat (n + 1)) := ⟨_, rfl⟩
  have o2 : ∀ j, j ≠ i / 4 → j ≠ 48 → M2 j = M j := fun j a b => by rw [hM2, q_up_n b, q_up_n a]
  have b2 : ∀ k, k ≤ i → zwb (M2 (k / 4)) (k % 4) = f (64 * (n / 64) + k) := fun k hk => by
    by_cases ck : k / 4 = i / 4
    · rw [ck, hM2, q_up_n (by omega), q_up_e, hwb _ (by omega)]
      by_cases c5 : k = i
      · rw [c5, if_pos rfl, ← e]
        congr 1
        omega
      · rw [if_neg (by omega), ← ck]
        exact h3 k (by omega)
    · rw [o2 _ ck (by omega)]
      exact h3 k (by omega)
  have s2 : q_s8 M2 32 = q_zs f (n / 64) := by
    rw [← h2]
    unfold q_s8
    rw [o2 32 (by omega) (by decide), o2 (32 + 1) (by omega) (by decide), o2 (32 + 2) (by omega) (by decide), o2 (32 + 3) (by omega) (by decide), o2 (32 + 4) (by omega) (by decide), o2 (32 + 5) (by omega) (by decide), o2 (32 + 6) (by omega) (by decide), o2 (32 + 7) (by omega) (by decide)]
  unfold F_L_add
  rw [q_h_I, show (48 : Int32).toNatClampNeg = 48 from rfl, h1, r64]
  refine jT_g (q_g1 hK (by decide)) (jT_g (by decide) (jT_l ?_))
  rw [d4, r4, m8, s24, jo_nat (n := i / 4) (by omega), q_sI, ← hw]
  refine jT_g (by decide) (jT_g (by decide) (jT_g (q_g1 hK g4) (jT_g (by decide) (jT_g (by decide) (jT_g (q_g2 hK g4) (jT_l ?_))))))
  refine jT_g (q_g1 hK (by decide)) (jT_g (q_g2 hK (by decide)) (jT_l ?_))
  rw [q_sI, q_h_I, q_up_n (show 48 ≠ i / 4 by omega), h1, n1, ← hM2]
  refine jT_g (q_g1 hK (by decide)) (jT_g (by decide) ?_)
  rw [q_h_I, show M2 48 = Int32.ofNat (n + 1) by rw [hM2]; exact q_up_e, r1]
  have v48 : M2 48 = Int32.ofNat (n + 1) := by rw [hM2]; exact q_up_e
  unfold B_L_add_75
  by_cases c64 : (n + 1) % 64 = 0
  · refine jT_neg (by rw [c64]; decide) (jT_b (q_work hK fun M3 a3 b3 => jT_ret (hk M3 ⟨(a3 48 (Or.inr (by decide))).trans v48, ?_, fun k hk2 => ?_⟩ fun j hj => (a3 j (Or.inr (by omega))).trans (o2 j (by omega) (by omega)))))
    · rw [b3, s2, show (n + 1) / 64 = n / 64 + 1 by omega]
      show _ = zadd (q_zs f (n / 64)) (zrun _ (q_zs f (n / 64)) 64)
      rw [zrun_cg (w := M2) (u := fun j => z4 f (64 * (n / 64) + 4 * j)) fun j hj => q_z4 fun k hk2 => ?_]
      have := b2 (4 * j + k) (by omega)
      rw [show (4 * j + k) / 4 = j by omega, show (4 * j + k) % 4 = k by omega] at this
      rw [this]
      congr 1
      omega
    · omega
  · refine jT_pos (fun w => c64 ?_) (jT_ret (hk M2 ⟨v48, ?_, fun k hk2 => ?_⟩ fun j hj => o2 j (by omega) (by omega)))
    · rw [show (0 : Int32) = Int32.ofNat 0 from rfl, jo_eq (by omega) (by decide)] at w
      exact w
    · rw [s2, show (n + 1) / 64 = n / 64 by omega]
    · rw [show (n + 1) / 64 = n / 64 by omega]
      exact b2 k (by omega)
/-- with what is laid behind -/
def q_pd (f : Nat → UInt8) (n i : Nat) : UInt8 := if i < n then f i else if i = n then 128 else if 64 * ((n + 72) / 64) ≤ i + 4 then jbu (Int32.ofNat (8 * n / 2 ^ (8 * (64 * ((n + 72) / 64) - 1 - i)))) else 0
theorem q_pd_zpad {i : Nat} (h : i + 4 < 64 * ((n + 72) / 64)) : q_pd f n i = zpad f n i := by
  unfold q_pd zpad
  by_cases c1 : i < n
  · rw [if_pos c1, if_pos c1]
  · rw [if_neg c1, if_neg c1]
    by_cases c2 : i = n
    · rw [if_pos c2, if_pos c2]
    · rw [if_neg c2, if_neg c2, if_neg (by omega)]
theorem q_last {m : Nat} (hm : m < 4294967296) {b : Nat → UInt8} {i : Nat} (h : ∀ k, k < 4 → b (i + k) = jbu (Int32.ofNat (m / 2 ^ (24 - 8 * k)))) : z4 b i = Int32.ofNat m := by
  refine (q_z4 fun k hk => ?_).symm
  rw [h k hk]
  refine UInt8.toNat_inj.mp ?_
  rw [zwb_n hm hk, jbu_toNat, q_ofN (Nat.lt_of_le_of_lt (Nat.div_le_self _ _) hm)]
theorem q_zs_zH (hn : n < 2000000) : ∀ {p : Nat}, p ≤ (n + 8) / 64 + 1 → q_zs (q_pd f n) p = zH (zpad f n) n ((n + 8) / 64 + 1) p
  | 0, _ => rfl
  | p + 1, hp => by
    have hE : (n + 72) / 64 = (n + 8) / 64 + 1 := by omega
    show zadd (q_zs _ p) (zrun _ (q_zs _ p) 64) = zadd (zH _ _ _ p) (zrun _ (zH _ _ _ p) 64)
    rw [q_zs_zH hn (p := p) (by omega), zrun_cg (u := zM (zpad f n) n ((n + 8) / 64 + 1) p) fun j hj => ?_]
    unfold zM
    by_cases c : j = 15 ∧ p + 1 = (n + 8) / 64 + 1
    · rw [if_pos c, show (8 : Int32) * Int32.ofNat n = Int32.ofNat (8 * n) from jo_mul (a := 8) (b := n)]
      refine q_last (by omega) fun k hk => ?_
      unfold q_pd
      rw [if_neg (by omega), if_neg (by omega), if_pos (by omega), show 8 * (64 * ((n + 72) / 64) - 1 - (64 * p + 4 * j + k)) = 24 - 8 * k by omega]
    · rw [if_neg c]
      exact z4_cg fun k hk => q_pd_zpad (by omega)
theorem q_end39 {g : Nat → UInt8} (hK : jK H 31 = (100, 64)) (hn : n < 1000000) {m : Nat} (hm : m + 8 < 2000000) (hg : ∀ k, k < 8 → g (m + k) = if k < 4 then 0 else jbu (Int32.ofNat (8 * n / 2 ^ (56 - 8 * k)))) {M0 : Nat → Int32} (hk : ∀ M', q_E g (m + 8) M' → (∀ j, 49 ≤ j → M' j = M0 j) → Q () (q_h H M' T)) :
    ∀ (d i fu : Nat) (M : Nat → Int32), i + d = 8 → d < fu → q_E g (m + i) M → (∀ j, 49 ≤ j → M j = M0 j) → jT (F_L_end_39 fu 31 421 (Int32.ofNat (8 * n)) (Int32.ofNat i) (q_h H M T)) Q := by
  intro d
  induction d with
  | zero =>
    intro i fu M hi hf h ho
    obtain rfl : i = 8 := by omega
    obtain ⟨fu, rfl⟩ : ∃ k, fu = k + 1 := ⟨fu - 1, by omega⟩
    unfold F_L_end_39 B_L_end_39
    exact jT_pos (by decide) (jT_ret (hk M h ho))
  | succ d ih =>
    intro i fu M hi hf h ho
    obtain ⟨fu, rfl⟩ : ∃ k, fu = k + 1 := ⟨fu - 1, by omega⟩
    have e1 : Int32.ofNat i + 1 = Int32.ofNat (i + 1) := jo_add (a := i) (b := 1)
    unfold F_L_end_39 B_L_end_39 B_L_end_65
    rw [e1]
    refine jT_neg (by show ¬ Int32.ofNat 8 ≤ _; rw [jo_le (by omega) (by omega)]; omega) ?_
    by_cases c : 4 ≤ i
    · have e8 : (8 : Int32) * Int32.ofNat i = Int32.ofNat (8 * i) := jo_mul (a := 8) (b := i)
      have e56 : (56 : Int32) - Int32.ofNat (8 * i) = Int32.ofNat (56 - 8 * i) := jo_sub (a := 56) (b := 8 * i) (by omega)
      rw [e8, e56, jo_shr (by omega) (by omega)]
      refine jT_pos (by show Int32.ofNat 4 ≤ _; rw [jo_le (by omega) (by omega)]; exact c) (jT_b (q_add hK (by omega) h ?_ fun M' a b => jT_l (ih (i + 1) fu M' (by omega) (by omega) a fun j hj => (b j hj).trans (ho j hj))))
      rw [hg i (by omega), if_neg (by omega)]
    · refine jT_neg (by show ¬ Int32.ofNat 4 ≤ _; rw [jo_le (by omega) (by omega)]; exact c) (jT_b (q_add hK (by omega) h ?_ fun M' a b => jT_l (ih (i + 1) fu M' (by omega) (by omega) a fun j hj => (b j hj).trans (ho j hj))))
      rw [hg i (by omega), if_pos (by omega)]
      rfl
/-- the digest is there -/
def q_dg (b : Nat → UInt8) (M : Nat → Int32) : Prop := ∀ i, i < 32 → zwb (M (32 + i / 4)) (i % 4) = b i
theorem q_s8_get {M : Nat → Int32} {p k : Nat} (h : k < 8) : zget (q_s8 M p) k = M (p + k) := by
  rcases (show k = 0 ∨ k = 1 ∨ k = 2 ∨ k = 3 ∨ k = 4 ∨ k = 5 ∨ k = 6 ∨ k = 7 by omega) with rfl | rfl | rfl | rfl | rfl | rfl | rfl | rfl <;> rfl
theorem q_finish (hK : jK H 31 = (100, 64)) (hn : n < 1000000) (h : q_E f n M) (hk : ∀ M', q_dg (zsha f n) M' → (∀ j, 49 ≤ j → M' j = M j) → Q () (q_h H M' T)) : jT (F_L_end 31 421 (q_h H M T)) Q := by
  obtain ⟨P, hP⟩ : ∃ P, P = (n + 72) / 64 := ⟨_, rfl⟩
  have hP2 : P = (n + 8) / 64 + 1 := by omega
  have g1 : ∀ i, i < n → f i = q_pd f n i := fun i hi => by
    unfold q_pd
    rw [if_pos hi]
  have gn : q_pd f n n = jbu 128 := by
    unfold q_pd
    rw [if_neg (Nat.lt_irrefl _), if_pos rfl]
    rfl
  have g0 : ∀ i, n < i → i < 64 * P - 8 → q_pd f n i = jbu 0 := fun i a b => by
    unfold q_pd
    rw [if_neg (by omega), if_neg (by omega), if_neg (by omega)]
    rfl
  have g8 : ∀ k, k < 8 → q_pd f n (64 * P - 8 + k) = if k < 4 then 0 else jbu (Int32.ofNat (8 * n / 2 ^ (56 - 8 * k))) := fun k hk => by
    unfold q_pd
    rw [if_neg (by omega), if_neg (by omega)]
    by_cases c : k < 4
    · rw [if_pos c, if_neg (by omega)]
    · rw [if_neg c, if_pos (by omega), show 8 * (64 * ((n + 72) / 64) - 1 - (64 * P - 8 + k)) = 56 - 8 * k by omega]
  have loop : ∀ (d m fu : Nat) (M1 : Nat → Int32), m + d = 64 * P - 8 → n < m → d < fu → q_E (q_pd f n) m M1 → (∀ j, 49 ≤ j → M1 j = M j) → jT (F_L_end_16 fu 31 421 (Int32.ofNat (8 * n)) (q_h H M1 T)) Q := by
    intro d
    induction d with
    | zero =>
      intro m fu M1 hm hnm hf hE ho
      obtain ⟨fu, rfl⟩ : ∃ k, fu = k + 1 := ⟨fu - 1, by omega⟩
      have r64 : jrem (Int32.ofNat m) 64 = Int32.ofNat (m % 64) := jo_rem (a := m) (b := 64) (by omega) (by omega)
      unfold F_L_end_16 B_L_end_16
      rw [q_h_I, show (48 : Int32).toNatClampNeg = 48 from rfl, hE.1, r64]
      refine jT_g (q_g1 hK (by decide)) (jT_g (by decide) (jT_pos (by rw [show m % 64 = 56 by omega]; rfl) ?_))
      refine q_end39 hK hn (m := m) (by omega) (fun k hk => ?_) (M0 := M) (fun M' a b => hk M' (fun i hi => ?_) b) 8 0 jfuel M1 rfl (by unfold jfuel; omega) hE ho
      · rw [show m + k = 64 * P - 8 + k by omega]
        exact g8 k hk
      · have a2 := a.2.1
        rw [show (m + 8) / 64 = (n + 8) / 64 + 1 by omega, q_zs_zH (by omega) (Nat.le_refl _)] at a2
        have e := q_s8_get (M := M') (p := 32) (k := i / 4) (by omega)
        rw [a2] at e
        rw [← e]
        rfl
    | succ d ih =>
      intro m fu M1 hm hnm hf hE ho
      obtain ⟨fu, rfl⟩ : ∃ k, fu = k + 1 := ⟨fu - 1, by omega⟩
      have r64 : jrem (Int32.ofNat m) 64 = Int32.ofNat (m % 64) := jo_rem (a := m) (b := 64) (by omega) (by omega)
      unfold F_L_end_16 B_L_end_16
      rw [q_h_I, show (48 : Int32).toNatClampNeg = 48 from rfl, hE.1, r64]
      refine jT_g (q_g1 hK (by decide)) (jT_g (by decide) (jT_neg (by show ¬ _ = Int32.ofNat 56; rw [jo_eq (by omega) (by decide)]; omega) (jT_b (q_add hK (by omega) hE (g0 m hnm (by omega)) fun M' a b => ?_))))
      exact ih (m + 1) fu M' (by omega) (by omega) (by omega) a fun j hj => (b j hj).trans (ho j hj)
  unfold F_L_end
  rw [q_h_I, show (48 : Int32).toNatClampNeg = 48 from rfl, h.1, show (8 : Int32) * Int32.ofNat n = Int32.ofNat (8 * n) from jo_mul (a := 8) (b := n)]
  refine jT_g (q_g1 hK (by decide)) (jT_l (jT_b (q_add hK (by omega) (q_E_cg h g1) gn fun M' a b => ?_)))
  exact loop (64 * P - 8 - (n + 1)) (n + 1) jfuel M' (by omega) (by omega) (by unfold jfuel; omega) a b
end QD
