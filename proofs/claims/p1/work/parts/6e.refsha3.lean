theorem jfr_I {S : Nat → Nat → Prop} {H H' : jH} (h : jfr S H H') {a j : Nat} (hn : ¬ S a j) : jI H' a j = jI H a j := (h.2.2.2 a j hn).1
theorem jfr_L {S : Nat → Nat → Prop} {H H' : jH} (h : jfr S H H') {a j : Nat} (hn : ¬ S a j) : jL H' a j = jL H a j := (h.2.2.2 a j hn).2.1
theorem jfr_R {S : Nat → Nat → Prop} {H H' : jH} (h : jfr S H H') {a j : Nat} (hn : ¬ S a j) : jR H' a j = jR H a j := (h.2.2.2 a j hn).2.2.1
theorem jfr_B {S : Nat → Nat → Prop} {H H' : jH} (h : jfr S H H') {a j : Nat} (hn : ¬ S a j) : jB H' a j = jB H a j := (h.2.2.2 a j hn).2.2.2
theorem jfr_K {S : Nat → Nat → Prop} {H H' : jH} (h : jfr S H H') (a : Nat) : jK H' a = jK H a := by rw [h.1]
theorem jT_eq {α : Type} {Q : α → jH → Prop} {o o' : Option (α × jH)} (e : o = o') (h : jT o' Q) : jT o Q := e ▸ h
/-- a word of the state is set -/
theorem z12_set {Q : Unit → jH → Prop} {k : jH → Option (Unit × jH)} {H0 H : jH} (hs : jsh H) (hf : jfr (fun a _ => a = 424) H0 H) (ii : Int32) (i : Nat) (hi : jin ii 8 ∧ ii.toNatClampNeg = i) {v : Int32} (hk : ∀ H', jsh H' → jfr (fun a _ => a = 424) H0 H' → jI H' 424 i = v → (∀ j, j ≠ i → jI H' 424 j = jI H 424 j) → jT (k H') Q) :
    jT (jg ((jK H 422).1 = 12) (jg ((jK H (jR H 422 1)).1 = 100 ∧ jF0 ≤ (jR H 422 1) ∧ jin ii (jK H (jR H 422 1)).2) (jl (jsI H (jR H 422 1) ii.toNatClampNeg v) k))) Q := by
  refine jT_g (by rw [sK_422 hs]) ?_
  rw [sR_422_1 hs, sK_424 hs, hi.2]
  exact jT_g ⟨rfl, by unfold jF0; omega, hi.1⟩ (jT_l (hk _ (jsh_sI hs (by omega)) (jfr_sI hf rfl) jI_sIe fun j hj => jI_sIn hj))
/-- a part: its row of words, then its steps -/
theorem z12_84 {Q : Unit → jH → Prop} {k69 : Nat → Nat → Int32 → Int32 → Nat → Int32 → Int32 → jH → Option (Unit × jH)} {a1 len at_ n p a4 : Nat} {a5 : Int32} {b : Nat → UInt8} {s : z8} {H0 : jH} (hl : at_ + n ≤ len) (hlen : len < 2147483648) (hn : n < 2000000) (hp : p < (n + 72) / 64) (hk1 : jK H0 a1 = (101, len)) (ha1 : a1 ≠ 423)
    (hb : ∀ i, i < n → jB H0 a1 (at_ + i) = b i) (hs0 : ∀ j, j < 8 → jI H0 424 j = zget s j)
    (hk : ∀ H', jsh H' → jfr (fun a _ => a = 423 ∨ a = 424 ∨ a = 425) H0 H' → (∀ j, j < 8 → jI H' 424 j = zget (zadd s (zrun (zM (zpad b n) n ((n + 8) / 64 + 1) p) s 64)) j) → jT (k69 422 a1 (Int32.ofNat at_) (Int32.ofNat n) a4 a5 (Int32.ofNat (p + 1)) H') Q) :
    ∀ (d i m : Nat) (H : jH), i + d = 64 → d < m → jsh H → jfr (fun a _ => a = 423) H0 H → (∀ j, j < i → jI H 423 j = zW (zM (zpad b n) n ((n + 8) / 64 + 1) p) j) → jT (F_12_wide_84 k69 m 422 a1 (Int32.ofNat at_) (Int32.ofNat n) a4 a5 (Int32.ofNat p) (Int32.ofNat i) H) Q := by
  intro d
  induction d with
  | zero =>
    intro i m H hi hm hs hf hw
    obtain rfl : i = 64 := by omega
    obtain ⟨m, rfl⟩ : ∃ k, m = k + 1 := ⟨m - 1, by omega⟩
    unfold F_12_wide_84 B_12_wide_84
    refine jT_pos (by decide) ?_
    have e_p : Int32.ofNat p + 1 = Int32.ofNat (p + 1) := jo_add (a := p) (b := 1)
    refine z12_368 (M := zM (zpad b n) n ((n + 8) / 64 + 1) p) (s := s) (H0 := H) hw (fun j hj => (jfr_I hf (fun h : (424 : Nat) = 423 => absurd h (by decide))).trans (hs0 j hj)) (fun H1 hs1 hf1 hv1 => ?_) 8 0 jfuel H rfl (by unfold jfuel; omega) hs jfr_refl (fun j hj => absurd hj (Nat.not_lt_zero j))
    rw [e_p]
    exact hk H1 hs1 (jfr_trans (jfr_mono hf fun a j h => Or.inl h) (jfr_mono hf1 fun a j h => Or.inr h)) hv1
  | succ d ih =>
    intro i m H hi hm hs hf hw
    obtain ⟨m, rfl⟩ : ∃ k, m = k + 1 := ⟨m - 1, by omega⟩
    unfold F_12_wide_84 B_12_wide_84
    have e64 : (64 : Int32) * Int32.ofNat p + 4 * Int32.ofNat i = Int32.ofNat (64 * p + 4 * i) := by
      rw [show (64 : Int32) = Int32.ofNat 64 from rfl, show (4 : Int32) = Int32.ofNat 4 from rfl, jo_mul, jo_mul, jo_add]
    refine jT_neg (by rw [show (64 : Int32) = Int32.ofNat 64 from rfl, jo_le (by omega) (by omega)]; omega) (jT_l ?_)
    rw [e64]
    have hkH : jK H a1 = (101, len) := (jfr_K hf a1).trans hk1
    have hbH : ∀ i, i < n → jB H a1 (at_ + i) = b i := fun i hi => (jfr_B hf ha1).trans (hb i hi)
    have hcont : ∀ w, w = zW (zM (zpad b n) n ((n + 8) / 64 + 1) p) i → jT (F_12_wide_84 k69 m 422 a1 (Int32.ofNat at_) (Int32.ofNat n) a4 a5 (Int32.ofNat p) (Int32.ofNat (i + 1)) (jsI H 423 i w)) Q := by
      intro w hwi
      refine ih (i + 1) m _ (by omega) (by omega) (jsh_sI hs (by omega)) (jfr_sI hf rfl) fun j hj => ?_
      by_cases h : j = i
      · subst h
        rw [jI_sIe, hwi]
      · rw [jI_sIn h]
        exact hw j (by omega)
    by_cases h16 : 16 ≤ i
    · refine jT_pos (by rw [show (16 : Int32) = Int32.ofNat 16 from rfl, jo_le (by omega) (by omega)]; omega) ?_
      unfold B_12_wide_181
      have : F_12_wide_184 (F_12_wide_84 k69 m) jfuel 422 a1 (Int32.ofNat at_) (Int32.ofNat n) a4 a5 (Int32.ofNat p) (Int32.ofNat i) 0 (Int32.ofNat (64 * p + 4 * i)) 0 H = B_12_wide_231 (F_12_wide_84 k69 m) 422 a1 (Int32.ofNat at_) (Int32.ofNat n) a4 a5 (Int32.ofNat p) (Int32.ofNat i) 0 H := by
        obtain ⟨f, hf⟩ : ∃ k, jfuel = k + 1 := ⟨4294967295, rfl⟩
        rw [hf]
        unfold F_12_wide_184 B_12_wide_184
        rw [if_neg (by decide), if_pos (by rw [show (16 : Int32) = Int32.ofNat 16 from rfl, jo_le (by omega) (by omega)]; omega)]
      rw [this]
      exact z12_231b hs h16 (by omega) hw (hcont _ rfl)
    · refine jT_neg (by rw [show (16 : Int32) = Int32.ofNat 16 from rfl, jo_le (by omega) (by omega)]; omega) ?_
      have e3 : Int32.ofNat (64 * p + 4 * i) + 3 = Int32.ofNat (64 * p + 4 * i + 3) := jo_add (a := 64 * p + 4 * i) (b := 3)
      have hW : zwk (fun i => jB H a1 (at_ + i)) n (64 * p + 4 * i) 4 = zW (zM (zpad b n) n ((n + 8) / 64 + 1) p) i := by
        rw [zW_lt (by omega), zwk_zM hp (by omega) hn, zpad_eq hbH]
      rw [e3]
      by_cases ho : n ≤ 64 * p + 4 * i + 3
      · refine jT_pos (by rw [jo_le (by omega) (by omega)]; omega) ?_
        unfold B_12_wide_181
        have := z12_184 (k84 := F_12_wide_84 k69 m) (a0 := 422) (a4 := a4) (a5 := a5) (a6 := Int32.ofNat p) hl hlen hn hp (by omega) ho hkH 4 0 jfuel rfl (by unfold jfuel; omega)
        refine jT_eq this ?_
        exact z12_231a hs (by omega) (hcont _ hW)
      · refine jT_neg (by rw [jo_le (by omega) (by omega)]; omega) ?_
        generalize hx : 64 * p + 4 * i = x at *
        have q0 : Int32.ofNat at_ + Int32.ofNat x = Int32.ofNat (at_ + x) := jo_add
        have q1 : Int32.ofNat (at_ + x) + 1 = Int32.ofNat (at_ + x + 1) := jo_add (a := at_ + x) (b := 1)
        have q2 : Int32.ofNat (at_ + x) + 2 = Int32.ofNat (at_ + x + 2) := jo_add (a := at_ + x) (b := 2)
        have q3 : Int32.ofNat (at_ + x) + 3 = Int32.ofNat (at_ + x + 3) := jo_add (a := at_ + x) (b := 3)
        rw [q0, q1, q2, q3, hkH, jo_nat (n := at_ + x) (by omega), jo_nat (n := at_ + x + 1) (by omega), jo_nat (n := at_ + x + 2) (by omega), jo_nat (n := at_ + x + 3) (by omega)]
        repeat (first | (with_reducible refine jT_g ?_ ?_; · first | exact rfl | exact trivial | exact ⟨trivial, jo_in (by omega) (by omega)⟩ | exact ⟨trivial, by unfold jF0; omega, jo_in (by omega) (by omega)⟩ | exact ⟨rfl, jo_in (by omega) (by omega)⟩ | exact ⟨rfl, by unfold jF0; omega, jo_in (by omega) (by omega)⟩ | decide) | with_reducible refine jT_l ?_)
        unfold B_12_wide_181
        have hraw := zwk_raw (b := fun i => jB H a1 (at_ + i)) (n := n) (o := x) (by omega)
        have : F_12_wide_184 (F_12_wide_84 k69 m) jfuel 422 a1 (Int32.ofNat at_) (Int32.ofNat n) a4 a5 (Int32.ofNat p) (Int32.ofNat i) (zwk (fun i => jB H a1 (at_ + i)) n x 4) (Int32.ofNat x) 0 H = B_12_wide_231 (F_12_wide_84 k69 m) 422 a1 (Int32.ofNat at_) (Int32.ofNat n) a4 a5 (Int32.ofNat p) (Int32.ofNat i) (zwk (fun i => jB H a1 (at_ + i)) n x 4) H := by
          obtain ⟨f, hf⟩ : ∃ k, jfuel = k + 1 := ⟨4294967295, rfl⟩
          rw [hf]
          unfold F_12_wide_184 B_12_wide_184
          rw [e3, if_neg (by decide), if_neg (by rw [show (16 : Int32) = Int32.ofNat 16 from rfl, jo_le (by omega) (by omega)]; omega), if_pos (by rw [jo_lt (by omega) (by omega)]; omega)]
        rw [hraw] at this
        refine jT_eq this ?_
        refine z12_231a hs (by omega) (hcont _ ?_)
        rw [← hW, hraw]
theorem z12_675 {Q : Unit → jH → Prop} {a4 pl len : Nat} (hl : pl + 32 ≤ len) (hlen : len < 2147483648) (h4 : a4 ≠ 424) {s : z8} {H0 : jH} (hk4 : jK H0 a4 = (101, len)) (hs0 : ∀ j, j < 8 → jI H0 424 j = zget s j)
    (hk : ∀ H', jsh H' → jfr (fun a j => a = a4 ∧ pl ≤ j ∧ j < pl + 32) H0 H' → (∀ i, i < 32 → jB H' a4 (pl + i) = zout s i) → Q () H') :
    ∀ (d i m : Nat) (H : jH), i + d = 32 → d < m → jsh H → jfr (fun a j => a = a4 ∧ pl ≤ j ∧ j < pl + 32) H0 H → (∀ j, j < i → jB H a4 (pl + j) = zout s j) → jT (F_12_wide_675 m 422 a4 (Int32.ofNat pl) (Int32.ofNat i) H) Q := by
  intro d
  induction d with
  | zero =>
    intro i m H hi hm hs hf hw
    obtain rfl : i = 32 := by omega
    obtain ⟨m, rfl⟩ : ∃ k, m = k + 1 := ⟨m - 1, by omega⟩
    unfold F_12_wide_675 B_12_wide_675
    exact jT_pos (by decide) (jT_ret (hk H hs hf hw))
  | succ d ih =>
    intro i m H hi hm hs hf hw
    obtain ⟨m, rfl⟩ : ∃ k, m = k + 1 := ⟨m - 1, by omega⟩
    unfold F_12_wide_675 B_12_wide_675
    refine jT_neg (by rw [show (32 : Int32) = Int32.ofNat 32 from rfl, jo_le (by omega) (by omega)]; omega) ?_
    have e4 : Int32.ofNat i / 4 = Int32.ofNat (i / 4) := jo_div (a := i) (b := 4) (by omega) (by omega)
    have er : jrem (Int32.ofNat i) 4 = Int32.ofNat (i % 4) := jo_rem (a := i) (b := 4) (by omega) (by omega)
    have e8 : (8 : Int32) * Int32.ofNat (i % 4) = Int32.ofNat (8 * (i % 4)) := jo_mul (a := 8)
    have e24 : (24 : Int32) - Int32.ofNat (8 * (i % 4)) = Int32.ofNat (24 - 8 * (i % 4)) := jo_sub (a := 24) (by omega)
    have ep : Int32.ofNat pl + Int32.ofNat i = Int32.ofNat (pl + i) := jo_add
    have hI : jI H 424 (i / 4) = zget s (i / 4) := (jfr_I hf (fun h => h4 h.1.symm)).trans (hs0 _ (by omega))
    have e_i : Int32.ofNat i + 1 = Int32.ofNat (i + 1) := jo_add (a := i) (b := 1)
    rw [e4, er, e8, e24, e_i, ep, (jfr_K hf a4).trans hk4, sR_422_1 hs, sK_422 hs, sK_424 hs, jo_nat (n := pl + i) (by omega), jo_nat (n := i / 4) (by omega), hI]
    repeat (first | (with_reducible refine jT_g ?_ ?_; · first | exact rfl | exact trivial | exact ⟨trivial, jo_in (by omega) (by omega)⟩ | exact ⟨trivial, by unfold jF0; omega, jo_in (by omega) (by omega)⟩ | exact ⟨rfl, jo_in (by omega) (by omega)⟩ | exact ⟨rfl, by unfold jF0; omega, jo_in (by omega) (by omega)⟩ | decide) | with_reducible refine jT_l ?_)
    refine ih (i + 1) m _ (by omega) (by omega) (jsh_sB hs) (jfr_sB hf ⟨rfl, by omega, by omega⟩) fun j hj => ?_
    by_cases h : j = i
    · subst h
      rw [jB_sBe]
      rfl
    · rw [jB_sBn (by omega)]
      exact hw j (by omega)
theorem z12_69 {Q : Unit → jH → Prop} {a1 len at_ n a4 pl len4 : Nat} {b : Nat → UInt8} {H0 : jH} (hl : at_ + n ≤ len) (hlen : len < 2147483648) (hn : n < 2000000) (hk1 : jK H0 a1 = (101, len)) (ha1 : a1 ≠ 423 ∧ a1 ≠ 424 ∧ a1 ≠ 425)
    (hb : ∀ i, i < n → jB H0 a1 (at_ + i) = b i) (hl4 : pl + 32 ≤ len4) (hlen4 : len4 < 2147483648) (h4 : a4 ≠ 424) (hk4 : jK H0 a4 = (101, len4))
    (hk : ∀ H', jsh H' → jfr (fun a j => a = 423 ∨ a = 424 ∨ a = 425 ∨ (a = a4 ∧ pl ≤ j ∧ j < pl + 32)) H0 H' → (∀ i, i < 32 → jB H' a4 (pl + i) = zsha b n i) → Q () H') :
    ∀ (d p m : Nat) (H : jH), p + d = (n + 72) / 64 → d < m → jsh H → jfr (fun a _ => a = 423 ∨ a = 424 ∨ a = 425) H0 H → (∀ j, j < 8 → jI H 424 j = zget (zH (zpad b n) n ((n + 8) / 64 + 1) p) j) → jT (F_12_wide_69 m 422 a1 (Int32.ofNat at_) (Int32.ofNat n) a4 (Int32.ofNat pl) (Int32.ofNat p) H) Q := by
  intro d
  have e1 : Int32.ofNat n + 72 = Int32.ofNat (n + 72) := jo_add (a := n) (b := 72)
  have e2 : Int32.ofNat (n + 72) / 64 = Int32.ofNat ((n + 72) / 64) := jo_div (a := n + 72) (b := 64) (by omega) (by omega)
  have hE : (n + 72) / 64 = (n + 8) / 64 + 1 := by omega
  induction d with
  | zero =>
    intro p m H hi hm hs hf hw
    obtain ⟨m, rfl⟩ : ∃ k, m = k + 1 := ⟨m - 1, by omega⟩
    unfold F_12_wide_69 B_12_wide_69
    refine jT_g (by decide) ?_
    rw [e1, e2]
    refine jT_pos (by rw [jo_le (by omega) (by omega)]; omega) ?_
    refine z12_675 hl4 hlen4 h4 ((jfr_K hf a4).trans hk4) hw (fun H1 hs1 hf1 hb1 => hk H1 hs1 ?_ fun i hi => ?_) 32 0 jfuel H rfl (by unfold jfuel; omega) hs jfr_refl (fun j hj => absurd hj (Nat.not_lt_zero j))
    · refine jfr_trans (jfr_mono hf fun a j h => ?_) (jfr_mono hf1 fun a j h => Or.inr (Or.inr (Or.inr h)))
      rcases h with h | h | h
      · exact Or.inl h
      · exact Or.inr (Or.inl h)
      · exact Or.inr (Or.inr (Or.inl h))
    · rw [hb1 i hi]
      obtain rfl : p = (n + 8) / 64 + 1 := by omega
      rfl
  | succ d ih =>
    intro p m H hi hm hs hf hw
    obtain ⟨m, rfl⟩ : ∃ k, m = k + 1 := ⟨m - 1, by omega⟩
    unfold F_12_wide_69 B_12_wide_69
    refine jT_g (by decide) ?_
    rw [e1, e2]
    refine jT_neg (by rw [jo_le (by omega) (by omega)]; omega) ?_
    refine z12_84 (b := b) (s := zH (zpad b n) n ((n + 8) / 64 + 1) p) (H0 := H) hl hlen hn (by omega) ((jfr_K hf a1).trans hk1) ha1.1 (fun i hi => (jfr_B hf ?_).trans (hb i hi)) hw (fun H1 hs1 hf1 hv1 => ?_) 64 0 jfuel H rfl (by unfold jfuel; omega) hs jfr_refl (fun j hj => absurd hj (Nat.not_lt_zero j))
    · intro h
      rcases h with h | h | h
      · exact ha1.1 h
      · exact ha1.2.1 h
      · exact ha1.2.2 h
    · exact ih (p + 1) m H1 (by omega) (by omega) hs1 (jfr_trans hf hf1) hv1
/-- the reference's SHA-256 -/
theorem z12_wide {Q : Unit → jH → Prop} {a1 len at_ n a4 pl len4 : Nat} {H : jH} (hl : at_ + n ≤ len) (hlen : len < 2147483648) (hn : n < 2000000) (hk1 : jK H a1 = (101, len)) (hl4 : pl + 32 ≤ len4) (hlen4 : len4 < 2147483648) (hk4 : jK H a4 = (101, len4)) (hs : jsh H)
    (hk : ∀ H', jsh H' → jfr (fun a j => a = 423 ∨ a = 424 ∨ a = 425 ∨ (a = a4 ∧ pl ≤ j ∧ j < pl + 32)) H H' → (∀ i, i < 32 → jB H' a4 (pl + i) = zsha (fun i => jB H a1 (at_ + i)) n i) → Q () H') :
    jT (F_12_wide 422 a1 (Int32.ofNat at_) (Int32.ofNat n) a4 (Int32.ofNat pl) H) Q := by
  have q1 : ∀ a t : Nat, jK H a = (101, t) → a ≠ 423 ∧ a ≠ 424 ∧ a ≠ 425 := by
    intro a t h
    refine ⟨?_, ?_, ?_⟩
    · rintro rfl
      rw [sK_423 hs] at h
      exact absurd (show (100 : Nat) = 101 from congrArg Prod.fst h) (by decide)
    · rintro rfl
      rw [sK_424 hs] at h
      exact absurd (show (100 : Nat) = 101 from congrArg Prod.fst h) (by decide)
    · rintro rfl
      rw [sK_425 hs] at h
      exact absurd (show (100 : Nat) = 101 from congrArg Prod.fst h) (by decide)
  unfold F_12_wide
  refine z12_set hs jfr_refl 0 0 (by decide) fun H0 hs0 f0 g0 o0 => ?_
  refine z12_set hs0 f0 1 1 (by decide) fun H1 hs1 f1 g1 o1 => ?_
  refine z12_set hs1 f1 2 2 (by decide) fun H2 hs2 f2 g2 o2 => ?_
  refine z12_set hs2 f2 3 3 (by decide) fun H3 hs3 f3 g3 o3 => ?_
  refine z12_set hs3 f3 4 4 (by decide) fun H4 hs4 f4 g4 o4 => ?_
  refine z12_set hs4 f4 5 5 (by decide) fun H5 hs5 f5 g5 o5 => ?_
  refine z12_set hs5 f5 6 6 (by decide) fun H6 hs6 f6 g6 o6 => ?_
  refine z12_set hs6 f6 7 7 (by decide) fun H7 hs7 f7 g7 o7 => ?_
  refine z12_69 (b := fun i => jB H a1 (at_ + i)) (H0 := H) hl hlen hn hk1 (q1 a1 len hk1) (fun _ _ => rfl) hl4 hlen4 (q1 a4 len4 hk4).2.1 hk4 hk ((n + 72) / 64) 0 jfuel H7 (by omega) (by unfold jfuel; omega) hs7 (jfr_mono f7 fun a j h => Or.inr (Or.inl h)) fun j hj => ?_
  rcases (show j = 0 ∨ j = 1 ∨ j = 2 ∨ j = 3 ∨ j = 4 ∨ j = 5 ∨ j = 6 ∨ j = 7 by omega) with rfl | rfl | rfl | rfl | rfl | rfl | rfl | rfl
  · rw [o7 0 (by decide), o6 0 (by decide), o5 0 (by decide), o4 0 (by decide), o3 0 (by decide), o2 0 (by decide), o1 0 (by decide), g0]; rfl
  · rw [o7 1 (by decide), o6 1 (by decide), o5 1 (by decide), o4 1 (by decide), o3 1 (by decide), o2 1 (by decide), g1]; rfl
  · rw [o7 2 (by decide), o6 2 (by decide), o5 2 (by decide), o4 2 (by decide), o3 2 (by decide), g2]; rfl
  · rw [o7 3 (by decide), o6 3 (by decide), o5 3 (by decide), o4 3 (by decide), g3]; rfl
  · rw [o7 4 (by decide), o6 4 (by decide), o5 4 (by decide), g4]; rfl
  · rw [o7 5 (by decide), o6 5 (by decide), g5]; rfl
  · rw [o7 6 (by decide), g6]; rfl
  · rw [g7]; rfl
/-- the reference's name of bytes -/
theorem z12_name {Q : Unit → jH → Prop} {a1 len at_ n a4 pl len4 : Nat} {H : jH} (hl : at_ + n ≤ len) (hlen : len < 2147483648) (hn : n < 2000000) (hk1 : jK H a1 = (101, len)) (hl4 : pl + 32 ≤ len4) (hlen4 : len4 < 2147483648) (hk4 : jK H a4 = (101, len4)) (hs : jsh H)
    (hk : ∀ H', jsh H' → jfr (fun a j => a = 423 ∨ a = 424 ∨ a = 425 ∨ a = 426 ∨ (a = a4 ∧ pl ≤ j ∧ j < pl + 32)) H H' → (∀ i, i < 32 → jB H' a4 (pl + i) = znm (fun i => jB H a1 (at_ + i)) n i) → Q () H') :
    jT (F_12_name 422 a1 (Int32.ofNat at_) (Int32.ofNat n) a4 (Int32.ofNat pl) H) Q := by
  unfold F_12_name
  refine jT_g (by rw [sK_422 hs]) (jT_g (by rw [sK_422 hs]) ?_)
  rw [sR_422_3 hs]
  refine jT_b (z12_wide (a4 := 426) (pl := 0) (len4 := 32) hl hlen hn hk1 (by omega) (by omega) (sK_426 hs) hs fun H1 hs1 hf1 hb1 => ?_)
  refine jT_g (by rw [sK_422 hs1]) (jT_g (by rw [sK_422 hs1]) ?_)
  rw [sR_422_3 hs1]
  refine jT_b (z12_wide (a1 := 426) (at_ := 0) (n := 32) (len := 32) (by omega) (by omega) (by omega) (sK_426 hs1) hl4 hlen4 ((jfr_K hf1 a4).trans hk4) hs1 fun H2 hs2 hf2 hb2 => ?_)
  refine jT_ret (hk H2 hs2 ?_ fun i hi => ?_)
  · refine jfr_trans (jfr_mono hf1 fun a j h => ?_) (jfr_mono hf2 fun a j h => ?_)
    · rcases h with h | h | h | h
      · exact Or.inl h
      · exact Or.inr (Or.inl h)
      · exact Or.inr (Or.inr (Or.inl h))
      · exact Or.inr (Or.inr (Or.inr (Or.inl h.1)))
    · rcases h with h | h | h | h
      · exact Or.inl h
      · exact Or.inr (Or.inl h)
      · exact Or.inr (Or.inr (Or.inl h))
      · exact Or.inr (Or.inr (Or.inr (Or.inr h)))
  · rw [hb2 i hi]
    unfold znm zsha
    have e : zpad (fun i => jB H1 426 (0 + i)) 32 = zpad (zsha (fun i => jB H a1 (at_ + i)) n) 32 := zpad_eq fun i hi => hb1 i hi
    rw [e]
    rfl
