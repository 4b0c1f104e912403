/-! The reference's SHA-256. -/
theorem jb_ok {α β : Type} {x : α} {H : jH} {k : α → jH → Option (β × jH)} : jb (some (x, H)) k = k x H := rfl
theorem zat_ext {H : jH} {a : Nat} {s : z8} (h : ∀ j, j < 8 → jI H a j = zget s j) : zat H a = s := by
  unfold zat
  rw [h 0 (by omega), h 1 (by omega), h 2 (by omega), h 3 (by omega), h 4 (by omega), h 5 (by omega), h 6 (by omega), h 7 (by omega)]
  rfl
theorem zget_ext {H : jH} {a : Nat} {s : z8} (h : zat H a = s) {j : Nat} (hj : j < 8) : jI H a j = zget s j := by rw [← h, zat_get hj]
theorem z12_578 {Q : Unit → jH → Prop} {k398 : Nat → Nat → Int32 → Int32 → Nat → Int32 → Int32 → Int32 → jH → Option (Unit × jH)} {a1 : Nat} {a2 a3 : Int32} {a4 : Nat} {a5 a6 : Int32} {one two : Int32} {i : Int32} {s : z8} {H0 : jH}
    (hk : ∀ H', jsh H' → jfr (fun a _ => a = 425) H0 H' → (∀ j, j < 8 → jI H' 425 j = zget (one + two, s.1, s.2.1, s.2.2.1, s.2.2.2.1 + one, s.2.2.2.2.1, s.2.2.2.2.2.1, s.2.2.2.2.2.2.1) j) → jT (k398 422 a1 a2 a3 a4 a5 a6 (i + 1) H') Q) :
    ∀ (k n : Nat) (H : jH), k < 8 → k < n → jsh H → jfr (fun a _ => a = 425) H0 H → (∀ j, j < 8 → jI H 425 j = zget s (if j ≤ k then j else j - 1)) → jT (F_12_wide_578 k398 n 422 a1 a2 a3 a4 a5 a6 i one two (Int32.ofNat k) H) Q := by
  intro k
  induction k with
  | zero =>
    intro n H hk8 hn hs hf hw
    obtain ⟨n, rfl⟩ : ∃ k, n = k + 1 := ⟨n - 1, by omega⟩
    unfold F_12_wide_578 B_12_wide_578
    refine jT_pos (by decide) ?_
    refine jT_g (by rw [sK_422 hs]) ?_
    rw [sR_422_2 hs, sK_425 hs]
    refine jT_g ⟨rfl, by decide⟩ (jT_g ⟨rfl, by unfold jF0; omega, by decide⟩ (jT_l ?_))
    have hs1 := jsh_sI (H := H) (a := 425) (i := (4 : Int32).toNatClampNeg) (v := jI H 425 (4 : Int32).toNatClampNeg + one) hs (by omega)
    refine jT_g (by rw [sK_422 hs1]) ?_
    rw [sR_422_2 hs1, sK_425 hs1]
    refine jT_g ⟨rfl, by unfold jF0; omega, by decide⟩ (jT_l (jT_l ?_))
    refine hk _ (jsh_sI hs1 (by omega)) (jfr_sI (jfr_sI hf rfl) rfl) fun j hj => ?_
    have e4 : (4 : Int32).toNatClampNeg = 4 := rfl
    have e0 : (0 : Int32).toNatClampNeg = 0 := rfl
    rw [e4, e0]
    rcases (show j = 0 ∨ j = 1 ∨ j = 2 ∨ j = 3 ∨ j = 4 ∨ j = 5 ∨ j = 6 ∨ j = 7 by omega) with rfl | rfl | rfl | rfl | rfl | rfl | rfl | rfl
    · rw [jI_sIe]; rfl
    · rw [jI_sIn (by decide), jI_sIn (by decide), hw 1 (by omega)]; rfl
    · rw [jI_sIn (by decide), jI_sIn (by decide), hw 2 (by omega)]; rfl
    · rw [jI_sIn (by decide), jI_sIn (by decide), hw 3 (by omega)]; rfl
    · rw [jI_sIn (by decide), jI_sIe, hw 4 (by omega)]; rfl
    · rw [jI_sIn (by decide), jI_sIn (by decide), hw 5 (by omega)]; rfl
    · rw [jI_sIn (by decide), jI_sIn (by decide), hw 6 (by omega)]; rfl
    · rw [jI_sIn (by decide), jI_sIn (by decide), hw 7 (by omega)]; rfl
  | succ k ih =>
    intro n H hk8 hn hs hf hw
    obtain ⟨n, rfl⟩ : ∃ k, n = k + 1 := ⟨n - 1, by omega⟩
    unfold F_12_wide_578 B_12_wide_578
    have e1 : Int32.ofNat (k + 1) - 1 = Int32.ofNat k := jo_sub (a := k + 1) (b := 1) (by omega)
    have e2 : Int32.ofNat (k + 1) + (-1) = Int32.ofNat k := by rw [← e1, Int32.sub_eq_add_neg]
    refine jT_neg (by rw [show (0 : Int32) = Int32.ofNat 0 from rfl, jo_le (by omega) (by omega)]; omega) ?_
    rw [e1, e2, sR_422_2 hs, sK_422 hs, sK_425 hs, jo_nat (n := k) (by omega), jo_nat (n := k + 1) (by omega)]
    refine jT_g rfl (jT_g rfl (jT_g (by first | exact rfl | exact trivial | exact ⟨trivial, jo_in (by omega) (by omega)⟩ | exact ⟨trivial, by unfold jF0; omega, jo_in (by omega) (by omega)⟩ | exact ⟨rfl, jo_in (by omega) (by omega)⟩ | exact ⟨rfl, by unfold jF0; omega, jo_in (by omega) (by omega)⟩ | decide) (jT_g (by first | exact rfl | exact trivial | exact ⟨trivial, jo_in (by omega) (by omega)⟩ | exact ⟨trivial, by unfold jF0; omega, jo_in (by omega) (by omega)⟩ | exact ⟨rfl, jo_in (by omega) (by omega)⟩ | exact ⟨rfl, by unfold jF0; omega, jo_in (by omega) (by omega)⟩ | decide) (jT_l (jT_l ?_)))))
    refine ih n _ (by omega) (by omega) (jsh_sI hs (by omega)) (jfr_sI hf rfl) fun j hj => ?_
    by_cases h : j = k + 1
    · subst h
      rw [jI_sIe, hw k (by omega), if_pos (by omega), if_neg (by omega)]
      rfl
    · rw [jI_sIn h, hw j hj]
      by_cases h2 : j ≤ k
      · rw [if_pos (by omega), if_pos h2]
      · rw [if_neg (by omega), if_neg h2]
set_option maxRecDepth 100000 in
theorem z12_cub : jval_13 = jval_2 := by
  unfold jval_13 jval_2
  rfl
theorem z12_cubes (i : Nat) : (jvals.getD 13 []).getD i 0 = jval_2.getD i 0 := by
  rw [← z12_cub]
  unfold jvals
  rfl
set_option maxHeartbeats 2000000 in
/-- the reference's 64 steps -/
theorem z12_398 {Q : Unit → jH → Prop} {k69 : Nat → Nat → Int32 → Int32 → Nat → Int32 → Int32 → jH → Option (Unit × jH)} {a1 : Nat} {a2 a3 : Int32} {a4 : Nat} {a5 a6 : Int32} {M : Nat → Int32} {s0 : z8} {H0 : jH}
    (hw0 : ∀ j, j < 64 → jI H0 423 j = zW M j)
    (hk : ∀ H', jsh H' → jfr (fun a _ => a = 425) H0 H' → (∀ j, j < 8 → jI H' 425 j = zget (zrun M s0 64) j) → jT (F_12_wide_636 k69 jfuel 422 a1 a2 a3 a4 a5 a6 0 H') Q) :
    ∀ (d i n : Nat) (H : jH), i + d = 64 → d < n → jsh H → jfr (fun a _ => a = 425) H0 H → (∀ j, j < 8 → jI H 425 j = zget (zrun M s0 i) j) → jT (F_12_wide_398 k69 n 422 a1 a2 a3 a4 a5 a6 (Int32.ofNat i) H) Q := by
  intro d
  induction d with
  | zero =>
    intro i n H hi hn hs hf hv
    obtain rfl : i = 64 := by omega
    obtain ⟨n, rfl⟩ : ∃ k, n = k + 1 := ⟨n - 1, by omega⟩
    unfold F_12_wide_398 B_12_wide_398
    exact jT_pos (by decide) (hk H hs hf hv)
  | succ d ih =>
    intro i n H hi hn hs hf hv
    obtain ⟨n, rfl⟩ : ∃ k, n = k + 1 := ⟨n - 1, by omega⟩
    unfold F_12_wide_398 B_12_wide_398
    refine jT_neg (by rw [show (64 : Int32) = Int32.ofNat 64 from rfl, jo_le (by omega) (by omega)]; omega) ?_
    have e0 : (0 : Int32).toNatClampNeg = 0 := rfl
    have e1 : (1 : Int32).toNatClampNeg = 1 := rfl
    have e2 : (2 : Int32).toNatClampNeg = 2 := rfl
    have e4 : (4 : Int32).toNatClampNeg = 4 := rfl
    have e5 : (5 : Int32).toNatClampNeg = 5 := rfl
    have e6 : (6 : Int32).toNatClampNeg = 6 := rfl
    have e7 : (7 : Int32).toNatClampNeg = 7 := rfl
    have hr : jI H 423 i = zW M i := ((hf.2.2.2 423 i (fun h : (423 : Nat) = 425 => absurd h (by decide))).1).trans (hw0 i (by omega))
    have hc : jI H 13 i = jval_2.getD i 0 := (hs.2.2.1 13 (by omega) i).trans (z12_cubes i)
    simp only [z12_right, jb_ok, sR_422_2 hs, sR_422_0 hs, sK_422 hs, sK_423 hs, sK_425 hs, sK_13 hs, e0, e1, e2, e4, e5, e6, e7, jo_nat (n := i) (by omega), hv 0 (by omega), hv 1 (by omega), hv 2 (by omega), hv 4 (by omega), hv 5 (by omega), hv 6 (by omega), hv 7 (by omega), hr, hc]
    repeat (first | (with_reducible refine jT_g ?_ ?_; · first | exact rfl | exact trivial | exact ⟨trivial, jo_in (by omega) (by omega)⟩ | exact ⟨trivial, by unfold jF0; omega, jo_in (by omega) (by omega)⟩ | exact ⟨rfl, jo_in (by omega) (by omega)⟩ | exact ⟨rfl, by unfold jF0; omega, jo_in (by omega) (by omega)⟩ | decide) | with_reducible refine jT_l ?_)
    refine z12_578 (s := zrun M s0 i) (H0 := H) (fun H' hs' hf' hw' => ?_) 7 jfuel H (by omega) (by unfold jfuel; omega) hs jfr_refl fun j hj => ?_
    · have e_i : Int32.ofNat i + 1 = Int32.ofNat (i + 1) := jo_add (a := i) (b := 1)
      rw [e_i]
      refine ih (i + 1) n H' (by omega) (by omega) hs' (jfr_trans hf hf') fun j hj => ?_
      rw [hw' j hj]
      rfl
    · rw [hv j hj, if_pos (by omega)]
/-- the state is added to -/
theorem z12_636 {Q : Unit → jH → Prop} {k69 : Nat → Nat → Int32 → Int32 → Nat → Int32 → Int32 → jH → Option (Unit × jH)} {a1 : Nat} {a2 a3 : Int32} {a4 : Nat} {a5 a6 : Int32} {s t : z8} {H0 : jH}
    (ht : ∀ j, j < 8 → jI H0 425 j = zget t j)
    (hk : ∀ H', jsh H' → jfr (fun a _ => a = 424) H0 H' → (∀ j, j < 8 → jI H' 424 j = zget s j + zget t j) → jT (k69 422 a1 a2 a3 a4 a5 (a6 + 1) H') Q) :
    ∀ (d i n : Nat) (H : jH), i + d = 8 → d < n → jsh H → jfr (fun a _ => a = 424) H0 H → (∀ j, j < 8 → jI H 424 j = if j < i then zget s j + zget t j else zget s j) → jT (F_12_wide_636 k69 n 422 a1 a2 a3 a4 a5 a6 (Int32.ofNat i) H) Q := by
  intro d
  induction d with
  | zero =>
    intro i n H hi hn hs hf hv
    obtain rfl : i = 8 := by omega
    obtain ⟨n, rfl⟩ : ∃ k, n = k + 1 := ⟨n - 1, by omega⟩
    unfold F_12_wide_636 B_12_wide_636
    refine jT_pos (by decide) (jT_l (hk H hs hf fun j hj => ?_))
    rw [hv j hj, if_pos hj]
  | succ d ih =>
    intro i n H hi hn hs hf hv
    obtain ⟨n, rfl⟩ : ∃ k, n = k + 1 := ⟨n - 1, by omega⟩
    unfold F_12_wide_636 B_12_wide_636
    refine jT_neg (by rw [show (8 : Int32) = Int32.ofNat 8 from rfl, jo_le (by omega) (by omega)]; omega) ?_
    have e_i : Int32.ofNat i + 1 = Int32.ofNat (i + 1) := jo_add (a := i) (b := 1)
    have h5 : jI H 425 i = zget t i := ((hf.2.2.2 425 i (fun h : (425 : Nat) = 424 => absurd h (by decide))).1).trans (ht i (by omega))
    rw [sR_422_1 hs, sR_422_2 hs, sK_422 hs, sK_424 hs, sK_425 hs, jo_nat (n := i) (by omega), h5, e_i]
    repeat (first | (with_reducible refine jT_g ?_ ?_; · first | exact rfl | exact trivial | exact ⟨trivial, jo_in (by omega) (by omega)⟩ | exact ⟨trivial, by unfold jF0; omega, jo_in (by omega) (by omega)⟩ | exact ⟨rfl, jo_in (by omega) (by omega)⟩ | exact ⟨rfl, by unfold jF0; omega, jo_in (by omega) (by omega)⟩ | decide) | with_reducible refine jT_l ?_)
    refine ih (i + 1) n _ (by omega) (by omega) (jsh_sI hs (by omega)) (jfr_sI hf rfl) fun j hj => ?_
    by_cases h : j = i
    · subst h
      rw [jI_sIe, hv j hj, if_neg (by omega), if_pos (by omega)]
    · rw [jI_sIn h, hv j hj]
      by_cases h2 : j < i
      · rw [if_pos h2, if_pos (by omega)]
      · rw [if_neg h2, if_neg (by omega)]
/-- the state is copied, the steps are done, the state is added to -/
theorem z12_368 {Q : Unit → jH → Prop} {k69 : Nat → Nat → Int32 → Int32 → Nat → Int32 → Int32 → jH → Option (Unit × jH)} {a1 : Nat} {a2 a3 : Int32} {a4 : Nat} {a5 a6 : Int32} {M : Nat → Int32} {s : z8} {H0 : jH}
    (hw0 : ∀ j, j < 64 → jI H0 423 j = zW M j) (hs0 : ∀ j, j < 8 → jI H0 424 j = zget s j)
    (hk : ∀ H', jsh H' → jfr (fun a _ => a = 424 ∨ a = 425) H0 H' → (∀ j, j < 8 → jI H' 424 j = zget (zadd s (zrun M s 64)) j) → jT (k69 422 a1 a2 a3 a4 a5 (a6 + 1) H') Q) :
    ∀ (d i n : Nat) (H : jH), i + d = 8 → d < n → jsh H → jfr (fun a _ => a = 425) H0 H → (∀ j, j < i → jI H 425 j = zget s j) → jT (F_12_wide_368 k69 n 422 a1 a2 a3 a4 a5 a6 (Int32.ofNat i) H) Q := by
  intro d
  induction d with
  | zero =>
    intro i n H hi hn hs hf hv
    obtain rfl : i = 8 := by omega
    obtain ⟨n, rfl⟩ : ∃ k, n = k + 1 := ⟨n - 1, by omega⟩
    unfold F_12_wide_368 B_12_wide_368
    refine jT_pos (by decide) ?_
    refine z12_398 (M := M) (s0 := s) (H0 := H) (fun j hj => ((hf.2.2.2 423 j (fun h : (423 : Nat) = 425 => absurd h (by decide))).1).trans (hw0 j hj)) (fun H1 hs1 hf1 hv1 => ?_) 64 0 jfuel H rfl (by unfold jfuel; omega) hs jfr_refl hv
    have hf2 := jfr_trans hf hf1
    refine z12_636 (s := s) (t := zrun M s 64) (H0 := H1) hv1 (fun H2 hs2 hf3 hv2 => hk H2 hs2 ?_ fun j hj => ?_) 8 0 jfuel H1 rfl (by unfold jfuel; omega) hs1 jfr_refl fun j hj => ?_
    · exact jfr_trans (jfr_mono hf2 fun a j h => Or.inr h) (jfr_mono hf3 fun a j h => Or.inl h)
    · rw [hv2 j hj]
      rcases (show j = 0 ∨ j = 1 ∨ j = 2 ∨ j = 3 ∨ j = 4 ∨ j = 5 ∨ j = 6 ∨ j = 7 by omega) with rfl | rfl | rfl | rfl | rfl | rfl | rfl | rfl <;> rfl
    · rw [if_neg (by omega)]
      exact ((hf2.2.2.2 424 j (fun h : (424 : Nat) = 425 => absurd h (by decide))).1).trans (hs0 j hj)
  | succ d ih =>
    intro i n H hi hn hs hf hv
    obtain ⟨n, rfl⟩ : ∃ k, n = k + 1 := ⟨n - 1, by omega⟩
    unfold F_12_wide_368 B_12_wide_368
    refine jT_neg (by rw [show (8 : Int32) = Int32.ofNat 8 from rfl, jo_le (by omega) (by omega)]; omega) ?_
    have e_i : Int32.ofNat i + 1 = Int32.ofNat (i + 1) := jo_add (a := i) (b := 1)
    have h4 : jI H 424 i = zget s i := ((hf.2.2.2 424 i (fun h : (424 : Nat) = 425 => absurd h (by decide))).1).trans (hs0 i (by omega))
    rw [sR_422_1 hs, sR_422_2 hs, sK_422 hs, sK_424 hs, sK_425 hs, jo_nat (n := i) (by omega), h4, e_i]
    repeat (first | (with_reducible refine jT_g ?_ ?_; · first | exact rfl | exact trivial | exact ⟨trivial, jo_in (by omega) (by omega)⟩ | exact ⟨trivial, by unfold jF0; omega, jo_in (by omega) (by omega)⟩ | exact ⟨rfl, jo_in (by omega) (by omega)⟩ | exact ⟨rfl, by unfold jF0; omega, jo_in (by omega) (by omega)⟩ | decide) | with_reducible refine jT_l ?_)
    refine ih (i + 1) n _ (by omega) (by omega) (jsh_sI hs (by omega)) (jfr_sI hf rfl) fun j hj => ?_
    by_cases h : j = i
    · subst h
      rw [jI_sIe]
    · rw [jI_sIn h, hv j (by omega)]
