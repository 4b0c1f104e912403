/-! The reference's tree: its loops come to an end within its rows. -/
def zS16 : Nat → Nat → Prop := fun a _ => a = 451 ∨ a = 452 ∨ a = 453 ∨ a = 454
/-- the shape of the tree -/
def zK16 (H : jH) : Prop := (jK H 445).1 = 16 ∧ jR H 445 7 = 451 ∧ jR H 445 8 = 452 ∧ jR H 445 9 = 453 ∧ jR H 445 10 = 454 ∧ jK H 451 = (100, 12000) ∧ jK H 452 = (100, 40) ∧ jK H 453 = (100, 40) ∧ jK H 454 = (100, 40)
theorem zK16_fr {H H' : jH} (h : zK16 H) (hf : jfr zS16 H H') : zK16 H' := by
  obtain ⟨a1, a2, a3, a4, a5, a6, a7, a8, a9⟩ := h
  have n : ∀ j : Nat, ¬ zS16 445 j := fun j h => by
    rcases h with h | h | h | h <;> exact absurd h (by decide)
  exact ⟨by rw [hf.1]; exact a1, (jfr_R hf (n 7)).trans a2, (jfr_R hf (n 8)).trans a3, (jfr_R hf (n 9)).trans a4, (jfr_R hf (n 10)).trans a5, by rw [hf.1]; exact a6, by rw [hf.1]; exact a7, by rw [hf.1]; exact a8, by rw [hf.1]; exact a9⟩
theorem z16_nothing_2 (a : Nat) (ha : a = 452 ∨ a = 453 ∨ a = 454) (H0 : jH) (hk : jK H0 a = (100, 40)) : ∀ (d i n : Nat) (H : jH), i + d = 40 → d < n → jfr zS16 H0 H → jT (F_16_nothing_2 n a (Int32.ofNat i) H) (fun _ h => jfr zS16 H0 h) := by
  intro d
  induction d with
  | zero =>
    intro i n H hi hn hf
    obtain rfl : i = 40 := by omega
    obtain ⟨n, rfl⟩ : ∃ k, n = k + 1 := ⟨n - 1, by omega⟩
    unfold F_16_nothing_2 B_16_nothing_2
    exact jT_pos (by decide) (jT_ret hf)
  | succ d ih =>
    intro i n H hi hn hf
    obtain ⟨n, rfl⟩ : ∃ k, n = k + 1 := ⟨n - 1, by omega⟩
    unfold F_16_nothing_2 B_16_nothing_2
    have e_i : Int32.ofNat i + 1 = Int32.ofNat (i + 1) := jo_add (a := i) (b := 1)
    refine jT_neg (by rw [show (40 : Int32) = Int32.ofNat 40 from rfl, jo_le (by omega) (by omega)]; omega) ?_
    rw [(jfr_K hf a).trans hk, jo_nat (n := i) (by omega), e_i]
    refine jT_g ⟨rfl, by unfold jF0; omega, jo_in (by omega) (by show i < 40; omega)⟩ (jT_l (jT_l ?_))
    exact ih (i + 1) n _ (by omega) (by omega) (jfr_sI hf (Or.inr ha))
theorem z16_nothing (a : Nat) (ha : a = 452 ∨ a = 453 ∨ a = 454) (H : jH) (h : zK16 H) : jT (F_16_nothing a H) (fun _ h => jfr zS16 H h) := by
  unfold F_16_nothing
  refine z16_nothing_2 a ha H ?_ 40 0 jfuel H rfl (by unfold jfuel; omega) jfr_refl
  obtain ⟨a1, a2, a3, a4, a5, a6, a7, a8, a9⟩ := h
  rcases ha with rfl | rfl | rfl
  · exact a7
  · exact a8
  · exact a9
theorem z16_open_20 (a : Nat) (ha : a = 452 ∨ a = 453 ∨ a = 454) (H0 : jH) (hk : jK H0 a = (100, 40)) (x : Int32) (y : Int64) : ∀ (d i n : Nat) (H : jH), i + d = 3 → d < n → jfr zS16 H0 H → jT (F_16_open_20 n a x y (Int32.ofNat i) H) (fun _ h => jfr zS16 H0 h) := by
  intro d
  induction d with
  | zero =>
    intro i n H hi hn hf
    obtain rfl : i = 3 := by omega
    obtain ⟨n, rfl⟩ : ∃ k, n = k + 1 := ⟨n - 1, by omega⟩
    unfold F_16_open_20 B_16_open_20
    exact jT_pos (by decide) (jT_ret hf)
  | succ d ih =>
    intro i n H hi hn hf
    obtain ⟨n, rfl⟩ : ∃ k, n = k + 1 := ⟨n - 1, by omega⟩
    unfold F_16_open_20 B_16_open_20 B_16_open_63
    have e_i : Int32.ofNat i + 1 = Int32.ofNat (i + 1) := jo_add (a := i) (b := 1)
    refine jT_neg (by rw [show (3 : Int32) = Int32.ofNat 3 from rfl, jo_le (by omega) (by omega)]; omega) (jT_l ?_)
    rw [(jfr_K hf a).trans hk, e_i]
    refine jT_if (fun _ => jT_l (ih (i + 1) n _ (by omega) (by omega) hf)) (fun h0 => jT_if (fun _ => jT_l (ih (i + 1) n _ (by omega) (by omega) hf)) (fun h1 => ?_))
    refine jT_g ⟨rfl, by unfold jF0; omega, jin_of (by decide) h0 h1⟩ (jT_l (jT_l ?_))
    exact ih (i + 1) n _ (by omega) (by omega) (jfr_sI hf (Or.inr ha))
theorem z16_open (a : Nat) (ha : a = 452 ∨ a = 453 ∨ a = 454) (y : Int64) (H : jH) (h : zK16 H) : jT (F_16_open y a H) (fun _ h => jfr zS16 H h) := by
  unfold F_16_open
  have hk : jK H a = (100, 40) := by
    obtain ⟨a1, a2, a3, a4, a5, a6, a7, a8, a9⟩ := h
    rcases ha with rfl | rfl | rfl
    · exact a7
    · exact a8
    · exact a9
  refine jT_b (jT_imp (z16_nothing a ha H h) fun _ h1 hf => jT_l (jT_l ?_))
  exact z16_open_20 a ha H hk _ _ 3 0 jfuel h1 rfl (by unfold jfuel; omega) hf
theorem z16_compareRows_4 (a b : Nat) (H : jH) (ha : jK H a = (100, 40)) (hb : jK H b = (100, 40)) : ∀ (d i n : Nat) (x : Int32), i + d = 40 → d < n → jT (F_16_compareRows_4 n a b x (Int32.ofNat i) H) (fun _ h => h = H) := by
  intro d
  induction d with
  | zero =>
    intro i n x hi hn
    obtain rfl : i = 40 := by omega
    obtain ⟨n, rfl⟩ : ∃ k, n = k + 1 := ⟨n - 1, by omega⟩
    unfold F_16_compareRows_4 B_16_compareRows_4
    exact jT_pos (by decide) (jT_ret rfl)
  | succ d ih =>
    intro i n x hi hn
    obtain ⟨n, rfl⟩ : ∃ k, n = k + 1 := ⟨n - 1, by omega⟩
    unfold F_16_compareRows_4 B_16_compareRows_4 B_16_compareRows_37
    have e_i : Int32.ofNat i + 1 = Int32.ofNat (i + 1) := jo_add (a := i) (b := 1)
    refine jT_neg (by rw [show (40 : Int32) = Int32.ofNat 40 from rfl, jo_le (by omega) (by omega)]; omega) ?_
    rw [ha, hb, e_i]
    have g : jin (Int32.ofNat i) 40 := jo_in (by omega) (by omega)
    refine jT_g ⟨rfl, g⟩ (jT_g ⟨rfl, g⟩ (jT_if (fun _ => jT_g ⟨rfl, g⟩ (jT_g ⟨rfl, g⟩ (jT_if (fun _ => jT_l (ih (i + 1) n _ (by omega) (by omega))) fun _ => jT_l (ih (i + 1) n _ (by omega) (by omega))))) fun _ => jT_l (ih (i + 1) n _ (by omega) (by omega))))
theorem z16_146 {Q : Unit → jH → Prop} {k60 : Nat → Int32 → jH → Option (Unit × jH)} (H0 : jH) (h0 : zK16 H0) (t : Nat) (ht : t < 257) (hk : ∀ H', jfr zS16 H0 H' → jT (k60 445 (Int32.ofNat t + (-1)) H') Q) : ∀ (d i n : Nat) (x : Int32) (H : jH), i + d = 40 → d < n → jfr zS16 H0 H → jT (F_16_quotient_146 k60 n 445 (Int32.ofNat t) x (Int32.ofNat i) H) Q := by
  intro d
  induction d with
  | zero =>
    intro i n x H hi hn hf
    obtain rfl : i = 40 := by omega
    obtain ⟨n, rfl⟩ : ∃ k, n = k + 1 := ⟨n - 1, by omega⟩
    unfold F_16_quotient_146 B_16_quotient_146 B_16_quotient_239
    obtain ⟨a1, a2, a3, a4, a5, a6, a7, a8, a9⟩ := zK16_fr h0 hf
    have e8 : Int32.ofNat t / 8 = Int32.ofNat (t / 8) := jo_div (a := t) (b := 8) (by omega) (by omega)
    refine jT_pos (by decide) ?_
    rw [a3, a7, e8]
    refine jT_g a1 (jT_g (by decide) (jT_g a1 (jT_g (by decide) (jT_g ⟨rfl, jo_in (by omega) (by show t / 8 < 40; omega)⟩ (jT_g (by decide) (jT_g ⟨rfl, by decide, jo_in (by omega) (by show t / 8 < 40; omega)⟩ (jT_l (jT_l ?_))))))))
    exact hk _ (jfr_sI hf (Or.inr (Or.inl rfl)))
  | succ d ih =>
    intro i n x H hi hn hf
    obtain ⟨n, rfl⟩ : ∃ k, n = k + 1 := ⟨n - 1, by omega⟩
    unfold F_16_quotient_146 B_16_quotient_146 B_16_quotient_195 B_16_quotient_206
    obtain ⟨a1, a2, a3, a4, a5, a6, a7, a8, a9⟩ := zK16_fr h0 hf
    have e_i : Int32.ofNat i + 1 = Int32.ofNat (i + 1) := jo_add (a := i) (b := 1)
    refine jT_neg (by rw [show (40 : Int32) = Int32.ofNat 40 from rfl, jo_le (by omega) (by omega)]; omega) ?_
    rw [a4, a5, a8, a9, e_i]
    have g : jin (Int32.ofNat i) 40 := jo_in (by omega) (by omega)
    have hs : ∀ v, jfr zS16 H0 (jsI H 454 (Int32.ofNat i).toNatClampNeg v) := fun v => jfr_sI hf (Or.inr (Or.inr (Or.inr rfl)))
    refine jT_g a1 (jT_g ⟨rfl, g⟩ (jT_g a1 (jT_g ⟨rfl, g⟩ (jT_l (jT_g a1 ?_)))))
    refine jT_if (fun _ => jT_g ⟨rfl, by decide, g⟩ (jT_l (jT_if (fun _ => jT_l ?_) fun _ => jT_l ?_))) (fun _ => jT_g ⟨rfl, by decide, g⟩ (jT_l (jT_if (fun _ => jT_l ?_) fun _ => jT_l ?_)))
    · exact ih (i + 1) n _ _ (by omega) (by omega) (hs _)
    · exact ih (i + 1) n _ _ (by omega) (by omega) (hs _)
    · exact ih (i + 1) n _ _ (by omega) (by omega) (hs _)
    · exact ih (i + 1) n _ _ (by omega) (by omega) (hs _)
theorem z16_80 {Q : Unit → jH → Prop} {k60 : Nat → Int32 → jH → Option (Unit × jH)} (H0 : jH) (h0 : zK16 H0) (t : Nat) (ht : t < 257) (hk : ∀ H', jfr zS16 H0 H' → jT (k60 445 (Int32.ofNat t + (-1)) H') Q) : ∀ (d i n : Nat) (x : Int32) (H : jH), i + d = 40 → d < n → jfr zS16 H0 H → jT (F_16_quotient_80 k60 n 445 (Int32.ofNat t) x (Int32.ofNat i) H) Q := by
  intro d
  induction d with
  | zero =>
    intro i n x H hi hn hf
    obtain rfl : i = 40 := by omega
    obtain ⟨n, rfl⟩ : ∃ k, n = k + 1 := ⟨n - 1, by omega⟩
    unfold F_16_quotient_80 B_16_quotient_80 B_16_quotient_239
    obtain ⟨a1, a2, a3, a4, a5, a6, a7, a8, a9⟩ := zK16_fr h0 hf
    refine jT_pos (by decide) (jT_g a1 (jT_g a1 ?_))
    rw [a4, a5]
    unfold F_16_compareRows
    refine jT_b (jT_imp (z16_compareRows_4 454 453 H a9 a8 40 0 jfuel 0 rfl (by unfold jfuel; omega)) fun x h e => ?_)
    subst e
    exact jT_if (fun _ => jT_l (hk _ hf)) (fun _ => z16_146 H0 h0 t ht hk 40 0 jfuel 0 _ rfl (by unfold jfuel; omega) hf)
  | succ d ih =>
    intro i n x H hi hn hf
    obtain ⟨n, rfl⟩ : ∃ k, n = k + 1 := ⟨n - 1, by omega⟩
    unfold F_16_quotient_80 B_16_quotient_80
    obtain ⟨a1, a2, a3, a4, a5, a6, a7, a8, a9⟩ := zK16_fr h0 hf
    have e_i : Int32.ofNat i + 1 = Int32.ofNat (i + 1) := jo_add (a := i) (b := 1)
    refine jT_neg (by rw [show (40 : Int32) = Int32.ofNat 40 from rfl, jo_le (by omega) (by omega)]; omega) ?_
    rw [a5, a9, e_i]
    have g : jin (Int32.ofNat i) 40 := jo_in (by omega) (by omega)
    refine jT_g a1 (jT_g ⟨rfl, g⟩ (jT_l (jT_g a1 (jT_g (by decide) (jT_g ⟨rfl, by decide, g⟩ (jT_l (jT_g (by decide) (jT_l (jT_l ?_)))))))))
    exact ih (i + 1) n _ _ (by omega) (by omega) (jfr_sI hf (Or.inr (Or.inr (Or.inr rfl))))
theorem z16_60 (H0 : jH) (h0 : zK16 H0) : ∀ (t n : Nat) (H : jH), t < 258 → t < n → jfr zS16 H0 H → jT (F_16_quotient_60 n 445 (Int32.ofNat t - 1) H) (fun _ h => jfr zS16 H0 h) := by
  intro t
  induction t with
  | zero =>
    intro n H ht hn hf
    obtain ⟨n, rfl⟩ : ∃ k, n = k + 1 := ⟨n - 1, by omega⟩
    unfold F_16_quotient_60 B_16_quotient_60
    exact jT_pos (by decide) (jT_ret hf)
  | succ t ih =>
    intro n H ht hn hf
    obtain ⟨n, rfl⟩ : ∃ k, n = k + 1 := ⟨n - 1, by omega⟩
    unfold F_16_quotient_60 B_16_quotient_60 B_16_quotient_76
    have e : Int32.ofNat (t + 1) - 1 = Int32.ofNat t := jo_sub (a := t + 1) (b := 1) (by omega)
    have e2 : Int32.ofNat t + (-1) = Int32.ofNat t - 1 := (Int32.sub_eq_add_neg _ _).symm
    rw [e]
    have hk : ∀ H', jfr zS16 H0 H' → jT (F_16_quotient_60 n 445 (Int32.ofNat t + (-1)) H') (fun _ h => jfr zS16 H0 h) := fun H' hf' => by
      rw [e2]
      exact ih n H' (by omega) (by omega) hf'
    refine jT_neg (by rw [show (0 : Int32) = Int32.ofNat 0 from rfl, jo_lt (by omega) (by omega)]; omega) (jT_if (fun _ => ?_) (fun _ => ?_))
    · exact z16_80 H0 h0 t (by omega) hk 40 0 jfuel 0 H rfl (by unfold jfuel; omega) hf
    · exact z16_80 H0 h0 t (by omega) hk 40 0 jfuel 1 H rfl (by unfold jfuel; omega) hf
theorem z16_4 (H0 : jH) (h0 : zK16 H0) : ∀ (d i n : Nat) (x : Int32) (H : jH), i + d = 40 → d < n → jfr zS16 H0 H → jT (F_16_quotient_4 n 445 x (Int32.ofNat i) H) (fun _ h => jfr zS16 H0 h) := by
  intro d
  induction d with
  | zero =>
    intro i n x H hi hn hf
    obtain rfl : i = 40 := by omega
    obtain ⟨n, rfl⟩ : ∃ k, n = k + 1 := ⟨n - 1, by omega⟩
    unfold F_16_quotient_4 B_16_quotient_4
    obtain ⟨a1, a2, a3, a4, a5, a6, a7, a8, a9⟩ := zK16_fr h0 hf
    refine jT_pos (by decide) (jT_g a1 ?_)
    rw [a3]
    refine jT_b (jT_imp (z16_nothing 452 (by decide) H (zK16_fr h0 hf)) fun _ h1 hf1 => ?_)
    have hf1 := jfr_trans hf hf1
    obtain ⟨b1, b2, b3, b4, b5, b6, b7, b8, b9⟩ := zK16_fr h0 hf1
    refine jT_g b1 ?_
    rw [b5]
    refine jT_b (jT_imp (z16_nothing 454 (by decide) h1 (zK16_fr h0 hf1)) fun _ h2 hf2 => ?_)
    exact z16_60 H0 h0 257 jfuel h2 (by decide) (by unfold jfuel; omega) (jfr_trans hf1 hf2)
  | succ d ih =>
    intro i n x H hi hn hf
    obtain ⟨n, rfl⟩ : ∃ k, n = k + 1 := ⟨n - 1, by omega⟩
    unfold F_16_quotient_4 B_16_quotient_4
    obtain ⟨a1, a2, a3, a4, a5, a6, a7, a8, a9⟩ := zK16_fr h0 hf
    have e_i : Int32.ofNat i + 1 = Int32.ofNat (i + 1) := jo_add (a := i) (b := 1)
    refine jT_neg (by rw [show (40 : Int32) = Int32.ofNat 40 from rfl, jo_le (by omega) (by omega)]; omega) ?_
    rw [a3, a4, a7, a8, e_i]
    have g : jin (Int32.ofNat i) 40 := jo_in (by omega) (by omega)
    refine jT_g a1 (jT_g ⟨rfl, g⟩ (jT_l (jT_g a1 (jT_g (by decide) (jT_g ⟨rfl, by decide, g⟩ (jT_l (jT_g (by decide) (jT_l (jT_l ?_)))))))))
    exact ih (i + 1) n _ _ (by omega) (by omega) (jfr_sI hf (Or.inr (Or.inr (Or.inl rfl))))
theorem z16_quotient (H : jH) (h : zK16 H) : jT (F_16_quotient 445 H) (fun _ h => jfr zS16 H h) :=
  z16_4 H h 40 0 jfuel 1 H rfl (by unfold jfuel; omega) jfr_refl
/-- the sums of a block's work, p its parent's number or below 0, k its own -/
theorem z16_join_91 (p : Int32) (k : Nat) (hk : k < 300) (hp : 0 ≤ p → ∃ q : Nat, p = Int32.ofNat q ∧ q < 300) (H0 : jH) (h0 : zK16 H0) : ∀ (d i n : Nat) (x : Int32) (H : jH), i + d = 40 → d < n → jfr zS16 H0 H → jT (F_16_join_91 n 445 p (Int32.ofNat k) x (Int32.ofNat i) H) (fun _ h => jfr zS16 H0 h) := by
  intro d
  induction d with
  | zero =>
    intro i n x H hi hn hf
    obtain rfl : i = 40 := by omega
    obtain ⟨n, rfl⟩ : ∃ k, n = k + 1 := ⟨n - 1, by omega⟩
    unfold F_16_join_91 B_16_join_91
    exact jT_pos (by decide) (jT_ret hf)
  | succ d ih =>
    intro i n x H hi hn hf
    obtain ⟨n, rfl⟩ : ∃ k, n = k + 1 := ⟨n - 1, by omega⟩
    unfold F_16_join_91 B_16_join_91 B_16_join_125
    obtain ⟨a1, a2, a3, a4, a5, a6, a7, a8, a9⟩ := zK16_fr h0 hf
    have e_i : Int32.ofNat i + 1 = Int32.ofNat (i + 1) := jo_add (a := i) (b := 1)
    have e : (40 : Int32) * Int32.ofNat k + Int32.ofNat i = Int32.ofNat (40 * k + i) := by
      rw [show (40 : Int32) = Int32.ofNat 40 from rfl, jo_mul, jo_add]
    refine jT_neg (by rw [show (40 : Int32) = Int32.ofNat 40 from rfl, jo_le (by omega) (by omega)]; omega) ?_
    rw [a2, a3, a6, a7, e, e_i]
    have g : jin (Int32.ofNat i) 40 := jo_in (by omega) (by omega)
    have g2 : jin (Int32.ofNat (40 * k + i)) 12000 := jo_in (by omega) (by omega)
    refine jT_g a1 (jT_g ⟨rfl, g⟩ (jT_if (fun hpos => ?_) (fun _ => ?_)))
    · obtain ⟨q, rfl, hq⟩ := hp hpos
      have e2 : (40 : Int32) * Int32.ofNat q + Int32.ofNat i = Int32.ofNat (40 * q + i) := by
        rw [show (40 : Int32) = Int32.ofNat 40 from rfl, jo_mul, jo_add]
      rw [e2]
      refine jT_g a1 (jT_g ⟨rfl, jo_in (by omega) (by show 40 * q + i < 12000; omega)⟩ (jT_l (jT_g a1 (jT_g (by decide) (jT_g ⟨rfl, by decide, g2⟩ (jT_l (jT_g (by decide) (jT_l (jT_l ?_)))))))))
      exact ih (i + 1) n _ _ (by omega) (by omega) (jfr_sI hf (Or.inl rfl))
    · refine jT_l (jT_g a1 (jT_g (by decide) (jT_g ⟨rfl, by decide, g2⟩ (jT_l (jT_g (by decide) (jT_l (jT_l ?_)))))))
      exact ih (i + 1) n _ _ (by omega) (by omega) (jfr_sI hf (Or.inl rfl))
