/-! The reference: what its constructors do in loops. -/
theorem jin_of {x : Int32} {k : Nat} (hk : k < 2147483648) (h0 : ¬ x < 0) (h1 : ¬ (Int32.ofNat k ≤ x)) : jin x k := by
  unfold jin
  rw [Int32.lt_iff_toInt_lt] at h0
  rw [Int32.le_iff_toInt_le, jo_int hk] at h1
  have : (0 : Int32).toInt = 0 := rfl
  omega
section JTAIL
variable {Hb : jH}
theorem c_nwI {n s m nb : Nat} {H : jH} {α : Type} {Q : α → jH → Prop} (h : jcs n s m Hb nb H) {t k0 : Nat} {kk : Nat → jH → Option (α × jH)} (k n' s' : Nat) (e : jKs[n]? = some (t, k) ∧ k0 = k ∧ n + 1 = n' ∧ s + k = s') (hk : ∀ H', jcs n' s' m Hb nb H' → (∀ j, jI H' n j = 0) → jT (kk n H') Q) (e435 : n ≠ 435 ∨ jPt H := by exact Or.inl (by decide)) : jT (jnw H t k0 kk) Q := by
  refine c_nw (kk := fun r h => kk r (jnew H t k0)) h k n' s' e (fun H' hc' => ?_) e435
  have h2 : jcs n' s' m Hb nb (jnew H t k0) := by
    have q : jT (jnw H t k0 fun _ h => some ((), h)) (fun _ h => jcs n' s' m Hb nb h) := c_nw h k n' s' e (fun H' hc' => jT_ret hc') e435
    obtain ⟨x, hx, hQ⟩ := q
    have : x.2 = jnew H t k0 := (congrArg (fun o => o.map (·.2)) hx |> Option.some.inj).symm
    rw [this] at hQ
    exact hQ
  refine hk _ h2 fun j => ?_
  have : jn H = n := h.1
  show (if n = jn H then 0 else jI H n j) = 0
  rw [if_pos this.symm]
/-! numbers that are written bit by bit -/
theorem k_nothing (r : Nat) (hr : r < 48) : ∀ (d i f : Nat) (H : jH), i + d = 10 → d < f → jcs 435 75990 409 Hb 421 H → jT (F_13_nothing_2 f 428 (Int32.ofNat r) (Int32.ofNat i) H) (fun _ h => jcs 435 75990 409 Hb 421 h) := by
  intro d
  induction d with
  | zero =>
    intro i f H hi hf hc
    obtain rfl : i = 10 := by omega
    obtain ⟨f, rfl⟩ : ∃ k, f = k + 1 := ⟨f - 1, by omega⟩
    unfold F_13_nothing_2 B_13_nothing_2
    exact jT_pos (by decide) (jT_ret hc)
  | succ d ih =>
    intro i f H hi hf hc
    obtain ⟨f, rfl⟩ : ∃ k, f = k + 1 := ⟨f - 1, by omega⟩
    unfold F_13_nothing_2 B_13_nothing_2
    have e : (10 : Int32) * Int32.ofNat r + Int32.ofNat i = Int32.ofNat (10 * r + i) := by
      rw [show (10 : Int32) = Int32.ofNat 10 from rfl, jo_mul, jo_add]
    have e_i : Int32.ofNat i + 1 = Int32.ofNat (i + 1) := jo_add (a := i) (b := 1)
    refine jT_neg (by rw [show (10 : Int32) = Int32.ofNat 10 from rfl, jo_le (by omega) (by omega)]; omega) (jT_g (c_K hc (by decide +kernel)) ?_)
    rw [c_R hc (a := 428) (j := 0) (v := 429) (by decide +kernel), c_Kf hc (a := 429) (q := (100, 480)) (by decide +kernel), e, e_i]
    refine c_sI hc ⟨rfl, by decide, jo_in (by omega) (by show 10 * r + i < 480; omega)⟩ ⟨by decide, rfl⟩ fun H1 hc1 => jT_l ?_
    exact ih (i + 1) f H1 (by omega) (by omega) hc1
theorem k_wordOf (i : Int32) (a b c d : Int64) (H : jH) : ∃ x, F_13_wordOf i a b c d H = some (x, H) := by
  unfold F_13_wordOf B_13_wordOf_29
  by_cases h0 : i = 0
  · exact ⟨_, if_neg (fun h => h h0)⟩
  · rw [if_pos h0]
    by_cases h1 : i = 1
    · exact ⟨_, if_neg (fun h => h h1)⟩
    · rw [if_pos h1]
      by_cases h2 : i = 2
      · exact ⟨_, if_neg (fun h => h h2)⟩
      · exact ⟨_, if_pos h2⟩
theorem k_write_8 (r : Nat) (hr : r < 48) (a b c d : Int64) : ∀ (m i f : Nat) (H : jH), i + m = 256 → m < f → jcs 435 75990 409 Hb 421 H → jT (F_13_write_8 f 428 (Int32.ofNat r) a b c d (Int32.ofNat i) H) (fun _ h => jcs 435 75990 409 Hb 421 h) := by
  intro m
  induction m with
  | zero =>
    intro i f H hi hf hc
    obtain rfl : i = 256 := by omega
    obtain ⟨f, rfl⟩ : ∃ k, f = k + 1 := ⟨f - 1, by omega⟩
    unfold F_13_write_8 B_13_write_8
    exact jT_pos (by decide) (jT_ret hc)
  | succ m ih =>
    intro i f H hi hf hc
    obtain ⟨f, rfl⟩ : ∃ k, f = k + 1 := ⟨f - 1, by omega⟩
    unfold F_13_write_8 B_13_write_8
    have e26 : Int32.ofNat i / 26 = Int32.ofNat (i / 26) := jo_div (a := i) (b := 26) (by omega) (by omega)
    have e : (10 : Int32) * Int32.ofNat r + Int32.ofNat (i / 26) = Int32.ofNat (10 * r + i / 26) := by
      rw [show (10 : Int32) = Int32.ofNat 10 from rfl, jo_mul, jo_add]
    have e_i : Int32.ofNat i + 1 = Int32.ofNat (i + 1) := jo_add (a := i) (b := 1)
    obtain ⟨x, hx⟩ := k_wordOf (Int32.ofNat i / 64) a b c d H
    refine jT_neg (by rw [show (256 : Int32) = Int32.ofNat 256 from rfl, jo_le (by omega) (by omega)]; omega) (jT_g (by decide) (jT_b (jT_eq hx (jT_ret (jT_g (by decide) (jT_l (jT_g (c_K hc (by decide +kernel)) (jT_g (by decide) ?_))))))))
    rw [c_R hc (a := 428) (j := 0) (v := 429) (by decide +kernel), c_Kf hc (a := 429) (q := (100, 480)) (by decide +kernel), e26, e, e_i]
    refine jT_g ⟨rfl, jo_in (by omega) (by show 10 * r + i / 26 < 480; omega)⟩ (jT_g (by decide) ?_)
    refine c_sI hc ⟨rfl, by decide, jo_in (by omega) (by show 10 * r + i / 26 < 480; omega)⟩ ⟨by decide, rfl⟩ fun H1 hc1 => jT_l ?_
    exact ih (i + 1) f H1 (by omega) (by omega) hc1
theorem k_write {Q : Unit → jH → Prop} {H : jH} (r : Nat) (hr : r < 48) (a b c d : Int64) (hc : jcs 435 75990 409 Hb 421 H) (hk : ∀ H', jcs 435 75990 409 Hb 421 H' → Q () H') : jT (F_13_write 428 (Int32.ofNat r) a b c d H) Q := by
  unfold F_13_write F_13_nothing
  refine jT_g (c_K hc (by decide +kernel)) (jT_b (jT_imp (k_nothing r hr 10 0 jfuel H rfl (by unfold jfuel; omega) hc) fun _ h1 hc1 => ?_))
  exact jT_imp (k_write_8 r hr a b c d 256 0 jfuel h1 rfl (by unfold jfuel; omega) hc1) fun _ h2 hc2 => hk _ hc2
theorem k_170 {Q : Unit → jH → Prop} {k161 : Nat → Int32 → jH → Option (Unit × jH)} (q : Nat) (hq : q < 2) (hk : ∀ H', jcs 435 75990 409 Hb 421 H' → jT (k161 428 (Int32.ofNat (q + 1)) H') Q) : ∀ (d i f : Nat) (x : Int32) (H : jH), i + d = 10 → d < f → jcs 435 75990 409 Hb 421 H → jT (F_13_init_170 k161 f 428 (Int32.ofNat q) x (Int32.ofNat i) H) Q := by
  intro d
  induction d with
  | zero =>
    intro i f x H hi hf hc
    obtain rfl : i = 10 := by omega
    obtain ⟨f, rfl⟩ : ∃ k, f = k + 1 := ⟨f - 1, by omega⟩
    unfold F_13_init_170 B_13_init_170
    have e_q : Int32.ofNat q + 1 = Int32.ofNat (q + 1) := jo_add (a := q) (b := 1)
    refine jT_pos (by decide) (jT_l ?_)
    rw [e_q]
    exact hk H hc
  | succ d ih =>
    intro i f x H hi hf hc
    obtain ⟨f, rfl⟩ : ∃ k, f = k + 1 := ⟨f - 1, by omega⟩
    unfold F_13_init_170 B_13_init_170
    have e : (10 : Int32) * (8 + Int32.ofNat q) + Int32.ofNat i = Int32.ofNat (10 * (8 + q) + i) := by
      rw [show (10 : Int32) = Int32.ofNat 10 from rfl, show (8 : Int32) = Int32.ofNat 8 from rfl, jo_add, jo_mul, jo_add]
    have e2 : (10 : Int32) * Int32.ofNat q + Int32.ofNat i = Int32.ofNat (10 * q + i) := by
      rw [show (10 : Int32) = Int32.ofNat 10 from rfl, jo_mul, jo_add]
    have e_i : Int32.ofNat i + 1 = Int32.ofNat (i + 1) := jo_add (a := i) (b := 1)
    refine jT_neg (by rw [show (10 : Int32) = Int32.ofNat 10 from rfl, jo_le (by omega) (by omega)]; omega) (jT_g (c_K hc (by decide +kernel)) ?_)
    rw [c_R hc (a := 428) (j := 0) (v := 429) (by decide +kernel), c_R hc (a := 428) (j := 3) (v := 432) (by decide +kernel), c_Kf hc (a := 429) (q := (100, 480)) (by decide +kernel), e, e2]
    refine jT_g ⟨rfl, jo_in (by omega) (by show 10 * (8 + q) + i < 480; omega)⟩ (jT_l (jT_g (c_K hc (by decide +kernel)) ?_))
    have key : ∀ y z : Int32, jT (B_13_init_219 (F_13_init_170 k161 f) 428 (Int32.ofNat q) (Int32.ofNat i) y 432 (Int32.ofNat (10 * q + i)) y z H) Q := by
      intro y z
      unfold B_13_init_219
      refine c_sI hc ?_ ⟨by decide, rfl⟩ fun H1 hc1 => jT_l (jT_l ?_)
      · rw [c_Kf hc (a := 432) (q := (100, 20)) (by decide +kernel)]
        exact ⟨rfl, by decide, jo_in (by omega) (by show 10 * q + i < 20; omega)⟩
      · rw [e_i]
        exact ih (i + 1) f _ H1 (by omega) (by omega) hc1
    exact jT_if (fun _ => key _ _) (fun _ => key _ _)
theorem k_13_tail {Q : Unit → jH → Prop} {H : jH} (hc : jcs 435 75990 409 Hb 421 H) (hk : ∀ H', jcs 435 75990 409 Hb 421 H' → Q () H') : jT (kTail H) Q := by
  unfold kTail
  refine jT_b (k_write 8 (by decide) _ _ _ _ hc fun H hc => jT_g (c_K hc (by decide +kernel)) ?_)
  refine jT_b (k_write 9 (by decide) _ _ _ _ hc fun H hc => jT_g (c_K hc (by decide +kernel)) ?_)
  refine jT_b (k_write 18 (by decide) _ _ _ _ hc fun H hc => jT_g (c_K hc (by decide +kernel)) ?_)
  refine jT_b (k_write 19 (by decide) _ _ _ _ hc fun H hc => jT_g (c_K hc (by decide +kernel)) ?_)
  rw [c_R hc (a := 428) (j := 0) (v := 429) (by decide +kernel), c_Kf hc (a := 429) (q := (100, 480)) (by decide +kernel)]
  refine c_sI hc (by decide) (by decide +kernel) fun H hc => jT_g (c_K hc (by decide +kernel)) ?_
  rw [c_R hc (a := 428) (j := 0) (v := 429) (by decide +kernel), c_Kf hc (a := 429) (q := (100, 480)) (by decide +kernel)]
  refine c_sI hc (by decide) (by decide +kernel) fun H hc => ?_
  obtain ⟨f, ef⟩ : ∃ f, jfuel = f + 3 := ⟨4294967293, rfl⟩
  rw [ef]
  unfold F_13_init_161 B_13_init_161
  refine jT_neg (by decide) (k_170 0 (by decide) (fun H hc => ?_) 10 0 jfuel 0 H rfl (by unfold jfuel; omega) hc)
  unfold F_13_init_161 B_13_init_161
  refine jT_neg (by decide) (k_170 1 (by decide) (fun H hc => ?_) 10 0 jfuel 0 H rfl (by unfold jfuel; omega) hc)
  unfold F_13_init_161 B_13_init_161
  exact jT_pos (by decide) (jT_ret (hk _ hc))
end JTAIL
