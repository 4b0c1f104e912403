/-! The reference's numbers: rows of ten digits of 26 bits. -/
def zr (H : jH) (m n : Nat) : Prop := ∃ u : Nat → Nat, (∀ i, i < 10 → jI H 429 (10 * m + i) = Int32.ofNat (u i) ∧ u i < 67108864) ∧ nv 67108864 u 10 = n
/-- only rows in M are written, and the long ones -/
def jf3 (M : Nat → Prop) (H H' : jH) : Prop := jK H' = jK H ∧ jn H' = jn H ∧ js H' = js H ∧ jR H' = jR H ∧ jB H' = jB H ∧ (∀ a, a ≠ 430 → a ≠ 431 → ∀ j, jL H' a j = jL H a j) ∧ ∀ a j, ¬ (a = 429 ∧ M (j / 10)) → jI H' a j = jI H a j
section JF3
variable {M M' : Nat → Prop} {H H1 H2 : jH}
theorem jf3_refl : jf3 M H H := ⟨rfl, rfl, rfl, rfl, rfl, fun _ _ _ _ => rfl, fun _ _ _ => rfl⟩
theorem jf3_trans (h1 : jf3 M H H1) (h2 : jf3 M H1 H2) : jf3 M H H2 :=
  ⟨h2.1.trans h1.1, h2.2.1.trans h1.2.1, h2.2.2.1.trans h1.2.2.1, h2.2.2.2.1.trans h1.2.2.2.1, h2.2.2.2.2.1.trans h1.2.2.2.2.1, fun a n1 n2 j => (h2.2.2.2.2.2.1 a n1 n2 j).trans (h1.2.2.2.2.2.1 a n1 n2 j), fun a j hn => (h2.2.2.2.2.2.2 a j hn).trans (h1.2.2.2.2.2.2 a j hn)⟩
theorem jf3_mono (h : jf3 M H H1) (hm : ∀ m, M m → M' m) : jf3 M' H H1 := ⟨h.1, h.2.1, h.2.2.1, h.2.2.2.1, h.2.2.2.2.1, h.2.2.2.2.2.1, fun a j hn => h.2.2.2.2.2.2 a j fun q => hn ⟨q.1, hm _ q.2⟩⟩
theorem jf3_sI {j : Nat} {v : Int32} (h : jf3 M H H1) (hm : M (j / 10)) : jf3 M H (jsI H1 429 j v) :=
  jf3_trans h ⟨rfl, rfl, rfl, rfl, rfl, fun _ _ _ _ => rfl, fun a k hn => jup_ne fun q => hn ⟨q.1, by rw [q.2]; exact hm⟩⟩
theorem jf3_sL {a j : Nat} {v : Int64} (h : jf3 M H H1) (ha : a = 430 ∨ a = 431) : jf3 M H (jsL H1 a j v) :=
  jf3_trans h ⟨rfl, rfl, rfl, rfl, rfl, fun b n1 n2 k => jup_a fun q => by rcases ha with e | e <;> omega, fun _ _ _ => rfl⟩
theorem jsh_f3 (hs : jsh H) (h : jf3 M H H1) : jsh H1 := by
  obtain ⟨e1, e2, e3, e4, e5, e6, e7⟩ := h
  obtain ⟨s1, s2, s3, s4, s5⟩ := hs
  unfold jsh jsp
  rw [e1, e2, e4]
  exact ⟨s1, s2, fun a ha j => (e7 a j fun q => by omega).trans (s3 a ha j), s4, s5⟩
theorem zr_f3 {m n : Nat} (h : zr H m n) (hf : jf3 M H H1) (hm : ¬ M m) : zr H1 m n := by
  obtain ⟨u, h1, h2⟩ := h
  exact ⟨u, fun i hi => ⟨(hf.2.2.2.2.2.2 429 (10 * m + i) fun q => hm (by have := q.2; rw [show (10 * m + i) / 10 = m by omega] at this; exact this)).trans (h1 i hi).1, (h1 i hi).2⟩, h2⟩
theorem zr_lt {m n : Nat} (h : zr H m n) : n < 67108864 ^ 10 := by
  obtain ⟨u, h1, h2⟩ := h
  rw [← h2]
  exact nv_lt fun i hi => (h1 i hi).2
end JF3
section BAS
variable {Q : Unit → jH → Prop} {H : jH}
theorem k13 (hs : jsh H) : (jK H 428).1 = 13 := by rw [sK_428 hs]
theorem e10 (m i : Nat) : 10 * Int32.ofNat m + Int32.ofNat i = Int32.ofNat (10 * m + i) := by rw [show (10 : Int32) = Int32.ofNat 10 from rfl, jo_mul, jo_add]
theorem g429 (hs : jsh H) {k : Nat} (hk : k < 480) : (jK H 429).1 = 100 ∧ jin (Int32.ofNat k) (jK H 429).2 := gI (sK_429 hs) (jo_in (by omega) hk)
theorem g429w (hs : jsh H) {k : Nat} (hk : k < 480) : (jK H 429).1 = 100 ∧ jF0 ≤ 429 ∧ jin (Int32.ofNat k) (jK H 429).2 := gIw (sK_429 hs) (by decide) (jo_in (by omega) hk)
/-- a copy -/
theorem z13_copy2 {H0 : jH} {a b : Nat} {u : Nat → Nat} (ha : a < 48) (hb : b < 48) (hs : jsh H0) (hu : ∀ i, i < 10 → jI H0 429 (10 * b + i) = Int32.ofNat (u i) ∧ u i < 67108864) (hk : ∀ H', jf3 (· = a) H0 H' → (∀ i, i < 10 → jI H' 429 (10 * a + i) = Int32.ofNat (u i) ∧ u i < 67108864) → Q () H') :
    ∀ (d i fu : Nat) (H : jH), i + d = 10 → d < fu → jf3 (· = a) H0 H → (∀ j, j < i → jI H 429 (10 * a + j) = Int32.ofNat (u j)) → (∀ j, i ≤ j → j < 10 → jI H 429 (10 * b + j) = jI H0 429 (10 * b + j)) → jT (F_13_copy_2 fu 428 (Int32.ofNat a) (Int32.ofNat b) (Int32.ofNat i) H) Q := by
  intro d
  induction d with
  | zero =>
    intro i fu H hi hfu hfr h1 h2
    obtain ⟨fu, rfl⟩ : ∃ k, fu = k + 1 := ⟨fu - 1, by omega⟩
    obtain rfl : i = 10 := by omega
    unfold F_13_copy_2 B_13_copy_2
    exact jT_pos (by decide) (jT_ret (hk H hfr fun j hj => ⟨h1 j hj, (hu j hj).2⟩))
  | succ d ih =>
    intro i fu H hi hfu hfr h1 h2
    obtain ⟨fu, rfl⟩ : ∃ k, fu = k + 1 := ⟨fu - 1, by omega⟩
    unfold F_13_copy_2 B_13_copy_2
    have hsH := jsh_f3 hs hfr
    have e1 : Int32.ofNat i + 1 = Int32.ofNat (i + 1) := jo_add (a := i) (b := 1)
    rw [sR_428_0 hsH, e10, e10, e1, jo_nat (n := 10 * a + i) (by omega), jo_nat (n := 10 * b + i) (by omega), h2 i (Nat.le_refl i) (by omega), (hu i (by omega)).1]
    refine jT_neg (by rw [show (10 : Int32) = Int32.ofNat 10 from rfl, jo_le (by omega) (by omega)]; omega) (jT_g (k13 hsH) (jT_g (k13 hsH) (jT_g (g429 hsH (by omega)) (jT_g (g429w hsH (by omega)) (jT_l (jT_l (ih (i + 1) fu _ (by omega) (by omega) (jf3_sI hfr (show (10 * a + i) / 10 = a by omega)) (fun j hj => ?_) fun j hj hj2 => ?_)))))))
    · by_cases e : j = i
      · rw [e]
        exact jI_sIe
      · exact (jI_sIn (by omega)).trans (h1 j (by omega))
    · by_cases e : 10 * b + j = 10 * a + i
      · omega
      · exact (jI_sIn e).trans (h2 j (by omega) hj2)
theorem z13_copy {a b n : Nat} {a' b' : Int32} (ea : a' = Int32.ofNat a) (eb : b' = Int32.ofNat b) (ha : a < 48) (hb : b < 48) (hs : jsh H) (hn : zr H b n) (hk : ∀ H', jsh H' → jf3 (· = a) H H' → zr H' a n → Q () H') : jT (F_13_copy 428 a' b' H) Q := by
  subst ea
  subst eb
  obtain ⟨u, h1, h2⟩ := hn
  unfold F_13_copy
  exact z13_copy2 ha hb hs h1 (fun H' hf hv => hk H' (jsh_f3 hs hf) hf ⟨u, hv, h2⟩) 10 0 jfuel H rfl (by unfold jfuel; omega) jf3_refl (fun j hj => absurd hj (Nat.not_lt_zero j)) fun _ _ _ => rfl
theorem z13_nothing2 {H0 : jH} {a : Nat} (ha : a < 48) (hs : jsh H0) (hk : ∀ H', jf3 (· = a) H0 H' → (∀ i, i < 10 → jI H' 429 (10 * a + i) = 0) → Q () H') :
    ∀ (d i fu : Nat) (H : jH), i + d = 10 → d < fu → jf3 (· = a) H0 H → (∀ j, j < i → jI H 429 (10 * a + j) = 0) → jT (F_13_nothing_2 fu 428 (Int32.ofNat a) (Int32.ofNat i) H) Q := by
  intro d
  induction d with
  | zero =>
    intro i fu H hi hfu hfr h1
    obtain ⟨fu, rfl⟩ : ∃ k, fu = k + 1 := ⟨fu - 1, by omega⟩
    obtain rfl : i = 10 := by omega
    unfold F_13_nothing_2 B_13_nothing_2
    exact jT_pos (by decide) (jT_ret (hk H hfr h1))
  | succ d ih =>
    intro i fu H hi hfu hfr h1
    obtain ⟨fu, rfl⟩ : ∃ k, fu = k + 1 := ⟨fu - 1, by omega⟩
    unfold F_13_nothing_2 B_13_nothing_2
    have hsH := jsh_f3 hs hfr
    have e1 : Int32.ofNat i + 1 = Int32.ofNat (i + 1) := jo_add (a := i) (b := 1)
    rw [sR_428_0 hsH, e10, e1, jo_nat (n := 10 * a + i) (by omega)]
    refine jT_neg (by rw [show (10 : Int32) = Int32.ofNat 10 from rfl, jo_le (by omega) (by omega)]; omega) (jT_g (k13 hsH) (jT_g (g429w hsH (by omega)) (jT_l (jT_l (ih (i + 1) fu _ (by omega) (by omega) (jf3_sI hfr (show (10 * a + i) / 10 = a by omega)) fun j hj => ?_)))))
    by_cases e : j = i
    · rw [e]
      exact jI_sIe
    · exact (jI_sIn (by omega)).trans (h1 j (by omega))
theorem z13_nothing {a : Nat} {a' : Int32} (ea : a' = Int32.ofNat a) (ha : a < 48) (hs : jsh H) (hk : ∀ H', jsh H' → jf3 (· = a) H H' → zr H' a 0 → Q () H') : jT (F_13_nothing 428 a' H) Q := by
  subst ea
  unfold F_13_nothing
  exact z13_nothing2 ha hs (fun H' hf hv => hk H' (jsh_f3 hs hf) hf ⟨fun _ => 0, fun i hi => ⟨hv i hi, show 0 < 67108864 by decide⟩, nv_zero fun _ _ => rfl⟩) 10 0 jfuel H rfl (by unfold jfuel; omega) jf3_refl (fun j hj => absurd hj (Nat.not_lt_zero j))
end BAS
section CMP
variable {Q : Int32 → jH → Prop} {H : jH} {a b : Nat} {u v : Nat → Nat}
theorem z13_compare3 (ha : a < 48) (hb : b < 48) (hs : jsh H) (hu : ∀ i, i < 10 → jI H 429 (10 * a + i) = Int32.ofNat (u i) ∧ u i < 67108864) (hv : ∀ i, i < 10 → jI H 429 (10 * b + i) = Int32.ofNat (v i) ∧ v i < 67108864)
    (hQ : Q (if nv 67108864 u 10 < nv 67108864 v 10 then -1 else if nv 67108864 v 10 < nv 67108864 u 10 then 1 else 0) H) :
    ∀ (i fu : Nat), i < 10 → i < fu → (∀ j, i < j → j < 10 → u j = v j) → jT (F_13_compare_3 fu 428 (Int32.ofNat a) (Int32.ofNat b) (Int32.ofNat i) H) Q := by
  have fin : ∀ i, i < 10 → (∀ j, i < j → j < 10 → u j = v j) → (u i = v i → i = 0) → jT (B_13_compare_38 428 (Int32.ofNat a) (Int32.ofNat b) (Int32.ofNat i) H) Q := fun i hi hs2 h0 => by
    unfold B_13_compare_38 B_13_compare_87
    have vu := hu i hi
    have vv := hv i hi
    rw [sR_428_0 hs, e10, e10, jo_nat (n := 10 * a + i) (by omega), jo_nat (n := 10 * b + i) (by omega), vu.1, vv.1]
    refine jT_g (k13 hs) (jT_g (g429 hs (by omega)) (jT_l (jT_g (k13 hs) (jT_g (g429 hs (by omega)) (jT_l ?_)))))
    have lu := vu.2
    have lv := vv.2
    rcases Nat.lt_trichotomy (u i) (v i) with e | e | e
    · rw [if_pos (nv_top (i := i) (fun j hj => (hu j hj).2) hi hs2 e)] at hQ
      exact jT_neg (by rw [jo_le (by omega) (by omega)]; omega) (jT_ret hQ)
    · have e2 : nv 67108864 u 10 = nv 67108864 v 10 := nv_ext fun j hj => by
        by_cases q : j = i
        · rw [q, e]
        · exact hs2 j (by have := h0 e; omega) hj
      rw [e2, if_neg (Nat.lt_irrefl _), if_neg (Nat.lt_irrefl _)] at hQ
      exact jT_pos (by rw [jo_le (by omega) (by omega)]; omega) (jT_pos (by rw [jo_le (by omega) (by omega)]; omega) (jT_ret hQ))
    · have e3 := nv_top (i := i) (fun j hj => (hv j hj).2) hi (fun j h1 h2 => (hs2 j h1 h2).symm) e
      rw [if_neg (Nat.lt_asymm e3), if_pos e3] at hQ
      exact jT_pos (by rw [jo_le (by omega) (by omega)]; omega) (jT_neg (by rw [jo_le (by omega) (by omega)]; omega) (jT_ret hQ))
  intro i
  induction i with
  | zero =>
    intro fu h8 hfu hs2
    obtain ⟨fu, rfl⟩ : ∃ k, fu = k + 1 := ⟨fu - 1, by omega⟩
    unfold F_13_compare_3 B_13_compare_3
    exact jT_pos (by decide) (fin 0 h8 hs2 fun _ => rfl)
  | succ i ih =>
    intro fu h8 hfu hs2
    obtain ⟨fu, rfl⟩ : ∃ k, fu = k + 1 := ⟨fu - 1, by omega⟩
    unfold F_13_compare_3 B_13_compare_3
    have vu := hu (i + 1) h8
    have vv := hv (i + 1) h8
    have lu := vu.2
    have lv := vv.2
    have ep : Int32.ofNat (i + 1) + (-1) = Int32.ofNat i := by
      rw [← jo_add, Int32.add_assoc, show Int32.ofNat 1 + (-1) = 0 from by decide, Int32.add_zero]
    rw [sR_428_0 hs, e10, e10, jo_nat (n := 10 * a + (i + 1)) (by omega), jo_nat (n := 10 * b + (i + 1)) (by omega), vu.1, vv.1, ep]
    refine jT_neg (by rw [show (0 : Int32) = Int32.ofNat 0 from rfl, jo_le (by omega) (by omega)]; omega) (jT_g (k13 hs) (jT_g (g429 hs (by omega)) (jT_g (k13 hs) (jT_g (g429 hs (by omega)) ?_))))
    by_cases e : u (i + 1) = v (i + 1)
    · refine jT_neg (fun q => q (by rw [e])) (jT_l (ih fu (by omega) (by omega) fun j h1 h2 => ?_))
      by_cases q : j = i + 1
      · rw [q, e]
      · exact hs2 j (by omega) h2
    · exact jT_pos (fun q => e ((jo_eq (by omega) (by omega)).mp q)) (fin (i + 1) h8 hs2 fun q => absurd q e)
theorem z13_compare {x y : Nat} {a' b' : Int32} (ea : a' = Int32.ofNat a) (eb : b' = Int32.ofNat b) (ha : a < 48) (hb : b < 48) (hs : jsh H) (hx : zr H a x) (hy : zr H b y) (hQ : Q (if x < y then -1 else if y < x then 1 else 0) H) : jT (F_13_compare 428 a' b' H) Q := by
  subst ea
  subst eb
  obtain ⟨u, u1, u2⟩ := hx
  obtain ⟨v, v1, v2⟩ := hy
  unfold F_13_compare
  exact z13_compare3 ha hb hs u1 v1 (by rw [u2, v2]; exact hQ) 9 jfuel (by omega) (by unfold jfuel; omega) fun j h1 h2 => by omega
theorem z13_isNothing4 (ha : a < 48) (hs : jsh H) (hu : ∀ i, i < 10 → jI H 429 (10 * a + i) = Int32.ofNat (u i) ∧ u i < 67108864) (hQ : Q (if nv 67108864 u 10 = 0 then 1 else 0) H) :
    ∀ (d i fu : Nat) (x : Int32), i + d = 10 → d < fu → ((x = 1 ∧ ∀ j, j < i → u j = 0) ∨ (x = 0 ∧ ∃ j, j < 10 ∧ u j ≠ 0)) → jT (F_13_isNothing_4 fu 428 (Int32.ofNat a) x (Int32.ofNat i) H) Q := by
  have no : (∃ j, j < 10 ∧ u j ≠ 0) → nv 67108864 u 10 ≠ 0 := fun ⟨j, hj, h⟩ e => by
    have := nv_digit (b := 67108864) (w := u) (n := 10) (i := j) (fun k hk => (hu k hk).2) (by decide) hj
    rw [e, Nat.zero_div, Nat.zero_mod] at this
    exact h this.symm
  intro d
  induction d with
  | zero =>
    intro i fu x hi hfu hx
    obtain ⟨fu, rfl⟩ : ∃ k, fu = k + 1 := ⟨fu - 1, by omega⟩
    obtain rfl : i = 10 := by omega
    unfold F_13_isNothing_4 B_13_isNothing_4 B_13_isNothing_40
    refine jT_pos (by decide) ?_
    rcases hx with ⟨rfl, h⟩ | ⟨rfl, h⟩
    · rw [if_pos (nv_zero h)] at hQ
      exact jT_g (by decide) (jT_ret hQ)
    · rw [if_neg (no h)] at hQ
      exact jT_g (by decide) (jT_ret hQ)
  | succ d ih =>
    intro i fu x hi hfu hx
    obtain ⟨fu, rfl⟩ : ∃ k, fu = k + 1 := ⟨fu - 1, by omega⟩
    unfold F_13_isNothing_4 B_13_isNothing_4 B_13_isNothing_40 B_13_isNothing_33
    have e1 : Int32.ofNat i + 1 = Int32.ofNat (i + 1) := jo_add (a := i) (b := 1)
    refine jT_neg (by rw [show (10 : Int32) = Int32.ofNat 10 from rfl, jo_le (by omega) (by omega)]; omega) ?_
    rcases hx with ⟨rfl, h⟩ | ⟨rfl, h⟩
    · have vu := hu i (by omega)
      have lu := vu.2
      refine jT_neg (by decide) (jT_g (k13 hs) ?_)
      rw [sR_428_0 hs, e10, jo_nat (n := 10 * a + i) (by omega), vu.1, e1]
      refine jT_g (g429 hs (by omega)) ?_
      by_cases e : u i = 0
      · refine jT_neg (fun q => q (by rw [e]; rfl)) (jT_l (ih (i + 1) fu 1 (by omega) (by omega) (Or.inl ⟨rfl, fun j hj => ?_⟩)))
        by_cases q : j = i
        · rw [q, e]
        · exact h j (by omega)
      · exact jT_pos (fun q => e ((jo_eq (by omega) (by decide)).mp (q.trans (show (0 : Int32) = Int32.ofNat 0 from rfl)))) (jT_l (ih (i + 1) fu 0 (by omega) (by omega) (Or.inr ⟨rfl, i, by omega, e⟩)))
    · rw [if_neg (no h)] at hQ
      exact jT_pos rfl (jT_g (by decide) (jT_ret hQ))
theorem z13_isNothing {x : Nat} {a' : Int32} (ea : a' = Int32.ofNat a) (ha : a < 48) (hs : jsh H) (hx : zr H a x) (hQ : Q (if x = 0 then 1 else 0) H) : jT (F_13_isNothing 428 a' H) Q := by
  subst ea
  obtain ⟨u, u1, u2⟩ := hx
  unfold F_13_isNothing
  exact z13_isNothing4 ha hs u1 (by rw [u2]; exact hQ) 10 0 jfuel 1 rfl (by unfold jfuel; omega) (Or.inl ⟨rfl, fun j hj => absurd hj (Nat.not_lt_zero j)⟩)
theorem z13_isNone {x : Nat} {a' : Int32} (ea : a' = Int32.ofNat a) (ha : a + 2 < 48) (hs : jsh H) (hx : zr H (a + 2) x) (hQ : Q (if x = 0 then 1 else 0) H) : jT (F_13_isNone 428 a' H) Q := by
  subst ea
  unfold F_13_isNone
  refine jT_g (k13 hs) (jT_b (z13_isNothing (a := a + 2) (jo_add (a := a) (b := 2)) ha hs hx ?_))
  by_cases e : x = 0
  · rw [if_pos e] at hQ ⊢
    exact jT_g (by decide) (jT_ret hQ)
  · rw [if_neg e] at hQ ⊢
    exact jT_g (by decide) (jT_ret hQ)
end CMP
/-! Sums and differences. -/
theorem ji_add (a b : Int) : Int32.ofInt a + Int32.ofInt b = Int32.ofInt (a + b) := by
  refine Int32.toBitVec_inj.mp ?_
  rw [Int32.toBitVec_add]
  show BitVec.ofInt 32 a + BitVec.ofInt 32 b = BitVec.ofInt 32 (a + b)
  rw [BitVec.ofInt_add]
theorem ji_mul (a b : Int) : Int32.ofInt a * Int32.ofInt b = Int32.ofInt (a * b) := by
  refine Int32.toBitVec_inj.mp ?_
  rw [Int32.toBitVec_mul]
  show BitVec.ofInt 32 a * BitVec.ofInt 32 b = BitVec.ofInt 32 (a * b)
  rw [BitVec.ofInt_mul]
theorem ji_and26 (x : Int) : Int32.ofInt x &&& 67108863 = Int32.ofNat (x % 67108864).toNat := by
  refine Int32.toBitVec_inj.mp ?_
  rw [Int32.toBitVec_and]
  show BitVec.ofInt 32 x &&& _ = BitVec.ofNat 32 (x % 67108864).toNat
  refine BitVec.eq_of_toNat_eq ?_
  rw [BitVec.toNat_and, BitVec.toNat_ofInt, BitVec.toNat_ofNat]
  have e : (Int32.toBitVec 67108863).toNat = 2 ^ 26 - 1 := by decide
  rw [e, Nat.and_two_pow_sub_one_eq_mod]
  omega
theorem ji_shr26 {x : Int} (h1 : -2147483648 ≤ x) (h2 : x < 2147483648) : jshr (Int32.ofInt x) 26 = Int32.ofInt (x / 67108864) := by
  refine Int32.toBitVec_inj.mp ?_
  show (BitVec.ofInt 32 x).sshiftRight 26 = BitVec.ofInt 32 (x / 67108864)
  refine BitVec.eq_of_toInt_eq ?_
  have e : ∀ y : Int, -2147483648 ≤ y → y < 2147483648 → (BitVec.ofInt 32 y).toInt = y := fun y a b => Int32.toInt_ofInt_of_le a b
  rw [BitVec.toInt_sshiftRight, e x h1 h2, e _ (by omega) (by omega), Int.shiftRight_eq_div_pow]
  rfl
section ADD13
variable {Q : Unit → jH → Prop} {H0 : jH} {a b : Nat} {u v : Nat → Nat} {sg : Int}
theorem z13_add6 (ha : a < 48) (hb : b < 48) (hab : a ≠ b) (hsg : sg = 1 ∨ sg = -1) (hs : jsh H0) (hu : ∀ i, i < 10 → jI H0 429 (10 * a + i) = Int32.ofNat (u i) ∧ u i < 67108864) (hv : ∀ i, i < 10 → jI H0 429 (10 * b + i) = Int32.ofNat (v i) ∧ v i < 67108864)
    (hk : ∀ H' w (c : Int), jf3 (· = a) H0 H' → (∀ i, i < 10 → jI H' 429 (10 * a + i) = Int32.ofNat (w i) ∧ w i < 67108864) → (nv 67108864 u 10 : Int) + sg * nv 67108864 v 10 = nv 67108864 w 10 + c * 67108864 ^ 10 → Q () H') :
    ∀ (d i fu : Nat) (c : Int) (z : Int32) (w : Nat → Nat) (H : jH), z = Int32.ofInt c → i + d = 10 → d < fu → (-1 ≤ c ∧ c ≤ 1) → jf3 (· = a) H0 H → (∀ j, j < i → jI H 429 (10 * a + j) = Int32.ofNat (w j) ∧ w j < 67108864) → (∀ j, i ≤ j → j < 10 → jI H 429 (10 * a + j) = Int32.ofNat (u j)) → (nv 67108864 u i : Int) + sg * nv 67108864 v i = nv 67108864 w i + c * 67108864 ^ i →
      jT (F_13_add_6 fu 428 (Int32.ofNat a) (Int32.ofNat b) (Int32.ofInt sg) z (Int32.ofNat i) H) Q := by
  intro d
  induction d with
  | zero =>
    intro i fu c z w H hz hi hfu hc hfr h1 h2 h3
    subst hz
    obtain ⟨fu, rfl⟩ : ∃ k, fu = k + 1 := ⟨fu - 1, by omega⟩
    obtain rfl : i = 10 := by omega
    unfold F_13_add_6 B_13_add_6
    exact jT_pos (by decide) (jT_ret (hk H w c hfr h1 h3))
  | succ d ih =>
    intro i fu c z w H hz hi hfu hc hfr h1 h2 h3
    subst hz
    obtain ⟨fu, rfl⟩ : ∃ k, fu = k + 1 := ⟨fu - 1, by omega⟩
    unfold F_13_add_6 B_13_add_6
    have hsH := jsh_f3 hs hfr
    have e1 : Int32.ofNat i + 1 = Int32.ofNat (i + 1) := jo_add (a := i) (b := 1)
    have vu := h2 i (Nat.le_refl i) (by omega)
    have lu := (hu i (by omega)).2
    have vv : jI H 429 (10 * b + i) = Int32.ofNat (v i) := (hfr.2.2.2.2.2.2 429 (10 * b + i) fun q => hab (by have := q.2; omega)).trans (hv i (by omega)).1
    have lv := (hv i (by omega)).2
    obtain ⟨x, hx⟩ : ∃ x : Int, x = (u i : Int) + sg * v i + c := ⟨_, rfl⟩
    have hxb : -67108864 ≤ x ∧ x ≤ 134217727 := by
      rcases hsg with e | e <;> rw [e] at hx <;> omega
    refine jT_neg (by rw [show (10 : Int32) = Int32.ofNat 10 from rfl, jo_le (by omega) (by omega)]; omega) (jT_g (k13 hsH) ?_)
    rw [sR_428_0 hsH, e10, e10, e1, jo_nat (n := 10 * a + i) (by omega), jo_nat (n := 10 * b + i) (by omega), vu, vv]
    refine jT_g (g429 hsH (by omega)) (jT_g (k13 hsH) (jT_g (g429 hsH (by omega)) (jT_lo (e' := Int32.ofInt x) (by rw [ji_ofInt (by omega), ji_ofInt (by omega), ji_mul, ji_add, ji_add, hx]) ?_)))
    rw [ji_and26, ji_shr26 (by omega) (by omega)]
    refine jT_g (k13 hsH) (jT_g (g429w hsH (by omega)) (jT_l (jT_l (jT_l (ih (i + 1) fu (x / 67108864) _ (nup w i (x % 67108864).toNat) _ rfl (by omega) (by omega) (by omega) (jf3_sI hfr (show (10 * a + i) / 10 = a by omega)) (fun j hj => ?_) (fun j hj hj2 => ?_) ?_)))))
    · unfold nup
      by_cases e : j = i
      · rw [if_pos e, e]
        exact ⟨jI_sIe, by omega⟩
      · rw [if_neg e]
        exact ⟨(jI_sIn (by omega)).trans (h1 j (by omega)).1, (h1 j (by omega)).2⟩
    · exact (jI_sIn (by omega)).trans (h2 j (by omega) hj2)
    · have e3 : nv 67108864 (nup w i (x % 67108864).toNat) (i + 1) = nv 67108864 w i + (x % 67108864).toNat * 67108864 ^ i := by
        show nv 67108864 (nup w i (x % 67108864).toNat) i + nup w i (x % 67108864).toNat i * 67108864 ^ i = _
        rw [nv_ext (u := w) fun j hj => by unfold nup; rw [if_neg (by omega)], show nup w i (x % 67108864).toNat i = (x % 67108864).toNat from if_pos rfl]
      rw [e3]
      show ((nv 67108864 u i + u i * 67108864 ^ i : Nat) : Int) + sg * ((nv 67108864 v i + v i * 67108864 ^ i : Nat) : Int) = _
      rw [Int.natCast_add, Int.natCast_add, Int.natCast_add, Int.natCast_mul, Int.natCast_mul, Int.natCast_mul, Int.toNat_of_nonneg (Int.emod_nonneg _ (by decide)), Int.pow_succ]
      have e4 : ((67108864 ^ i : Nat) : Int) = 67108864 ^ i := by rw [Int.natCast_pow]; rfl
      rw [e4, Int.mul_add]
      generalize (67108864 : Int) ^ i = E at h3 ⊢
      have e5 := Int.emod_add_mul_ediv x 67108864
      have e6 : x * E = (x % 67108864) * E + x / 67108864 * (E * 67108864) := by
        have : x * E = (x % 67108864 + 67108864 * (x / 67108864)) * E := by rw [e5]
        rw [this, Int.add_mul]
        congr 1
        rw [Int.mul_comm E, ← Int.mul_assoc, Int.mul_comm (x / 67108864)]
      have e7 : x * E = u i * E + sg * (v i * E) + c * E := by
        rw [hx, Int.add_mul, Int.add_mul, Int.mul_assoc]
      omega
theorem z13_addp {x y : Nat} {a' b' s' : Int32} (ea : a' = Int32.ofNat a) (eb : b' = Int32.ofNat b) (es : s' = 1) (ha : a < 48) (hb : b < 48) (hab : a ≠ b) (hs : jsh H0) (hx : zr H0 a x) (hy : zr H0 b y) (hxy : x + y < 67108864 ^ 10)
    (hk : ∀ H', jsh H' → jf3 (· = a) H0 H' → zr H' a (x + y) → Q () H') : jT (F_13_add 428 a' b' s' H0) Q := by
  subst ea
  subst eb
  subst es
  obtain ⟨u, u1, u2⟩ := hx
  obtain ⟨v, v1, v2⟩ := hy
  unfold F_13_add
  refine z13_add6 (sg := 1) ha hb hab (Or.inl rfl) hs u1 v1 (fun H' w c hf hw he => hk H' (jsh_f3 hs hf) hf ⟨w, hw, ?_⟩) 10 0 jfuel 0 0 (fun _ => 0) H0 (by decide) rfl (by unfold jfuel; omega) (by omega) jf3_refl (fun j hj => absurd hj (Nat.not_lt_zero j)) (fun j _ hj => (u1 j hj).1) (by show ((0 : Nat) : Int) + 1 * ((0 : Nat) : Int) = ((0 : Nat) : Int) + 0 * _; omega)
  have hw2 : nv 67108864 w 10 < 67108864 ^ 10 := nv_lt fun j hj => (hw j hj).2
  rw [u2, v2] at he
  have e10 : (67108864 : Int) ^ 10 = ((67108864 ^ 10 : Nat) : Int) := by decide
  rw [e10] at he
  have hc0 : c = 0 := by
    generalize (67108864 : Nat) ^ 10 = E at *
    rcases (show c ≤ -1 ∨ c = 0 ∨ 1 ≤ c by omega) with h | h | h
    · have := Int.mul_le_mul_of_nonneg_right h (show (0 : Int) ≤ (E : Int) by omega)
      omega
    · exact h
    · have := Int.mul_le_mul_of_nonneg_right h (show (0 : Int) ≤ (E : Int) by omega)
      omega
  rw [hc0] at he
  omega
theorem z13_addm {x y : Nat} {a' b' s' : Int32} (ea : a' = Int32.ofNat a) (eb : b' = Int32.ofNat b) (es : s' = -1) (ha : a < 48) (hb : b < 48) (hab : a ≠ b) (hs : jsh H0) (hx : zr H0 a x) (hy : zr H0 b y) (hxy : y ≤ x)
    (hk : ∀ H', jsh H' → jf3 (· = a) H0 H' → zr H' a (x - y) → Q () H') : jT (F_13_add 428 a' b' s' H0) Q := by
  have hx2 := zr_lt hx
  subst ea
  subst eb
  subst es
  obtain ⟨u, u1, u2⟩ := hx
  obtain ⟨v, v1, v2⟩ := hy
  unfold F_13_add
  refine z13_add6 (sg := -1) ha hb hab (Or.inr rfl) hs u1 v1 (fun H' w c hf hw he => hk H' (jsh_f3 hs hf) hf ⟨w, hw, ?_⟩) 10 0 jfuel 0 0 (fun _ => 0) H0 (by decide) rfl (by unfold jfuel; omega) (by omega) jf3_refl (fun j hj => absurd hj (Nat.not_lt_zero j)) (fun j _ hj => (u1 j hj).1) (by show ((0 : Nat) : Int) + -1 * ((0 : Nat) : Int) = ((0 : Nat) : Int) + 0 * _; omega)
  have hw2 : nv 67108864 w 10 < 67108864 ^ 10 := nv_lt fun j hj => (hw j hj).2
  rw [u2, v2] at he
  have e10 : (67108864 : Int) ^ 10 = ((67108864 ^ 10 : Nat) : Int) := by decide
  rw [e10] at he
  have hc0 : c = 0 := by
    generalize (67108864 : Nat) ^ 10 = E at *
    rcases (show c ≤ -1 ∨ c = 0 ∨ 1 ≤ c by omega) with h | h | h
    · have := Int.mul_le_mul_of_nonneg_right h (show (0 : Int) ≤ (E : Int) by omega)
      omega
    · exact h
    · have := Int.mul_le_mul_of_nonneg_right h (show (0 : Int) ≤ (E : Int) by omega)
      omega
  rw [hc0] at he
  omega
end ADD13
