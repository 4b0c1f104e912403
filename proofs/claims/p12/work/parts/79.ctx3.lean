/-! The class's whole reading of a transaction. -/
theorem st_new {α : Type} {Q : α → jH → Prop} {k : Nat → jH → Option (α × jH)} {H : jH} (hs : jsh H) {t kk kk' : Nat} (e : kk' = kk)
    (hk : ∀ H', jsh H' → jn H' = jn H + 1 → js H' = js H + kk → jK H' (jn H) = (t, kk) → (∀ a, a < jn H → jK H' a = jK H a) → (∀ a j, a < jn H → jI H' a j = jI H a j ∧ jL H' a j = jL H a j ∧ jR H' a j = jR H a j ∧ jB H' a j = jB H a j) → (∀ j, jI H' (jn H) j = 0 ∧ jL H' (jn H) j = 0 ∧ jR H' (jn H) j = 0 ∧ jB H' (jn H) j = 0) → jT (k (jn H) H') Q) : jT (jnw H t kk' k) Q := by
  subst e
  exact jT_nw (hk _ (jsh_new hs) rfl rfl (if_pos rfl) (fun a ha => if_neg (by omega)) (fun a j ha => ⟨if_neg (by omega), if_neg (by omega), if_neg (by omega), if_neg (by omega)⟩) (fun j => ⟨if_pos rfl, if_pos rfl, if_pos rfl, if_pos rfl⟩))
theorem st_sR {α : Type} {Q : α → jH → Prop} {k : jH → Option (α × jH)} {H : jH} (hs : jsh H) {P : Prop} [Decidable P] {a i v : Nat} (hP : P) (ha : 422 ≤ a)
    (hk : ∀ H', jsh H' → jn H' = jn H → js H' = js H → jK H' = jK H → jI H' = jI H → jL H' = jL H → jB H' = jB H → jR H' a i = v → (∀ b j, ¬ (b = a ∧ j = i) → jR H' b j = jR H b j) → jT (k H') Q) : jT (jg P (jl (jsR H a i v) k)) Q :=
  jT_g hP (jT_l (hk _ (jsh_sR hs ha) rfl rfl rfl rfl rfl rfl jup_eq fun b j h => jup_ne h))
theorem jgn_small {u : Nat} (h : u ≤ 8) : jgn (Int32.ofNat u) := by
  have : ∀ u, u ≤ 8 → jgn (Int32.ofNat u) := by decide
  exact this u h
section CTX3
variable {t row len : Nat} {b : Nat → UInt8}
/-- what readInputs leaves -/
theorem z10_readInputs {H : jH} {p : Nat} (h : zO10 t row len H) (hb : jB H row = b) (hp : p < 2000010) (h7 : jI H t 7 = 0) (ht : t < jn H) (hrow : row < jn H) :
    jT (F_10_readInputs t (Int32.ofNat p) H) (fun r h' => zO10 t row len h' ∧ jgx (fun a j => a = t ∧ (j = 4 ∨ j = 7)) 1 8 H h' ∧
      ((∃ l q, p < len ∧ (b p).toNat ≤ 8 ∧ zcxi b len (b p).toNat (p + 1) = some (l, q) ∧ r = Int32.ofNat q ∧ q < 2900000 ∧ jn h' = jn H + 1 ∧ jR h' t 4 = jn H ∧ jK h' (jn H) = (100, (b p).toNat) ∧ zPl h' (jn H) l ∧ jI h' t 7 = zany b len l) ∨
       ((¬ ∃ l q, p < len ∧ (b p).toNat ≤ 8 ∧ zcxi b len (b p).toNat (p + 1) = some (l, q)) ∧ r = -1))) := by
  unfold F_10_readInputs
  obtain ⟨hs, h1, h2, h3, hlen, h5, h6⟩ := h
  have hsz := z10_sizeAt (at_ := p) (most := 8) h3 (by omega) (by omega) (by omega)
  rw [h2]
  refine jT_g h1 (jT_b (jT_eq hsz (jT_ret ?_)))
  rw [hb]
  unfold zsz
  by_cases hc : p < len ∧ (b p).toNat ≤ 8
  · rw [if_pos hc]
    generalize hU : (b p).toNat = u at *
    refine jT_pos (jo_ne1 (by omega)) (jT_g (jgn_small hc.2) ?_)
    refine st_new hs (kk := u) (jo_nat (n := u) (by omega)) fun H1 hs1 n1 m1 k1 ko1 o1 z1 => ?_
    refine st_sR hs1 (by rw [ko1 t ht]; exact h1) h5 fun H2 hs2 n2 m2 k2 i2 l2 b2 r2 o2 => jT_l ?_
    have e_p : Int32.ofNat p + 1 = Int32.ofNat (p + 1) := jo_add (a := p) (b := 1)
    rw [e_p]
    have hn513 : 422 ≤ jn H := hs.2.2.2.2.1
    have hO : zO10 t row len H2 := ⟨hs2, by rw [k2, ko1 t ht]; exact h1, (o2 t 0 (by omega)).trans (((o1 t 0 ht).2.2.1).trans h2), by rw [k2, ko1 row hrow]; exact h3, hlen, h5, h6⟩
    refine jT_imp (z10_in32 (b := b) (n := u) (ai := jn H) (H0 := H2) ⟨hn513, by omega⟩ hc.2 u 0 jfuel (p + 1) [] H2 (by omega) (by unfold jfuel; omega) (by omega) hO r2 (by rw [k2]; exact k1) ?_ rfl (fun k q hk => absurd hk (by simp)) ?_ jfr_refl) fun r h' q => ?_
    · rw [b2, ← hb]
      exact funext fun j => (o1 row j hrow).2.2.2
    · rw [i2, (o1 t 7 ht).1, h7]
      rfl
    · obtain ⟨q1, q2, q3⟩ := q
      have hg : jgx (fun a j => a = t ∧ (j = 4 ∨ j = 7)) 1 8 H h' := by
        have g2 := jgx_fr q2
        refine ⟨?_, ?_, ?_, fun a ha => ?_, fun a j ha hn => ?_⟩
        · have := g2.1
          omega
        · have := g2.2.1
          omega
        · have := g2.2.2.1
          omega
        · rw [jfr_K q2 a, k2]
          exact ko1 a ha
        · have hnS : ¬ (fun a j => a = jn H ∨ (a = t ∧ j = 7)) a j := fun w => by
            have w2 : a = jn H ∨ (a = t ∧ j = 7) := w
            rcases w2 with w2 | w2
            · omega
            · exact hn ⟨w2.1, Or.inr w2.2⟩
          have hn4 : ¬ (a = t ∧ j = 4) := fun w => hn ⟨w.1, Or.inl w.2⟩
          obtain ⟨c1, c2, c3, c4⟩ := o1 a j ha
          exact ⟨by rw [jfr_I q2 hnS, i2]; exact c1, by rw [jfr_L q2 hnS, l2]; exact c2, by rw [jfr_R q2 hnS, o2 a j hn4]; exact c3, by rw [jfr_B q2 hnS, b2]; exact c4⟩
      refine ⟨q1, hg, ?_⟩
      rcases q3 with ⟨l, q, a1, a2, a3, a4, a5⟩ | ⟨a1, a2⟩
      · refine Or.inl ⟨l, q, hc.1, hc.2, a1, a2, a3, ?_, ?_, ?_, a4, a5⟩
        · rw [q2.2.1, n2, n1]
        · exact (jfr_R q2 (fun w => by have w2 : t = jn H ∨ (t = t ∧ (4 : Nat) = 7) := w; omega)).trans r2
        · rw [jfr_K q2, k2]
          exact k1
      · exact Or.inr ⟨fun ⟨l, q, w1, w2, w3⟩ => by rw [a1] at w3; exact absurd w3 (by simp), a2⟩
  · rw [if_neg hc]
    refine jT_neg (fun q => q rfl) (jT_ret ⟨⟨hs, h1, h2, h3, hlen, h5, h6⟩, jgx_mono jgx_refl (fun a j _ w => w) (by decide) (by decide), Or.inr ⟨fun ⟨l, q, w1, w2, w3⟩ => hc ⟨w1, w2⟩, rfl⟩⟩)
theorem z10_readOutputs {H : jH} {p : Nat} (h : zO10 t row len H) (hb : jB H row = b) (hp : p < 2900000) (h7 : jL H t 6 = 0) (ht : t < jn H) (hrow : row < jn H) :
    jT (F_10_readOutputs t (Int32.ofNat p) H) (fun r h' => zO10 t row len h' ∧ jgx (fun a j => a = t ∧ (j = 5 ∨ j = 6)) 1 8 H h' ∧
      ((∃ l q, p < len ∧ (b p).toNat ≤ 8 ∧ zcxo b len (b p).toNat (p + 1) = some (l, q) ∧ r = Int32.ofNat q ∧ q < 2900000 ∧ jn h' = jn H + 1 ∧ jR h' t 5 = jn H ∧ jK h' (jn H) = (100, (b p).toNat) ∧ zPl h' (jn H) l ∧ jL h' t 6 = zsumv b len l) ∨
       ((¬ ∃ l q, p < len ∧ (b p).toNat ≤ 8 ∧ zcxo b len (b p).toNat (p + 1) = some (l, q)) ∧ r = -1))) := by
  unfold F_10_readOutputs
  obtain ⟨hs, h1, h2, h3, hlen, h5, h6⟩ := h
  have hsz := z10_sizeAt (at_ := p) (most := 8) h3 (by omega) (by omega) (by omega)
  rw [h2]
  refine jT_g h1 (jT_b (jT_eq hsz (jT_ret ?_)))
  rw [hb]
  unfold zsz
  by_cases hc : p < len ∧ (b p).toNat ≤ 8
  · rw [if_pos hc]
    generalize hU : (b p).toNat = u at *
    refine jT_pos (jo_ne1 (by omega)) (jT_g (jgn_small hc.2) ?_)
    refine st_new hs (kk := u) (jo_nat (n := u) (by omega)) fun H1 hs1 n1 m1 k1 ko1 o1 z1 => ?_
    refine st_sR hs1 (by rw [ko1 t ht]; exact h1) h5 fun H2 hs2 n2 m2 k2 i2 l2 b2 r2 o2 => jT_l ?_
    have e_p : Int32.ofNat p + 1 = Int32.ofNat (p + 1) := jo_add (a := p) (b := 1)
    rw [e_p]
    have hn513 : 422 ≤ jn H := hs.2.2.2.2.1
    have hO : zO10 t row len H2 := ⟨hs2, by rw [k2, ko1 t ht]; exact h1, (o2 t 0 (by omega)).trans (((o1 t 0 ht).2.2.1).trans h2), by rw [k2, ko1 row hrow]; exact h3, hlen, h5, h6⟩
    refine jT_imp (z10_out32 (b := b) (n := u) (ai := jn H) (H0 := H2) ⟨hn513, by omega⟩ hc.2 u 0 jfuel (p + 1) [] H2 (by omega) (by unfold jfuel; omega) (by omega) hO r2 (by rw [k2]; exact k1) ?_ rfl (fun k q hk => absurd hk (by simp)) ?_ jfr_refl) fun r h' q => ?_
    · rw [b2, ← hb]
      exact funext fun j => (o1 row j hrow).2.2.2
    · rw [l2, (o1 t 6 ht).2.1, h7]
      rfl
    · obtain ⟨q1, q2, q3⟩ := q
      have hg : jgx (fun a j => a = t ∧ (j = 5 ∨ j = 6)) 1 8 H h' := by
        have g2 := jgx_fr q2
        refine ⟨?_, ?_, ?_, fun a ha => ?_, fun a j ha hn => ?_⟩
        · have := g2.1
          omega
        · have := g2.2.1
          omega
        · have := g2.2.2.1
          omega
        · rw [jfr_K q2 a, k2]
          exact ko1 a ha
        · have hnS : ¬ (fun a j => a = jn H ∨ (a = t ∧ j = 6)) a j := fun w => by
            have w2 : a = jn H ∨ (a = t ∧ j = 6) := w
            rcases w2 with w2 | w2
            · omega
            · exact hn ⟨w2.1, Or.inr w2.2⟩
          have hn4 : ¬ (a = t ∧ j = 5) := fun w => hn ⟨w.1, Or.inl w.2⟩
          obtain ⟨c1, c2, c3, c4⟩ := o1 a j ha
          exact ⟨by rw [jfr_I q2 hnS, i2]; exact c1, by rw [jfr_L q2 hnS, l2]; exact c2, by rw [jfr_R q2 hnS, o2 a j hn4]; exact c3, by rw [jfr_B q2 hnS, b2]; exact c4⟩
      refine ⟨q1, hg, ?_⟩
      rcases q3 with ⟨l, q, a1, a2, a3, a4, a5⟩ | ⟨a1, a2⟩
      · refine Or.inl ⟨l, q, hc.1, hc.2, a1, a2, a3, ?_, ?_, ?_, a4, a5⟩
        · rw [q2.2.1, n2, n1]
        · exact (jfr_R q2 (fun w => by have w2 : t = jn H ∨ (t = t ∧ (5 : Nat) = 6) := w; omega)).trans r2
        · rw [jfr_K q2, k2]
          exact k1
      · exact Or.inr ⟨fun ⟨l, q, w1, w2, w3⟩ => by rw [a1] at w3; exact absurd w3 (by simp), a2⟩
  · rw [if_neg hc]
    refine jT_neg (fun q => q rfl) (jT_ret ⟨⟨hs, h1, h2, h3, hlen, h5, h6⟩, jgx_mono jgx_refl (fun a j _ w => w) (by decide) (by decide), Or.inr ⟨fun ⟨l, q, w1, w2, w3⟩ => hc ⟨w1, w2⟩, rfl⟩⟩)
end CTX3
/-! both ways to read say the same -/
theorem zcxi_le {b : Nat → UInt8} {len : Nat} : ∀ {k p : Nat} {l : List Nat} {q : Nat}, zcxi b len k p = some (l, q) → p ≤ q
  | 0, p, l, q, h => Nat.le_of_eq (congrArg Prod.snd (Option.some.inj h))
  | k + 1, p, l, q, h => by
    unfold zcxi at h
    by_cases hc : p + 36 < len ∧ (b (p + 36)).toNat ≤ 200
    · rw [if_pos hc] at h
      obtain ⟨w, hw, hq⟩ := Option.map_eq_some_iff.mp h
      have h2 : w.2 = q := congrArg Prod.snd hq
      have := zcxi_le (l := w.1) (q := w.2) hw
      omega
    · rw [if_neg hc] at h
      exact absurd h (by simp)
theorem zcxo_le {b : Nat → UInt8} {len : Nat} : ∀ {k p : Nat} {l : List Nat} {q : Nat}, zcxo b len k p = some (l, q) → p ≤ q
  | 0, p, l, q, h => Nat.le_of_eq (congrArg Prod.snd (Option.some.inj h))
  | k + 1, p, l, q, h => by
    unfold zcxo at h
    by_cases hc : p + 8 < len ∧ (b (p + 8)).toNat ≤ 200
    · rw [if_pos hc] at h
      obtain ⟨w, hw, hq⟩ := Option.map_eq_some_iff.mp h
      have h2 : w.2 = q := congrArg Prod.snd hq
      have := zcxo_le (l := w.1) (q := w.2) hw
      omega
    · rw [if_neg hc] at h
      exact absurd h (by simp)
theorem ztxi_zcxi {b : Nat → UInt8} {len : Nat} : ∀ {k p : Nat} {l : List (Nat × Nat)} {q : Nat}, ztxi b len k p = some (l, q) → zcxi b len k p = some (l.map (·.1), q)
  | 0, p, l, q, h => by
    have h1 : [] = l := congrArg Prod.fst (Option.some.inj h)
    have h2 : p = q := congrArg Prod.snd (Option.some.inj h)
    rw [← h1, ← h2]
    rfl
  | k + 1, p, l, q, h => by
    unfold ztxi at h
    by_cases hc : p + 37 ≤ len ∧ (b (p + 36)).toNat ≤ 200 ∧ p + 41 + (b (p + 36)).toNat ≤ len
    · rw [if_pos hc] at h
      obtain ⟨w, hw, hq⟩ := Option.map_eq_some_iff.mp h
      have h1 : (p, (b (p + 36)).toNat) :: w.1 = l := congrArg Prod.fst hq
      have h2 : w.2 = q := congrArg Prod.snd hq
      unfold zcxi
      rw [if_pos ⟨by omega, hc.2.1⟩, ztxi_zcxi (l := w.1) (q := w.2) hw, ← h1, ← h2]
      rfl
    · rw [if_neg hc] at h
      exact absurd h (by simp)
theorem ztxo_zcxo {b : Nat → UInt8} {len : Nat} : ∀ {k p : Nat} {l : List (Nat × Nat)} {q : Nat}, ztxo b len k p = some (l, q) → zcxo b len k p = some (l.map (·.1), q)
  | 0, p, l, q, h => by
    have h1 : [] = l := congrArg Prod.fst (Option.some.inj h)
    have h2 : p = q := congrArg Prod.snd (Option.some.inj h)
    rw [← h1, ← h2]
    rfl
  | k + 1, p, l, q, h => by
    unfold ztxo at h
    by_cases hc : p + 9 ≤ len ∧ (b (p + 8)).toNat ≤ 200 ∧ p + 9 + (b (p + 8)).toNat ≤ len
    · rw [if_pos hc] at h
      obtain ⟨w, hw, hq⟩ := Option.map_eq_some_iff.mp h
      have h1 : (p, (b (p + 8)).toNat) :: w.1 = l := congrArg Prod.fst hq
      have h2 : w.2 = q := congrArg Prod.snd hq
      unfold zcxo
      rw [if_pos ⟨by omega, hc.2.1⟩, ztxo_zcxo (l := w.1) (q := w.2) hw, ← h1, ← h2]
      rfl
    · rw [if_neg hc] at h
      exact absurd h (by simp)
theorem zcxi_ztxi {b : Nat → UInt8} {len : Nat} : ∀ {k p : Nat} {l : List Nat} {q : Nat}, zcxi b len k p = some (l, q) → q ≤ len → ∃ l', ztxi b len k p = some (l', q)
  | 0, p, l, q, h, _ => ⟨[], by rw [← show p = q from congrArg Prod.snd (Option.some.inj h)]; rfl⟩
  | k + 1, p, l, q, h, hq => by
    unfold zcxi at h
    by_cases hc : p + 36 < len ∧ (b (p + 36)).toNat ≤ 200
    · rw [if_pos hc] at h
      obtain ⟨w, hw, he⟩ := Option.map_eq_some_iff.mp h
      have h2 : w.2 = q := congrArg Prod.snd he
      have hle := zcxi_le (l := w.1) (q := w.2) hw
      obtain ⟨l', hl'⟩ := zcxi_ztxi (l := w.1) (q := w.2) hw (by omega)
      refine ⟨(p, (b (p + 36)).toNat) :: l', ?_⟩
      unfold ztxi
      rw [if_pos ⟨by omega, hc.2, by omega⟩, hl', ← h2]
      rfl
    · rw [if_neg hc] at h
      exact absurd h (by simp)
theorem zcxo_ztxo {b : Nat → UInt8} {len : Nat} : ∀ {k p : Nat} {l : List Nat} {q : Nat}, zcxo b len k p = some (l, q) → q ≤ len → ∃ l', ztxo b len k p = some (l', q)
  | 0, p, l, q, h, _ => ⟨[], by rw [← show p = q from congrArg Prod.snd (Option.some.inj h)]; rfl⟩
  | k + 1, p, l, q, h, hq => by
    unfold zcxo at h
    by_cases hc : p + 8 < len ∧ (b (p + 8)).toNat ≤ 200
    · rw [if_pos hc] at h
      obtain ⟨w, hw, he⟩ := Option.map_eq_some_iff.mp h
      have h2 : w.2 = q := congrArg Prod.snd he
      have hle := zcxo_le (l := w.1) (q := w.2) hw
      obtain ⟨l', hl'⟩ := zcxo_ztxo (l := w.1) (q := w.2) hw (by omega)
      refine ⟨(p, (b (p + 8)).toNat) :: l', ?_⟩
      unfold ztxo
      rw [if_pos ⟨by omega, hc.2, by omega⟩, hl', ← h2]
      rfl
    · rw [if_neg hc] at h
      exact absurd h (by simp)
