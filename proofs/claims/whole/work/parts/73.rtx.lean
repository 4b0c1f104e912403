/-! The reference reads a transaction. -/
def zT (t : Nat) : Prop := t = 456 ∨ t = 465
theorem s17 {H : jH} (hs : jsh H) {t : Nat} (ht : zT t) : (jK H t).1 = 17 ∧ jR H t 7 = t + 1 ∧ jR H t 8 = t + 2 ∧ jR H t 9 = t + 3 ∧ jR H t 10 = t + 4 ∧ jR H t 11 = t + 5 ∧ jR H t 12 = t + 6 ∧ jR H t 13 = t + 7 ∧ jR H t 14 = t + 8 ∧
    jK H (t + 1) = (100, 8) ∧ jK H (t + 2) = (103, 8) ∧ jK H (t + 3) = (100, 8) ∧ jK H (t + 4) = (100, 8) ∧ jK H (t + 5) = (100, 8) ∧ jK H (t + 6) = (103, 8) ∧ jK H (t + 7) = (100, 8) ∧ jK H (t + 8) = (100, 8) := by
  rcases ht with rfl | rfl
  · exact ⟨by rw [sK_456 hs], sR_456_7 hs, sR_456_8 hs, sR_456_9 hs, sR_456_10 hs, sR_456_11 hs, sR_456_12 hs, sR_456_13 hs, sR_456_14 hs, sK_457 hs, sK_458 hs, sK_459 hs, sK_460 hs, sK_461 hs, sK_462 hs, sK_463 hs, sK_464 hs⟩
  · exact ⟨by rw [sK_465 hs], sR_465_7 hs, sR_465_8 hs, sR_465_9 hs, sR_465_10 hs, sR_465_11 hs, sR_465_12 hs, sR_465_13 hs, sR_465_14 hs, sK_466 hs, sK_467 hs, sK_468 hs, sK_469 hs, sK_470 hs, sK_471 hs, sK_472 hs, sK_473 hs⟩
theorem zT_le {t : Nat} (ht : zT t) : 456 ≤ t ∧ t ≤ 465 := by
  rcases ht with rfl | rfl <;> omega
/-- the reader's state: its bytes, their end, its place, whether all is good -/
def zRd (t row len e p : Nat) (g : Int32) (H : jH) : Prop := jsh H ∧ jR H t 0 = row ∧ jK H row = (101, len) ∧ jI H t 2 = Int32.ofNat e ∧ jI H t 3 = Int32.ofNat p ∧ jI H t 6 = g ∧ e ≤ len ∧ len < 2000000 ∧ p ≤ e ∧ (row < t ∨ t + 8 < row)
def zSp (t : Nat) : Nat → Nat → Prop := fun a j => a = t ∧ (j = 3 ∨ j = 6)
section RTX
variable {t row len e p : Nat} {H : jH}
theorem z17_pass_ok {α : Type} {Q : α → jH → Prop} {k : Unit → jH → Option (α × jH)} {n : Nat} (ht : zT t) (h : zRd t row len e p 1 H) (hn : p + n ≤ e) (hk : ∀ H', zRd t row len e (p + n) 1 H' → jfr (zSp t) H H' → jT (k () H') Q) : jT (jb (F_17_pass t (Int32.ofNat n) H) k) Q := by
  obtain ⟨hs, h0, hkr, h2, h3, h6, hel, hlen, hp, hrow⟩ := h
  obtain ⟨k1, -⟩ := s17 hs ht
  have htl := zT_le ht
  have e1 : Int32.ofNat p + Int32.ofNat n = Int32.ofNat (p + n) := jo_add
  unfold F_17_pass B_17_pass_26 B_17_pass_50
  rw [h6, h2, h3, e1]
  refine jT_b (jT_g k1 (jT_neg (by decide) (jT_g k1 (jT_g k1 (jT_neg (by rw [jo_lt (by omega) (by omega)]; omega) (jT_g ⟨k1, Or.inr rfl⟩ (jT_l (jT_g k1 (jT_neg ?_ (jT_g k1 (jT_g k1 (jT_l (jT_ret ?_)))))))))))))
  · rw [jI_sIe]
    decide
  · have e3 : jI (jsI H t 6 1) t 3 = Int32.ofNat p := (jI_sIn (by decide)).trans h3
    rw [e3, e1]
    refine hk _ ⟨jsh_sI (jsh_sI hs (by omega)) (by omega), h0, hkr, ?_, jI_sIe, ?_, hel, hlen, hn, hrow⟩ (jfr_sI (jfr_sI jfr_refl ⟨rfl, Or.inr rfl⟩) ⟨rfl, Or.inl rfl⟩)
    · exact (jI_sIn (by decide)).trans ((jI_sIn (by decide)).trans h2)
    · exact (jI_sIn (by decide)).trans jI_sIe
theorem z17_pass_no {α : Type} {Q : α → jH → Prop} {k : Unit → jH → Option (α × jH)} {n : Nat} {g : Int32} (ht : zT t) (h : zRd t row len e p g H) (hn : n < 2000000) (hng : g = 0 ∨ (g = 1 ∧ e < p + n)) (hk : ∀ H', zRd t row len e p 0 H' → jfr (zSp t) H H' → jT (k () H') Q) : jT (jb (F_17_pass t (Int32.ofNat n) H) k) Q := by
  obtain ⟨hs, h0, hkr, h2, h3, h6, hel, hlen, hp, hrow⟩ := h
  obtain ⟨k1, -⟩ := s17 hs ht
  have htl := zT_le ht
  have fin : jT (B_17_pass_25 t (Int32.ofNat n) t H) (fun _ h => jT (k () h) Q) := by
    unfold B_17_pass_25 B_17_pass_26 B_17_pass_50
    refine jT_g ⟨k1, Or.inl rfl⟩ (jT_l (jT_g k1 (jT_pos jI_sIe (jT_g k1 (jT_g k1 (jT_l (jT_ret ?_)))))))
    have e3 : jI (jsI H t 6 0) t 3 = Int32.ofNat p := (jI_sIn (by decide)).trans h3
    rw [e3]
    refine hk _ ⟨jsh_sI (jsh_sI hs (by omega)) (by omega), h0, hkr, ?_, jI_sIe, ?_, hel, hlen, hp, hrow⟩ (jfr_sI (jfr_sI jfr_refl ⟨rfl, Or.inr rfl⟩) ⟨rfl, Or.inl rfl⟩)
    · exact (jI_sIn (by decide)).trans ((jI_sIn (by decide)).trans h2)
    · exact (jI_sIn (by decide)).trans jI_sIe
  have e1 : Int32.ofNat p + Int32.ofNat n = Int32.ofNat (p + n) := jo_add
  unfold F_17_pass
  rw [h6, h2, h3, e1]
  refine jT_b (jT_g k1 ?_)
  rcases hng with rfl | ⟨rfl, hlt⟩
  · exact jT_pos rfl fin
  · exact jT_neg (by decide) (jT_g k1 (jT_g k1 (jT_pos (by rw [jo_lt (by omega) (by omega)]; omega) fin)))
/-- so many bytes below a place, the lowest last -/
def zle (b : Nat → UInt8) (q : Nat) : Nat → Int64
  | 0 => 0
  | k + 1 => jshlL (zle b q k) 8 ||| Int32.toInt64 (jbs (b (q - (k + 1))) &&& 255)
theorem z17_low_ok {α : Type} {Q : α → jH → Prop} {k : Int64 → jH → Option (α × jH)} {n : Nat} (ht : zT t) (h : zRd t row len e p 1 H) (hn : p + n ≤ e) (hn8 : n ≤ 8) (hk : ∀ H', zRd t row len e (p + n) 1 H' → jfr (zSp t) H H' → jT (k (zle (jB H row) (p + n) n) H') Q) : jT (jb (F_17_low t (Int32.ofNat n) H) k) Q := by
  unfold F_17_low
  have hs := h.1
  have hrow := h.2.2.2.2.2.2.2.2.2
  refine jT_b (jT_g (s17 hs ht).1 (z17_pass_ok ht h hn fun H1 h1 f1 => ?_))
  have hb : jB H1 row = jB H row := funext fun j => jfr_B f1 (fun q => by have := q.1; omega)
  obtain ⟨hs1, a0, akr, a2, a3, a6, ael, alen, ap, arow⟩ := h1
  have k1 := (s17 hs1 ht).1
  have loop : ∀ (d i f : Nat), i + d = n → d < f → jT (F_17_low_10 f t (Int32.ofNat n) (zle (jB H row) (p + n) i) (Int32.ofNat (i + 1)) H1) (fun x h => jT (k x h) Q) := by
    intro d
    induction d with
    | zero =>
      intro i f hi hf
      obtain rfl : i = n := by omega
      obtain ⟨f, rfl⟩ : ∃ k, f = k + 1 := ⟨f - 1, by omega⟩
      unfold F_17_low_10 B_17_low_10 B_17_low_52
      exact jT_pos (by rw [jo_lt (by omega) (by omega)]; omega) (jT_ret (hk H1 ⟨hs1, a0, akr, a2, a3, a6, ael, alen, ap, arow⟩ f1))
    | succ d ih =>
      intro i f hi hf
      obtain ⟨f, rfl⟩ : ∃ k, f = k + 1 := ⟨f - 1, by omega⟩
      unfold F_17_low_10 B_17_low_10 B_17_low_52
      have e1 : Int32.ofNat (p + n) - Int32.ofNat (i + 1) = Int32.ofNat (p + n - (i + 1)) := jo_sub (by omega)
      have e2 : Int32.ofNat (i + 1) + 1 = Int32.ofNat (i + 1 + 1) := jo_add (a := i + 1) (b := 1)
      rw [a6, a3, a0, akr, e1, e2, hb, jo_nat (n := p + n - (i + 1)) (by omega)]
      refine jT_neg (by rw [jo_lt (by omega) (by omega)]; omega) (jT_g k1 (jT_neg (by decide) (jT_g k1 (jT_g k1 (jT_g ⟨rfl, jo_in (by omega) (by show p + n - (i + 1) < len; omega)⟩ (jT_l (jT_l ?_)))))))
      exact ih (i + 1) f (by omega) (by omega)
  exact loop n 0 jfuel (by omega) (by unfold jfuel; omega)
theorem z17_low_no {α : Type} {Q : α → jH → Prop} {k : Int64 → jH → Option (α × jH)} {n : Nat} {g : Int32} (ht : zT t) (h : zRd t row len e p g H) (hn8 : 1 ≤ n ∧ n ≤ 8) (hng : g = 0 ∨ (g = 1 ∧ e < p + n)) (hk : ∀ H', zRd t row len e p 0 H' → jfr (zSp t) H H' → jT (k 0 H') Q) : jT (jb (F_17_low t (Int32.ofNat n) H) k) Q := by
  unfold F_17_low
  refine jT_b (jT_g (s17 h.1 ht).1 (z17_pass_no ht h (by omega) hng fun H1 h1 f1 => ?_))
  have k1 := (s17 h1.1 ht).1
  have a6 := h1.2.2.2.2.2.1
  obtain ⟨f, ef⟩ : ∃ f, jfuel = f + 1 := ⟨4294967295, rfl⟩
  rw [ef]
  unfold F_17_low_10 B_17_low_10 B_17_low_52
  rw [a6]
  exact jT_neg (by rw [show (1 : Int32) = Int32.ofNat 1 from rfl, jo_lt (by omega) (by omega)]; omega) (jT_g k1 (jT_pos rfl (jT_ret (hk H1 h1 f1))))
/-- a size that is none -/
theorem z17_133_no {Q : Int32 → jH → Prop} {mo : Nat} {v : Int64} {g : Int32} (ht : zT t) (h : zRd t row len e p g H) (hg : g = 0 ∨ g = 1) (hv : g = 0 ∨ v < 0 ∨ Int32.toInt64 (Int32.ofNat mo) < v) (hk : ∀ H', zRd t row len e p 0 H' → jfr (zSp t) H H' → Q 0 H') : jT (B_17_size_133 t (Int32.ofNat mo) v H) Q := by
  obtain ⟨hs, h0, hkr, h2, h3, h6, hel, hlen, hp, hrow⟩ := h
  have k1 := (s17 hs ht).1
  have htl := zT_le ht
  have fin : jT (B_17_size_158 t v t H) Q := by
    unfold B_17_size_158 B_17_size_159 B_17_size_175
    refine jT_g ⟨k1, Or.inl rfl⟩ (jT_l (jT_g k1 (jT_pos jI_sIe (jT_ret ?_))))
    refine hk _ ⟨jsh_sI hs (by omega), h0, hkr, (jI_sIn (by decide)).trans h2, (jI_sIn (by decide)).trans h3, jI_sIe, hel, hlen, hp, hrow⟩ (jfr_sI jfr_refl ⟨rfl, Or.inr rfl⟩)
  unfold B_17_size_133
  rw [h6]
  refine jT_g k1 (jT_if (fun _ => fin) (fun hg0 => jT_if (fun _ => fin) (fun hv0 => jT_pos ?_ fin)))
  rcases hv with hv | hv | hv
  · exact absurd hv hg0
  · exact absurd hv hv0
  · exact hv
theorem z17_set6 {Q : Int32 → jH → Prop} {g v : Int32} {kk : jH → Option (Int32 × jH)} (ht : zT t) (h : zRd t row len e p g H) (hv : v = 0 ∨ v = 1) (hk : ∀ H', zRd t row len e p v H' → jfr (zSp t) H H' → jT (kk H') Q) : jT (jg ((jK H t).1 = 17 ∧ ((v : Int32) = 0 ∨ (v : Int32) = 1)) (jl (jsI H t 6 v) kk)) Q := by
  obtain ⟨hs, h0, hkr, h2, h3, h6, hel, hlen, hp, hrow⟩ := h
  have htl := zT_le ht
  exact jT_g ⟨(s17 hs ht).1, hv⟩ (jT_l (hk _ ⟨jsh_sI hs (by omega), h0, hkr, (jI_sIn (by decide)).trans h2, (jI_sIn (by decide)).trans h3, jI_sIe, hel, hlen, hp, hrow⟩ (jfr_sI jfr_refl ⟨rfl, Or.inr rfl⟩)))
def zw1 (u : UInt8) : Int64 := jshlL 0 8 ||| Int32.toInt64 (jbs u &&& 255)
theorem zw1_eq (u : UInt8) : (zw1 u = 253 ↔ u.toNat = 253) ∧ (zw1 u = 254 ↔ u.toNat = 254) ∧ (zw1 u = 255 ↔ u.toNat = 255) ∧ ¬ zw1 u < 0 ∧ Int64.toInt32 (zw1 u) = Int32.ofNat u.toNat ∧ (Int32.toInt64 (Int32.ofNat 8) < zw1 u ↔ 8 < u.toNat) ∧ (Int32.toInt64 (Int32.ofNat 200) < zw1 u ↔ 200 < u.toNat) :=
  jb_u8 (fun u => (zw1 u = 253 ↔ u.toNat = 253) ∧ (zw1 u = 254 ↔ u.toNat = 254) ∧ (zw1 u = 255 ↔ u.toNat = 255) ∧ ¬ zw1 u < 0 ∧ Int64.toInt32 (zw1 u) = Int32.ofNat u.toNat ∧ (Int32.toInt64 (Int32.ofNat 8) < zw1 u ↔ 8 < u.toNat) ∧ (Int32.toInt64 (Int32.ofNat 200) < zw1 u ↔ 200 < u.toNat)) (by decide +kernel) u
theorem zle_1 (b : Nat → UInt8) (p : Nat) : zle b (p + 1) 1 = zw1 (b p) := rfl
theorem z17_size_ok {α : Type} {Q : α → jH → Prop} {k : Int32 → jH → Option (α × jH)} {mo : Nat} (hmo : mo = 8 ∨ mo = 200) (ht : zT t) (h : zRd t row len e p 1 H) (hn : p + 1 ≤ e) (hb : (jB H row p).toNat ≤ mo) (hk : ∀ H', zRd t row len e (p + 1) 1 H' → jfr (zSp t) H H' → jT (k (Int32.ofNat (jB H row p).toNat) H') Q) : jT (jb (F_17_size t (Int32.ofNat mo) H) k) Q := by
  unfold F_17_size
  obtain ⟨w1, w2, w3, w4, w5, w6, w7⟩ := zw1_eq (jB H row p)
  refine jT_b (jT_g (s17 h.1 ht).1 (z17_low_ok (n := 1) ht h hn (by decide) fun H1 h1 f1 => ?_))
  rw [zle_1]
  have hm : mo ≤ 200 := by omega
  refine jT_pos (fun q => by have := w1.mp q; omega) (jT_pos (fun q => by have := w2.mp q; omega) (jT_pos (fun q => by have := w3.mp q; omega) ?_))
  have k1 := (s17 h1.1 ht).1
  unfold B_17_size_133
  rw [h1.2.2.2.2.2.1]
  refine jT_g k1 (jT_neg (by decide) (jT_neg w4 (jT_neg ?_ ?_)))
  · rcases hmo with rfl | rfl
    · exact fun q => by have := w6.mp q; omega
    · exact fun q => by have := w7.mp q; omega
  · unfold B_17_size_159 B_17_size_175
    refine z17_set6 ht h1 (Or.inr rfl) fun H2 h2 f2 => jT_g (s17 h2.1 ht).1 ?_
    rw [h2.2.2.2.2.2.1, w5]
    exact jT_neg (by decide) (jT_ret (hk H2 h2 (jfr_trans f1 f2)))
theorem z17_size_no {α : Type} {Q : α → jH → Prop} {k : Int32 → jH → Option (α × jH)} {mo : Nat} {g : Int32} (hmo : mo = 8 ∨ mo = 200) (ht : zT t) (h : zRd t row len e p g H) (hng : g = 0 ∨ (g = 1 ∧ (e < p + 1 ∨ mo < (jB H row p).toNat))) (hk : ∀ H' p', zRd t row len e p' 0 H' → jfr (zSp t) H H' → jT (k 0 H') Q) : jT (jb (F_17_size t (Int32.ofNat mo) H) k) Q := by
  unfold F_17_size
  by_cases hlow : g = 0 ∨ (g = 1 ∧ e < p + 1)
  · refine jT_b (jT_g (s17 h.1 ht).1 (z17_low_no (n := 1) ht h (by decide) hlow fun H1 h1 f1 => ?_))
    refine jT_pos (by decide) (jT_pos (by decide) (jT_pos (by decide) ?_))
    exact z17_133_no ht h1 (Or.inl rfl) (Or.inl rfl) fun H2 h2 f2 => hk H2 p h2 (jfr_trans f1 f2)
  · have hg : g = 1 ∧ p + 1 ≤ e ∧ mo < (jB H row p).toNat := by
      rcases hng with hg | ⟨hg, hq⟩
      · exact absurd (Or.inl hg) hlow
      · refine ⟨hg, ?_, ?_⟩
        · by_cases q : e < p + 1
          · exact absurd (Or.inr ⟨hg, q⟩) hlow
          · omega
        · rcases hq with hq | hq
          · exact absurd (Or.inr ⟨hg, hq⟩) hlow
          · exact hq
    obtain ⟨rfl, hp1, hbig⟩ := hg
    obtain ⟨w1, w2, w3, w4, w5, w6, w7⟩ := zw1_eq (jB H row p)
    refine jT_b (jT_g (s17 h.1 ht).1 (z17_low_ok (n := 1) ht h hp1 (by decide) fun H1 h1 f1 => ?_))
    rw [zle_1]
    have k1 := (s17 h1.1 ht).1
    have big : ∀ (v : Int64) (c : Int64), (252 : Int) ≤ c.toInt → ¬ v ≤ c → Int32.toInt64 (Int32.ofNat mo) < v := by
      intro v c hc hv
      rw [Int64.le_iff_toInt_le] at hv
      rw [Int64.lt_iff_toInt_lt]
      have : (Int32.toInt64 (Int32.ofNat mo)).toInt ≤ 200 := by
        rcases hmo with rfl | rfl <;> decide
      omega
    have fin1 : ∀ {H' p' g'} (v : Int64), zRd t row len e p' g' H' → jfr (zSp t) H H' → (g' = 0 ∨ g' = 1) → (g' = 0 ∨ v < 0 ∨ Int32.toInt64 (Int32.ofNat mo) < v) → jT (B_17_size_133 t (Int32.ofNat mo) v H') (fun x h => jT (k x h) Q) := fun v h' f' hg' hv => z17_133_no ht h' hg' hv fun H2 h2 f2 => hk H2 _ h2 (jfr_trans f' f2)
    have fin2 : ∀ {H' p' g'} (v : Int64) (y : Int32), zRd t row len e p' g' H' → jfr (zSp t) H H' → (y = 0 ∨ y = 1) → (y = 0 ∨ v < 0 ∨ Int32.toInt64 (Int32.ofNat mo) < v) → jT (jg ((jK H' t).1 = 17 ∧ ((y : Int32) = 0 ∨ (y : Int32) = 1)) (jl (jsI H' t 6 y) fun h => B_17_size_133 t (Int32.ofNat mo) v h)) (fun x h => jT (k x h) Q) := fun v y h' f' hy hv => z17_set6 ht h' hy fun H2 h2 f2 => fin1 v h2 (jfr_trans f' f2) hy hv
    by_cases c253 : (jB H row p).toNat = 253
    · refine jT_neg (fun q => q (w1.mpr c253)) (jT_g k1 ?_)
      by_cases c2 : p + 1 + 2 ≤ e
      · refine z17_low_ok (n := 2) ht h1 c2 (by decide) fun H2 h2 f2 => jT_g (s17 h2.1 ht).1 ?_
        rw [h2.2.2.2.2.2.1]
        unfold B_17_size_40 B_17_size_41
        refine jT_neg (by decide) (jT_if (fun _ => fin2 _ _ h2 (jfr_trans f1 f2) (Or.inl rfl) (Or.inl rfl)) (fun hv => fin2 _ _ h2 (jfr_trans f1 f2) (Or.inr rfl) (Or.inr (Or.inr (big _ _ (by decide) hv)))))
      · refine z17_low_no (n := 2) ht h1 (by decide) (Or.inr ⟨rfl, by omega⟩) fun H2 h2 f2 => jT_g (s17 h2.1 ht).1 ?_
        rw [h2.2.2.2.2.2.1]
        unfold B_17_size_40 B_17_size_41
        exact jT_pos rfl (fin2 _ _ h2 (jfr_trans f1 f2) (Or.inl rfl) (Or.inl rfl))
    · refine jT_pos (fun q => c253 (w1.mp q)) ?_
      by_cases c254 : (jB H row p).toNat = 254
      · refine jT_neg (fun q => q (w2.mpr c254)) (jT_g k1 ?_)
        by_cases c2 : p + 1 + 4 ≤ e
        · refine z17_low_ok (n := 4) ht h1 c2 (by decide) fun H2 h2 f2 => jT_g (s17 h2.1 ht).1 ?_
          rw [h2.2.2.2.2.2.1]
          unfold B_17_size_81 B_17_size_82
          refine jT_neg (by decide) (jT_if (fun _ => fin2 _ _ h2 (jfr_trans f1 f2) (Or.inl rfl) (Or.inl rfl)) (fun hv => fin2 _ _ h2 (jfr_trans f1 f2) (Or.inr rfl) (Or.inr (Or.inr (big _ _ (by decide) hv)))))
        · refine z17_low_no (n := 4) ht h1 (by decide) (Or.inr ⟨rfl, by omega⟩) fun H2 h2 f2 => jT_g (s17 h2.1 ht).1 ?_
          rw [h2.2.2.2.2.2.1]
          unfold B_17_size_81 B_17_size_82
          exact jT_pos rfl (fin2 _ _ h2 (jfr_trans f1 f2) (Or.inl rfl) (Or.inl rfl))
      · refine jT_pos (fun q => c254 (w2.mp q)) ?_
        by_cases c255 : (jB H row p).toNat = 255
        · refine jT_neg (fun q => q (w3.mpr c255)) (jT_g k1 ?_)
          by_cases c2 : p + 1 + 8 ≤ e
          · refine z17_low_ok (n := 8) ht h1 c2 (by decide) fun H2 h2 f2 => jT_g (s17 h2.1 ht).1 ?_
            rw [h2.2.2.2.2.2.1]
            unfold B_17_size_129 B_17_size_125 B_17_size_130
            refine jT_neg (by decide) (jT_if (fun hv => fin2 _ _ h2 (jfr_trans f1 f2) (Or.inr rfl) (Or.inr (Or.inl hv))) (fun _ => jT_if (fun _ => fin2 _ _ h2 (jfr_trans f1 f2) (Or.inl rfl) (Or.inl rfl)) (fun hv => fin2 _ _ h2 (jfr_trans f1 f2) (Or.inr rfl) (Or.inr (Or.inr (big _ _ (by decide) hv))))))
          · refine z17_low_no (n := 8) ht h1 (by decide) (Or.inr ⟨rfl, by omega⟩) fun H2 h2 f2 => jT_g (s17 h2.1 ht).1 ?_
            rw [h2.2.2.2.2.2.1]
            unfold B_17_size_129 B_17_size_125 B_17_size_130
            exact jT_pos rfl (fin2 _ _ h2 (jfr_trans f1 f2) (Or.inl rfl) (Or.inl rfl))
        · refine jT_pos (fun q => c255 (w3.mp q)) ?_
          refine fin1 _ h1 f1 (Or.inr rfl) (Or.inr (Or.inr ?_))
          rcases hmo with rfl | rfl
          · exact w6.mpr hbig
          · exact w7.mpr hbig
end RTX
