/-! The constants of the reference's points, as its constructor writes them. -/
def m13 (H : jH) : Prop := (jK H 428).1 = 13 ∧ jR H 428 0 = 429 ∧ jR H 428 3 = 432 ∧ jK H 429 = (100, 480) ∧ jK H 432 = (100, 20)
section M13
variable {Q : Unit → jH → Prop} {H0 : jH} {a : Nat} {w : Nat → Nat}
theorem m13_f3 {M : Nat → Prop} {H H1 : jH} (hs : m13 H) (h : jf3 M H H1) : m13 H1 := by
  obtain ⟨e1, e2, e3, e4, e5, e6, e7⟩ := h
  unfold m13
  rw [e1, e4]
  exact hs
theorem n429 {H : jH} (hs : m13 H) {k : Nat} (hk : k < 480) : (jK H 429).1 = 100 ∧ jin (Int32.ofNat k) (jK H 429).2 := gI hs.2.2.2.1 (jo_in (by omega) hk)
theorem n429w {H : jH} (hs : m13 H) {k : Nat} (hk : k < 480) : (jK H 429).1 = 100 ∧ jF0 ≤ 429 ∧ jin (Int32.ofNat k) (jK H 429).2 := gIw hs.2.2.2.1 (by decide) (jo_in (by omega) hk)
theorem y13_nothing2 {H0 : jH} {a : Nat} (ha : a < 48) (hs : m13 H0) (hk : ∀ H', jf3 (· = a) H0 H' → (∀ i, i < 10 → jI H' 429 (10 * a + i) = 0) → Q () H') :
    ∀ (d i fu : Nat) (H : jH), i + d = 10 → d < fu → jf3 (· = a) H0 H → (∀ j, j < i → jI H 429 (10 * a + j) = 0) → jT (F_13_nothing_2 fu 428 (Int32.ofNat a) (Int32.ofNat i) H) Q := by
  intro d
  induction d with
  | zero =>
    intro i fu H hi hfu hfr h1
    obtain ⟨fu, rfl⟩ : ∃ k, fu = k + 1 := ⟨fu - 1, by omega⟩
    obtain rfl : i = 10 := by omega
    unfold F_13_nothing_2 B_13_nothing_2
    exact jT_pos (by decide) (jT_ret (hk H hfr h1))
  | succ d ih =>
    intro i fu H hi hfu hfr h1
    obtain ⟨fu, rfl⟩ : ∃ k, fu = k + 1 := ⟨fu - 1, by omega⟩
    unfold F_13_nothing_2 B_13_nothing_2
    have hsH := m13_f3 hs hfr
    have e1 : Int32.ofNat i + 1 = Int32.ofNat (i + 1) := jo_add (a := i) (b := 1)
    rw [hsH.2.1, e10, e1, jo_nat (n := 10 * a + i) (by omega)]
    refine jT_neg (by rw [show (10 : Int32) = Int32.ofNat 10 from rfl, jo_le (by omega) (by omega)]; omega) (jT_g hsH.1 (jT_g (n429w hsH (by omega)) (jT_l (jT_l (ih (i + 1) fu _ (by omega) (by omega) (jf3_sI hfr (show (10 * a + i) / 10 = a by omega)) fun j hj => ?_)))))
    by_cases e : j = i
    · rw [e]
      exact jI_sIe
    · exact (jI_sIn (by omega)).trans (h1 j (by omega))
theorem y13_write {a' : Int32} {x0 x1 x2 x3 : Int64} (ea : a' = Int32.ofNat a) (e3 : x3 = Int64.ofNat (w 3)) (e2 : x2 = Int64.ofNat (w 2)) (e1 : x1 = Int64.ofNat (w 1)) (e0 : x0 = Int64.ofNat (w 0)) (hw : ∀ i, i < 4 → w i < 18446744073709551616) (ha : a < 48) (hs : m13 H0)
    (hk : ∀ H', m13 H' → jf3 (· = a) H0 H' → zr H' a (nv 18446744073709551616 w 4) → Q () H') : jT (F_13_write 428 a' x3 x2 x1 x0 H0) Q := by
  subst ea
  subst e3
  subst e2
  subst e1
  subst e0
  obtain ⟨N, hN⟩ : ∃ N, N = nv 18446744073709551616 w 4 := ⟨_, rfl⟩
  have loop : ∀ (d p fu : Nat) (H : jH), p + d = 256 → d < fu → jf3 (· = a) H0 H → zb13 H a (fun q => if q < p then N / 2 ^ q % 2 else 0) → jT (F_13_write_8 fu 428 (Int32.ofNat a) (Int64.ofNat (w 3)) (Int64.ofNat (w 2)) (Int64.ofNat (w 1)) (Int64.ofNat (w 0)) (Int32.ofNat p) H) Q := by
    intro d
    induction d with
    | zero =>
      intro p fu H hp hfu hfr hz
      obtain ⟨fu, rfl⟩ : ∃ k, fu = k + 1 := ⟨fu - 1, by omega⟩
      obtain rfl : p = 256 := by omega
      unfold F_13_write_8 B_13_write_8
      refine jT_pos (by decide) (jT_ret (hk H (m13_f3 hs hfr) hfr ?_))
      have hlt : N < 2 ^ 256 := by rw [hN]; exact nv64_lt hw
      rw [← hN]
      refine zb13_r hlt ?_
      have e : (fun q => if q < 256 then N / 2 ^ q % 2 else 0) = fun q => N / 2 ^ q % 2 := funext fun q => by
        by_cases h : q < 256
        · rw [if_pos h]
        · rw [if_neg h, Nat.div_eq_of_lt (Nat.lt_of_lt_of_le hlt (Nat.pow_le_pow_right (by decide) (by omega)))]
      rw [← e]
      exact hz
    | succ d ih =>
      intro p fu H hp hfu hfr hz
      obtain ⟨fu, rfl⟩ : ∃ k, fu = k + 1 := ⟨fu - 1, by omega⟩
      unfold F_13_write_8 B_13_write_8
      have hsH := m13_f3 hs hfr
      have ep1 : Int32.ofNat p + 1 = Int32.ofNat (p + 1) := jo_add (a := p) (b := 1)
      have ebit := nv64_bit hw (p := p) (by omega)
      rw [← hN] at ebit
      have hdig := hz (p / 26) (by omega)
      rw [show (64 : Int32) = Int32.ofNat 64 from rfl, show (26 : Int32) = Int32.ofNat 26 from rfl, jo_div (by omega) (by decide), jo_div (by omega) (by decide), jo_rem (by omega) (by decide), jo_rem (by omega) (by decide), e10, ep1, jo_nat (n := 10 * a + p / 26) (by omega)]
      refine jT_neg (by rw [show (256 : Int32) = Int32.ofNat 256 from rfl, jo_le (by omega) (by omega)]; omega) (jT_g (by decide) (jT_b (z13_wordOf (w := w) (k := p / 64) (by omega) (jT_g (by decide) (jT_l (jT_g hsH.1 ?_))))))
      rw [hsH.2.1, hdig, lo_bit (Nat.mod_lt _ (by decide)), jo_shl (Nat.lt_trans (Nat.mod_lt _ (by decide)) (by decide : 26 < 32)), ← ebit]
      refine jT_g (by decide) (jT_g (n429 hsH (by omega)) (jT_g (by decide) (jT_g (n429w hsH (by omega)) (jT_l (jT_l (ih (p + 1) fu _ (by omega) (by omega) (jf3_sI hfr (show (10 * a + p / 26) / 10 = a by omega)) ?_))))))
      have hset := zb13_set (p := p) (b := N / 2 ^ p % 2) hz (fun q => by
        show (if _ then _ else _) < 2
        split
        · exact Nat.mod_lt _ (by decide)
        · decide) (if_neg (by omega)) (by omega) (by omega)
      have e : nup (fun q => if q < p then N / 2 ^ q % 2 else 0) p (N / 2 ^ p % 2) = fun q => if q < p + 1 then N / 2 ^ q % 2 else 0 := funext fun q => by
        unfold nup
        by_cases h : q = p
        · rw [if_pos h, if_pos (by omega), h]
        · rw [if_neg h]
          show (if q < p then N / 2 ^ q % 2 else 0) = _
          by_cases h2 : q < p
          · rw [if_pos h2, if_pos (by omega)]
          · rw [if_neg h2, if_neg (by omega)]
      rw [← e]
      exact hset
  unfold F_13_write
  refine jT_g hs.1 (jT_b ?_)
  unfold F_13_nothing
  refine y13_nothing2 (H0 := H0) (a := a) ha hs (fun H1 f1 v1 => loop 256 0 jfuel H1 rfl (by unfold jfuel; omega) f1 ?_) 10 0 jfuel H0 rfl (by unfold jfuel; omega) jf3_refl fun j hj => absurd hj (Nat.not_lt_zero j)
  exact zb13_0 v1

/-- what is carried, what is left -/
def rcD (m i : Nat) : Int32 := Int32.ofNat (mM m / 67108864 ^ i % 67108864)
def rcC (m : Nat) : Nat → Int32
  | 0 => 0
  | i + 1 => jshr (rcC m i - rcD m i) 26
def rcV (m i : Nat) : Int32 := (rcC m i - rcD m i) &&& (if i < 9 then 67108863 else 4194303)
theorem rcV_ok : ∀ m, m < 2 → ∀ i, i < 5 → rcV m i = Int32.ofNat (mD m i) := by decide +kernel
theorem zr_dg {H : jH} {m n i : Nat} (h : zr H m n) (hi : i < 10) : jI H 429 (10 * m + i) = Int32.ofNat (n / 67108864 ^ i % 67108864) := by
  obtain ⟨u, h1, h2⟩ := h
  rw [(h1 i hi).1, ← h2, nv_digit (fun j hj => (h1 j hj).2) (by decide) hi]
def jf2 (H H' : jH) : Prop := jK H' = jK H ∧ jR H' = jR H ∧ ∀ j, jI H' 429 j = jI H 429 j
theorem y13_170 {k161 : Nat → Int32 → jH → Option (Unit × jH)} (q : Nat) (hq : q < 2) (hs0 : m13 H0) (hz : zr H0 (8 + q) (mM q)) (hk : ∀ H', jf2 H0 H' → (∀ j, j < 10 → jI H' 432 (10 * q + j) = rcV q j) → (∀ j, ¬ (10 * q ≤ j ∧ j < 10 * q + 10) → jI H' 432 j = jI H0 432 j) → jT (k161 428 (Int32.ofNat (q + 1)) H') Q) : ∀ (d i f : Nat) (H : jH), i + d = 10 → d < f → jf2 H0 H → (∀ j, j < i → jI H 432 (10 * q + j) = rcV q j) → (∀ j, ¬ (10 * q ≤ j ∧ j < 10 * q + 10) → jI H 432 j = jI H0 432 j) → jT (F_13_init_170 k161 f 428 (Int32.ofNat q) (rcC q i) (Int32.ofNat i) H) Q := by
  intro d
  induction d with
  | zero =>
    intro i f H hi hf hfr h1 h2
    obtain rfl : i = 10 := by omega
    obtain ⟨f, rfl⟩ : ∃ k, f = k + 1 := ⟨f - 1, by omega⟩
    unfold F_13_init_170 B_13_init_170
    have e_q : Int32.ofNat q + 1 = Int32.ofNat (q + 1) := jo_add (a := q) (b := 1)
    refine jT_pos (by decide) (jT_l ?_)
    rw [e_q]
    exact hk H hfr h1 h2
  | succ d ih =>
    intro i f H hi hf hfr h1 h2
    obtain ⟨f, rfl⟩ : ∃ k, f = k + 1 := ⟨f - 1, by omega⟩
    unfold F_13_init_170 B_13_init_170
    obtain ⟨a1, a2, a3, a4, a5⟩ := hs0
    have e : (10 : Int32) * (8 + Int32.ofNat q) + Int32.ofNat i = Int32.ofNat (10 * (8 + q) + i) := by
      rw [show (10 : Int32) = Int32.ofNat 10 from rfl, show (8 : Int32) = Int32.ofNat 8 from rfl, jo_add, jo_mul, jo_add]
    have e2 : (10 : Int32) * Int32.ofNat q + Int32.ofNat i = Int32.ofNat (10 * q + i) := by
      rw [show (10 : Int32) = Int32.ofNat 10 from rfl, jo_mul, jo_add]
    have e_i : Int32.ofNat i + 1 = Int32.ofNat (i + 1) := jo_add (a := i) (b := 1)
    have ev : jI H 429 (10 * (8 + q) + i) = rcD q i := (hfr.2.2 _).trans (zr_dg hz (by omega))
    rw [hfr.2.1, a2, a3, hfr.1, a4, e, e2, jo_nat (n := 10 * (8 + q) + i) (by omega), ev]
    refine jT_neg (by rw [show (10 : Int32) = Int32.ofNat 10 from rfl, jo_le (by omega) (by omega)]; omega) (jT_g a1 (jT_g ⟨rfl, jo_in (by omega) (by show 10 * (8 + q) + i < 480; omega)⟩ (jT_l (jT_g a1 ?_))))
    have key : ∀ z : Int32, rcV q i = (rcC q i - rcD q i) &&& z → jT (B_13_init_219 (F_13_init_170 k161 f) 428 (Int32.ofNat q) (Int32.ofNat i) (rcC q i - rcD q i) 432 (Int32.ofNat (10 * q + i)) (rcC q i - rcD q i) z H) Q := by
      intro z hv
      unfold B_13_init_219
      rw [hfr.1, a5, e_i, jo_nat (n := 10 * q + i) (by omega), ← hv]
      refine jT_g ⟨rfl, by decide, jo_in (by omega) (by show 10 * q + i < 20; omega)⟩ (jT_l (jT_l (jT_l (ih (i + 1) f _ (by omega) (by omega) ⟨hfr.1, hfr.2.1, fun j => (jI_sIa (by decide)).trans (hfr.2.2 j)⟩ (fun j hj => ?_) fun j hj => ?_))))
      · by_cases ej : j = i
        · rw [ej]
          exact jI_sIe
        · exact (jI_sIn (by omega)).trans (h1 j (by omega))
      · exact (jI_sIn (by omega)).trans (h2 j hj)
    refine jT_if (fun h9 => key _ ?_) (fun h9 => key _ ?_)
    · unfold rcV
      rw [if_neg]
      rw [show (9 : Int32) = Int32.ofNat 9 from rfl, jo_le (by omega) (by omega)] at h9
      omega
    · unfold rcV
      rw [if_pos]
      rw [show (9 : Int32) = Int32.ofNat 9 from rfl, jo_le (by omega) (by omega)] at h9
      omega
def wPw (n i : Nat) : Nat := n / 18446744073709551616 ^ i % 18446744073709551616
theorem wPw_lt (n i : Nat) : wPw n i < 18446744073709551616 := Nat.mod_lt _ (by decide)
theorem zr_one {H : jH} {m v : Nat} (hv : v < 67108864) (h0 : jI H 429 (10 * m) = Int32.ofNat v) (h : ∀ i, 1 ≤ i → i < 10 → jI H 429 (10 * m + i) = 0) : zr H m v := by
  refine ⟨fun i => if i = 0 then v else 0, fun i hi => ?_, ?_⟩
  · by_cases e : i = 0
    · subst e
      exact ⟨h0, hv⟩
    · exact ⟨(h i (by omega) hi).trans (congrArg Int32.ofNat (if_neg e).symm), by show (if i = 0 then v else 0) < _; rw [if_neg e]; decide⟩
  · rw [show (10 : Nat) = 1 + 9 from rfl, nv_cut, nv_succ, nv_nil, nv_zero (n := 9) (fun i _ => if_neg (by omega))]
    show 0 + v * 67108864 ^ 0 + 67108864 ^ 1 * 0 = v
    omega
theorem z13C_of {H : jH} (h : jPt H) : z13C H ∧ z25 H := by
  obtain ⟨HA, HB, ⟨a1, a2, a3, a4, a5, a6, a7⟩, hT, he⟩ := h
  have hs : m13 HA := ⟨a1, a2, a3, a4, a5⟩
  have key : jT (kTail HA) (fun _ h => z13C h ∧ z25 h) := by
    unfold kTail
    refine jT_b (y13_write (a := 8) (w := wPw np_P) rfl (by decide +kernel) (by decide +kernel) (by decide +kernel) (by decide +kernel) (fun i _ => wPw_lt _ i) (by decide) hs fun H1 s1 f1 z1 => jT_g s1.1 ?_)
    refine jT_b (y13_write (a := 9) (w := wPw nN) rfl (by decide +kernel) (by decide +kernel) (by decide +kernel) (by decide +kernel) (fun i _ => wPw_lt _ i) (by decide) s1 fun H2 s2 f2 z2 => jT_g s2.1 ?_)
    refine jT_b (y13_write (a := 18) (w := wPw eBx) rfl (by decide +kernel) (by decide +kernel) (by decide +kernel) (by decide +kernel) (fun i _ => wPw_lt _ i) (by decide) s2 fun H3 s3 f3 z3 => jT_g s3.1 ?_)
    refine jT_b (y13_write (a := 19) (w := wPw eBy) rfl (by decide +kernel) (by decide +kernel) (by decide +kernel) (by decide +kernel) (fun i _ => wPw_lt _ i) (by decide) s3 fun H4 s4 f4 z4 => jT_g s4.1 ?_)
    have n1 : nv 18446744073709551616 (wPw np_P) 4 = np_P := by decide +kernel
    have n2 : nv 18446744073709551616 (wPw nN) 4 = nN := by decide +kernel
    have n3 : nv 18446744073709551616 (wPw eBx) 4 = eBx := by decide +kernel
    have n4 : nv 18446744073709551616 (wPw eBy) 4 = eBy := by decide +kernel
    rw [n1] at z1
    rw [n2] at z2
    rw [n3] at z3
    rw [n4] at z4
    have g4 : jf3 (fun m => m = 8 ∨ m = 9 ∨ m = 18 ∨ m = 19) HA H4 := jf3_trans (jf3_trans (jf3_trans (jf3_mono f1 fun m e => Or.inl e) (jf3_mono f2 fun m e => Or.inr (Or.inl e))) (jf3_mono f3 fun m e => Or.inr (Or.inr (Or.inl e)))) (jf3_mono f4 fun m e => Or.inr (Or.inr (Or.inr e)))
    have r8 : zr H4 8 np_P := zr_f3 (zr_f3 (zr_f3 z1 f2 (by decide)) f3 (by decide)) f4 (by decide)
    have r9 : zr H4 9 nN := zr_f3 (zr_f3 z2 f3 (by decide)) f4 (by decide)
    have r18 : zr H4 18 eBx := zr_f3 z3 f4 (by decide)
    have z0 : ∀ j, j / 10 ≠ 8 → j / 10 ≠ 9 → j / 10 ≠ 18 → j / 10 ≠ 19 → jI H4 429 j = 0 := fun j e1 e2 e3 e4 => (g4.2.2.2.2.2.2 429 j fun q => by rcases q.2 with q | q | q | q <;> omega).trans (a6 j)
    have z0r : ∀ j, jI H4 432 j = 0 := fun j => (g4.2.2.2.2.2.2 432 j fun q => absurd q.1 (by decide)).trans (a7 j)
    rw [s4.2.1]
    refine jT_g (by rw [s4.2.2.2.1]; decide) (jT_l (jT_g s4.1 ?_))
    rw [show jR (jsI H4 429 (200 : Int32).toNatClampNeg 1) 428 0 = 429 from s4.2.1]
    refine jT_g (by show (jK H4 429).1 = 100 ∧ jF0 ≤ 429 ∧ jin 210 (jK H4 429).2; rw [s4.2.2.2.1]; decide) (jT_l ?_)
    obtain ⟨H6, e6⟩ : ∃ H6, H6 = jsI (jsI H4 429 (200 : Int32).toNatClampNeg 1) 429 (210 : Int32).toNatClampNeg 7 := ⟨_, rfl⟩
    rw [← e6]
    have s6 : m13 H6 := by rw [e6]; exact s4
    have w6 : ∀ j, jI H6 429 j = if j = 210 then 7 else if j = 200 then 1 else jI H4 429 j := fun j => by
      rw [e6, show (200 : Int32).toNatClampNeg = 200 from rfl, show (210 : Int32).toNatClampNeg = 210 from rfl]
      by_cases q1 : j = 210
      · rw [if_pos q1, q1]
        exact jI_sIe
      · rw [if_neg q1]
        by_cases q2 : j = 200
        · rw [if_pos q2, q2]
          exact (jI_sIn (by decide)).trans jI_sIe
        · rw [if_neg q2]
          exact (jI_sIn q1).trans (jI_sIn q2)
    have v6 : ∀ j, jI H6 432 j = 0 := fun j => by
      rw [e6]
      exact ((jI_sIa (by decide)).trans (jI_sIa (by decide))).trans (z0r j)
    have mv : ∀ m n, m ≠ 20 → m ≠ 21 → zr H4 m n → zr H6 m n := fun m n q1 q2 hz => by
      obtain ⟨u, h1, h2⟩ := hz
      exact ⟨u, fun i hi => ⟨by rw [w6, if_neg (by omega), if_neg (by omega)]; exact (h1 i hi).1, (h1 i hi).2⟩, h2⟩
    have fin : ∀ h, jf2 H6 h → (∀ j, j < 10 → jI h 432 j = rcV 0 j) → (∀ j, j < 10 → jI h 432 (10 + j) = rcV 1 j) → z13C h ∧ z25 h := fun h hf v0 v1 => by
      have mw : ∀ m n, zr H6 m n → zr h m n := fun m n hz => by
        obtain ⟨u, h1, h2⟩ := hz
        exact ⟨u, fun i hi => ⟨(hf.2.2 _).trans (h1 i hi).1, (h1 i hi).2⟩, h2⟩
      have zz : ∀ m, m ≠ 8 → m ≠ 9 → m ≠ 18 → m ≠ 19 → m ≠ 20 → m ≠ 21 → zr h m 0 := fun m q1 q2 q3 q4 q5 q6 => mw m 0 (mv m 0 q5 q6 (zr_one (by decide) (z0 _ (by omega) (by omega) (by omega) (by omega)) fun i _ hi => z0 _ (by omega) (by omega) (by omega) (by omega)))
      refine ⟨⟨mw _ _ (mv _ _ (by decide) (by decide) r8), mw _ _ (mv _ _ (by decide) (by decide) r9), mw _ _ (mv _ _ (by decide) (by decide) r18), mw _ _ (mv _ _ (by decide) (by decide) z4), mw _ _ (zr_one (by decide) ?_ ?_), mw _ _ (zr_one (by decide) ?_ ?_), ?_⟩, 0, 0, zz 25 (by decide) (by decide) (by decide) (by decide) (by decide) (by decide), zz 26 (by decide) (by decide) (by decide) (by decide) (by decide) (by decide)⟩
      · rw [w6]
        rfl
      · intro i q1 q2
        rw [w6, if_neg (by omega), if_neg (by omega)]
        exact z0 _ (by omega) (by omega) (by omega) (by omega)
      · rw [w6]
        rfl
      · intro i q1 q2
        rw [w6, if_neg (by omega), if_neg (by omega)]
        exact z0 _ (by omega) (by omega) (by omega) (by omega)
      · intro m i hm hi
        rcases (show m = 0 ∨ m = 1 by omega) with rfl | rfl
        · rw [Nat.mul_zero, Nat.zero_add, v0 i (by omega)]
          exact rcV_ok 0 (by decide) i hi
        · rw [Nat.mul_one, v1 i (by omega)]
          exact rcV_ok 1 (by decide) i hi
    obtain ⟨f, ef⟩ : ∃ f, jfuel = f + 3 := ⟨4294967293, rfl⟩
    rw [ef]
    unfold F_13_init_161 B_13_init_161
    refine jT_neg (by decide) (y13_170 0 (by decide) s6 (mv _ _ (by decide) (by decide) r8) (fun H7 f7 q7 o7 => ?_) 10 0 jfuel H6 rfl (by unfold jfuel; omega) ⟨rfl, rfl, fun _ => rfl⟩ (fun j hj => absurd hj (Nat.not_lt_zero j)) fun _ _ => rfl)
    unfold F_13_init_161 B_13_init_161
    have s7 : m13 H7 := by
      unfold m13
      rw [f7.1, f7.2.1]
      exact s6
    have r97 : zr H7 9 nN := by
      obtain ⟨u, h1, h2⟩ := mv 9 nN (by decide) (by decide) r9
      exact ⟨u, fun i hi => ⟨(f7.2.2 _).trans (h1 i hi).1, (h1 i hi).2⟩, h2⟩
    refine jT_neg (by decide) (y13_170 1 (by decide) s7 r97 (fun H8 f8 q8 o8 => ?_) 10 0 jfuel H7 rfl (by unfold jfuel; omega) ⟨rfl, rfl, fun _ => rfl⟩ (fun j hj => absurd hj (Nat.not_lt_zero j)) fun _ _ => rfl)
    unfold F_13_init_161 B_13_init_161
    refine jT_pos (by decide) (jT_ret (fin H8 ⟨f8.1.trans f7.1, f8.2.1.trans f7.2.1, fun j => (f8.2.2 j).trans (f7.2.2 j)⟩ (fun j hj => ?_) fun j hj => q8 j hj))
    rw [o8 j (by omega)]
    have := q7 j hj
    rw [Nat.mul_zero, Nat.zero_add] at this
    exact this
  obtain ⟨x, hx, hQ⟩ := key
  have ex : x.2 = HB := (congrArg (fun o => o.map (·.2)) (hx.symm.trans hT) |> Option.some.inj)
  rw [ex] at hQ
  obtain ⟨hC, X, Y, hX, hY⟩ := hQ
  have mw : ∀ m n, zr HB m n → zr H m n := fun m n hz => by
    obtain ⟨u, h1, h2⟩ := hz
    exact ⟨u, fun i hi => ⟨(he _).1.trans (h1 i hi).1, (h1 i hi).2⟩, h2⟩
  obtain ⟨c1, c2, c3, c4, c5, c6, c7⟩ := hC
  exact ⟨⟨mw _ _ c1, mw _ _ c2, mw _ _ c3, mw _ _ c4, mw _ _ c5, mw _ _ c6, fun m i hm hi => (he _).2.trans (c7 m i hm hi)⟩, X, Y, mw _ _ hX, mw _ _ hY⟩
end M13
