/-! Point.set, Point.unit. -/
def zS4 (p : Nat) : Nat → Prop := fun a => p ≤ a ∧ a ≤ p + 3
theorem zL_neg {H H' : jH} {r s : Nat} {v : ef} {B : Int} (h : zL H r v B) (he : ∀ j, j < 10 → jL H' s j = -jL H r j) : zL H' s (-v) B := by
  obtain ⟨f, h1, h2, h3⟩ := h
  refine ⟨fun i => -f i, fun i hi => by rw [he i hi, h1 i hi, li_neg], fun i hi => by have := h2 i hi; show -B ≤ -f i ∧ -f i ≤ B; omega, ?_⟩
  rw [← h3, ← ef_neg]
  refine congrArg ef_i ?_
  unfold fe
  dsimp only
  omega
theorem zL_cp {H H' : jH} {r s : Nat} {v : ef} {B : Int} (h : zL H r v B) (he : ∀ j, j < 10 → jL H' s j = jL H r j) : zL H' s v B := by
  obtain ⟨f, h1, h2, h3⟩ := h
  exact ⟨f, fun i hi => by rw [he i hi, h1 i hi], h2, h3⟩
section SET
variable {Q : Unit → jH → Prop} {p q : Nat} {m : Int32} {H0 : jH}
theorem z5_set2 (hs : jsh H0) (hp : zpt p) (hq : zpt q) (hne : p ≠ q)
    (hk : ∀ H', jfJ (zS4 p) H0 H' → jI H' p 3 = jI H0 q 3 → (∀ j, j < 10 → jL H' (p + 1) j = jL H0 (q + 1) j ∧ jL H' (p + 2) j = (if m = 0 then jL H0 (q + 2) j else -jL H0 (q + 2) j) ∧ jL H' (p + 3) j = jL H0 (q + 3) j) → Q () H') (hb : jI H0 q 3 = 0 ∨ jI H0 q 3 = 1) :
    ∀ (d i fu : Nat) (H : jH), i + d = 10 → d < fu → jfL (fun a => p < a ∧ a ≤ p + 3) H0 H → (∀ j, j < i → jL H (p + 1) j = jL H0 (q + 1) j ∧ jL H (p + 2) j = (if m = 0 then jL H0 (q + 2) j else -jL H0 (q + 2) j) ∧ jL H (p + 3) j = jL H0 (q + 3) j) →
      jT (F_5_set_2 fu p q m (Int32.ofNat i) H) Q := by
  obtain ⟨kp, ⟨rx, ry, rz⟩, kx, ky, kz⟩ := sPt hs hp
  obtain ⟨kq, ⟨qx, qy, qz⟩, lx, ly, lz⟩ := sPt hs hq
  have dis := zpt_ne hp hq hne
  intro d
  induction d with
  | zero =>
    intro i fu H hi hfu hfr h1
    obtain ⟨fu, rfl⟩ : ∃ k, fu = k + 1 := ⟨fu - 1, by omega⟩
    obtain rfl : i = 10 := by omega
    unfold F_5_set_2 B_5_set_2
    have eI : jI H = jI H0 := hfr.2.2.2.1
    refine jT_pos (by decide) (jT_g (by rw [hfr.1, kq]) (jT_g ⟨by rw [hfr.1, kp], by rw [eI]; exact hb⟩ (jT_l (jT_ret (hk _ (jfJ_sI (jfL_J (jfL_mono hfr fun a ha => ⟨by omega, ha.2⟩)) ⟨Nat.le_refl p, by omega⟩) ?_ fun j hj => h1 j hj)))))
    rw [← eI]
    exact jI_sIe
  | succ d ih =>
    intro i fu H hi hfu hfr h1
    obtain ⟨fu, rfl⟩ : ∃ k, fu = k + 1 := ⟨fu - 1, by omega⟩
    unfold F_5_set_2 B_5_set_2
    have e1 : Int32.ofNat i + 1 = Int32.ofNat (i + 1) := jo_add (a := i) (b := 1)
    have hsame : ∀ (H' : jH), jfL (fun a => p < a ∧ a ≤ p + 3) H0 H' → (jK H' p).1 = 5 ∧ (jK H' q).1 = 5 ∧ jR H' p 0 = p + 1 ∧ jR H' p 1 = p + 2 ∧ jR H' p 2 = p + 3 ∧ jR H' q 0 = q + 1 ∧ jR H' q 1 = q + 2 ∧ jR H' q 2 = q + 3 ∧ jK H' (p + 1) = (103, 10) ∧ jK H' (p + 2) = (103, 10) ∧ jK H' (p + 3) = (103, 10) ∧ jK H' (q + 1) = (103, 10) ∧ jK H' (q + 2) = (103, 10) ∧ jK H' (q + 3) = (103, 10) ∧ (∀ j, jL H' (q + 1) j = jL H0 (q + 1) j) ∧ (∀ j, jL H' (q + 2) j = jL H0 (q + 2) j) ∧ ∀ j, jL H' (q + 3) j = jL H0 (q + 3) j := fun H' hf => by
      rw [hf.1, hf.2.2.2.2.1]
      exact ⟨by rw [kp], by rw [kq], rx, ry, rz, qx, qy, qz, kx, ky, kz, lx, ly, lz, hf.2.2.2.2.2.2 _ (by omega), hf.2.2.2.2.2.2 _ (by omega), hf.2.2.2.2.2.2 _ (by omega)⟩
    obtain ⟨a1, a2, a3, a4, a5, a6, a7, a8, a9, a10, a11, a12, a13, a14, a15, a16, a17⟩ := hsame H hfr
    have ji : jin (Int32.ofNat i) 10 := jo_in (by omega) (by omega)
    refine jT_neg (by rw [show (10 : Int32) = Int32.ofNat 10 from rfl, jo_le (by omega) (by omega)]; omega) (jT_g a1 (jT_g a2 ?_))
    rw [a6, a3]
    refine jT_g (gL a12 ji) (jT_g (gL a9 ji) (jT_l ?_))
    rw [jo_nat (n := i) (by omega), a15]
    have f1 := jfL_sL (a := p + 1) (i := i) (v := jL H0 (q + 1) i) hfr (by omega)
    have w1 : ∀ j, j < i + 1 → jL (jsL H (p + 1) i (jL H0 (q + 1) i)) (p + 1) j = jL H0 (q + 1) j := fun j hj => by
      by_cases e : j = i
      · rw [e]
        exact jup_eq
      · exact (jup_i e).trans (h1 j (by omega)).1
    have w2 : ∀ j, jL (jsL H (p + 1) i (jL H0 (q + 1) i)) (p + 2) j = jL H (p + 2) j := fun j => jup_a (by omega)
    have w3 : ∀ j, jL (jsL H (p + 1) i (jL H0 (q + 1) i)) (p + 3) j = jL H (p + 3) j := fun j => jup_a (by omega)
    generalize jsL H (p + 1) i (jL H0 (q + 1) i) = H1 at f1 w1 w2 w3
    obtain ⟨b1, b2, b3, b4, b5, b6, b7, b8, b9, b10, b11, b12, b13, b14, b15, b16, b17⟩ := hsame H1 f1
    refine jT_g b1 ?_
    have tail : ∀ v : Int64, v = (if m = 0 then jL H0 (q + 2) i else -jL H0 (q + 2) i) → jT (B_5_set_45 (F_5_set_2 fu) p q m (Int32.ofNat i) (p + 2) (Int32.ofNat i) v H1) Q := fun v hv => by
      unfold B_5_set_45
      refine jT_g (gL b10 ji) (jT_l ?_)
      rw [jo_nat (n := i) (by omega)]
      have f2 := jfL_sL (a := p + 2) (i := i) (v := v) f1 (by omega)
      have x1 : ∀ j, jL (jsL H1 (p + 2) i v) (p + 1) j = jL H1 (p + 1) j := fun j => jup_a (by omega)
      have x2 : ∀ j, j < i + 1 → jL (jsL H1 (p + 2) i v) (p + 2) j = (if m = 0 then jL H0 (q + 2) j else -jL H0 (q + 2) j) := fun j hj => by
        by_cases e : j = i
        · rw [e, ← hv]
          exact jup_eq
        · exact (jup_i e).trans ((w2 j).trans (h1 j (by omega)).2.1)
      have x3 : ∀ j, jL (jsL H1 (p + 2) i v) (p + 3) j = jL H1 (p + 3) j := fun j => jup_a (by omega)
      generalize jsL H1 (p + 2) i v = H2 at f2 x1 x2 x3
      obtain ⟨c1, c2, c3, c4, c5, c6, c7, c8, c9, c10, c11, c12, c13, c14, c15, c16, c17⟩ := hsame H2 f2
      refine jT_g c1 (jT_g c2 ?_)
      rw [c8, c5]
      refine jT_g (gL c14 ji) (jT_g (gL c11 ji) (jT_l (jT_l ?_)))
      rw [c17, e1]
      refine ih (i + 1) fu _ (by omega) (by omega) (jfL_sL f2 (by omega)) fun j hj => ⟨(jup_a (by omega)).trans ((x1 j).trans (w1 j hj)), (jup_a (by omega)).trans (x2 j hj), ?_⟩
      by_cases e : j = i
      · rw [e]
        exact jup_eq
      · exact (jup_i e).trans ((x3 j).trans ((w3 j).trans (h1 j (by omega)).2.2))
    by_cases hm : m = 0
    · refine jT_pos hm (jT_g b2 ?_)
      rw [b7, b4, b16]
      exact jT_g (gL b13 ji) (tail _ (by rw [if_pos hm]))
    · refine jT_neg hm (jT_g b2 ?_)
      rw [b7, b4, b16]
      exact jT_g (gL b13 ji) (tail _ (by rw [if_neg hm]))
theorem z5_set {o : Option (ef × ef)} (hs : jsh H0) (hp : zpt p) (hq : zpt q) (hne : p ≠ q) (h : zP5 H0 q o) (hk : ∀ H', jfJ (zS4 p) H0 H' → zP5 H' p (if m = 0 then o else eg_neg o) → Q () H') : jT (F_5_set p q m H0) Q := by
  have hb : jI H0 q 3 = 0 ∨ jI H0 q 3 = 1 := by
    cases o with
    | none => exact Or.inr h
    | some _ => exact Or.inl h.1
  unfold F_5_set
  refine z5_set2 hs hp hq hne (fun H' hf hi hj => hk H' hf ?_) hb 10 0 jfuel H0 rfl (by unfold jfuel; omega) jfL_refl fun j hj => absurd hj (Nat.not_lt_zero j)
  cases o with
  | none =>
    have : (if m = 0 then (none : Option (ef × ef)) else eg_neg none) = none := by split <;> rfl
    rw [this]
    exact hi.trans h
  | some s =>
    obtain ⟨h1, h2, X, Y, Z, zx, zy, zz, hZ, hX, hY⟩ := h
    by_cases hm : m = 0
    · rw [if_pos hm]
      exact ⟨hi.trans h1, h2, X, Y, Z, zL_cp zx fun j hj' => (hj j hj').1, zL_cp zy fun j hj' => (hj j hj').2.1.trans (if_pos hm), zL_cp zz fun j hj' => (hj j hj').2.2, hZ, hX, hY⟩
    · rw [if_neg hm]
      refine ⟨hi.trans h1, eg_m_c h2, X, -Y, Z, zL_cp zx fun j hj' => (hj j hj').1, zL_neg zy fun j hj' => (hj j hj').2.1.trans (if_neg hm), zL_cp zz fun j hj' => (hj j hj').2.2, hZ, hX, ?_⟩
      show -Y = -s.2 * (Z * Z * Z)
      rw [hY]
      generalize s.2 = y
      clear hk hj hi hX hY zx zy zz
      grind
end SET
section UNIT
variable {Q : Unit → jH → Prop} {r : Nat} {H0 : jH}
theorem zA_fill2 {v : Int64} {n : Nat} (k0 : jK H0 r = (103, n)) (hn : n < 2147483648) (hk : ∀ H', jfL (· = r) H0 H' → (∀ j, j < n → jL H' r j = v) → Q () H') :
    ∀ (d i fu : Nat) (H : jH), i + d = n → d < fu → jfL (· = r) H0 H → (∀ j, j < i → jL H r j = v) → jT (F_A_fill_2_6 fu r v (Int32.ofNat i) (Int32.ofNat n) H) Q := by
  intro d
  induction d with
  | zero =>
    intro i fu H hi hfu hfr h1
    obtain ⟨fu, rfl⟩ : ∃ k, fu = k + 1 := ⟨fu - 1, by omega⟩
    unfold F_A_fill_2_6 B_A_fill_2_6
    exact jT_pos (by rw [jo_le (by omega) (by omega)]; omega) (jT_ret (hk H hfr fun j hj => h1 j (by omega)))
  | succ d ih =>
    intro i fu H hi hfu hfr h1
    obtain ⟨fu, rfl⟩ : ∃ k, fu = k + 1 := ⟨fu - 1, by omega⟩
    unfold F_A_fill_2_6 B_A_fill_2_6
    have e1 : Int32.ofNat i + 1 = Int32.ofNat (i + 1) := jo_add (a := i) (b := 1)
    have kH : jK H r = (103, n) := by rw [hfr.1, k0]
    rw [e1, jo_nat (n := i) (by omega)]
    refine jT_neg (by rw [jo_le (by omega) (by omega)]; omega) (jT_g (by rw [kH]; exact ⟨rfl, jo_in (by omega) (by show i < n; omega)⟩) (jT_l (jT_l (ih (i + 1) fu _ (by omega) (by omega) (jfL_sL hfr rfl) fun j hj => ?_))))
    by_cases e : j = i
    · rw [e]
      exact jup_eq
    · exact (jup_i e).trans (h1 j (by omega))
theorem zA_fillL {t : Nat} {v : Int64} {n : Nat} (e : t = r) (k0 : jK H0 r = (103, n)) (hn : n < 2147483648) (hnf : n < 4294967296) (hk : ∀ H', jfL (· = r) H0 H' → (∀ j, j < n → jL H' r j = v) → Q () H') : jT (F_A_fill_2 t v H0) Q := by
  subst e
  unfold F_A_fill_2
  rw [k0]
  exact jT_g rfl (jT_l (zA_fill2 k0 hn hk n 0 jfuel H0 (by omega) (by unfold jfuel; omega) jfL_refl fun j hj => absurd hj (Nat.not_lt_zero j)))
/-- x and y of a point stand for themselves then -/
theorem z5_unit {p : Nat} {x y : ef} {A B : Int} (hs : jsh H0) (hp : zpt p) (hx : zL H0 (p + 1) x A) (hA : A ≤ 134217728) (hy : zL H0 (p + 2) y B) (hB : B ≤ zBd) (hc : eg_c e7 (x, y))
    (hk : ∀ H', jfJ (zS4 p) H0 H' → zP5 H' p (some (x, y)) → Q () H') : jT (F_5_unit p H0) Q := by
  obtain ⟨kp, ⟨rx, ry, rz⟩, kx, ky, kz⟩ := sPt hs hp
  unfold F_5_unit
  refine jT_g (by rw [kp]) (jT_b (zA_fillL (r := p + 3) (n := 10) rz kz (by decide) (by decide) fun H1 f1 h1 => ?_))
  have eR : jR H1 = jR H0 := f1.2.2.2.2.1
  have kp1 : (jK H1 p).1 = 5 := by rw [f1.1, kp]
  refine jT_g kp1 ?_
  rw [eR, rz]
  refine jT_g (gL (by rw [f1.1]; exact kz) (by decide)) (jT_l (jT_g ⟨kp1, Or.inl rfl⟩ (jT_l (jT_ret ?_))))
  have f2 := jfL_sL (a := p + 3) (i := (0 : Int32).toNatClampNeg) (v := 1) f1 rfl
  refine hk _ (jfJ_sI (jfL_J (jfL_mono f2 fun a ha => by rw [ha]; exact ⟨by omega, by omega⟩)) ⟨Nat.le_refl p, by omega⟩) ⟨jI_sIe, hc, x, y, 1, ?_, ?_, ?_, by decide +kernel, ?_, ?_⟩
  · have hx2 : zL (jsL H1 (p + 3) (0 : Int32).toNatClampNeg 1) (p + 1) x A := zL_fL hx f2 (by show ¬ p + 1 = p + 3; omega)
    exact zL_cp (zL_mono hx2 hA) fun _ _ => rfl
  · have hy2 : zL (jsL H1 (p + 3) (0 : Int32).toNatClampNeg 1) (p + 2) y B := zL_fL hy f2 (by show ¬ p + 2 = p + 3; omega)
    exact zL_cp (zL_mono hy2 hB) fun _ _ => rfl
  · refine ⟨fun j => if j = 0 then 1 else 0, fun j hj => ?_, fun j _ => ?_, ?_⟩
    · show jL (jsL H1 (p + 3) 0 1) (p + 3) j = _
      by_cases e : j = 0
      · rw [e]
        exact jup_eq
      · rw [show jL (jsL H1 (p + 3) 0 1) (p + 3) j = jL H1 (p + 3) j from jup_i e, h1 j hj]
        show _ = Int64.ofInt (if j = 0 then 1 else 0)
        rw [if_neg e]
        rfl
    · unfold zBd
      show -411041792 ≤ (if j = 0 then (1 : Int) else 0) ∧ (if j = 0 then (1 : Int) else 0) ≤ 411041792
      split <;> omega
    · show ef_i (fe fun j => if j = 0 then 1 else 0) = 1
      rw [show (fe fun j => if j = 0 then 1 else 0) = 1 by decide]
      exact ef_1
  · show x = x * (1 * 1)
    clear hk
    grind
  · show y = y * (1 * 1 * 1)
    clear hk
    grind
end UNIT
