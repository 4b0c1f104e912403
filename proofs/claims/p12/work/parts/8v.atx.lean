/-! isAtX: whether the sum's x leaves r by the order. -/
/-- a point that is there, and its x leaves r -/
def hl_ok (o : Option (ef × ef)) (r : Nat) : Prop := ∃ q, o = some q ∧ q.1.val % nN = r
theorem hl_x {x : ef} {r : Nat} (hr : r < nN) : x.val % nN = r ↔ (ef_i (r : Int) = x ∨ (r + nN < np_P ∧ ef_i ((r + nN : Nat) : Int) = x)) := by
  have hx := x.isLt
  have hP : np_P = 115792089237316195423570985008687907853269984665640564039457584007908834671663 := rfl
  have hN : nN = 115792089237316195423570985008687907852837564279074904382605163141518161494337 := rfl
  have e1 : ∀ m : Nat, m < np_P → (ef_i (m : Int) = x ↔ x.val = m) := fun m hm => by
    refine ⟨fun e => ?_, fun e => by rw [← e]; exact ef_of x⟩
    have := ef_v (m : Int)
    rw [e, Int.emod_eq_of_lt (by omega) (by omega)] at this
    exact Int.ofNat_inj.mp this
  rw [e1 r (by omega)]
  refine ⟨fun h => ?_, fun h => ?_⟩
  · by_cases hl : x.val < nN
    · rw [Nat.mod_eq_of_lt hl] at h
      exact Or.inl h
    · refine Or.inr ?_
      have e2 : x.val = r + nN := by
        rw [Nat.mod_eq_sub_mod (by omega), Nat.mod_eq_of_lt (by omega)] at h
        omega
      exact ⟨by omega, (e1 _ (by omega)).mpr e2⟩
  · rcases h with h | ⟨h1, h2⟩
    · rw [h]
      exact Nat.mod_eq_of_lt hr
    · rw [(e1 _ h1).mp h2, Nat.add_mod_right]
      exact Nat.mod_eq_of_lt hr
section ATX
variable {R : Int32 → jH → Prop} {H0 : jH}
def zSx : Nat → Prop := fun a => a = 51 ∨ (76 ≤ a ∧ a < 92)
theorem zSx_18 : ∀ a, a < 18 → ¬ zSx a := fun a ha q => by
  unfold zSx at q
  omega
/-- the order is put to r -/
theorem z8_atx109 {k25 : Nat → Int32 → jH → Option (Int32 × jH)} {r : Nat} {t : Int32} {w0 : Nat → Nat} (hs : jsh H0) (hw0 : ∀ i, i < 8 → w0 i < 4294967296) (hv0 : nv 4294967296 w0 8 = r)
    (hno : ¬ r + nN < np_P → ∀ H', jfJ (· = 51) H0 H' → R 0 H') (hyes : r + nN < np_P → ∀ H', jfJ (· = 51) H0 H' → zN8 H' 51 (r + nN) → jT (k25 50 (t + 1) H') R) :
    ∀ (d i fu c : Nat) (w : Nat → Nat) (H : jH), i + d = 8 → d < fu → jfJ (· = 51) H0 H → zw8 H 51 8 w → (c = 0 ∨ c = 1) → nv 4294967296 w0 i + nv 4294967296 wN i = nv 4294967296 w i + c * 4294967296 ^ i → (∀ j, i ≤ j → w j = w0 j) → jT (F_8_isAtX_109 k25 fu 50 t (Int64.ofNat c) (Int32.ofNat i) H) R := by
  intro d
  induction d with
  | zero =>
    intro i fu c w H hi hfu hfr hw hc hv hsame
    obtain ⟨fu, rfl⟩ : ∃ k, fu = k + 1 := ⟨fu - 1, by omega⟩
    obtain rfl : i = 8 := by omega
    unfold F_8_isAtX_109 B_8_isAtX_109 B_8_isAtX_182
    have hsH := jsh_fJ hs hfr (fun a ha q => by omega)
    rw [hv0, wN_nv] at hv
    have hP : np_P = 115792089237316195423570985008687907853269984665640564039457584007908834671663 := rfl
    have e8 : (4294967296 : Nat) ^ 8 = 115792089237316195423570985008687907853269984665640564039457584007913129639936 := by decide
    refine jT_pos (by decide) ?_
    rcases hc with rfl | rfl
    · refine jT_neg (by decide) (jT_g (by rw [sK_50 hsH]) ?_)
      have hN : zN8 H 51 (r + nN) := ⟨w, hw, by omega⟩
      have vP : zN8 H 7 np_P := ⟨wP, fun i hi => ⟨sSt7 hsH i hi, wP_lt i⟩, wP_nv⟩
      refine jT_b (z8_isBelow (r := 51) (t := 7) (sR_50_1 hsH) rfl (sK_51 hsH) (sK hsH (a := 7) rfl (by decide) (by decide)) hN vP ?_)
      by_cases h : r + nN < np_P
      · rw [if_pos h]
        exact jT_pos (by decide) (jT_l (hyes h H hfr hN))
      · rw [if_neg h]
        exact jT_neg (by decide) (jT_g (by decide) (jT_ret (hno h H hfr)))
    · exact jT_pos (by decide) (jT_g (by decide) (jT_ret (hno (by omega) H hfr)))
  | succ d ih =>
    intro i fu c w H hi hfu hfr hw hc hv hsame
    obtain ⟨fu, rfl⟩ : ∃ k, fu = k + 1 := ⟨fu - 1, by omega⟩
    unfold F_8_isAtX_109 B_8_isAtX_109
    have hsH := jsh_fJ hs hfr (fun a ha q => by omega)
    have e1 : Int32.ofNat i + 1 = Int32.ofNat (i + 1) := jo_add (a := i) (b := 1)
    have vw := hw i (by omega)
    have hN := wN_lt i
    have k50 : (jK H 50).1 = 8 := by rw [sK_50 hsH]
    refine jT_neg (by rw [show (8 : Int32) = Int32.ofNat 8 from rfl, jo_le (by omega) (by omega)]; omega) (jT_g k50 ?_)
    rw [sR_50_1 hsH, jo_nat (n := i) (by omega), vw.1, sSt8 hsH i (by omega), lw_of vw.2, lw_of hN, lo_add, lo_add, e1]
    have hw2 := vw.2
    refine jT_g (gI (sK_51 hsH) (jo_in (by omega) (by omega))) (jT_g (gI (sK hsH (a := 8) (q := (100, 8)) rfl (by decide) (by decide)) (jo_in (by omega) (by omega))) (jT_l (jT_g k50 (jT_g (gIw (sK_51 hsH) (by decide) (jo_in (by omega) (by omega))) (jT_l (jT_l (jT_l ?_)))))))
    rw [show (32 : Int32) = Int32.ofNat 32 from rfl, lw_ushr (by omega) (by decide), lw_i32]
    obtain ⟨x, hx⟩ : ∃ x, x = c + (w i + wN i) := ⟨_, rfl⟩
    rw [← hx]
    refine ih (i + 1) fu (x / 2 ^ 32) (nup w i (x % 4294967296)) _ (by omega) (by omega) (jfJ_sI hfr rfl) (zw8_up hw (Nat.mod_lt _ (by decide))) (by omega) ?_ (fun j hj => ?_)
    · have e3 : nv 4294967296 (nup w i (x % 4294967296)) (i + 1) = nv 4294967296 w i + x % 4294967296 * 4294967296 ^ i := by
        show nv 4294967296 (nup w i (x % 4294967296)) i + nup w i (x % 4294967296) i * 4294967296 ^ i = _
        rw [nv_ext (u := w) fun j hj => by unfold nup; rw [if_neg (by omega)], show nup w i (x % 4294967296) i = x % 4294967296 from if_pos rfl]
      rw [e3]
      show nv 4294967296 w0 i + w0 i * 4294967296 ^ i + (nv 4294967296 wN i + wN i * 4294967296 ^ i) = nv 4294967296 w i + x % 4294967296 * 4294967296 ^ i + x / 4294967296 * 4294967296 ^ (i + 1)
      rw [← hsame i (Nat.le_refl i), Nat.pow_succ]
      generalize (4294967296 : Nat) ^ i = E at hv ⊢
      have e4 : x * E = c * E + w i * E + wN i * E := by
        rw [hx, Nat.add_mul, Nat.add_mul]
        omega
      have e5 : x * E = x % 4294967296 * E + x / 4294967296 * (E * 4294967296) := by
        have e := Nat.mod_add_div x 4294967296
        have : x * E = (x % 4294967296 + 4294967296 * (x / 4294967296)) * E := by rw [e]
        rw [this, Nat.add_mul]
        congr 1
        rw [Nat.mul_comm E, ← Nat.mul_assoc, Nat.mul_comm (x / 4294967296)]
      omega
    · unfold nup
      rw [if_neg (by omega)]
      exact hsame j (by omega)
theorem z8_atx25 {q : ef × ef} {X Z : ef} (hs : jsh H0) (hZ : Z ≠ 0) (hX : X = q.1 * (Z * Z)) (hx : zL H0 101 X 134217728) (hz : zL H0 76 (Z * Z) zRb)
    {t : Nat} {r : Nat} {H : jH} {fu : Nat} (ht : t < 2) (hfr : jfJ zSx H0 H) (hz2 : zL H 76 (Z * Z) zRb) (hr : zN8 H 51 r)
    (hyes : ef_i (r : Int) = q.1 → ∀ H', jfJ zSx H0 H' → R 1 H') (hno : ef_i (r : Int) ≠ q.1 → ¬ r + nN < np_P → ∀ H', jfJ zSx H0 H' → R 0 H')
    (hnext : ef_i (r : Int) ≠ q.1 → r + nN < np_P → ∀ H', jfJ zSx H0 H' → zL H' 76 (Z * Z) zRb → zN8 H' 51 (r + nN) → jT (F_8_isAtX_25 fu 50 (Int32.ofNat (t + 1)) H') R) :
    jT (F_8_isAtX_25 (fu + 1) 50 (Int32.ofNat t) H) R := by
  unfold F_8_isAtX_25 B_8_isAtX_25
  have et : Int32.ofNat t + 1 = Int32.ofNat (t + 1) := jo_add (a := t) (b := 1)
  have sH := jsh_fJ hs hfr zSx_18
  have xH := zL_fJ hx hfr (by unfold zSx; decide)
  have fx : ∀ H', jsh H' → (jK H' 50).1 = 8 ∧ jR H' 50 9 = 75 ∧ ((jK H' 75).1 = 112 ∧ jin (1) (jK H' 75).2) ∧ ((jK H' 75).1 = 112 ∧ jin (0) (jK H' 75).2) ∧ jR H' 75 (1 : Int32).toNatClampNeg = 77 ∧ jR H' 75 (0 : Int32).toNatClampNeg = 76 ∧ jK H' 77 = (103, 10) ∧ jK H' 76 = (103, 10) ∧ jR H' 50 15 = 100 ∧ (jK H' 100).1 = 5 ∧ jR H' 100 0 = 101 ∧ jK H' 101 = (103, 10) := fun H' h => by
    obtain ⟨a1, ⟨a2, -, -⟩, a5, -, -⟩ := sPt h (p := 100) ⟨1, by decide, rfl⟩
    exact ⟨by rw [sK_50 h], sR_50_9 h, by rw [sK75 h]; exact ⟨rfl, by decide⟩, by rw [sK75 h]; exact ⟨rfl, by decide⟩, (sWk h (k := 1) (by decide)).2, (sWk h (k := 0) (by decide)).2, (sWk h (k := 1) (by decide)).1, (sWk h (k := 0) (by decide)).1, sR_50_15 h, by rw [a1], a2, a5⟩
  obtain ⟨a1, a2, a3, a4, a5, a6, a7, a8, a9, a10, a11, a12⟩ := fx H sH
  refine jT_neg (by rw [show (2 : Int32) = Int32.ofNat 2 from rfl, jo_le (by omega) (by omega)]; omega) (jT_g a1 (jT_g a1 ?_))
  rw [a2]
  refine jT_g a3 (jT_b (z8_spread (r := 51) (t := 77) (sR_50_1 sH) a5 (sK_51 sH) a7 hr fun H1 f1 v1 => ?_))
  have s1 := jsh_fL sH f1
  obtain ⟨b1, b2, b3, b4, b5, b6, b7, b8, b9, b10, b11, b12⟩ := fx H1 s1
  refine jT_g b1 ?_
  rw [b2]
  refine jT_g b3 (jT_g b1 (jT_g b3 (jT_g b1 (jT_g b4 (jT_b (z5_mulE (a0 := 77) (a1 := 77) (a2 := 76) b5 b5 b6 b7 b7 b8 v1 (zL_fL hz2 f1 (by show ¬ (76 : Nat) = 77; decide)) (by decide) fun H2 f2 v2 => ?_))))))
  have s2 := jsh_fL s1 f2
  obtain ⟨c1, c2, c3, c4, c5, c6, c7, c8, c9, c10, c11, c12⟩ := fx H2 s2
  have F2 := jfL_trans f1 f2
  refine jT_g c1 ?_
  rw [c2]
  refine jT_g c3 (jT_g c1 (jT_g c3 (jT_g c1 ?_)))
  rw [c9]
  refine jT_g c10 (jT_b (z5_mixE (a0 := 77) (a1 := 77) (a2 := 101) (m := 1) (n := -1) (C := zBd) c5 c5 c11 c7 c7 c12 v2 (zL_fL xH F2 (by show ¬ (101 : Nat) = 77; decide)) rfl rfl (fun x y q1 q2 q3 q4 => by unfold zRb zBd at *; omega) fun H3 f3 v3 => ?_))
  have s3 := jsh_fL s2 f3
  obtain ⟨d1, d2, d3, d4, d5, d6, d7, d8, d9, d10, d11, d12⟩ := fx H3 s3
  refine jT_g d1 ?_
  rw [d2]
  refine jT_g d3 (jT_b (z5_normE (r := 77) d5 d7 v3 (by decide) fun H4 f4 => ?_))
  have F4 : jfL (· = 77) H H4 := jfL_trans F2 (jfL_trans f3 f4)
  have s4 := jsh_fL sH F4
  have G4 : jfJ zSx H0 H4 := jfJ_trans hfr (jfL_J (jfL_mono F4 fun a ha => by unfold zSx; omega))
  have hiff : ef_i 1 * (ef_i (r : Int) * (Z * Z)) + ef_i (-1) * X = 0 ↔ ef_i (r : Int) = q.1 := by
    rw [ef_c1, ef_m1, hX]
    refine ⟨fun e => ?_, fun e => ?_⟩
    · have e2 : (ef_i (r : Int) - q.1) * (Z * Z) = 0 := by
        generalize ef_i (r : Int) = u at e ⊢
        generalize q.1 = v at e ⊢
        generalize Z * Z = z at e ⊢
        clear hX hyes hno hnext v1 v2 v3
        grind
      exact ef_sub0 (ef_nz e2 (ef_nm hZ hZ))
    · rw [e]
      generalize q.1 * (Z * Z) = v
      clear hX hyes hno hnext v1 v2 v3
      grind
  by_cases hq : ef_i (r : Int) = q.1
  · rw [if_pos (hiff.mpr hq)]
    exact jT_neg (by decide) (jT_g (by decide) (jT_ret (hyes hq H4 G4)))
  · rw [if_neg (fun e => hq (hiff.mp e))]
    have z4 : zL H4 76 (Z * Z) zRb := zL_fL hz2 F4 (by show ¬ (76 : Nat) = 77; decide)
    obtain ⟨w, w1, w2⟩ := zN8_fJ hr (jfL_J F4) (by show ¬ (51 : Nat) = 77; decide)
    refine jT_pos rfl (z8_atx109 (r := r) (H0 := H4) s4 (fun i hi => (w1 i hi).2) w2 (fun h H' f' => hno hq h H' (jfJ_trans G4 (jfJ_mono f' fun a ha => Or.inl ha))) (fun h H' f' v' => ?_) 8 0 jfuel 0 w H4 rfl (by unfold jfuel; omega) jfJ_refl w1 (Or.inl rfl) (by show 0 + 0 = 0 + 0 * _; omega) fun _ _ => rfl)
    rw [et]
    exact hnext hq h H' (jfJ_trans G4 (jfJ_mono f' fun a ha => Or.inl ha)) (zL_fJ z4 f' (by show ¬ (76 : Nat) = 51; decide)) v'
theorem z8_isAtX {q : ef × ef} {r : Nat} (hs : jsh H0) (hp : zP5 H0 100 (some q)) (hr : zN8 H0 51 r) (hrN : r < nN) (hk : ∀ H', jfJ zSx H0 H' → R (if q.1.val % nN = r then 1 else 0) H') : jT (F_8_isAtX 50 H0) R := by
  obtain ⟨h3, hc, X, Y, Z, zx, zy, zz, hZ, hX, hY⟩ := hp
  obtain ⟨a1, ⟨a2, a3, a4⟩, a5, a6, a7⟩ := sPt hs (p := 100) ⟨1, by decide, rfl⟩
  have k50 : (jK H0 50).1 = 8 := by rw [sK_50 hs]
  have k100 : (jK H0 100).1 = 5 := by rw [a1]
  unfold F_8_isAtX
  refine jT_g k50 ?_
  rw [sR_50_9 hs, sR_50_15 hs]
  refine jT_g (by rw [sK75 hs]; exact ⟨rfl, by decide⟩) (jT_g k50 (jT_g k100 (jT_g k50 (jT_g k100 (jT_b (z5_mulE (a0 := 76) (a1 := 103) (a2 := 103) (sWk hs (k := 0) (by decide)).2 a4 a4 (sWk hs (k := 0) (by decide)).1 a7 a7 zz zz (by decide) fun H1 f1 v1 => ?_))))))
  have s1 := jsh_fL hs f1
  have x1 := zL_fL zx f1 (by show ¬ (101 : Nat) = 76; decide)
  have r1 := zN8_fJ hr (jfL_J f1) (by show ¬ (51 : Nat) = 76; decide)
  have F1 : jfJ zSx H0 H1 := jfL_J (jfL_mono f1 fun a ha => by unfold zSx; omega)
  have hiff := hl_x (x := q.1) hrN
  obtain ⟨f, ef⟩ : ∃ f, jfuel = f + 1 + 1 + 1 := ⟨4294967293, rfl⟩
  rw [ef]
  have yes : ∀ H', jfJ zSx H1 H' → q.1.val % nN = r → R 1 H' := fun H' f' e => by
    have := hk H' (jfJ_trans F1 f')
    rw [if_pos e] at this
    exact this
  have no : ∀ H', jfJ zSx H1 H' → ¬ q.1.val % nN = r → R 0 H' := fun H' f' e => by
    have := hk H' (jfJ_trans F1 f')
    rw [if_neg e] at this
    exact this
  refine z8_atx25 (t := 0) (q := q) (H0 := H1) s1 hZ hX x1 v1 (by decide) jfJ_refl v1 r1 (fun e H' f' => yes H' f' (hiff.mpr (Or.inl e))) (fun e1 e2 H' f' => no H' f' fun h => (hiff.mp h).elim e1 fun h => e2 h.1) fun e1 e2 H2 f2 v2 r2 => ?_
  refine z8_atx25 (t := 1) (q := q) (H0 := H1) s1 hZ hX x1 v1 (by decide) f2 v2 r2 (fun e H' f' => yes H' f' (hiff.mpr (Or.inr ⟨e2, e⟩))) (fun e3 e4 H' f' => no H' f' fun h => (hiff.mp h).elim e1 fun h => e3 h.2) fun e3 e4 H3 f3 v3 r3 => ?_
  unfold F_8_isAtX_25 B_8_isAtX_25
  exact jT_pos (by decide) (jT_g (by decide) (jT_ret (no H3 f3 fun h => (hiff.mp h).elim e1 fun h => e3 h.2)))
end ATX
