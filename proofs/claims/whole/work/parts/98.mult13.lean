/-! Points.load and Points.multiple of the reference. -/
theorem eN_dbl {Q : ef × ef} (hQ : eg_c e7 Q) {n k : Nat} : eN (n / 2 ^ k) Q = if n / 2 ^ k % 2 = 0 then eg_add ef_iv (eN (n / 2 ^ (k + 1)) Q) (eN (n / 2 ^ (k + 1)) Q) else eg_add ef_iv (eg_add ef_iv (eN (n / 2 ^ (k + 1)) Q) (eN (n / 2 ^ (k + 1)) Q)) (some Q) := by
  have h1 : n / 2 ^ (k + 1) = n / 2 ^ k / 2 := by rw [Nat.pow_succ, Nat.div_div_eq_div_mul]
  rw [h1, ← ef_Nadd hQ]
  generalize n / 2 ^ k = f
  rcases (show f % 2 = 0 ∨ f % 2 = 1 by omega) with e | e
  · rw [if_pos e, show f / 2 + f / 2 = f by omega]
  · rw [if_neg (by omega)]
    have h2 : eN (f / 2 + f / 2 + 1) Q = eg_add ef_iv (eN (f / 2 + f / 2) Q) (some Q) := rfl
    rw [← h2, show f / 2 + f / 2 + 1 = f by omega]
def zSm13 : Nat → Prop := fun j => 25 ≤ j ∧ j ≤ 37
theorem zS25_m {j : Nat} (h : zS25 j) : zSm13 j := by
  unfold zS25 at h
  unfold zSm13
  omega
section ML13
variable {Q : Unit → jH → Prop} {H0 : jH}
theorem z13_load {i : Nat} {i' : Int32} {x y : ef} (ei : i' = Int32.ofNat i) (hi : i < 4) (hs : jsh H0) (hC : z13C H0) (hc : eg_c e7 (x, y)) (hx : zr H0 (10 + 2 * i) x.val) (hy : zr H0 (11 + 2 * i) y.val) (h0 : jI H0 433 i = 0) (hk : ∀ H', jsh H' → z13C H' → jf3 (fun j => 22 ≤ j ∧ j ≤ 24) H0 H' → zq3 H' 22 (some (x, y)) → Q () H') : jT (F_13_load 428 22 i' H0) Q := by
  subst ei
  unfold F_13_load B_13_load_49
  have e1 : 10 + 2 * Int32.ofNat i = Int32.ofNat (10 + 2 * i) := by rw [show (2 : Int32) = Int32.ofNat 2 from rfl, jo_mul, show (10 : Int32) = Int32.ofNat 10 from rfl, jo_add]
  have e2 : 11 + 2 * Int32.ofNat i = Int32.ofNat (11 + 2 * i) := by rw [show (2 : Int32) = Int32.ofNat 2 from rfl, jo_mul, show (11 : Int32) = Int32.ofNat 11 from rfl, jo_add]
  refine jT_g (k13 hs) (jT_b (z13_copyE (a := 22) rfl e1 (by decide) (by omega) ⟨by decide, by decide, by decide, by decide, by decide, by decide⟩ hs hC hx fun H1 s1 C1 f1 z1 => ?_))
  refine jT_g (k13 s1) (jT_b (z13_copyE (a := 23) (by decide) e2 (by decide) (by omega) ⟨by decide, by decide, by decide, by decide, by decide, by decide⟩ s1 C1 (zr_f3 hy f1 (by omega)) fun H2 s2 C2 f2 z2 => ?_))
  refine jT_g (k13 s2) (jT_b (z13_copyE (a := 24) (b := 20) (by decide) rfl (by decide) (by decide) ⟨by decide, by decide, by decide, by decide, by decide, by decide⟩ s2 C2 C2.2.2.2.2.1 fun H3 s3 C3 f3 z3 => ?_))
  have g : jf3 (fun j => 22 ≤ j ∧ j ≤ 24) H0 H3 := jf3_S (jf3_S (jf3_S jf3_refl f1 (by decide)) f2 (by decide)) f3 (by decide)
  have v : jI H3 433 i = 0 := (g.2.2.2.2.2.2 433 _ fun q => absurd q.1 (by decide)).trans h0
  refine jT_g (k13 s3) ?_
  rw [sR_428_4 s3, jo_nat (n := i) (by omega), v]
  refine jT_g (by rw [sK_433 s3]; exact ⟨rfl, jo_in (by omega) hi⟩) (jT_pos rfl (jT_ret (hk H3 s3 C3 g ⟨hc, x, y, 1, zr_f3 (zr_f3 z1 f2 (by decide)) f3 (by decide), zr_f3 z2 f3 (by decide), z3, by decide +kernel, ?_, ?_⟩)))
  · exact (Fin.mul_one x).symm
  · exact (Fin.mul_one y).symm
theorem z13_multiple {a n : Nat} {a' : Int32} {P : ef × ef} (ea : a' = Int32.ofNat a) (ha : 37 < a ∧ a < 48) (hs : jsh H0) (hC : z13C H0) (hp : zq3 H0 22 (some P)) (hn : zr H0 a n) (ln : n < t256) (h25 : ∃ X Y, zr H0 25 X ∧ zr H0 26 Y) (hk : ∀ H', jsh H' → z13C H' → jf3 zSm13 H0 H' → zq3 H' 25 (eN n P) → Q () H') : jT (F_13_multiple 428 a' H0) Q := by
  subst ea
  have hP : eg_c e7 P := hp.1
  have loop : ∀ (k fu : Nat) (H : jH), k ≤ 256 → k < fu → jsh H → z13C H → jf3 zSm13 H0 H → zq3 H 25 (eN (n / 2 ^ k) P) → jT (F_13_multiple_10 fu 428 (Int32.ofNat a) (Int32.ofInt (k - 1 : Int)) H) Q := by
    intro k
    induction k with
    | zero =>
      intro fu H h256 hfu hsH hCH hfr h25
      obtain ⟨fu, rfl⟩ : ∃ k, fu = k + 1 := ⟨fu - 1, by omega⟩
      unfold F_13_multiple_10 B_13_multiple_10
      rw [Nat.pow_zero, Nat.div_one] at h25
      exact jT_pos (by decide) (jT_ret (hk H hsH hCH hfr h25))
    | succ k ih =>
      intro fu H h256 hfu hsH hCH hfr h25
      obtain ⟨fu, rfl⟩ : ∃ k, fu = k + 1 := ⟨fu - 1, by omega⟩
      unfold F_13_multiple_10 B_13_multiple_10 B_13_multiple_29 B_13_multiple_54
      have ek : Int32.ofInt (((k + 1 : Nat) : Int) - 1) = Int32.ofNat k := by
        rw [show ((k + 1 : Nat) : Int) - 1 = (k : Int) by omega]
        exact (ji_ofInt (by omega)).symm
      have ek1 : Int32.ofNat k + (-1) = Int32.ofInt ((k : Int) - 1) := by
        rw [ji_ofInt (by omega), show (-1 : Int32) = Int32.ofInt (-1) from by decide, ji_add]
        rfl
      rw [ek, ek1]
      have hpN := eN_dbl hP (n := n) (k := k)
      -- after the doubling
      have rest : ∀ H', jsh H' → z13C H' → jf3 zSm13 H0 H' → zq3 H' 25 (eg_add ef_iv (eN (n / 2 ^ (k + 1)) P) (eN (n / 2 ^ (k + 1)) P)) → jT (jg ((jK H' 428).1 = 13) (jb (F_13_bit 428 (Int32.ofNat a) (Int32.ofNat k) H') fun x2 h3 => (if (x2 : Int32) = 0 then jl (Int32.ofInt ((k : Int) - 1)) fun x1 => F_13_multiple_10 fu 428 (Int32.ofNat a) x1 h3 else jg ((jK h3 428).1 = 13) (jb (F_13_copyPoint 428 28 22 h3) fun _ h5 => jg ((jK h5 428).1 = 13) (jb (F_13_join 428 25 28 h5) fun _ h7 => jl (Int32.ofInt ((k : Int) - 1)) fun x1 => F_13_multiple_10 fu 428 (Int32.ofNat a) x1 h7))))) Q := fun H' s' C' f' z' => by
        have hn' := zr_f3 hn f' (by unfold zSm13; omega)
        have hp' := zq3_f3 f' (by unfold zSm13; decide) (by unfold zSm13; decide) (by unfold zSm13; decide) hp
        refine jT_g (k13 s') (jT_b (z13_bit rfl rfl (by omega) (by omega) s' hn' ?_))
        rcases (show n / 2 ^ k % 2 = 0 ∨ n / 2 ^ k % 2 = 1 by omega) with q | q
        · rw [q, if_pos rfl] at hpN
          rw [q]
          exact jT_pos rfl (jT_l (ih fu H' (by omega) (by omega) s' C' f' (by rw [hpN]; exact z')))
        · rw [q, if_neg (by decide)] at hpN
          rw [q]
          refine jT_neg (by decide) (jT_g (k13 s') (jT_b (z13_cp25 (p := 28) (q := 22) rfl (Or.inr (Or.inl rfl)) rfl (Or.inl rfl) (by decide) s' C' hp' fun H1 s1 C1 f1 z1 => ?_)))
          have h25' := zq3_f3 f1 (by decide) (by decide) (by decide) z'
          refine jT_g (k13 s1) (jT_b (z13_join (q := 28) rfl (Or.inl rfl) s1 C1 h25' z1 fun H2 s2 C2 f2 z2 => jT_l (ih fu H2 (by omega) (by omega) s2 C2 (jf3_trans f' (jf3_trans (jf3_mono f1 fun j q => ?_) (jf3_mono f2 fun j q => zS25_m q))) (by rw [hpN]; exact z2))))
          have q2 : 28 ≤ j ∧ j ≤ 28 + 2 := q
          unfold zSm13
          omega
      refine jT_neg (by rw [show (0 : Int32) = Int32.ofNat 0 from rfl, jo_lt (by omega) (by decide)]; omega) ?_
      have hZ : ∃ z, zr H 27 z ∧ (z = 0 ↔ eN (n / 2 ^ (k + 1)) P = none) := by
        cases e : eN (n / 2 ^ (k + 1)) P with
        | none =>
          rw [e] at h25
          obtain ⟨_, _, _, _, h0⟩ := h25
          exact ⟨0, h0, by simp⟩
        | some o =>
          rw [e] at h25
          obtain ⟨_, _, _, Z, _, _, z, hz, _⟩ := h25
          exact ⟨Z.val, z, ⟨fun q => absurd (ev_0.mp q) hz, fun q => by cases q⟩⟩
      obtain ⟨z, hz, hz2⟩ := hZ
      refine jT_g (k13 hsH) (jT_b (z13_isNone (a := 25) rfl (by decide) hsH hz ?_))
      by_cases e : z = 0
      · rw [if_pos e]
        refine jT_pos (by decide) (rest H hsH hCH hfr ?_)
        have e2 := hz2.mp e
        rw [e2] at h25 ⊢
        exact h25
      · rw [if_neg e]
        refine jT_neg (by decide) ?_
        cases e3 : eN (n / 2 ^ (k + 1)) P with
        | none => exact absurd (hz2.mpr e3) e
        | some o =>
          rw [e3] at h25 rest
          refine jT_g (k13 hsH) (jT_b (z13_twice hsH hCH h25 fun H1 s1 C1 f1 z1 => rest H1 s1 C1 (jf3_trans hfr (jf3_mono f1 fun j q => zS25_m q)) z1))
  unfold F_13_multiple
  refine jT_g (k13 hs) (jT_b (z13_nothing (a := 27) rfl (by decide) hs fun H1 s1 f1 z1 => ?_))
  refine loop 256 jfuel H1 (Nat.le_refl _) (by unfold jfuel; omega) s1 (z13C_f3 hC f1 ⟨by decide, by decide, by decide, by decide, by decide, by decide⟩) (jf3_S jf3_refl f1 (by unfold zSm13; decide)) ?_
  have e0 : n / 2 ^ 256 = 0 := Nat.div_eq_of_lt ln
  rw [e0]
  obtain ⟨X, Y, hX, hY⟩ := h25
  exact ⟨X, Y, zr_f3 hX f1 (by decide), zr_f3 hY f1 (by decide), z1⟩
end ML13
