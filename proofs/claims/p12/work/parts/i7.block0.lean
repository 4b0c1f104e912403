/-! A block of a message: the class reads it. -/
theorem z0_init {t row len : Nat} {H : jH} (hs : jsh H) (ht : t < jn H) (h5 : 422 ≤ t) (hk : (jK H t).1 = 0) (hkr : jK H row = (101, len)) (hrow : row < jn H) (hne : row ≠ t) (hl : 77 ≤ len) (hlen : len < 2000000) (hz : ∀ j, jI H t j = 0 ∧ jL H t j = 0 ∧ jR H t j = 0) :
    jT (F_0_init t row H) (fun _ h => jsh h ∧ jgx (fun a _ => a = t) 3 40 H h ∧ jn h = jn H + 3 ∧ (jR h t 0 = row ∧ jR h t 1 = jn H ∧ jR h t 4 = jn H + 1 ∧ jR h t 8 = jn H + 2 ∧ jR h t 5 = 0) ∧ (jK h (jn H) = (101, 32) ∧ jK h (jn H + 1) = (113, 0) ∧ jK h (jn H + 2) = (100, 8)) ∧ jI h t 2 = zlow (jB H row) 73 ∧ jL h t 3 = (Int32.toInt64 (zlow (jB H row) 69)) &&& 4294967295 ∧ (∀ j, j ≠ 2 → jI h t j = 0)) := by
  unfold F_0_init
  refine jT_g (by unfold jF0; omega) (jT_g (by decide) ?_)
  refine st_new hs (kk := 32) rfl fun H1 hs1 n1 m1 k1 ko1 o1 z1 => ?_
  have c1 : (jK H1 t).1 = 0 := by rw [ko1 t ht]; exact hk
  refine st_sR hs1 c1 h5 fun H2 hs2 n2 m2 k2 i2 l2 b2 r2 o2 => jT_g (by decide) ?_
  refine st_new hs2 (kk := 0) rfl fun H3 hs3 n3 m3 k3 ko3 o3 z3 => ?_
  have c3 : (jK H3 t).1 = 0 := by rw [ko3 t (by omega), k2]; exact c1
  refine st_sR hs3 c3 h5 fun H4 hs4 n4 m4 k4 i4 l4 b4 r4 o4 => jT_g (by decide) ?_
  refine st_new hs4 (kk := 8) rfl fun H5 hs5 n5 m5 k5 ko5 o5 z5' => ?_
  have c5 : (jK H5 t).1 = 0 := by rw [ko5 t (by omega), k4]; exact c3
  refine st_sR hs5 c5 h5 fun H6 hs6 n6 m6 k6 i6 l6 b6 r6 o6 => ?_
  have c6 : (jK H6 t).1 = 0 := by rw [k6]; exact c5
  refine st_sR hs6 c6 h5 fun H7 hs7 n7 m7 k7 i7 l7 b7 r7 o7 => ?_
  have c7 : (jK H7 t).1 = 0 := by rw [k7]; exact c6
  have hI : ∀ a j, a < jn H → jI H7 a j = jI H a j := fun a j ha => by
    rw [i7, i6, (o5 a j (by omega)).1, i4, (o3 a j (by omega)).1, i2]
    exact (o1 a j ha).1
  have hL : ∀ a j, a < jn H → jL H7 a j = jL H a j := fun a j ha => by
    rw [l7, l6, (o5 a j (by omega)).2.1, l4, (o3 a j (by omega)).2.1, l2]
    exact (o1 a j ha).2.1
  have hB : ∀ a j, a < jn H → jB H7 a j = jB H a j := fun a j ha => by
    rw [b7, b6, (o5 a j (by omega)).2.2.2, b4, (o3 a j (by omega)).2.2.2, b2]
    exact (o1 a j ha).2.2.2
  have hR : ∀ a j, a < jn H → ¬ (a = t ∧ (j = 0 ∨ j = 1 ∨ j = 4 ∨ j = 8)) → jR H7 a j = jR H a j := fun a j ha hne => by
    rw [o7 a j (by omega), o6 a j (by omega), (o5 a j (by omega)).2.2.1, o4 a j (by omega), (o3 a j (by omega)).2.2.1, o2 a j (by omega)]
    exact (o1 a j ha).2.2.1
  have hK : ∀ a, a < jn H → jK H7 a = jK H a := fun a ha => by
    rw [k7, k6, ko5 a (by omega), k4, ko3 a (by omega), k2]
    exact ko1 a ha
  have w1 : jR H7 t 1 = jn H := by
    rw [o7 t 1 (by omega), o6 t 1 (by omega), (o5 t 1 (by omega)).2.2.1, o4 t 1 (by omega), (o3 t 1 (by omega)).2.2.1]
    exact r2
  have w4 : jR H7 t 4 = jn H + 1 := by
    rw [o7 t 4 (by omega), o6 t 4 (by omega), (o5 t 4 (by omega)).2.2.1, r4]
    omega
  have w8 : jR H7 t 8 = jn H + 2 := by
    rw [o7 t 8 (by omega), r6]
    omega
  have w5 : jR H7 t 5 = 0 := (hR t 5 ht (by omega)).trans (hz 5).2.2
  have q1 : jK H7 (jn H) = (101, 32) := by
    rw [k7, k6, ko5 _ (by omega), k4, ko3 _ (by omega), k2]
    exact k1
  have q2 : jK H7 (jn H + 1) = (113, 0) := by
    rw [k7, k6, ko5 _ (by omega), k4, show jn H + 1 = jn H2 by omega]
    exact k3
  have q3 : jK H7 (jn H + 2) = (100, 8) := by
    rw [k7, k6, show jn H + 2 = jn H4 by omega]
    exact k5
  have kr : jK H7 row = (101, len) := (hK row hrow).trans hkr
  have eB : jB H7 row = jB H row := funext fun j => hB row j hrow
  refine jT_b (jT_eq (z10_low (at_ := 69) kr (by omega) (by omega)) (jT_ret (jT_g c7 (jT_l ?_))))
  have kr8 : jK (jsL H7 t 3 ((Int32.toInt64 (zlow (jB H7 row) 69)) &&& 4294967295)) row = (101, len) := kr
  refine jT_b (jT_eq (z10_low (at_ := 73) kr8 (by omega) (by omega)) (jT_ret (jT_g c7 (jT_l (jT_ret ⟨jsh_sI (jsh_sL hs7) (by omega), ⟨?_, ?_, ?_, hK, fun a j ha hn => ⟨?_, ?_, ?_, hB a j ha⟩⟩, ?_, ⟨r7, w1, w4, w8, w5⟩, ⟨q1, q2, q3⟩, ?_, ?_, fun j hj => ?_⟩)))))
  · show jn H ≤ jn H7
    omega
  · show jn H7 ≤ jn H + 3
    omega
  · show js H7 ≤ js H + 40
    omega
  · exact (jI_sIa hn).trans (hI a j ha)
  · exact (jup_a hn).trans (hL a j ha)
  · exact hR a j ha (fun w => hn w.1)
  · show jn H7 = jn H + 3
    omega
  · refine jI_sIe.trans ?_
    show zlow (jB H7 row) 73 = _
    rw [eB]
  · refine Eq.trans (b := (Int32.toInt64 (zlow (jB H7 row) 69)) &&& 4294967295) jL_sLe ?_
    rw [eB]
  · exact (jI_sIn hj).trans ((hI t j ht).trans (hz j).1)
