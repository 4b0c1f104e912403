/-! The reference's RIPEMD-160. -/
theorem jo_subneg {a b : Nat} (h : a < b) (hb : b < 2147483648) : Int32.ofNat a - Int32.ofNat b < 0 := by
  rw [Int32.lt_iff_toInt_lt, Int32.toInt_sub, jo_int (by omega), jo_int hb]
  have e : ((a : Int) - (b : Int)).bmod (2 ^ 32) = (a : Int) - (b : Int) := Int.bmod_eq_of_le (by omega) (by omega)
  rw [e]
  have h0 : (0 : Int32).toInt = 0 := rfl
  omega
theorem z12_mixed {r : Nat} (hr : r < 5) {x y z : Int32} {H : jH} : F_12_mixed (Int32.ofNat r) x y z H = some (zmx r x y z, H) := by
  unfold F_12_mixed B_12_mixed_62
  rcases (show r = 0 ∨ r = 1 ∨ r = 2 ∨ r = 3 ∨ r = 4 by omega) with rfl | rfl | rfl | rfl | rfl
  · rw [if_neg (by decide)]; rfl
  · rw [if_pos (by decide), if_neg (by decide)]; rfl
  · rw [if_pos (by decide), if_pos (by decide), if_neg (by decide)]; rfl
  · rw [if_pos (by decide), if_pos (by decide), if_pos (by decide), if_neg (by decide)]; rfl
  · rw [if_pos (by decide), if_pos (by decide), if_pos (by decide), if_pos (by decide)]; rfl
theorem z12_step {Q : Unit → jH → Prop} {o : Nat} (ho : o = 0 ∨ o = 5) {add turn : Int32} {s : z5} {H0 H : jH} (hs : jsh H) (hf : jfr (fun a _ => a = 425) H0 H) (h0 : ∀ j, j < 5 → jI H 425 (o + j) = zget5 s j)
    (hk : ∀ H', jsh H' → jfr (fun a _ => a = 425) H0 H' → (∀ j, j < 5 → jI H' 425 (o + j) = zget5 (s.2.2.2.2, zR (s.1 + add) (32 - turn) + s.2.2.2.2, s.2.1, zR s.2.2.1 22, s.2.2.2.1) j) → (∀ j, ¬ (o ≤ j ∧ j < o + 5) → jI H' 425 j = jI H 425 j) → Q () H') :
    jT (F_12_step 422 (Int32.ofNat o) add turn H) Q := by
  unfold F_12_step
  have i1 : Int32.ofNat o + 1 = Int32.ofNat (o + 1) := jo_add (a := o) (b := 1)
  have i2 : Int32.ofNat o + 2 = Int32.ofNat (o + 2) := jo_add (a := o) (b := 2)
  have i3 : Int32.ofNat o + 3 = Int32.ofNat (o + 3) := jo_add (a := o) (b := 3)
  have i4 : Int32.ofNat o + 4 = Int32.ofNat (o + 4) := jo_add (a := o) (b := 4)
  have g0 : jin (Int32.ofNat o) 10 := jo_in (by omega) (by omega)
  have g1 : jin (Int32.ofNat (o + 1)) 10 := jo_in (by omega) (by omega)
  have g2 : jin (Int32.ofNat (o + 2)) 10 := jo_in (by omega) (by omega)
  have g3 : jin (Int32.ofNat (o + 3)) 10 := jo_in (by omega) (by omega)
  have g4 : jin (Int32.ofNat (o + 4)) 10 := jo_in (by omega) (by omega)
  have q0 : jI H 425 o = s.1 := h0 0 (by omega)
  have q1 : jI H 425 (o + 1) = s.2.1 := h0 1 (by omega)
  have q2 : jI H 425 (o + 2) = s.2.2.1 := h0 2 (by omega)
  have q3 : jI H 425 (o + 3) = s.2.2.2.1 := h0 3 (by omega)
  have q4 : jI H 425 (o + 4) = s.2.2.2.2 := h0 4 (by omega)
  simp only [z12_right, jb_ok, i1, i2, i3, i4, sR_422_2 hs, sK_422 hs, sK_425 hs, jo_nat (n := o) (by omega), jo_nat (n := o + 1) (by omega), jo_nat (n := o + 2) (by omega), jo_nat (n := o + 3) (by omega), jo_nat (n := o + 4) (by omega), q0, q4]
  refine jT_g trivial (jT_g ⟨trivial, g0⟩ (jT_g trivial (jT_g ⟨trivial, g4⟩ (jT_l (jT_g trivial (jT_g trivial (jT_g ⟨trivial, g4⟩ ?_)))))))
  refine jset hs hf 425 o ⟨trivial, by decide, g0⟩ rfl rfl (by decide) rfl fun H1 hs1 f1 v1 o1 => ?_
  have p3 : jI H1 425 (o + 3) = s.2.2.2.1 := (o1 425 (o + 3) (by omega)).trans q3
  simp only [sR_422_2 hs1, sK_422 hs1, sK_425 hs1, p3]
  refine jT_g trivial (jT_g trivial (jT_g ⟨trivial, g3⟩ ?_))
  refine jset hs1 f1 425 (o + 4) ⟨trivial, by decide, g4⟩ rfl rfl (by decide) rfl fun H2 hs2 f2 v2 o2 => ?_
  have p2 : jI H2 425 (o + 2) = s.2.2.1 := (o2 425 (o + 2) (by omega)).trans ((o1 425 (o + 2) (by omega)).trans q2)
  simp only [sR_422_2 hs2, sK_422 hs2, sK_425 hs2, p2]
  refine jT_g trivial (jT_g trivial (jT_g ⟨trivial, g2⟩ ?_))
  refine jset hs2 f2 425 (o + 3) ⟨trivial, by decide, g3⟩ rfl rfl (by decide) rfl fun H3 hs3 f3 v3 o3 => ?_
  have p1 : jI H3 425 (o + 1) = s.2.1 := (o3 425 (o + 1) (by omega)).trans ((o2 425 (o + 1) (by omega)).trans ((o1 425 (o + 1) (by omega)).trans q1))
  simp only [sR_422_2 hs3, sK_422 hs3, sK_425 hs3, p1]
  refine jT_g trivial (jT_g trivial (jT_g ⟨trivial, g1⟩ ?_))
  refine jset hs3 f3 425 (o + 2) ⟨trivial, by decide, g2⟩ rfl rfl (by decide) rfl fun H4 hs4 f4 v4 o4 => ?_
  simp only [sR_422_2 hs4, sK_422 hs4, sK_425 hs4]
  refine jT_g trivial ?_
  refine jset hs4 f4 425 (o + 1) ⟨trivial, by decide, g1⟩ rfl rfl (by decide) rfl fun H5 hs5 f5 v5 o5 => ?_
  refine jT_ret (hk H5 hs5 f5 (fun j hj => ?_) fun j hj => ?_)
  · rcases (show j = 0 ∨ j = 1 ∨ j = 2 ∨ j = 3 ∨ j = 4 by omega) with rfl | rfl | rfl | rfl | rfl
    · rw [o5 425 (o + 0) (by omega), o4 425 (o + 0) (by omega), o3 425 (o + 0) (by omega), o2 425 (o + 0) (by omega)]; exact v1
    · exact v5
    · rw [o5 425 (o + 2) (by omega)]; exact v4
    · rw [o5 425 (o + 3) (by omega), o4 425 (o + 3) (by omega)]; exact v3
    · rw [o5 425 (o + 4) (by omega), o4 425 (o + 4) (by omega), o3 425 (o + 4) (by omega)]; exact v2
  · rw [o5 425 j (by omega), o4 425 j (by omega), o3 425 j (by omega), o2 425 j (by omega), o1 425 j (by omega)]
theorem zr_tab2 : ∀ j, j < 80 → jval_14.getD j 0 = jval_3.getD j 0 ∧ jval_15.getD j 0 = jval_3.getD (80 + j) 0 ∧ jval_16.getD j 0 = jval_4.getD j 0 ∧ jval_17.getD j 0 = jval_4.getD (80 + j) 0 := by decide +kernel
theorem zr_tab3 : ∀ i, i < 160 → (32 : Int32) - (32 - jval_4.getD i 0) = jval_4.getD i 0 := by decide +kernel
theorem zrs_step {M : Nat → Int32} {i : Nat} (hi : i < 160) (s : z5) : zrs M i s = (s.2.2.2.2, zR (s.1 + ((zmx (zrd i) s.2.1 s.2.2.1 s.2.2.2.1 + M (zrW i)) + jval_5.getD (i / 16) 0)) (32 - jval_4.getD i 0) + s.2.2.2.2, s.2.1, zR s.2.2.1 22, s.2.2.2.1) := by
  have e : s.1 + ((zmx (zrd i) s.2.1 s.2.2.1 s.2.2.2.1 + M (zrW i)) + jval_5.getD (i / 16) 0) = zrx M i s := by
    unfold zrx
    rw [Int32.add_assoc, Int32.add_assoc, Int32.add_assoc]
  have h22 : (32 : Int32) - 22 = 10 := by decide
  unfold zrs zR
  rw [e, zr_tab3 i hi, h22, Int32.or_comm (jushr (zrx M i s) _), Int32.or_comm (jushr s.2.2.1 _)]
/-- both lines go on -/
theorem z12_270 {Q : Unit → jH → Prop} {k166 : Nat → Nat → Int32 → Int32 → Nat → Int32 → Int32 → Int32 → jH → Option (Unit × jH)} {a1 : Nat} {a2 a3 : Int32} {a4 : Nat} {a5 a6 : Int32} {j : Nat} (hj : j < 80) {M : Nat → Int32} {l r : z5} {H0 H : jH} (hs : jsh H) (hf : jfr (fun a _ => a = 425) H0 H) (hM : ∀ i, i < 16 → jI H0 423 i = M i)
    (hl : ∀ i, i < 5 → jI H 425 (0 + i) = zget5 l i) (hr : ∀ i, i < 5 → jI H 425 (5 + i) = zget5 r i)
    (hk : ∀ H', jsh H' → jfr (fun a _ => a = 425) H0 H' → (∀ i, i < 5 → jI H' 425 (0 + i) = zget5 (zrs M j l) i) → (∀ i, i < 5 → jI H' 425 (5 + i) = zget5 (zrs M (80 + j) r) i) → jT (k166 422 a1 a2 a3 a4 a5 a6 (Int32.ofNat (j + 1)) H') Q) :
    jT (B_12_small_270 k166 422 a1 a2 a3 a4 a5 a6 (Int32.ofNat j) (Int32.ofNat (j / 16)) (jval_5.getD (j / 16) 0) (jval_5.getD (5 + j / 16) 0) H) Q := by
  unfold B_12_small_270
  have e_j : Int32.ofNat j + 1 = Int32.ofNat (j + 1) := jo_add (a := j) (b := 1)
  obtain ⟨w1, w2, w3, w4⟩ := zr_tab2 j hj
  obtain ⟨t1, t2⟩ := zr_tab j (by omega)
  obtain ⟨t3, t4⟩ := zr_tab (80 + j) (by omega)
  have n423 : ∀ i : Nat, ¬ (fun (a : Nat) (_ : Nat) => a = 425) 423 i := fun i h => absurd (show (423 : Nat) = 425 from h) (by decide)
  have s14 : ∀ {H : jH}, jsh H → jI H 14 j = jval_3.getD j 0 := fun hs => (show jI _ 14 j = jval_14.getD j 0 from jsh_st hs (by decide) j).trans w1
  have s15 : ∀ {H : jH}, jsh H → jI H 15 j = jval_3.getD (80 + j) 0 := fun hs => (show jI _ 15 j = jval_15.getD j 0 from jsh_st hs (by decide) j).trans w2
  have s16 : ∀ {H : jH}, jsh H → jI H 16 j = jval_4.getD j 0 := fun hs => (show jI _ 16 j = jval_16.getD j 0 from jsh_st hs (by decide) j).trans w3
  have s17 : ∀ {H : jH}, jsh H → jI H 17 j = jval_4.getD (80 + j) 0 := fun hs => (show jI _ 17 j = jval_17.getD j 0 from jsh_st hs (by decide) j).trans w4
  have gj : jin (Int32.ofNat j) 80 := jo_in (by omega) hj
  have m1 : jI H 423 (jval_3.getD j 0).toNatClampNeg = M (zrW j) := (jfr_I hf (n423 0)).trans (hM _ t2)
  have l1 : jI H 425 1 = l.2.1 := hl 1 (by decide)
  have l2 : jI H 425 2 = l.2.2.1 := hl 2 (by decide)
  have l3 : jI H 425 3 = l.2.2.2.1 := hl 3 (by decide)
  have e1 : (1 : Int32).toNatClampNeg = 1 := rfl
  have e2 : (2 : Int32).toNatClampNeg = 2 := rfl
  have e3 : (3 : Int32).toNatClampNeg = 3 := rfl
  have e6 : (6 : Int32).toNatClampNeg = 6 := rfl
  have e7 : (7 : Int32).toNatClampNeg = 7 := rfl
  have e8 : (8 : Int32).toNatClampNeg = 8 := rfl
  simp only [z12_mixed (r := j / 16) (by omega), jb_ok, e1, e2, e3, e6, e7, e8, sR_422_2 hs, sR_422_0 hs, sK_422 hs, sK_425 hs, sK_423 hs, sK_14 hs, sK_16 hs, jo_nat (n := j) (by omega), s14 hs, s16 hs, m1, l1, l2, l3, e_j]
  refine jT_g trivial (jT_g (by decide) (jT_g trivial (jT_g (by decide) (jT_g trivial (jT_g (by decide) (jT_g trivial (jT_g ⟨trivial, gj⟩ (jT_g ⟨trivial, t1⟩ (jT_g ⟨trivial, gj⟩ (jT_g trivial (jT_b ?_)))))))))))
  refine z12_step (o := 0) (s := l) (Or.inl rfl) hs hf hl fun H1 hs1 f1 v1 o1 => ?_
  have hr1 : ∀ i, i < 5 → jI H1 425 (5 + i) = zget5 r i := fun i hi => (o1 (5 + i) (by omega)).trans (hr i hi)
  have r6 : jI H1 425 6 = r.2.1 := hr1 1 (by decide)
  have r7 : jI H1 425 7 = r.2.2.1 := hr1 2 (by decide)
  have r8 : jI H1 425 8 = r.2.2.2.1 := hr1 3 (by decide)
  have m2 : jI H1 423 (jval_3.getD (80 + j) 0).toNatClampNeg = M (zrW (80 + j)) := (jfr_I f1 (n423 0)).trans (hM _ t4)
  have e4 : (4 : Int32) - Int32.ofNat (j / 16) = Int32.ofNat (4 - j / 16) := jo_sub (a := 4) (by omega)
  simp only [e4, z12_mixed (r := 4 - j / 16) (by omega), jb_ok, e1, e2, e3, e6, e7, e8, sR_422_2 hs1, sR_422_0 hs1, sK_422 hs1, sK_425 hs1, sK_423 hs1, sK_15 hs1, sK_17 hs1, s15 hs1, s17 hs1, m2, r6, r7, r8]
  refine jT_g trivial (jT_g (by decide) (jT_g trivial (jT_g (by decide) (jT_g trivial (jT_g (by decide) (jT_g trivial (jT_g ⟨trivial, gj⟩ (jT_g ⟨trivial, t3⟩ (jT_g ⟨trivial, gj⟩ (jT_g trivial (jT_b ?_)))))))))))
  refine z12_step (o := 5) (s := r) (Or.inr rfl) hs1 f1 hr1 fun H2 hs2 f2 v2 o2 => jT_l ?_
  refine hk H2 hs2 f2 (fun i hi => ?_) (fun i hi => ?_)
  · rw [o2 (0 + i) (by omega), v1 i hi, zrs_step (by omega)]
    unfold zrd
    rw [if_pos (by omega)]
  · rw [v2 i hi, zrs_step (by omega)]
    unfold zrd
    have h5 : (80 + j) / 16 = 5 + j / 16 := by omega
    rw [h5, if_neg (by omega), show 9 - (5 + j / 16) = 4 - j / 16 by omega]
theorem z12_166 {Q : Unit → jH → Prop} {k43 : Nat → Nat → Int32 → Int32 → Nat → Int32 → Int32 → jH → Option (Unit × jH)} {a1 : Nat} {a2 a3 : Int32} {a4 : Nat} {a5 a6 : Int32} {M : Nat → Int32} {s : z5} {H0 : jH} (hM : ∀ i, i < 16 → jI H0 423 i = M i)
    (hk : ∀ H' k166, jsh H' → jfr (fun a _ => a = 425) H0 H' → (∀ i, i < 5 → jI H' 425 (0 + i) = zget5 (zrr M 0 s 80) i) → (∀ i, i < 5 → jI H' 425 (5 + i) = zget5 (zrr M 80 s 80) i) → jT (B_12_small_166 k43 k166 422 a1 a2 a3 a4 a5 a6 (Int32.ofNat 80) H') Q) :
    ∀ (d j f : Nat) (H : jH), j + d = 80 → d < f → jsh H → jfr (fun a _ => a = 425) H0 H → (∀ i, i < 5 → jI H 425 (0 + i) = zget5 (zrr M 0 s j) i) → (∀ i, i < 5 → jI H 425 (5 + i) = zget5 (zrr M 80 s j) i) → jT (F_12_small_166 k43 f 422 a1 a2 a3 a4 a5 a6 (Int32.ofNat j) H) Q := by
  intro d
  induction d with
  | zero =>
    intro j f H hj hf hs hfr hl hr
    obtain rfl : j = 80 := by omega
    obtain ⟨f, rfl⟩ : ∃ k, f = k + 1 := ⟨f - 1, by omega⟩
    unfold F_12_small_166
    exact hk H _ hs hfr hl hr
  | succ d ih =>
    intro j f H hj hf hs hfr hl hr
    obtain ⟨f, rfl⟩ : ∃ k, f = k + 1 := ⟨f - 1, by omega⟩
    unfold F_12_small_166 B_12_small_166
    have e16 : Int32.ofNat j / 16 = Int32.ofNat (j / 16) := jo_div (a := j) (b := 16) (by omega) (by omega)
    refine jT_neg (by rw [show (80 : Int32) = Int32.ofNat 80 from rfl, jo_le (by omega) (by omega)]; omega) (jT_g (by decide) (jT_l ?_))
    rw [e16]
    have hk2 := z12_270 (k166 := F_12_small_166 k43 f) (a1 := a1) (a2 := a2) (a3 := a3) (a4 := a4) (a5 := a5) (a6 := a6) (j := j) (Q := Q) (by omega) hs hfr hM hl hr fun H' hs' hf' hl' hr' => ih (j + 1) f H' (by omega) (by omega) hs' hf' (fun i hi => (hl' i hi).trans (by show _ = zget5 (zrs M (0 + j) (zrr M 0 s j)) i; rw [Nat.zero_add])) (fun i hi => hr' i hi)
    have h16 : j / 16 < 5 := by omega
    generalize j / 16 = r at *
    unfold B_12_small_224
    rcases (show r = 0 ∨ r = 1 ∨ r = 2 ∨ r = 3 ∨ r = 4 by omega) with rfl | rfl | rfl | rfl | rfl
    · exact jT_neg (by decide) (jT_neg (by decide) hk2)
    · exact jT_pos (by decide) (jT_neg (by decide) (jT_pos (by decide) (jT_neg (by decide) hk2)))
    · exact jT_pos (by decide) (jT_pos (by decide) (jT_neg (by decide) (jT_pos (by decide) (jT_pos (by decide) (jT_neg (by decide) hk2)))))
    · exact jT_pos (by decide) (jT_pos (by decide) (jT_pos (by decide) (jT_neg (by decide) (jT_pos (by decide) (jT_pos (by decide) (jT_pos (by decide) (jT_neg (by decide) hk2)))))))
    · exact jT_pos (by decide) (jT_pos (by decide) (jT_pos (by decide) (jT_pos (by decide) (jT_pos (by decide) (jT_pos (by decide) (jT_pos (by decide) (jT_pos (by decide) hk2)))))))
