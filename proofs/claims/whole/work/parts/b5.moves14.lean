/-! The reference's scripts: digests of the top, picks, moves. -/
theorem w_set_last {A : w_R} {x y : List UInt8} : (A ++ [x]).set A.length y = A ++ [y] := by
  rw [List.set_append_right _ _ (Nat.le_refl _), Nat.sub_self]
  rfl
theorem w_has_last {st : w_R} (h : 1 ≤ st.length) : ∃ A x, st = A ++ [x] := by
  have hne : st ≠ [] := fun q => by rw [q] at h; exact absurd h (by decide)
  exact ⟨st.dropLast, st.getLast hne, (List.dropLast_concat_getLast hne).symm⟩
theorem w_ix_some {it : List UInt8} {n m : Nat} : w_ix it n = some m ↔ it.length ≤ 4 ∧ 0 ≤ (zno it).toInt ∧ (zno it).toInt < n ∧ (zno it).toInt.toNat = m := by
  unfold w_ix
  by_cases c : it.length ≤ 4 ∧ 0 ≤ (zno it).toInt ∧ (zno it).toInt < n
  · rw [if_pos c]
    exact ⟨fun q => ⟨c.1, c.2.1, c.2.2, Option.some.inj q⟩, fun q => by rw [q.2.2.2]⟩
  · rw [if_neg c]
    exact ⟨fun q => (by cases q), fun q => absurd ⟨q.1, q.2.1, q.2.2.1⟩ c⟩
theorem w_ix_none {it : List UInt8} {n : Nat} : w_ix it n = none ↔ ¬ (it.length ≤ 4 ∧ 0 ≤ (zno it).toInt ∧ (zno it).toInt < n) := by
  unfold w_ix
  by_cases c : it.length ≤ 4 ∧ 0 ≤ (zno it).toInt ∧ (zno it).toInt < n
  · rw [if_pos c]
    exact ⟨fun q => (by cases q), fun q => absurd c q⟩
  · rw [if_neg c]
    exact ⟨fun _ => c, fun _ => rfl⟩
theorem w_rm_lift {st : w_R} {i : Nat} : w_rm st i ++ [st.getD i []] = w_lift st i [] := List.append_assoc _ _ _
theorem w_put_dup {st : w_R} {n : Nat} {l : List Nat} (h : n ≤ st.length) : w_put st n ((List.range n).map (· + 1) ++ l) = st ++ w_pm st n l := by
  rw [w_put_app, w_put_id h]
section MO14
variable {scr : List UInt8} {S : w_S4} {lf : Nat} {H0 H : jH} {α : Type} {Q : α → jH → Prop} {c : Nat}
theorem w_dgt14 {A sd : w_R} {R : Nat × List Bool} {x : List UInt8} {a2 : Int32} {k : Unit → jH → Option (α × jH)} (b : Bool) (eb : a2 = if b = true then 1 else 0) (h : w_Z scr (A ++ [x], sd, R) lf H0 H) (hk : ∀ H', w_Z scr (A ++ [if b = true then w_sha x else w_rip x], sd, R) lf H0 H' → jT (k () H') Q) : jT (jg ((jK H 437).1 = 14) (jb (F_14_top 437 0 H) fun x1 h2 => jg ((jK h2 437).1 = 14) (jb (F_14_digested 437 x1 a2 h2) k))) Q := by
  have el : (A ++ [x]).length = A.length + 1 := List.length_append
  refine jT_g (w_Zk h) ?_
  rw [z14_top (k := 0) (k' := 0) h rfl (by show 0 < (A ++ [x]).length; omega), jb_ok]
  refine jT_g (w_Zk h) (w_dgd14 (r := A.length) (it := x) h ?_ (by show A.length < (A ++ [x]).length; omega) ?_ b eb fun H' h' => hk H' ?_)
  · show Int32.ofNat ((A ++ [x]).length - 1 - 0) = _
    rw [el]
    rfl
  · show (A ++ [x])[A.length]? = some x
    rw [List.getElem?_append_right (Nat.le_refl _), Nat.sub_self]
    rfl
  · have h2 : w_Z scr ((A ++ [x]).set A.length (if b = true then w_sha x else w_rip x), sd, R) lf H0 H' := h'
    rw [w_set_last] at h2
    exact h2
theorem w_dgs14 {A sd : w_R} {R : Nat × List Bool} {x : List UInt8} {k : Unit → jH → Option (α × jH)} (h : w_Z scr (A ++ [x], sd, R) lf H0 H) (hk : ∀ H', w_Z scr (A ++ [w_sha x], sd, R) lf H0 H' → jT (k () H') Q) : jT (jg ((jK H 437).1 = 14) (jb (F_14_top 437 0 H) fun x1 h2 => jg ((jK h2 437).1 = 14) (jb (F_14_digested 437 x1 1 h2) k))) Q := by
  refine w_dgt14 true (by rw [if_pos rfl]) h fun H' h' => hk H' ?_
  rw [if_pos rfl] at h'
  exact h'
theorem w_dgr14 {A sd : w_R} {R : Nat × List Bool} {x : List UInt8} {k : Unit → jH → Option (α × jH)} (h : w_Z scr (A ++ [x], sd, R) lf H0 H) (hk : ∀ H', w_Z scr (A ++ [w_rip x], sd, R) lf H0 H' → jT (k () H') Q) : jT (jg ((jK H 437).1 = 14) (jb (F_14_top 437 0 H) fun x1 h2 => jg ((jK h2 437).1 = 14) (jb (F_14_digested 437 x1 0 h2) k))) Q := by
  refine w_dgt14 false (by rw [if_neg (by decide)]) h fun H' h' => hk H' ?_
  rw [if_neg (by decide)] at h'
  exact h'
theorem w_digest14 {k : Unit → jH → Option (α × jH)} (hc : c = 166 ∨ c = 168 ∨ c = 169 ∨ c = 170) (h : w_Z scr S lf H0 H) (hk1 : ∀ st' sd' H', w_dig c S.1 S.2.1 = some (st', sd') → w_Z scr (st', sd', S.2.2) lf H0 H' → jT (k () H') Q) (hk0 : ∀ H', w_dig c S.1 S.2.1 = none → w_Yf H0 H' → jT (k () H') Q) : jT (jb (F_14_digest 437 (Int32.ofNat c) H) k) Q := by
  unfold F_14_digest
  refine jT_b (jT_g (w_Zk h) (w_has14 (n := 1) h rfl (by decide) (fun hl => ?_) fun hl H' hy => jT_neg (fun q => q rfl) (jT_ret (hk0 H' (by unfold w_dig; rw [if_pos (Or.inr hl)]) hy))))
  obtain ⟨A, x, e⟩ := w_has_last hl
  obtain ⟨st, sd, R⟩ := S
  obtain rfl : st = A ++ [x] := e
  have ed : w_dig c (A ++ [x]) sd = some (A ++ [w_dgv c x], sd) := by
    unfold w_dig
    rw [if_neg (by have : 1 ≤ (A ++ [x]).length := hl; omega), w_dr_snoc, w_tp_snoc]
  have hk1' : ∀ H', w_Z scr (A ++ [w_dgv c x], sd, R) lf H0 H' → jT (k () H') Q := fun H' hz => hk1 _ _ H' ed hz
  clear hk1 hk0 hl
  refine jT_pos (by decide) ?_
  unfold B_14_digest_26 B_14_digest_40 B_14_digest_50 B_14_digest_67
  rcases hc with rfl | rfl | rfl | rfl
  · have e : w_dgv 166 x = w_rip x := by unfold w_dgv; rw [if_pos rfl]
    rw [e] at hk1'
    exact jT_pos rfl (jT_pos rfl (w_dgr14 h fun H' h' => jT_pos (by decide) (jT_ret (hk1' H' h'))))
  · have e : w_dgv 168 x = w_sha x := by unfold w_dgv; rw [if_neg (by decide), if_neg (by decide), if_neg (by decide)]
    rw [e] at hk1'
    exact jT_neg (by decide) (w_dgs14 h fun H' h' => jT_neg (by decide) (jT_pos (by decide) (jT_pos (by decide) (jT_ret (hk1' H' h')))))
  · have e : w_dgv 169 x = w_rip (w_sha x) := by unfold w_dgv; rw [if_neg (by decide), if_pos rfl]
    rw [e] at hk1'
    exact jT_neg (by decide) (w_dgs14 h fun H' h' => jT_neg (by decide) (jT_neg (by decide) (w_dgr14 h' fun H2 h2 => jT_pos (by decide) (jT_ret (hk1' H2 h2)))))
  · have e : w_dgv 170 x = w_sha (w_sha x) := by unfold w_dgv; rw [if_neg (by decide), if_neg (by decide), if_pos rfl]
    rw [e] at hk1'
    exact jT_neg (by decide) (w_dgs14 h fun H' h' => jT_neg (by decide) (jT_pos (by decide) (jT_neg (by decide) (w_dgs14 h' fun H2 h2 => jT_ret (hk1' H2 h2)))))
/-- a row is copied to a place of its own -/
theorem w_copy14 {k : Unit → jH → Option (α × jH)} {to from_ : Nat} {to' from' : Int32} {it : List UInt8} (h : w_Z scr S lf H0 H) (et : to' = Int32.ofNat to) (ef : from' = Int32.ofNat from_) (h132 : 132 ≤ to) (hto : to < 140) (hfr : from_ < 140) (hr : w_row H from_ it) (hk : ∀ H', w_Z scr S lf H0 H' → w_row H' to it → jL H' 437 11 = jL H 437 11 → jT (k () H') Q) : jT (jb (F_14_copy 437 to' from' H) k) Q := by
  have l1 := h.2.2.1.2.2.1
  have l2 := h.2.2.1.2.2.2
  refine jT_b (z14_copy et ef hto hfr h.1.1 hr fun H1 s1 f1 r1 => hk H1 ?_ r1 (jfr_L f1 (by unfold w_Cf; omega)))
  exact w_Z_rows (st := S.1) (sd := S.2.1) h s1 f1 (fun a j q => by unfold w_Cf at q; omega) ((jfr_I f1 (by unfold w_Cf; omega)).trans h.2.1.1) ((jfr_I f1 (by unfold w_Cf; omega)).trans h.2.1.2.1) (zIts_fr h.2.2.1.1 f1 fun a j k hkl q => by unfold w_Cf at q; omega) (zIts_fr h.2.2.1.2.1 f1 fun a j k hkl q => by unfold w_Cf at q; omega) l1 l2
theorem w_pick14 {k : Unit → jH → Option (α × jH)} {a1 : Int32} (b : Bool) (eb : a1 = if b = true then 1 else 0) (h : w_Z scr S lf H0 H) (hl : S.1.length ≤ 60) (hk1 : ∀ st' sd' H', w_arr (if b = true then 122 else 121) S.1 S.2.1 = some (st', sd') → w_Z scr (st', sd', S.2.2) lf H0 H' → jT (k () H') Q) (hk0 : ∀ H', w_arr (if b = true then 122 else 121) S.1 S.2.1 = none → w_Yf H0 H' → jT (k () H') Q) : jT (jb (F_14_pick 437 a1 H) k) Q := by
  have earr : w_arr (if b = true then 122 else 121) S.1 S.2.1 = if 1 ≤ S.1.length then (match w_ix (w_tp S.1 1) (S.1.length - 1) with
      | none => none
      | some m => some (if b = true then w_lift (w_dr S.1 1) (S.1.length - 2 - m) [] else w_dr S.1 1 ++ [w_tp (w_dr S.1 1) (m + 1)], S.2.1)) else none := by
    unfold w_arr
    generalize w_ix (w_tp S.1 1) (S.1.length - 1) = o
    by_cases c1 : 1 ≤ S.1.length
    · cases b <;> cases o <;> simp [c1]
    · cases b <;> simp [c1]
  have no : w_ix (w_tp S.1 1) (S.1.length - 1) = none → w_arr (if b = true then 122 else 121) S.1 S.2.1 = none := fun q => by
    rw [earr, q]
    split <;> rfl
  unfold F_14_pick B_14_pick_43 B_14_pick_77
  refine jT_b (jT_g (w_Zk h) (w_reads14 (n := 0) h rfl (by decide) (fun q1 q2 H1 h1 e11 => ?_) fun q H1 hy => jT_neg (fun w => w rfl) (jT_ret (hk0 H1 ?_ hy))))
  rotate_left
  · by_cases c1 : 1 ≤ S.1.length
    · exact no (w_ix_none.mpr fun w => q ⟨c1, w.1⟩)
    · rw [earr, if_neg c1]
  have q1' : 1 ≤ S.1.length := q1
  rw [if_pos q1'] at earr
  have h' := w_Z_take (n := S.1.length - 1) h1 (by omega)
  have e12 : jL (jsI H1 437 2 (Int32.ofNat (S.1.length - 1))) 437 11 = zno (w_tp S.1 1) := e11
  rw [h1.2.1.1, w_sub1 q1']
  refine jT_pos (by decide) (jT_g (w_Zk h1) (jT_g (w_Zk h1) (jT_l (jT_g (w_Zk h') ?_))))
  generalize jsI H1 437 2 (Int32.ofNat (S.1.length - 1)) = H2 at *
  have hlen : (S.1.take (S.1.length - 1)).length = S.1.length - 1 := by rw [List.length_take]; omega
  have hle : jI H2 437 2 = Int32.ofNat (S.1.length - 1) := h'.2.1.1.trans (by show Int32.ofNat (S.1.take (S.1.length - 1)).length = _; rw [hlen])
  rw [e12, hle]
  have e0 : (0 : Int64).toInt = 0 := rfl
  by_cases c1 : zno (w_tp S.1 1) < 0
  · refine jT_pos c1 (jT_g (w_Zk h') (w_fails (n := 7) h' rfl (by decide) (by decide) fun H3 hy => jT_ret (hk0 H3 (no (w_ix_none.mpr fun w => ?_)) hy)))
    rw [Int64.lt_iff_toInt_lt] at c1
    omega
  · have p0 : 0 ≤ (zno (w_tp S.1 1)).toInt := by
      rw [Int64.lt_iff_toInt_lt] at c1
      omega
    have ecmp : (zno (w_tp S.1 1) ≤ Int32.toInt64 (Int32.ofNat (S.1.length - 1) - 1)) ↔ (zno (w_tp S.1 1)).toInt < ((S.1.length - 1 : Nat) : Int) := by
      rw [Int64.le_iff_toInt_le, Int32.toInt_toInt64]
      have e : (Int32.ofNat (S.1.length - 1) - 1).toInt = ((S.1.length - 1 : Nat) : Int) - 1 := by
        have hb60 : S.1.length - 1 ≤ 60 := by omega
        clear earr no hk1 hk0 h h1 h' hlen hle
        generalize S.1.length - 1 = n at *
        cases n with
        | zero => decide
        | succ n =>
          rw [show (1 : Int32) = Int32.ofNat 1 from rfl, jo_sub (by omega), Int32.toInt_ofNat_of_lt (by omega)]
          omega
      rw [e]
      omega
    refine jT_neg c1 (jT_g (w_Zk h') (jT_g (w_Zk h') ?_))
    by_cases c2 : (zno (w_tp S.1 1)).toInt < ((S.1.length - 1 : Nat) : Int)
    · obtain ⟨m, hm⟩ : ∃ m, m = (zno (w_tp S.1 1)).toInt.toNat := ⟨_, rfl⟩
      have eix : w_ix (w_tp S.1 1) (S.1.length - 1) = some m := w_ix_some.mpr ⟨q2, p0, c2, hm.symm⟩
      have hm1 : m < S.1.length - 1 := by omega
      have ex8 : Int64.toInt32 (zno (w_tp S.1 1)) = Int32.ofNat m := by rw [lo_ix (by omega) p0 c2, hm]
      rw [eix] at earr
      rw [ex8]
      refine jT_pos (ecmp.mpr c2) (jT_g (w_Zk h') (jT_l (jT_g (w_Zk h') ?_)))
      rw [z14_top (k := m) h' rfl (by show m < (S.1.take (S.1.length - 1)).length; omega), jb_ok]
      have hrow := w_rowA h' (w_tp0 (S := (S.1.take (S.1.length - 1), S.2)) (k := m) (by show m < (S.1.take (S.1.length - 1)).length; omega))
      refine jT_g (w_Zk h') (w_copy14 (to := 134) h' rfl rfl (by decide) (by decide) (by show (S.1.take (S.1.length - 1)).length - 1 - m < 140; omega) hrow fun H3 h3 r3 _ => ?_)
      cases b with
      | false =>
        refine jT_pos eb (jT_g (w_Zk h3) (w_push14 (from_ := 134) h3 rfl (by decide) r3 (by show (S.1.take (S.1.length - 1)).length < 66; omega) fun H4 h4 _ => jT_ret (hk1 _ _ H4 earr h4)))
      | true =>
        refine jT_neg (by rw [eb]; decide) (jT_g (w_Zk h3) (w_take14 (n := m) h3 rfl (by show m < (S.1.take (S.1.length - 1)).length; omega) fun H4 h4 f4 => ?_))
        have r4 := w_row_fr r3 f4 fun a j q => by omega
        have l4 : (w_rm (S.1.take (S.1.length - 1)) ((S.1.take (S.1.length - 1)).length - 1 - m)).length < 66 := by
          unfold w_rm
          rw [List.length_append, List.length_take, List.length_drop]
          omega
        refine jT_g (w_Zk h4) (w_push14 (from_ := 134) h4 rfl (by decide) r4 l4 fun H5 h5 _ => jT_ret (hk1 _ _ H5 earr ?_))
        have ei : (S.1.take (S.1.length - 1)).length - 1 - m = S.1.length - 2 - m := by omega
        have et : w_tp (S.1.take (S.1.length - 1)) (m + 1) = (S.1.take (S.1.length - 1)).getD ((S.1.take (S.1.length - 1)).length - 1 - m) [] := by
          rw [List.getD_eq_getElem?_getD, w_tp0 (S := (S.1.take (S.1.length - 1), S.2)) (k := m) (by show m < (S.1.take (S.1.length - 1)).length; omega)]
          rfl
        have h5' : w_Z scr (w_rm (S.1.take (S.1.length - 1)) ((S.1.take (S.1.length - 1)).length - 1 - m) ++ [w_tp (S.1.take (S.1.length - 1)) (m + 1)], S.2) lf H0 H5 := h5
        rw [et, w_rm_lift, ei] at h5'
        exact h5'
    · refine jT_neg (fun w => c2 (ecmp.mp w)) (jT_g (w_Zk h') (w_fails (n := 7) h' rfl (by decide) (by decide) fun H3 hy => jT_ret (hk0 H3 (no (w_ix_none.mpr fun w => c2 w.2.2)) hy)))
theorem w_rot14 {k : Unit → jH → Option (α × jH)} {n m : Nat} {n' m' : Int32} (h : w_Z scr S lf H0 H) (en : n' = Int32.ofNat n) (em : m' = Int32.ofNat m) (h1n : 1 ≤ n) (hn : n < 100) (hm : m ≤ n) (h1 : n ≤ S.1.length → ∀ H', w_Z scr (w_put S.1 n (((List.range n).map (· + 1)).drop m ++ ((List.range n).map (· + 1)).take m), S.2) lf H0 H' → jT (k () H') Q) (h0 : S.1.length < n → ∀ H', w_Yf H0 H' → jT (k () H') Q) : jT (jb (F_14_turn 437 n' m' H) k) Q := by
  by_cases hl : n ≤ S.1.length
  · refine w_turn14 h en em h1n hn (by omega) (fun j => w_put S.1 n (((List.range n).map (· + 1)).drop j ++ ((List.range n).map (· + 1)).take j)) ?_ (fun j hj => ?_) (fun j hj => ?_) h1 h0
    · show w_put S.1 n (((List.range n).map (· + 1)).drop 0 ++ ((List.range n).map (· + 1)).take 0) = S.1
      rw [List.drop_zero, List.take_zero, List.append_nil, w_put_id hl]
    · rw [w_put_len, List.length_append, List.length_drop, List.length_take, List.length_map, List.length_range]
      omega
    · have ll : ((List.range n).map (· + 1)).length = n := by rw [List.length_map, List.length_range]
      generalize (List.range n).map (· + 1) = R at *
      show w_put S.1 n (R.drop (j + 1) ++ R.take (j + 1)) = w_lift (w_put S.1 n (R.drop j ++ R.take j)) (S.1.length - n) []
      rw [List.drop_eq_getElem_cons (i := j) (l := R) (by omega), List.cons_append, w_lift_put, List.append_assoc, List.take_succ_eq_append_getElem (by omega)]
  · unfold F_14_turn
    exact jT_b (jT_g (w_Zk h) (w_has14 h en (by omega) (fun w => absurd w hl) fun hl2 H' hy => jT_neg (fun q => q rfl) (jT_ret (h0 hl2 H' hy))))
theorem w_dup14 {k : Unit → jH → Option (α × jH)} {n ab m : Nat} {n' ab' m' : Int32} (h : w_Z scr S lf H0 H) (en : n' = Int32.ofNat n) (ea : ab' = Int32.ofNat ab) (em : m' = Int32.ofNat m) (hn : n < 100) (hab : ab + 1 = n) (hm : m ≤ n) (hm3 : m ≤ 3) (hl : S.1.length ≤ 60) (h1 : n ≤ S.1.length → ∀ H', w_Z scr (w_put S.1 n ((List.range n).map (· + 1) ++ (List.range m).map (· + 1)), S.2) lf H0 H' → jT (k () H') Q) (h0 : S.1.length < n → ∀ H', w_Yf H0 H' → jT (k () H') Q) : jT (jb (F_14_again 437 n' ab' m' H) k) Q := by
  subst hab
  refine w_again14 h en ea em hn (by omega) hm hm3 hl (fun hl2 H' h' => h1 hl2 H' ?_) h0
  rw [w_put_dup hl2]
  exact h'
end MO14
