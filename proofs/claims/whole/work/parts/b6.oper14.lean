/-! The reference's scripts: moves, and an operation. -/
section OP14
variable {scr : List UInt8} {S : w_S4} {lf : Nat} {H0 H : jH} {α : Type} {Q : α → jH → Prop} {c : Nat}
/-- the second stack is one shorter -/
theorem w_Z_tkB {n : Nat} (h : w_Z scr S lf H0 H) (hn : n ≤ S.2.1.length) : w_Z scr (S.1, S.2.1.take n, S.2.2) lf H0 (jsI H 437 3 (Int32.ofNat n)) := by
  have f : jfr (fun a j => a = 437 ∧ j = 3) H (jsI H 437 3 (Int32.ofNat n)) := jfr_sI jfr_refl ⟨rfl, rfl⟩
  have l2 := h.2.2.1.2.2.2
  have ll : (S.2.1.take n).length = n := by rw [List.length_take]; omega
  refine w_Z_rows (st := S.1) (sd := S.2.1.take n) h (jsh_sI h.1.1 (by decide)) f (fun a j q => by omega) ((jI_sIn (by decide)).trans h.2.1.1) ?_ (zIts_fr h.2.2.1.1 f fun a j k hkl q => by omega) ?_ h.2.2.1.2.2.1 (by omega)
  · rw [ll]
    exact jI_sIe
  · refine zIts_fr (fun k it hk => ?_) f fun a j k hkl q => by omega
    rw [List.getElem?_take] at hk
    split at hk
    · exact h.2.2.1.2.1 k it hk
    · cases hk
/-- the second stack gets an element -/
theorem w_toB14 {k : Unit → jH → Option (α × jH)} {from_ : Nat} {it : List UInt8} (h : w_Z scr S lf H0 H) (hfr : from_ < 70) (hr : w_row H from_ it) (hl : S.2.1.length < 62) (hk : ∀ H', w_Z scr (S.1, S.2.1 ++ [it], S.2.2) lf H0 H' → jT (k () H') Q) : jT (jb (F_14_copy 437 (70 + Int32.ofNat S.2.1.length) (Int32.ofNat from_) H) fun _ h7 => jg ((jK h7 437).1 = 14) (jg ((jK h7 437).1 = 14) (jl (jsI h7 437 3 ((jI h7 437 3) + 1)) fun h8 => k () h8))) Q := by
  have l1 := h.2.2.1.2.2.1
  refine jT_b (z14_copy (to := 70 + S.2.1.length) (by rw [show (70 : Int32) = Int32.ofNat 70 from rfl, jo_add]) rfl (by omega) (by omega) h.1.1 hr fun H1 s1 f1 r1 => ?_)
  have e3 : jI H1 437 3 = Int32.ofNat S.2.1.length := (jfr_I f1 (by unfold w_Cf; omega)).trans h.2.1.2.1
  have e4 : Int32.ofNat S.2.1.length + 1 = Int32.ofNat (S.2.1.length + 1) := jo_add (a := S.2.1.length) (b := 1)
  have ll : (S.2.1 ++ [it]).length = S.2.1.length + 1 := List.length_append
  rw [e3, e4]
  have f2 : jfr (fun a j => w_Cf (70 + S.2.1.length) a j ∨ (a = 437 ∧ j = 3)) H (jsI H1 437 3 (Int32.ofNat (S.2.1.length + 1))) := jfr_sI (jfr_mono f1 fun a j q => Or.inl q) (Or.inr ⟨rfl, rfl⟩)
  refine jT_g (k14 s1) (jT_g (k14 s1) (jT_l (hk _ (w_Z_rows (st := S.1) (sd := S.2.1 ++ [it]) h (jsh_sI s1 (by decide)) f2 (fun a j q => by unfold w_Cf at q; omega) ?_ ?_ (zIts_fr h.2.2.1.1 f2 fun a j k hkl q => by unfold w_Cf at q; omega) (zIts_snoc (zIts_fr h.2.2.1.2.1 f2 fun a j k hkl q => by unfold w_Cf at q; omega) ?_) l1 (by omega)))))
  · exact (jI_sIn (by decide)).trans ((jfr_I f1 (by unfold w_Cf; omega)).trans h.2.1.1)
  · rw [jI_sIe, ll]
  · exact w_row_fr r1 (T := fun a j => a = 437 ∧ j = 3) (jfr_sI jfr_refl ⟨rfl, rfl⟩) fun a j q => by omega
theorem w_pm_lt {st : w_R} (h : 2 ≤ st.length) : w_pm (w_put st 2 [2, 1]) 2 [1] = w_pm st 2 [2] := by
  have l : (w_put st 2 [2, 1]).length = st.length := by
    rw [w_put_len]
    show st.length - 2 + 2 = st.length
    omega
  have ld : (w_dr st 2).length = st.length - 2 := by
    unfold w_dr
    rw [List.length_take]
    omega
  unfold w_pm
  rw [l]
  show [(w_put st 2 [2, 1]).getD (st.length - 2 + 0) []] = [st.getD (st.length - 2 + 1) []]
  unfold w_put
  rw [Nat.add_zero, List.getD_eq_getElem?_getD, List.getElem?_append_right (by omega), ld, Nat.sub_self]
  rfl
theorem w_mv110 {k : Unit → jH → Option (α × jH)} (h : w_Z scr S lf H0 H) (hb : S.1.length + S.2.1.length ≤ 60) (hk1 : ∀ st' sd' H', w_op 110 S.1 S.2.1 = some (st', sd') → w_Z scr (st', sd', S.2.2) lf H0 H' → jT (k () H') Q) (hk0 : ∀ H', w_op 110 S.1 S.2.1 = none → w_Yf H0 H' → jT (k () H') Q) : jT (jb (F_14_moves 437 (Int32.ofNat 110) H) k) Q := by
  have eo : w_op 110 S.1 S.2.1 = if 2 ≤ S.1.length then some (w_put S.1 2 [1, 2, 1, 2], S.2.1) else none := rfl
  unfold F_14_moves
  refine jT_b ?_
  iterate 3 refine jT_neg (by decide) ?_
  unfold B_14_moves_442
  exact jT_pos rfl (jT_g (w_Zk h) (w_dup14 (n := 2) (ab := 1) (m := 2) h rfl rfl rfl (by decide) rfl (by decide) (by decide) (by omega) (fun hl H' h' => jT_ret (hk1 _ _ H' (by rw [eo, if_pos hl]; rfl) h')) fun hl H' hy => jT_ret (hk0 H' (by rw [eo, if_neg (by omega)]) hy)))
theorem w_mv111 {k : Unit → jH → Option (α × jH)} (h : w_Z scr S lf H0 H) (hb : S.1.length + S.2.1.length ≤ 60) (hk1 : ∀ st' sd' H', w_op 111 S.1 S.2.1 = some (st', sd') → w_Z scr (st', sd', S.2.2) lf H0 H' → jT (k () H') Q) (hk0 : ∀ H', w_op 111 S.1 S.2.1 = none → w_Yf H0 H' → jT (k () H') Q) : jT (jb (F_14_moves 437 (Int32.ofNat 111) H) k) Q := by
  have eo : w_op 111 S.1 S.2.1 = if 3 ≤ S.1.length then some (w_put S.1 3 [1, 2, 3, 1, 2, 3], S.2.1) else none := rfl
  unfold F_14_moves
  refine jT_b ?_
  iterate 4 refine jT_neg (by decide) ?_
  unfold B_14_moves_442
  exact jT_pos rfl (jT_g (w_Zk h) (w_dup14 (n := 3) (ab := 2) (m := 3) h rfl rfl rfl (by decide) rfl (by decide) (by decide) (by omega) (fun hl H' h' => jT_ret (hk1 _ _ H' (by rw [eo, if_pos hl]; rfl) h')) fun hl H' hy => jT_ret (hk0 H' (by rw [eo, if_neg (by omega)]) hy)))
theorem w_mv112 {k : Unit → jH → Option (α × jH)} (h : w_Z scr S lf H0 H) (hb : S.1.length + S.2.1.length ≤ 60) (hk1 : ∀ st' sd' H', w_op 112 S.1 S.2.1 = some (st', sd') → w_Z scr (st', sd', S.2.2) lf H0 H' → jT (k () H') Q) (hk0 : ∀ H', w_op 112 S.1 S.2.1 = none → w_Yf H0 H' → jT (k () H') Q) : jT (jb (F_14_moves 437 (Int32.ofNat 112) H) k) Q := by
  have eo : w_op 112 S.1 S.2.1 = if 4 ≤ S.1.length then some (w_put S.1 4 [1, 2, 3, 4, 1, 2], S.2.1) else none := rfl
  unfold F_14_moves
  refine jT_b ?_
  iterate 5 refine jT_neg (by decide) ?_
  unfold B_14_moves_442
  exact jT_pos rfl (jT_g (w_Zk h) (w_dup14 (n := 4) (ab := 3) (m := 2) h rfl rfl rfl (by decide) rfl (by decide) (by decide) (by omega) (fun hl H' h' => jT_ret (hk1 _ _ H' (by rw [eo, if_pos hl]; rfl) h')) fun hl H' hy => jT_ret (hk0 H' (by rw [eo, if_neg (by omega)]) hy)))
theorem w_mv118 {k : Unit → jH → Option (α × jH)} (h : w_Z scr S lf H0 H) (hb : S.1.length + S.2.1.length ≤ 60) (hk1 : ∀ st' sd' H', w_op 118 S.1 S.2.1 = some (st', sd') → w_Z scr (st', sd', S.2.2) lf H0 H' → jT (k () H') Q) (hk0 : ∀ H', w_op 118 S.1 S.2.1 = none → w_Yf H0 H' → jT (k () H') Q) : jT (jb (F_14_moves 437 (Int32.ofNat 118) H) k) Q := by
  have eo : w_op 118 S.1 S.2.1 = if 1 ≤ S.1.length then some (w_put S.1 1 [1, 1], S.2.1) else none := rfl
  unfold F_14_moves
  refine jT_b ?_
  iterate 11 refine jT_neg (by decide) ?_
  unfold B_14_moves_442
  exact jT_pos rfl (jT_g (w_Zk h) (w_dup14 (n := 1) (ab := 0) (m := 1) h rfl rfl rfl (by decide) rfl (by decide) (by decide) (by omega) (fun hl H' h' => jT_ret (hk1 _ _ H' (by rw [eo, if_pos hl]; rfl) h')) fun hl H' hy => jT_ret (hk0 H' (by rw [eo, if_neg (by omega)]) hy)))
theorem w_mv120 {k : Unit → jH → Option (α × jH)} (h : w_Z scr S lf H0 H) (hb : S.1.length + S.2.1.length ≤ 60) (hk1 : ∀ st' sd' H', w_op 120 S.1 S.2.1 = some (st', sd') → w_Z scr (st', sd', S.2.2) lf H0 H' → jT (k () H') Q) (hk0 : ∀ H', w_op 120 S.1 S.2.1 = none → w_Yf H0 H' → jT (k () H') Q) : jT (jb (F_14_moves 437 (Int32.ofNat 120) H) k) Q := by
  have eo : w_op 120 S.1 S.2.1 = if 2 ≤ S.1.length then some (w_put S.1 2 [1, 2, 1], S.2.1) else none := rfl
  unfold F_14_moves
  refine jT_b ?_
  iterate 13 refine jT_neg (by decide) ?_
  unfold B_14_moves_442
  exact jT_pos rfl (jT_g (w_Zk h) (w_dup14 (n := 2) (ab := 1) (m := 1) h rfl rfl rfl (by decide) rfl (by decide) (by decide) (by omega) (fun hl H' h' => jT_ret (hk1 _ _ H' (by rw [eo, if_pos hl]; rfl) h')) fun hl H' hy => jT_ret (hk0 H' (by rw [eo, if_neg (by omega)]) hy)))
theorem w_mv113 {k : Unit → jH → Option (α × jH)} (h : w_Z scr S lf H0 H) (hb : S.1.length + S.2.1.length ≤ 60) (hk1 : ∀ st' sd' H', w_op 113 S.1 S.2.1 = some (st', sd') → w_Z scr (st', sd', S.2.2) lf H0 H' → jT (k () H') Q) (hk0 : ∀ H', w_op 113 S.1 S.2.1 = none → w_Yf H0 H' → jT (k () H') Q) : jT (jb (F_14_moves 437 (Int32.ofNat 113) H) k) Q := by
  have eo : w_op 113 S.1 S.2.1 = if 6 ≤ S.1.length then some (w_put S.1 6 [3, 4, 5, 6, 1, 2], S.2.1) else none := rfl
  unfold F_14_moves
  refine jT_b ?_
  iterate 6 refine jT_neg (by decide) ?_
  unfold B_14_moves_442
  exact jT_pos rfl (jT_g (w_Zk h) (w_rot14 (n := 6) (m := 2) h rfl rfl (by decide) (by decide) (by decide) (fun hl H' h' => jT_ret (hk1 _ _ H' (by rw [eo, if_pos hl]; rfl) h')) fun hl H' hy => jT_ret (hk0 H' (by rw [eo, if_neg (by omega)]) hy)))
theorem w_mv114 {k : Unit → jH → Option (α × jH)} (h : w_Z scr S lf H0 H) (hb : S.1.length + S.2.1.length ≤ 60) (hk1 : ∀ st' sd' H', w_op 114 S.1 S.2.1 = some (st', sd') → w_Z scr (st', sd', S.2.2) lf H0 H' → jT (k () H') Q) (hk0 : ∀ H', w_op 114 S.1 S.2.1 = none → w_Yf H0 H' → jT (k () H') Q) : jT (jb (F_14_moves 437 (Int32.ofNat 114) H) k) Q := by
  have eo : w_op 114 S.1 S.2.1 = if 4 ≤ S.1.length then some (w_put S.1 4 [3, 4, 1, 2], S.2.1) else none := rfl
  unfold F_14_moves
  refine jT_b ?_
  iterate 7 refine jT_neg (by decide) ?_
  unfold B_14_moves_442
  exact jT_pos rfl (jT_g (w_Zk h) (w_rot14 (n := 4) (m := 2) h rfl rfl (by decide) (by decide) (by decide) (fun hl H' h' => jT_ret (hk1 _ _ H' (by rw [eo, if_pos hl]; rfl) h')) fun hl H' hy => jT_ret (hk0 H' (by rw [eo, if_neg (by omega)]) hy)))
theorem w_mv123 {k : Unit → jH → Option (α × jH)} (h : w_Z scr S lf H0 H) (hb : S.1.length + S.2.1.length ≤ 60) (hk1 : ∀ st' sd' H', w_op 123 S.1 S.2.1 = some (st', sd') → w_Z scr (st', sd', S.2.2) lf H0 H' → jT (k () H') Q) (hk0 : ∀ H', w_op 123 S.1 S.2.1 = none → w_Yf H0 H' → jT (k () H') Q) : jT (jb (F_14_moves 437 (Int32.ofNat 123) H) k) Q := by
  have eo : w_op 123 S.1 S.2.1 = if 3 ≤ S.1.length then some (w_put S.1 3 [2, 3, 1], S.2.1) else none := rfl
  unfold F_14_moves
  refine jT_b ?_
  iterate 16 refine jT_neg (by decide) ?_
  unfold B_14_moves_442
  exact jT_pos rfl (jT_g (w_Zk h) (w_rot14 (n := 3) (m := 1) h rfl rfl (by decide) (by decide) (by decide) (fun hl H' h' => jT_ret (hk1 _ _ H' (by rw [eo, if_pos hl]; rfl) h')) fun hl H' hy => jT_ret (hk0 H' (by rw [eo, if_neg (by omega)]) hy)))
theorem w_mv124 {k : Unit → jH → Option (α × jH)} (h : w_Z scr S lf H0 H) (hb : S.1.length + S.2.1.length ≤ 60) (hk1 : ∀ st' sd' H', w_op 124 S.1 S.2.1 = some (st', sd') → w_Z scr (st', sd', S.2.2) lf H0 H' → jT (k () H') Q) (hk0 : ∀ H', w_op 124 S.1 S.2.1 = none → w_Yf H0 H' → jT (k () H') Q) : jT (jb (F_14_moves 437 (Int32.ofNat 124) H) k) Q := by
  have eo : w_op 124 S.1 S.2.1 = if 2 ≤ S.1.length then some (w_put S.1 2 [2, 1], S.2.1) else none := rfl
  unfold F_14_moves
  refine jT_b ?_
  iterate 17 refine jT_neg (by decide) ?_
  unfold B_14_moves_442
  exact jT_pos rfl (jT_g (w_Zk h) (w_rot14 (n := 2) (m := 1) h rfl rfl (by decide) (by decide) (by decide) (fun hl H' h' => jT_ret (hk1 _ _ H' (by rw [eo, if_pos hl]; rfl) h')) fun hl H' hy => jT_ret (hk0 H' (by rw [eo, if_neg (by omega)]) hy)))
theorem w_mv125 {k : Unit → jH → Option (α × jH)} (h : w_Z scr S lf H0 H) (hb : S.1.length + S.2.1.length ≤ 60) (hk1 : ∀ st' sd' H', w_op 125 S.1 S.2.1 = some (st', sd') → w_Z scr (st', sd', S.2.2) lf H0 H' → jT (k () H') Q) (hk0 : ∀ H', w_op 125 S.1 S.2.1 = none → w_Yf H0 H' → jT (k () H') Q) : jT (jb (F_14_moves 437 (Int32.ofNat 125) H) k) Q := by
  have eo : w_op 125 S.1 S.2.1 = if 2 ≤ S.1.length then some (w_put S.1 2 [2, 1, 2], S.2.1) else none := rfl
  unfold F_14_moves
  refine jT_b ?_
  iterate 18 refine jT_neg (by decide) ?_
  unfold B_14_moves_442
  refine jT_pos rfl (jT_g (w_Zk h) (w_rot14 (n := 2) (m := 1) h rfl rfl (by decide) (by decide) (by decide) (fun hl H' h' => ?_) fun hl H' hy => ?_))
  · have h2 : w_Z scr (w_put S.1 2 [2, 1], S.2) lf H0 H' := h'
    have ll : (w_put S.1 2 [2, 1]).length = S.1.length := by
      rw [w_put_len]
      show S.1.length - 2 + 2 = S.1.length
      omega
    refine jT_g (w_Zk h2) (jT_neg (fun q => q h2.2.1.2.2.2.1) (jT_g (w_Zk h2) (w_again14 (n := 2) (ab := 1) (m := 1) h2 rfl rfl rfl (by decide) (by decide) (by decide) (by decide) (by show (w_put S.1 2 [2, 1]).length ≤ 60; omega) (fun hl3 H3 h3 => jT_ret (hk1 _ _ H3 (by rw [eo, if_pos hl]) ?_)) fun hl3 => absurd hl (by have : (w_put S.1 2 [2, 1]).length < 2 := hl3; omega))))
    have h4 : w_Z scr (w_put S.1 2 [2, 1] ++ w_pm (w_put S.1 2 [2, 1]) 2 [1], S.2) lf H0 H3 := h3
    rw [w_pm_lt hl, ← w_put_app] at h4
    exact h4
  · obtain ⟨f, f1, f2, f3⟩ := hy.2
    refine jT_g (w_Yk hy) (jT_pos ?_ (jT_ret (hk0 H' (by rw [eo, if_neg (by omega)]) hy)))
    rw [f3]
    intro q
    have := (jo_eq (a := f) (b := 0) (by omega) (by decide)).mp q
    omega
theorem w_mv109 {k : Unit → jH → Option (α × jH)} (h : w_Z scr S lf H0 H) (hb : S.1.length + S.2.1.length ≤ 60) (hk1 : ∀ st' sd' H', w_op 109 S.1 S.2.1 = some (st', sd') → w_Z scr (st', sd', S.2.2) lf H0 H' → jT (k () H') Q) (hk0 : ∀ H', w_op 109 S.1 S.2.1 = none → w_Yf H0 H' → jT (k () H') Q) : jT (jb (F_14_moves 437 (Int32.ofNat 109) H) k) Q := by
  have eo : w_op 109 S.1 S.2.1 = if 2 ≤ S.1.length then some (w_put S.1 2 [], S.2.1) else none := rfl
  unfold F_14_moves
  refine jT_b ?_
  iterate 2 refine jT_neg (by decide) ?_
  unfold B_14_moves_199 B_14_moves_442
  refine jT_pos rfl (jT_g (w_Zk h) (w_has14 (n := 2) h rfl (by decide) (fun hl => ?_) fun hl H' hy => jT_pos rfl (jT_g (w_Yk hy) (jT_g (w_Yk hy) (jT_l (jT_ret (hk0 _ (by rw [eo, if_neg (by omega)]) (w_Y_I hy (by decide)))))))))
  have es : Int32.ofNat S.1.length - 2 = Int32.ofNat (S.1.length - 2) := jo_sub (a := S.1.length) (b := 2) hl
  rw [h.2.1.1, es]
  refine jT_neg (by decide) (jT_g (w_Zk h) (jT_g (w_Zk h) (jT_l (jT_ret (hk1 _ _ _ (by rw [eo, if_pos hl]) ?_)))))
  have := w_Z_take (n := S.1.length - 2) h (by omega)
  have e : w_put S.1 2 [] = S.1.take (S.1.length - 2) := List.append_nil _
  rw [e]
  exact this
theorem w_mv117 {k : Unit → jH → Option (α × jH)} (h : w_Z scr S lf H0 H) (hb : S.1.length + S.2.1.length ≤ 60) (hk1 : ∀ st' sd' H', w_op 117 S.1 S.2.1 = some (st', sd') → w_Z scr (st', sd', S.2.2) lf H0 H' → jT (k () H') Q) (hk0 : ∀ H', w_op 117 S.1 S.2.1 = none → w_Yf H0 H' → jT (k () H') Q) : jT (jb (F_14_moves 437 (Int32.ofNat 117) H) k) Q := by
  have eo : w_op 117 S.1 S.2.1 = if 1 ≤ S.1.length then some (w_put S.1 1 [], S.2.1) else none := rfl
  unfold F_14_moves
  refine jT_b ?_
  iterate 10 refine jT_neg (by decide) ?_
  unfold B_14_moves_320 B_14_moves_442
  refine jT_pos rfl (jT_g (w_Zk h) (w_has14 (n := 1) h rfl (by decide) (fun hl => ?_) fun hl H' hy => jT_pos rfl (jT_g (w_Yk hy) (jT_g (w_Yk hy) (jT_l (jT_ret (hk0 _ (by rw [eo, if_neg (by omega)]) (w_Y_I hy (by decide)))))))))
  have es : Int32.ofNat S.1.length - 1 = Int32.ofNat (S.1.length - 1) := jo_sub (a := S.1.length) (b := 1) hl
  rw [h.2.1.1, es]
  refine jT_neg (by decide) (jT_g (w_Zk h) (jT_g (w_Zk h) (jT_l (jT_ret (hk1 _ _ _ (by rw [eo, if_pos hl]) ?_)))))
  have := w_Z_take (n := S.1.length - 1) h (by omega)
  have e : w_put S.1 1 [] = S.1.take (S.1.length - 1) := List.append_nil _
  rw [e]
  exact this
theorem w_mv119 {k : Unit → jH → Option (α × jH)} (h : w_Z scr S lf H0 H) (hb : S.1.length + S.2.1.length ≤ 60) (hk1 : ∀ st' sd' H', w_op 119 S.1 S.2.1 = some (st', sd') → w_Z scr (st', sd', S.2.2) lf H0 H' → jT (k () H') Q) (hk0 : ∀ H', w_op 119 S.1 S.2.1 = none → w_Yf H0 H' → jT (k () H') Q) : jT (jb (F_14_moves 437 (Int32.ofNat 119) H) k) Q := by
  have eo : w_op 119 S.1 S.2.1 = if 2 ≤ S.1.length then some (w_put S.1 2 [2], S.2.1) else none := rfl
  unfold F_14_moves
  refine jT_b ?_
  iterate 12 refine jT_neg (by decide) ?_
  unfold B_14_moves_442
  refine jT_pos rfl (jT_g (w_Zk h) (w_has14 (n := 2) h rfl (by decide) (fun hl => ?_) fun hl H' hy => jT_pos rfl (jT_ret (hk0 H' (by rw [eo, if_neg (by omega)]) hy))))
  refine jT_neg (by decide) (jT_g (w_Zk h) (w_take14 (n := 1) h rfl (by omega) fun H' h' _ => jT_ret (hk1 _ _ H' (by rw [eo, if_pos hl]) ?_)))
  have e : w_rm S.1 (S.1.length - 1 - 1) = w_put S.1 2 [2] := by
    have e1 : w_put S.1 2 [1, 2] = S.1 := w_put_id hl
    have e2 := w_rm_put (st := S.1) (n := 2) (a := 1) (l := [2])
    rw [e1] at e2
    exact e2
  rw [← e]
  exact h'
theorem w_mv107 {k : Unit → jH → Option (α × jH)} (h : w_Z scr S lf H0 H) (hb : S.1.length + S.2.1.length ≤ 60) (hk1 : ∀ st' sd' H', w_op 107 S.1 S.2.1 = some (st', sd') → w_Z scr (st', sd', S.2.2) lf H0 H' → jT (k () H') Q) (hk0 : ∀ H', w_op 107 S.1 S.2.1 = none → w_Yf H0 H' → jT (k () H') Q) : jT (jb (F_14_moves 437 (Int32.ofNat 107) H) k) Q := by
  have eo : w_op 107 S.1 S.2.1 = if 1 ≤ S.1.length then some (w_dr S.1 1, S.2.1 ++ [w_tp S.1 1]) else none := by
    rw [w_op_pass (by decide) (by decide)]
    unfold w_pass
    rw [if_neg (by omega)]
    by_cases q : 1 ≤ S.1.length
    · rw [if_pos ⟨rfl, q⟩, if_pos q]
    · rw [if_neg (fun w => q w.2), if_neg q, if_neg (by omega)]
  unfold F_14_moves B_14_moves_442
  refine jT_b (jT_pos rfl (jT_g (w_Zk h) (w_has14 (n := 1) h rfl (by decide) (fun hl => ?_) fun hl H' hy => jT_pos rfl (jT_ret (hk0 H' (by rw [eo, if_neg (by omega)]) hy)))))
  have h' := w_Z_take (n := S.1.length - 1) h (by omega)
  have rr : w_row (jsI H 437 2 (Int32.ofNat (S.1.length - 1))) (S.1.length - 1) (w_tp S.1 1) := w_row_fr (w_rowA h (w_tp_at (Nat.le_refl 1) hl)) (T := fun a j => a = 437 ∧ j = 2) (jfr_sI jfr_refl ⟨rfl, rfl⟩) fun a j q => by omega
  have e2 : jI (jsI H 437 2 (Int32.ofNat (S.1.length - 1))) 437 2 = Int32.ofNat (S.1.length - 1) := jI_sIe
  rw [h.2.1.1, w_sub1 hl]
  refine jT_neg (by decide) (jT_g (w_Zk h) (jT_g (w_Zk h) (jT_l ?_)))
  generalize jsI H 437 2 (Int32.ofNat (S.1.length - 1)) = H1 at *
  have e3 : jI H1 437 3 = Int32.ofNat S.2.1.length := h'.2.1.2.1
  rw [e2, e3]
  refine jT_g (w_Zk h') (jT_g (w_Zk h') (jT_g (w_Zk h') ?_))
  exact w_toB14 (S := (S.1.take (S.1.length - 1), S.2)) (k := fun _ H => some ((), H)) (from_ := S.1.length - 1) h' (by omega) rr (by show S.2.1.length < 62; omega) fun H2 h2 => jT_ret (hk1 _ _ H2 (by rw [eo, if_pos hl]; rfl) h2)
theorem w_mv108 {k : Unit → jH → Option (α × jH)} (h : w_Z scr S lf H0 H) (hb : S.1.length + S.2.1.length ≤ 60) (hk1 : ∀ st' sd' H', w_op 108 S.1 S.2.1 = some (st', sd') → w_Z scr (st', sd', S.2.2) lf H0 H' → jT (k () H') Q) (hk0 : ∀ H', w_op 108 S.1 S.2.1 = none → w_Yf H0 H' → jT (k () H') Q) : jT (jb (F_14_moves 437 (Int32.ofNat 108) H) k) Q := by
  have eo : w_op 108 S.1 S.2.1 = if 1 ≤ S.2.1.length then some (S.1 ++ [w_tp S.2.1 1], w_dr S.2.1 1) else none := by
    rw [w_op_pass (by decide) (by decide)]
    unfold w_pass
    rw [if_neg (by omega), if_neg (by omega)]
    by_cases q : 1 ≤ S.2.1.length
    · rw [if_pos ⟨rfl, q⟩, if_pos q]
    · rw [if_neg (fun w => q w.2), if_neg q]
  unfold F_14_moves
  refine jT_b ?_
  iterate 1 refine jT_neg (by decide) ?_
  unfold B_14_moves_442
  have e3 : jI H 437 3 = Int32.ofNat S.2.1.length := h.2.1.2.1
  rw [e3]
  refine jT_pos rfl (jT_g (w_Zk h) ?_)
  by_cases c1 : S.2.1.length = 0
  · exact jT_neg (by rw [c1]; decide) (jT_g (w_Zk h) (w_fails (n := 5) h rfl (by decide) (by decide) fun H' hy => jT_ret (hk0 H' (by rw [eo, if_neg (by omega)]) hy)))
  · have h' := w_Z_tkB (n := S.2.1.length - 1) h (by omega)
    have rr : w_row (jsI H 437 3 (Int32.ofNat (S.2.1.length - 1))) (70 + (S.2.1.length - 1)) (w_tp S.2.1 1) := w_row_fr (w_rowB h (w_tp_at (Nat.le_refl 1) (by omega))) (T := fun a j => a = 437 ∧ j = 3) (jfr_sI jfr_refl ⟨rfl, rfl⟩) fun a j q => by omega
    have e4 : jI (jsI H 437 3 (Int32.ofNat (S.2.1.length - 1))) 437 3 = Int32.ofNat (S.2.1.length - 1) := jI_sIe
    rw [w_sub1 (by omega)]
    refine jT_pos (fun q => c1 ((jo_eq (a := S.2.1.length) (b := 0) (by omega) (by decide)).mp q)) (jT_g (w_Zk h) (jT_g (w_Zk h) (jT_l ?_)))
    generalize jsI H 437 3 (Int32.ofNat (S.2.1.length - 1)) = H1 at *
    rw [e4]
    refine jT_g (w_Zk h') (jT_g (w_Zk h') (w_push14 (from_ := 70 + (S.2.1.length - 1)) h' (by rw [show (70 : Int32) = Int32.ofNat 70 from rfl, jo_add]) (by omega) rr (by show S.1.length < 66; omega) fun H2 h2 _ => jT_ret (hk1 _ _ H2 (by rw [eo, if_pos (by omega)]; rfl) h2)))
theorem w_mv115 {k : Unit → jH → Option (α × jH)} (h : w_Z scr S lf H0 H) (hb : S.1.length + S.2.1.length ≤ 60) (hk1 : ∀ st' sd' H', w_op 115 S.1 S.2.1 = some (st', sd') → w_Z scr (st', sd', S.2.2) lf H0 H' → jT (k () H') Q) (hk0 : ∀ H', w_op 115 S.1 S.2.1 = none → w_Yf H0 H' → jT (k () H') Q) : jT (jb (F_14_moves 437 (Int32.ofNat 115) H) k) Q := by
  have eo : w_op 115 S.1 S.2.1 = if 1 ≤ S.1.length then some (if ztrue (w_tp S.1 1) = true then S.1 ++ [w_tp S.1 1] else S.1, S.2.1) else none := by
    rw [w_op_arr (by decide) (by decide)]
    unfold w_arr
    by_cases q : 1 ≤ S.1.length
    · rw [if_pos ⟨rfl, q⟩, if_pos q]
    · rw [if_neg (fun w => q w.2), if_neg q, if_neg (by decide), if_neg (by omega), if_neg (by omega)]
  unfold F_14_moves
  refine jT_b ?_
  iterate 8 refine jT_neg (by decide) ?_
  unfold B_14_moves_442
  refine jT_pos rfl (jT_g (w_Zk h) (w_has14 (n := 1) h rfl (by decide) (fun hl => ?_) fun hl H' hy => jT_pos rfl (jT_ret (hk0 H' (by rw [eo, if_neg (by omega)]) hy))))
  have rr := w_rowA h (w_tp0 (k := 0) hl)
  refine jT_neg (by decide) (jT_g (w_Zk h) ?_)
  rw [z14_top (k := 0) (k' := 0) h rfl hl, jb_ok]
  refine jT_g (w_Zk h) ?_
  rw [z14_isT h.1.1 rfl (by omega) rr, jb_ok]
  rw [if_pos hl] at eo
  by_cases t : ztrue (w_tp S.1 1) = true
  · rw [if_pos t] at eo
    rw [if_pos t]
    refine jT_neg (by decide) (jT_g (w_Zk h) ?_)
    rw [z14_top (k := 0) (k' := 0) h rfl hl, jb_ok]
    exact jT_g (w_Zk h) (w_push14 h rfl (by omega) rr (by omega) fun H2 h2 _ => jT_ret (hk1 _ _ H2 eo h2))
  · rw [if_neg t] at eo
    rw [if_neg t]
    exact jT_pos rfl (jT_ret (hk1 _ _ H eo h))
theorem w_mv116 {k : Unit → jH → Option (α × jH)} (h : w_Z scr S lf H0 H) (hb : S.1.length + S.2.1.length ≤ 60) (hk1 : ∀ st' sd' H', w_op 116 S.1 S.2.1 = some (st', sd') → w_Z scr (st', sd', S.2.2) lf H0 H' → jT (k () H') Q) (hk0 : ∀ H', w_op 116 S.1 S.2.1 = none → w_Yf H0 H' → jT (k () H') Q) : jT (jb (F_14_moves 437 (Int32.ofNat 116) H) k) Q := by
  have eo : w_op 116 S.1 S.2.1 = some (S.1 ++ [w_en (Int64.ofNat S.1.length)], S.2.1) := by
    rw [w_op_arr (by decide) (by decide)]
    unfold w_arr
    rw [if_neg (by omega), if_pos rfl]
  unfold F_14_moves
  refine jT_b ?_
  iterate 9 refine jT_neg (by decide) ?_
  unfold B_14_moves_442
  rw [h.2.1.1, lo_of (by omega)]
  exact jT_pos rfl (jT_g (w_Zk h) (jT_g (w_Zk h) (w_num14 (lo_ia (by omega)) h (by omega) fun H2 h2 => jT_ret (hk1 _ _ H2 eo h2))))
theorem w_mv130 {k : Unit → jH → Option (α × jH)} (h : w_Z scr S lf H0 H) (hb : S.1.length + S.2.1.length ≤ 60) (hk1 : ∀ st' sd' H', w_op 130 S.1 S.2.1 = some (st', sd') → w_Z scr (st', sd', S.2.2) lf H0 H' → jT (k () H') Q) (hk0 : ∀ H', w_op 130 S.1 S.2.1 = none → w_Yf H0 H' → jT (k () H') Q) : jT (jb (F_14_moves 437 (Int32.ofNat 130) H) k) Q := by
  have eo : w_op 130 S.1 S.2.1 = if 1 ≤ S.1.length then some (S.1 ++ [w_en (Int64.ofNat (w_tp S.1 1).length)], S.2.1) else none := by
    rw [w_op_arr (by decide) (by decide)]
    unfold w_arr
    rw [if_neg (by omega), if_neg (by decide), if_neg (by omega)]
    by_cases q : 1 ≤ S.1.length
    · rw [if_pos ⟨rfl, q⟩, if_pos q]
    · rw [if_neg (fun w => q w.2), if_neg q]
  unfold F_14_moves
  refine jT_b ?_
  iterate 19 refine jT_neg (by decide) ?_
  unfold B_14_moves_442
  refine jT_g (w_Zk h) (w_has14 (n := 1) h rfl (by decide) (fun hl => ?_) fun hl H' hy => jT_pos rfl (jT_ret (hk0 H' (by rw [eo, if_neg (by omega)]) hy)))
  have rr := w_rowA h (w_tp0 (k := 0) hl)
  have rl := rr.1
  refine jT_neg (by decide) (jT_g (w_Zk h) (jT_g (w_Zk h) ?_))
  rw [z14_top (k := 0) (k' := 0) h rfl hl, jb_ok]
  simp only [(w_Zr h).2.1, jo_nat (n := S.1.length - 1 - 0) (by omega), rr.2.1]
  rw [lo_of (by omega)]
  exact jT_g (gA (sK_439 h.1.1) (jo_in (by omega) (by omega))) (jT_g (w_Zk h) (w_num14 (lo_ia (by omega)) h (by omega) fun H2 h2 => jT_ret (hk1 _ _ H2 (by rw [eo, if_pos hl]) h2)))
theorem w_mv121 {k : Unit → jH → Option (α × jH)} (h : w_Z scr S lf H0 H) (hb : S.1.length + S.2.1.length ≤ 60) (hk1 : ∀ st' sd' H', w_op 121 S.1 S.2.1 = some (st', sd') → w_Z scr (st', sd', S.2.2) lf H0 H' → jT (k () H') Q) (hk0 : ∀ H', w_op 121 S.1 S.2.1 = none → w_Yf H0 H' → jT (k () H') Q) : jT (jb (F_14_moves 437 (Int32.ofNat 121) H) k) Q := by
  have eo : w_op 121 S.1 S.2.1 = w_arr 121 S.1 S.2.1 := w_op_arr (by decide) (by decide)
  unfold F_14_moves
  refine jT_b ?_
  iterate 14 refine jT_neg (by decide) ?_
  unfold B_14_moves_442
  exact jT_pos rfl (jT_g (w_Zk h) (w_pick14 false rfl h (by omega) (fun st' sd' H' e h' => jT_ret (hk1 _ _ H' (eo.trans e) h')) fun H' e hy => jT_ret (hk0 H' (eo.trans e) hy)))
theorem w_mv122 {k : Unit → jH → Option (α × jH)} (h : w_Z scr S lf H0 H) (hb : S.1.length + S.2.1.length ≤ 60) (hk1 : ∀ st' sd' H', w_op 122 S.1 S.2.1 = some (st', sd') → w_Z scr (st', sd', S.2.2) lf H0 H' → jT (k () H') Q) (hk0 : ∀ H', w_op 122 S.1 S.2.1 = none → w_Yf H0 H' → jT (k () H') Q) : jT (jb (F_14_moves 437 (Int32.ofNat 122) H) k) Q := by
  have eo : w_op 122 S.1 S.2.1 = w_arr 122 S.1 S.2.1 := w_op_arr (by decide) (by decide)
  unfold F_14_moves
  refine jT_b ?_
  iterate 15 refine jT_neg (by decide) ?_
  unfold B_14_moves_442
  exact jT_pos rfl (jT_g (w_Zk h) (w_pick14 true rfl h (by omega) (fun st' sd' H' e h' => jT_ret (hk1 _ _ H' (eo.trans e) h')) fun H' e hy => jT_ret (hk0 H' (eo.trans e) hy)))
theorem w_moves14 {k : Unit → jH → Option (α × jH)} (hc : (107 ≤ c ∧ c ≤ 125) ∨ c = 130) (h : w_Z scr S lf H0 H) (hb : S.1.length + S.2.1.length ≤ 60) (hk1 : ∀ st' sd' H', w_op c S.1 S.2.1 = some (st', sd') → w_Z scr (st', sd', S.2.2) lf H0 H' → jT (k () H') Q) (hk0 : ∀ H', w_op c S.1 S.2.1 = none → w_Yf H0 H' → jT (k () H') Q) : jT (jb (F_14_moves 437 (Int32.ofNat c) H) k) Q := by
  have hcc : c = 107 ∨ c = 108 ∨ c = 109 ∨ c = 110 ∨ c = 111 ∨ c = 112 ∨ c = 113 ∨ c = 114 ∨ c = 115 ∨ c = 116 ∨ c = 117 ∨ c = 118 ∨ c = 119 ∨ c = 120 ∨ c = 121 ∨ c = 122 ∨ c = 123 ∨ c = 124 ∨ c = 125 ∨ c = 130 := by omega
  rcases hcc with rfl | rfl | rfl | rfl | rfl | rfl | rfl | rfl | rfl | rfl | rfl | rfl | rfl | rfl | rfl | rfl | rfl | rfl | rfl | rfl
  · exact w_mv107 h hb hk1 hk0
  · exact w_mv108 h hb hk1 hk0
  · exact w_mv109 h hb hk1 hk0
  · exact w_mv110 h hb hk1 hk0
  · exact w_mv111 h hb hk1 hk0
  · exact w_mv112 h hb hk1 hk0
  · exact w_mv113 h hb hk1 hk0
  · exact w_mv114 h hb hk1 hk0
  · exact w_mv115 h hb hk1 hk0
  · exact w_mv116 h hb hk1 hk0
  · exact w_mv117 h hb hk1 hk0
  · exact w_mv118 h hb hk1 hk0
  · exact w_mv119 h hb hk1 hk0
  · exact w_mv120 h hb hk1 hk0
  · exact w_mv121 h hb hk1 hk0
  · exact w_mv122 h hb hk1 hk0
  · exact w_mv123 h hb hk1 hk0
  · exact w_mv124 h hb hk1 hk0
  · exact w_mv125 h hb hk1 hk0
  · exact w_mv130 h hb hk1 hk0
end OP14
