/-! The reference's scripts: conditions. -/
theorem w_pv_app {pb : List Bool} {b : Bool} {k : Nat} (h : k < pb.length) : w_pv (pb ++ [b]) k = w_pv pb k := by
  unfold w_pv
  rw [List.take_append_of_le_length (by omega), List.getD_eq_getElem?_getD, List.getElem?_append_left h, ← List.getD_eq_getElem?_getD]
theorem w_pv_last {pb : List Bool} {b : Bool} : w_pv (pb ++ [b]) pb.length = if w_all pb = true then (if b = true then 1 else 2) else 3 := by
  unfold w_pv
  rw [List.take_append_of_le_length (Nat.le_refl _), List.take_length, List.getD_eq_getElem?_getD, List.getElem?_append_right (Nat.le_refl _), Nat.sub_self]
  rfl
theorem w_pv_take {pb : List Bool} {k m : Nat} (h : k < m) : w_pv (pb.take m) k = w_pv pb k := by
  unfold w_pv
  rw [List.take_take, Nat.min_eq_left (by omega), List.getD_eq_getElem?_getD, List.getElem?_take, if_pos h, ← List.getD_eq_getElem?_getD]
theorem w_all_snoc {pb : List Bool} {b : Bool} : w_all (pb ++ [b]) = (w_all pb && b) := by
  unfold w_all
  rw [List.all_append]
  simp
theorem w_bl_last {pb : List Bool} (h : 0 < pb.length) : pb = pb.take (pb.length - 1) ++ [pb.getD (pb.length - 1) false] := by
  have e : pb.length - 1 + 1 = pb.length := by omega
  have := w_take_s (l := pb) (k := pb.length - 1) (a := pb.getD (pb.length - 1) false) (by rw [List.getD_eq_getElem?_getD, List.getElem?_eq_getElem (by omega)]; rfl)
  rw [e, List.take_length] at this
  exact this
section FL14
variable {scr : List UInt8} {S : w_S4} {lf : Nat} {H0 H : jH} {α : Type} {Q : α → jH → Prop} {c : Nat}
theorem w_Z_pb {pb : List Bool} {H' : jH} (h : w_Z scr S lf H0 H) (hs : jsh H') (hf : jfr (fun a j => a = 441 ∨ (a = 437 ∧ j = 9)) H H') (h9 : jI H' 437 9 = Int32.ofNat pb.length) (hp : ∀ k, k < pb.length → jI H' 441 k = w_pv pb k) (hl : pb.length ≤ 200) : w_Z scr (S.1, S.2.1, S.2.2.1, pb) lf H0 H' := by
  obtain ⟨⟨a1, a2⟩, ⟨b1, b2, b3, b4, b5, b6, b7⟩, ⟨c1, c2, c3, c4⟩, d1, d2, d3, d4, d5, d6⟩ := h
  refine ⟨⟨hs, jfr_trans a2 (jfr_mono hf fun a j q => w_F437 (by omega) (by omega))⟩, ⟨(jfr_I hf (by omega)).trans b1, (jfr_I hf (by omega)).trans b2, (jfr_I hf (by omega)).trans b3, (jfr_I hf (by omega)).trans b4, (jfr_I hf (by omega)).trans b5, (jfr_I hf (by omega)).trans b6, h9⟩, ⟨zIts_fr c1 hf fun a j k hkl q => by omega, zIts_fr c2 hf fun a j k hkl q => by omega, c3, c4⟩, hp, fun k hk => (jfr_I hf (by omega)).trans (d2 k hk), d3, d4, hl, d6⟩
theorem w_pv_1 {pb : List Bool} (h : 0 < pb.length) : (w_pv pb (pb.length - 1) = 1 ↔ w_all pb = true) := by
  have e := w_bl_last h
  have e2 : w_all pb = (w_all (pb.take (pb.length - 1)) && pb.getD (pb.length - 1) false) := by
    conv => lhs; rw [e]
    exact w_all_snoc
  unfold w_pv
  rw [e2]
  cases w_all (pb.take (pb.length - 1)) <;> cases pb.getD (pb.length - 1) false <;> decide
theorem z14_isDone (h : w_Z scr S lf H0 H) : F_14_isDone 437 H = some ((if w_all S.2.2.2 = true then 1 else 0), H) := by
  have l200 := h.2.2.2.2.2.2.2.1
  unfold F_14_isDone B_14_isDone_22 B_14_isDone_27
  rw [jg_t (w_Zk h), h.2.1.2.2.2.2.2.2, (w_Zr h).2.2.2]
  by_cases c0 : S.2.2.2.length = 0
  · have e : S.2.2.2 = [] := List.length_eq_zero_iff.mp c0
    rw [if_pos (by rw [c0]; rfl), jg_t (Or.inr rfl), e]
    rfl
  · have q0 : ¬ (Int32.ofNat S.2.2.2.length = 0) := fun q => c0 ((jo_eq (a := S.2.2.2.length) (b := 0) (by omega) (by decide)).mp q)
    rw [if_neg q0, jg_t (w_Zk h), jg_t (w_Zk h), w_sub1 (by omega), jg_t (gA (sK_441 h.1.1) (jo_in (by omega) (by omega))), jo_nat (n := S.2.2.2.length - 1) (by omega), h.2.2.2.1 _ (by omega)]
    by_cases c1 : w_all S.2.2.2 = true
    · rw [if_neg (fun q => q ((w_pv_1 (by omega)).mpr c1)), jg_t (Or.inr rfl), if_pos c1]
    · rw [if_pos (fun q => c1 ((w_pv_1 (by omega)).mp q)), jg_t (Or.inl rfl), if_neg c1]
/-- a condition more -/
theorem w_flw85 {k : Unit → jH → Option (α × jH)} {b : Bool} {v : Int32} (h : w_Z scr S lf H0 H) (hpb : S.2.2.2.length < 200) (ev : v = if w_all S.2.2.2 = true then (if b = true then 1 else 2) else 3) (hk : ∀ H', w_Z scr (S.1, S.2.1, S.2.2.1, S.2.2.2 ++ [b]) lf H0 H' → jT (k () H') Q) : jT (B_14_flow_85 437 441 (Int32.ofNat S.2.2.2.length) v H) (fun x h => jT (k x h) Q) := by
  have e9 := h.2.1.2.2.2.2.2.2
  have e1 : Int32.ofNat S.2.2.2.length + 1 = Int32.ofNat (S.2.2.2.length + 1) := jo_add (a := S.2.2.2.length) (b := 1)
  have ll : (S.2.2.2 ++ [b]).length = S.2.2.2.length + 1 := List.length_append
  unfold B_14_flow_85 B_14_flow_86
  have hs1 : jsh (jsI H 441 S.2.2.2.length v) := jsh_sI h.1.1 (by decide)
  have e9' : jI (jsI H 441 S.2.2.2.length v) 437 9 = Int32.ofNat S.2.2.2.length := (jI_sIa (by decide)).trans e9
  rw [jo_nat (n := S.2.2.2.length) (by omega)]
  refine jT_g (gIw (sK_441 h.1.1) (by decide) (jo_in (by omega) (by omega))) (jT_l ?_)
  rw [e9', e1]
  refine jT_g (k14 hs1) (jT_g (k14 hs1) (jT_l (jT_ret (hk _ (w_Z_pb h (jsh_sI hs1 (by decide)) (jfr_sI (jfr_sI jfr_refl (Or.inl rfl)) (Or.inr ⟨rfl, rfl⟩)) ?_ ?_ (by omega))))))
  · rw [jI_sIe, ll]
  · intro j hj
    rw [jI_sIa (by decide)]
    by_cases c1 : j = S.2.2.2.length
    · rw [c1, jI_sIe, w_pv_last, ev]
    · rw [jI_sIn c1, w_pv_app (by omega)]
      exact h.2.2.2.1 j (by omega)
theorem w_Y_S {H' : jH} (h : w_Yf H0 H) (hs : jsh H') (hf : jfr (fun a j => a = 437 ∧ j ≠ 6) H H') : w_Yf H0 H' := by
  obtain ⟨⟨a1, a2⟩, f, f1, f2, f3⟩ := h
  exact ⟨⟨hs, jfr_trans a2 (jfr_mono hf fun a j q => w_F437 (by omega) (by omega))⟩, f, f1, f2, (jfr_I hf (by omega)).trans f3⟩
theorem w_flow14 {k : Unit → jH → Option (α × jH)} (hc : c = 99 ∨ c = 100 ∨ c = 103 ∨ c = 104) (h : w_Z scr S lf H0 H) (hpb : S.2.2.2.length < 200) (hk1 : ∀ st' pb' H', w_flow c S.1 S.2.2.2 = some (st', pb') → w_Z scr (st', S.2.1, S.2.2.1, pb') lf H0 H' → jT (k () H') Q) (hk0 : ∀ H', w_flow c S.1 S.2.2.2 = none → w_Yf H0 H' → jT (k () H') Q) : jT (jb (F_14_flow 437 (Int32.ofNat c) H) k) Q := by
  have l66 := h.2.2.1.2.2.1
  have l200 := h.2.2.2.2.2.2.2.1
  refine jT_b ?_
  by_cases c99 : c = 99 ∨ c = 100
  · have go : jT (B_14_flow_12 437 (Int32.ofNat c) H) (fun x h => jT (k x h) Q) := by
      have ef : w_flow c S.1 S.2.2.2 = if w_all S.2.2.2 = true then (if 1 ≤ S.1.length then some (w_dr S.1 1, S.2.2.2 ++ [ztrue (w_tp S.1 1) == decide (c = 99)]) else none) else some (S.1, S.2.2.2 ++ [false]) := by
        unfold w_flow
        rw [if_pos c99]
      unfold B_14_flow_12
      refine jT_g (w_Zk h) ?_
      rw [z14_isDone h, jb_ok]
      by_cases ca : w_all S.2.2.2 = true
      · rw [if_pos ca] at ef
        rw [if_pos ca]
        refine jT_pos (by decide) (jT_g (w_Zk h) (w_has14 (n := 1) h rfl (by decide) (fun hl => ?_) fun hl H' hy => ?_))
        · have h' := w_Z_take (n := S.1.length - 1) h (by omega)
          have rr : w_row (jsI H 437 2 (Int32.ofNat (S.1.length - 1))) (S.1.length - 1) (w_tp S.1 1) := w_row_fr (w_rowA h (w_tp_at (Nat.le_refl 1) hl)) (T := fun a j => a = 437 ∧ j = 2) (jfr_sI jfr_refl ⟨rfl, rfl⟩) fun a j q => by omega
          have e2 : jI (jsI H 437 2 (Int32.ofNat (S.1.length - 1))) 437 2 = Int32.ofNat (S.1.length - 1) := jI_sIe
          rw [h.2.1.1, w_sub1 hl]
          refine jT_neg (by decide) (jT_g (w_Zk h) (jT_g (w_Zk h) (jT_l ?_)))
          generalize jsI H 437 2 (Int32.ofNat (S.1.length - 1)) = H1 at *
          have e9 : jI H1 437 9 = Int32.ofNat S.2.2.2.length := h'.2.1.2.2.2.2.2.2
          rw [e2, z14_isT h'.1.1 rfl (by omega) rr, jb_ok, e9, (w_Zr h').2.2.2]
          refine jT_g (w_Zk h') (jT_g (w_Zk h') (jT_g (w_Zk h') (jT_g (w_Zk h') ?_)))
          rw [if_pos hl] at ef
          unfold B_14_flow_77
          have fin : ∀ v : Int32, v = (if (ztrue (w_tp S.1 1) == decide (c = 99)) = true then 1 else 2) → jT (B_14_flow_85 437 441 (Int32.ofNat S.2.2.2.length) v H1) (fun x h => jT (k x h) Q) := fun v ev => w_flw85 (S := (S.1.take (S.1.length - 1), S.2)) (b := ztrue (w_tp S.1 1) == decide (c = 99)) h' hpb (by rw [ev]; exact (if_pos ca).symm) fun H2 h2 => hk1 _ _ H2 ef h2
          rcases c99 with rfl | rfl
          · refine jT_neg (by decide) ?_
            cases ht : ztrue (w_tp S.1 1) with
            | false => exact jT_pos (by decide) (fin 2 (by rw [ht]; decide))
            | true => exact jT_neg (by decide) (fin 1 (by rw [ht]; decide))
          · refine jT_pos (by decide) ?_
            cases ht : ztrue (w_tp S.1 1) with
            | false => exact jT_neg (by decide) (fin 1 (by rw [ht]; decide))
            | true => exact jT_pos (by decide) (fin 2 (by rw [ht]; decide))
        · unfold B_14_flow_86
          exact jT_pos rfl (jT_g (w_Yk hy) (jT_g (w_Yk hy) (jT_l (jT_ret (hk0 _ (by rw [ef, if_neg (by omega)]) (w_Y_I hy (by decide)))))))
      · rw [if_neg ca] at ef
        rw [if_neg ca]
        refine jT_neg (fun q => q rfl) (jT_g (w_Zk h) (jT_g (w_Zk h) ?_))
        rw [(w_Zr h).2.2.2, h.2.1.2.2.2.2.2.2]
        exact w_flw85 (b := false) h hpb (by rw [if_neg ca]) fun H2 h2 => hk1 _ _ H2 ef h2
    unfold F_14_flow
    rcases c99 with rfl | rfl
    · exact jT_pos rfl go
    · exact jT_neg (by decide) (jT_neg (by decide) go)
  · have e9 := h.2.1.2.2.2.2.2.2
    have ef : w_flow c S.1 S.2.2.2 = if S.2.2.2.length = 0 then none else if c = 103 then some (S.1, S.2.2.2.take (S.2.2.2.length - 1) ++ [!(S.2.2.2.getD (S.2.2.2.length - 1) false)]) else some (S.1, S.2.2.2.take (S.2.2.2.length - 1)) := by
      unfold w_flow
      rw [if_neg c99]
    have lt : (S.2.2.2.take (S.2.2.2.length - 1)).length = S.2.2.2.length - 1 := by rw [List.length_take]; omega
    unfold F_14_flow B_14_flow_167
    rw [e9]
    refine jT_neg (fun q => c99 (Or.inl ((jo_eq (a := c) (b := 99) (by omega) (by decide)).mp q))) (jT_pos (fun q => c99 (Or.inr ((jo_eq (a := c) (b := 100) (by omega) (by decide)).mp q))) (jT_g (w_Zk h) ?_))
    by_cases c0 : S.2.2.2.length = 0
    · exact jT_neg (by rw [c0]; decide) (jT_g (w_Zk h) (w_fails (n := 10) h rfl (by decide) (by decide) fun H' hy => jT_ret (hk0 H' (by rw [ef, if_pos c0]) hy)))
    · rw [if_neg c0] at ef
      refine jT_pos (fun q => c0 ((jo_eq (a := S.2.2.2.length) (b := 0) (by omega) (by decide)).mp q)) ?_
      rw [w_sub1 (by omega)]
      by_cases c3 : c = 103
      · subst c3
        have ef' := ef.trans (if_pos rfl)
        refine jT_pos (by decide) (jT_g (w_Zk h) (jT_g (w_Zk h) ?_))
        rw [(w_Zr h).2.2.2, jo_nat (n := S.2.2.2.length - 1) (by omega), h.2.2.2.1 _ (by omega)]
        refine jT_g (gA (sK_441 h.1.1) (jo_in (by omega) (by omega))) (jT_l (jT_g (w_Zk h) (jT_g (w_Zk h) ?_)))
        have fin : ∀ v : Int32, v = (if w_all (S.2.2.2.take (S.2.2.2.length - 1)) = true then (if (!(S.2.2.2.getD (S.2.2.2.length - 1) false)) = true then 1 else 2) else 3) → jT (B_14_flow_166 441 (Int32.ofNat (S.2.2.2.length - 1)) v H) (fun x h => jT (k x h) Q) := fun v ev => by
          unfold B_14_flow_166 B_14_flow_167
          rw [jo_nat (n := S.2.2.2.length - 1) (by omega)]
          have la : (S.2.2.2.take (S.2.2.2.length - 1) ++ [!(S.2.2.2.getD (S.2.2.2.length - 1) false)]).length = S.2.2.2.length := by
            rw [List.length_append, lt]
            show S.2.2.2.length - 1 + 1 = _
            omega
          refine jT_g (gIw (sK_441 h.1.1) (by decide) (jo_in (by omega) (by omega))) (jT_l (jT_ret (hk1 _ _ _ ef' (w_Z_pb h (jsh_sI h.1.1 (by decide)) (jfr_sI jfr_refl (Or.inl rfl)) ?_ ?_ (by omega)))))
          · rw [jI_sIa (by decide), la]
            exact e9
          · intro j hj
            by_cases c1 : j = S.2.2.2.length - 1
            · rw [c1, jI_sIe]
              have := w_pv_last (pb := S.2.2.2.take (S.2.2.2.length - 1)) (b := !(S.2.2.2.getD (S.2.2.2.length - 1) false))
              rw [lt] at this
              rw [this, ev]
            · rw [jI_sIn c1, w_pv_app (by omega), w_pv_take (by omega)]
              exact h.2.2.2.1 j (by omega)
        have epv : w_pv S.2.2.2 (S.2.2.2.length - 1) = if w_all (S.2.2.2.take (S.2.2.2.length - 1)) = true then (if S.2.2.2.getD (S.2.2.2.length - 1) false = true then 1 else 2) else 3 := rfl
        rw [epv]
        cases h1 : w_all (S.2.2.2.take (S.2.2.2.length - 1)) with
        | false => exact jT_neg (fun q => q (if_neg (by decide))) (fin 3 (by rw [h1]; exact (if_neg (by decide)).symm))
        | true =>
          cases h2 : S.2.2.2.getD (S.2.2.2.length - 1) false with
          | false => exact jT_pos (by decide) (fin _ (by rw [h1, h2]; decide))
          | true => exact jT_pos (by decide) (fin _ (by rw [h1, h2]; decide))
      · have ef' := ef.trans (if_neg c3)
        obtain rfl : c = 104 := by omega
        refine jT_neg (by decide) (jT_g (w_Zk h) (jT_g (w_Zk h) (jT_l (jT_ret (hk1 _ _ _ ef' (w_Z_pb h (jsh_sI h.1.1 (by decide)) (jfr_sI jfr_refl (Or.inr ⟨rfl, rfl⟩)) ?_ ?_ (by omega)))))))
        · rw [jI_sIe, lt]
        · intro j hj
          rw [jI_sIa (by decide), w_pv_take (by omega)]
          exact h.2.2.2.1 j (by omega)
end FL14
