/-! The reference: whether an input's scripts fail, whole. -/
def w_FI : Nat → Nat → Prop := fun a j => w_FS a j ∨ (a = 427 ∧ 2 ≤ j ∧ j ≤ 6)
def w_T5 : Nat → Nat → Prop := fun a j => a = 427 ∧ 2 ≤ j ∧ j ≤ 6
theorem w_p13_T {T : Nat → Nat → Prop} {H H' : jH} (h : w_p13 H) (hf : jfr T H H') (hT : ∀ a j, T a j → a < 428 ∨ 436 < a) : w_p13 H' := by
  obtain ⟨a, b, ⟨t, c⟩, d⟩ := h
  have n : ∀ i j, 428 ≤ i → i ≤ 436 → jI H' i j = jI H i j := fun i j q1 q2 => jfr_I hf fun w => by have := hT i j w; omega
  exact ⟨z13C_I a (fun j => n 429 j (by decide) (by decide)) fun j => n 432 j (by decide) (by decide), z25_I b fun j => n 429 j (by decide) (by decide), ⟨t, fun j hj => (n 434 j (by decide) (by decide)).trans (c j hj)⟩, (n 428 6 (by decide) (by decide)).trans d⟩
def w_lr (lr la llen : Nat) (lk : List UInt8) (H : jH) : Prop := jK H lr = (101, llen) ∧ la + lk.length ≤ llen ∧ llen < 2000000 ∧ zRow H lr la lk ∧ 445 ≤ lr ∧ lk.length ≤ 200
theorem w_sl_row {H : jH} {r s p n q : Nat} {tb : List UInt8} (h : zRow H r s tb) (e : q = s + p) : zRow H r q (w_sl tb p n) := fun i u hi => by
  unfold w_sl at hi
  rw [List.getElem?_take] at hi
  split at hi
  · rw [List.getElem?_drop] at hi
    rw [e, Nat.add_assoc]
    exact h (p + i) u hi
  · cases hi
section F18B
variable {tb lk : List UInt8} {y : w_y} {inp row s len lr la llen lf : Nat} {H : jH} {α : Type} {fit : List UInt8 → List UInt8 → Bool} {Q : α → jH → Prop} {k : Int32 → jH → Option (α × jH)}
theorem z18_fails (hs : jsh H) (hy : w_ty tb y) (hx : w_rx row s len tb y H) (hp : w_p13 H) (hin : inp < y.1.length) (hlk : w_lr lr la llen lk H) (h8 : jI H 437 8 = Int32.ofNat lf) (hlf : lf < 1000) (hfit : ∀ sg ky, fit sg ky = true ↔ w_fit tb y inp lk sg ky)
    (hk1 : ∀ lf' H', w_two fit (w_sl tb ((y.1.getD inp (0, 0)).1 + 37) (y.1.getD inp (0, 0)).2) lk lf = some lf' → lf' < 1000 → jsh H' → w_p13 H' → jfr w_FI H H' → jI H' 437 8 = Int32.ofNat lf' → jT (k 0 H') Q)
    (hk0 : ∀ H', w_two fit (w_sl tb ((y.1.getD inp (0, 0)).1 + 37) (y.1.getD inp (0, 0)).2) lk lf = none → jsh H' → w_p13 H' → jfr w_FI H H' → jT (k 1 H') Q) : jT (jb (F_18_fails 421 456 (Int32.ofNat inp) lr (Int32.ofNat la) (Int32.ofNat lk.length) H) k) Q := by
  have l8 : y.1.length ≤ 8 := (ztx_spec hy.1).1
  obtain ⟨m1, m2, m3, m4⟩ := w_in y tb hy hin
  obtain ⟨b1, b2, b3, b4, b5, b6⟩ := hlk
  have t2000 := hy.2.2
  -- what is being signed is set
  have k421 : ∀ {H : jH}, jsh H → (jK H 421).1 = 18 := fun hs => gT (sK_421 hs)
  have k427 : ∀ {H : jH}, jsh H → (jK H 427).1 = 15 := fun hs => gT (sK_427 hs)
  unfold F_18_fails B_18_fails_123 B_18_fails_118 B_18_fails_123
  rw [sR_421_1 hs]
  have s1 : jsh (jsR H 427 2 456) := jsh_sRj hs fun q hq => (jRs_427 q hq).1
  refine jT_b (jT_g (k421 hs) (jT_g (k427 hs) (jT_l ?_)))
  have f1 : jfr w_T5 H (jsR H 427 2 456) := jfr_sR jfr_refl ⟨rfl, by decide, by decide⟩
  have r2 : jR (jsR H 427 2 456) 427 2 = 456 := jR_sRe
  generalize jsR H 427 2 456 = H1 at *
  rw [sR_421_1 s1]
  have s2 : jsh (jsI H1 427 3 (Int32.ofNat inp)) := jsh_sI s1 (by decide)
  refine jT_g (k421 s1) (jT_g (k427 s1) (jT_l ?_))
  have f2 : jfr w_T5 H (jsI H1 427 3 (Int32.ofNat inp)) := jfr_sI f1 ⟨rfl, by decide, by decide⟩
  have r3 : jR (jsI H1 427 3 (Int32.ofNat inp)) 427 2 = 456 := r2
  have i3 : jI (jsI H1 427 3 (Int32.ofNat inp)) 427 3 = Int32.ofNat inp := jI_sIe
  generalize jsI H1 427 3 (Int32.ofNat inp) = H2 at *
  rw [sR_421_1 s2]
  have s3 : jsh (jsR H2 427 4 lr) := jsh_sRj s2 fun q hq => (jRs_427 q hq).2
  refine jT_g (k421 s2) (jT_g (k427 s2) (jT_l ?_))
  have f3 : jfr w_T5 H (jsR H2 427 4 lr) := jfr_sR f2 ⟨rfl, by decide, by decide⟩
  have r4 : jR (jsR H2 427 4 lr) 427 2 = 456 := (jR_sRn (by decide)).trans r3
  have r5 : jR (jsR H2 427 4 lr) 427 4 = lr := jR_sRe
  have i4 : jI (jsR H2 427 4 lr) 427 3 = Int32.ofNat inp := i3
  generalize jsR H2 427 4 lr = H3 at *
  rw [sR_421_1 s3]
  have s4 : jsh (jsI H3 427 5 (Int32.ofNat la)) := jsh_sI s3 (by decide)
  refine jT_g (k421 s3) (jT_g (k427 s3) (jT_l ?_))
  have f4 : jfr w_T5 H (jsI H3 427 5 (Int32.ofNat la)) := jfr_sI f3 ⟨rfl, by decide, by decide⟩
  have r6 : jR (jsI H3 427 5 (Int32.ofNat la)) 427 2 = 456 := r4
  have r7 : jR (jsI H3 427 5 (Int32.ofNat la)) 427 4 = lr := r5
  have i5 : jI (jsI H3 427 5 (Int32.ofNat la)) 427 3 = Int32.ofNat inp := (jI_sIn (by decide)).trans i4
  have i6 : jI (jsI H3 427 5 (Int32.ofNat la)) 427 5 = Int32.ofNat la := jI_sIe
  generalize jsI H3 427 5 (Int32.ofNat la) = H4 at *
  rw [sR_421_1 s4]
  have s5 : jsh (jsI H4 427 6 (Int32.ofNat lk.length)) := jsh_sI s4 (by decide)
  refine jT_g (k421 s4) (jT_g (k427 s4) (jT_l ?_))
  have f5 : jfr w_T5 H (jsI H4 427 6 (Int32.ofNat lk.length)) := jfr_sI f4 ⟨rfl, by decide, by decide⟩
  have r8 : jR (jsI H4 427 6 (Int32.ofNat lk.length)) 427 2 = 456 := r6
  have r9 : jR (jsI H4 427 6 (Int32.ofNat lk.length)) 427 4 = lr := r7
  have i7 : jI (jsI H4 427 6 (Int32.ofNat lk.length)) 427 3 = Int32.ofNat inp := (jI_sIn (by decide)).trans i5
  have i8 : jI (jsI H4 427 6 (Int32.ofNat lk.length)) 427 5 = Int32.ofNat la := (jI_sIn (by decide)).trans i6
  have i9 : jI (jsI H4 427 6 (Int32.ofNat lk.length)) 427 6 = Int32.ofNat lk.length := jI_sIe
  generalize jsI H4 427 6 (Int32.ofNat lk.length) = H5 at *
  clear s1 s2 s3 s4 f1 f2 f3 f4 r2 r3 r4 r5 r6 r7 i3 i4 i5 i6
  have hx5 := w_rx_fr hx f5 fun a j q w => by unfold w_T5 at w; omega
  have hp5 := w_p13_T hp f5 fun a j w => by unfold w_T5 at w; omega
  have fI5 : jfr w_FI H H5 := jfr_mono f5 fun a j w => Or.inr w
  have nlr : ∀ a j, w_T5 a j → a ≠ lr := fun a j w => by unfold w_T5 at w; omega
  have hlr5 : jK H5 lr = (101, llen) := (jfr_K f5 lr).trans b1
  have hzl5 : zRow H5 lr la lk := zRow_eq b4 fun i _ => jfr_B f5 fun w => nlr _ _ w rfl
  have h85 : jI H5 437 8 = Int32.ofNat lf := (jfr_I f5 (by unfold w_T5; omega)).trans h8
  have hC5 : w_C tb y inp lk H5 := by
    obtain ⟨⟨c1, c2, c3, c4, c5, c6⟩, d, e1, e2⟩ := hx5
    exact ⟨row, s, len, lr, la, llen, ⟨⟨s5, r8, i7, r9, i8, i9⟩, ⟨hlr5, b2, b3, hzl5, by omega⟩, ⟨c1, c2, c3, c4, by omega, c6⟩, d, fun k hk => ⟨(e1 k hk).1, (e1 k hk).2.2.2.1⟩, e2, hin⟩, c5, b5, hy, b6⟩
  rw [sR_421_2 s5]
  unfold F_14_clear
  refine jT_g (k421 s5) (jT_g (k14 s5) (jT_b (jT_g (k14 s5) (jT_l (jT_ret ?_)))))
  have s6 : jsh (jsI H5 437 2 0) := jsh_sI s5 (by decide)
  have f6 : jfr w_F14 H5 (jsI H5 437 2 0) := jfr_sI jfr_refl (w_F437 (by decide) (by decide))
  have hD : w_D tb y inp lk [] lf H5 (jsI H5 437 2 0) := ⟨s6, w_FS_14 f6, w_p13_fr hp5 f6, w_C_fr hC5 s6 (w_FS_14 f6), jI_sIe, (jI_sIn (by decide)).trans h85, fun k it hk => absurd (show ([] : w_R)[k]? = some it from hk) (by simp), Nat.zero_le _, hlf⟩
  have hx6 := w_rx_fr hx5 f6 fun a j q w => by unfold w_F14 at w; omega
  have hlr6 : jK (jsI H5 437 2 0) lr = (101, llen) := (jfr_K f6 lr).trans hlr5
  have hzl6 : zRow (jsI H5 437 2 0) lr la lk := zRow_eq hzl5 fun i _ => jfr_B f6 fun w => by unfold w_F14 at w; omega
  generalize jsI H5 437 2 0 = H6 at *
  obtain ⟨⟨c1, c2, c3, c4, c5, c6⟩, d, e1, e2⟩ := hx6
  obtain ⟨g1, g2, g3, g4⟩ := e1 inp hin
  rw [sR_456_9 s6, sR_456_10 s6, jo_nat (n := inp) (by omega), g2, g3, c1, sR_421_2 s6]
  have k456 : (jK H6 456).1 = 17 := gT (sK_456 s6)
  have scl : (w_sl tb ((y.1.getD inp (0, 0)).1 + 37) (y.1.getD inp (0, 0)).2).length = (y.1.getD inp (0, 0)).2 := w_sl_len (by omega)
  have hzs : zRow H6 row (s + (y.1.getD inp (0, 0)).1 + 37) (w_sl tb ((y.1.getD inp (0, 0)).1 + 37) (y.1.getD inp (0, 0)).2) := w_sl_row c6 (by omega)
  refine jT_g (k421 s6) (jT_g k456 (jT_g k456 (jT_g (gA (sK_459 s6) (jo_in (by omega) (by omega))) (jT_g k456 (jT_g (gA (sK_460 s6) (jo_in (by omega) (by omega))) (jT_g (k14 s6) ?_))))))
  generalize hsc : w_sl tb ((y.1.getD inp (0, 0)).1 + 37) (y.1.getD inp (0, 0)).2 = sc at *
  refine z14_load (scr := sc) (p := s + (y.1.getD inp (0, 0)).1 + 37) rfl (by rw [scl]) s6 c2 (by omega) (by omega) hzs (by omega) fun H7 s7 f7 h75 h740 => ?_
  have hD7 := w_D_fr hD s7 f7 fun a j w => by unfold w_Tl at w; omega
  have hlr7 : jK H7 lr = (101, llen) := (jfr_K f7 lr).trans hlr6
  have hzl7 : zRow H7 lr la lk := zRow_eq hzl6 fun i _ => jfr_B f7 fun w => by unfold w_Tl at w; omega
  rw [sR_421_2 s7]
  refine jT_g (k421 s7) (jT_g (k14 s7) (w_run14 hfit hD7 h75 h740 (by omega) (fun st1 lf1 H8 er1 hD8 => ?_) fun x H8 er1 hB hx1 => ?_))
  rotate_left
  · refine jT_neg hx1 (jT_g (Or.inr rfl) (jT_ret (hk0 H8 ?_ hB.1 hB.2.2.1 (jfr_trans fI5 (jfr_mono hB.2.1 fun _ _ w => Or.inl w)))))
    unfold w_two
    rw [er1]
    rfl
  have s8 := hD8.1
  have nfs : ∀ j, ¬ w_FS lr j := fun j w => by unfold w_FS w_F14 w_S15 at w; omega
  have hlr8 : jK H8 lr = (101, llen) := (jfr_K hD8.2.1 lr).trans hlr5
  have hzl8 : zRow H8 lr la lk := zRow_eq hzl5 fun i _ => jfr_B hD8.2.1 (nfs _)
  rw [sR_421_2 s8]
  refine jT_pos rfl (jT_g (k421 s8) (jT_g (k14 s8) (z14_load (scr := lk) (p := la) rfl rfl s8 hlr8 b2 (by omega) hzl8 b6 fun H9 s9 f9 h95 h940 => ?_)))
  have hD9 := w_D_fr hD8 s9 f9 fun a j w => by unfold w_Tl at w; omega
  rw [sR_421_2 s9]
  refine jT_g (k421 s9) (jT_g (k14 s9) (w_run14 hfit hD9 h95 h940 b6 (fun st2 lf2 Ha er2 hDa => ?_) fun x Ha er2 hB hx1 => ?_))
  rotate_left
  · refine jT_pos hx1 (jT_g (Or.inr rfl) (jT_ret (hk0 Ha ?_ hB.1 hB.2.2.1 (jfr_trans fI5 (jfr_mono hB.2.1 fun _ _ w => Or.inl w)))))
    unfold w_two
    rw [er1]
    show (w_run fit lk (lk.length + 1) 0 (st1, [], 0, []) lf1).bind _ = none
    rw [er2]
    rfl
  have sa := hDa.1
  rw [sR_421_2 sa]
  refine jT_neg (fun q => q rfl) (jT_g (k421 sa) (jT_g (k14 sa) ?_))
  rw [w_isTrue14 hDa, jb_ok]
  have e2w : w_two fit sc lk lf = if st2.length ≠ 0 ∧ ztrue (w_tp st2 1) = true then some lf2 else none := by
    unfold w_two
    rw [er1]
    show (w_run fit lk (lk.length + 1) 0 (st1, [], 0, []) lf1).bind _ = _
    rw [er2]
    rfl
  have fIa : jfr w_FI H Ha := jfr_trans fI5 (jfr_mono hDa.2.1 fun _ _ w => Or.inl w)
  by_cases t : st2.length ≠ 0 ∧ ztrue (w_tp st2 1) = true
  · rw [if_pos t] at e2w
    rw [if_pos t]
    exact jT_pos (by decide) (jT_g (Or.inl rfl) (jT_ret (hk1 lf2 Ha e2w hDa.2.2.2.2.2.2.2.2 sa hDa.2.2.1 fIa hDa.2.2.2.2.2.1)))
  · rw [if_neg t] at e2w
    rw [if_neg t]
    exact jT_neg (fun q => q rfl) (jT_g (Or.inr rfl) (jT_ret (hk0 Ha e2w sa hDa.2.2.1 fIa)))
end F18B
