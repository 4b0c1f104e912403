/-! The reference's scripts: its state, and small steps. -/
def w_row (H : jH) (k : Nat) (it : List UInt8) : Prop := it.length ≤ 120 ∧ jI H 439 k = Int32.ofNat it.length ∧ ∀ (j : Nat) (u : UInt8), it[j]? = some u → jI H 438 (120 * k + j) = Int32.ofNat u.toNat
theorem zIts_row {H : jH} {b : Nat} {st : w_R} : zIts H b st ↔ ∀ k it, st[k]? = some it → w_row H (b + k) it := Iff.rfl
def w_Cf (to : Nat) : Nat → Nat → Prop := fun a j => (a = 439 ∧ j = to) ∨ (a = 438 ∧ 120 * to ≤ j ∧ j < 120 * to + 120)
theorem w_row_fr {T : Nat → Nat → Prop} {H H' : jH} {k : Nat} {it : List UInt8} (h : w_row H k it) (hf : jfr T H H') (hT : ∀ a j, T a j → ¬ (a = 439 ∧ j = k) ∧ ¬ (a = 438 ∧ 120 * k ≤ j ∧ j < 120 * k + 120)) : w_row H' k it := by
  obtain ⟨h1, h2, h3⟩ := h
  refine ⟨h1, (jfr_I hf fun q => (hT _ _ q).1 ⟨rfl, rfl⟩).trans h2, fun j u hj => ?_⟩
  obtain ⟨hl, -⟩ := List.getElem?_eq_some_iff.mp hj
  exact (jfr_I hf fun q => (hT _ _ q).2 ⟨rfl, by omega, by omega⟩).trans (h3 j u hj)
def w_F14 : Nat → Nat → Prop := fun a _ => (423 ≤ a ∧ a ≤ 426) ∨ (437 ≤ a ∧ a ≤ 444)
def w_pv (pb : List Bool) (k : Nat) : Int32 := if w_all (pb.take k) = true then (if pb.getD k false = true then 1 else 2) else 3
/-- the reference's scripts in the middle of one -/
def w_Z (scr : List UInt8) (S : w_S4) (lf : Nat) (H0 H : jH) : Prop :=
  (jsh H ∧ jfr w_F14 H0 H) ∧ (jI H 437 2 = Int32.ofNat S.1.length ∧ jI H 437 3 = Int32.ofNat S.2.1.length ∧ jI H 437 5 = Int32.ofNat scr.length ∧ jI H 437 6 = 0 ∧ jI H 437 7 = Int32.ofNat S.2.2.1 ∧ jI H 437 8 = Int32.ofNat lf ∧ jI H 437 9 = Int32.ofNat S.2.2.2.length) ∧
  (zIts H 0 S.1 ∧ zIts H 70 S.2.1 ∧ S.1.length ≤ 66 ∧ S.2.1.length ≤ 62) ∧ (∀ k, k < S.2.2.2.length → jI H 441 k = w_pv S.2.2.2 k) ∧ (∀ k, k < scr.length → jI H 440 k = Int32.ofNat (scr.getD k 0).toNat) ∧
  (scr.length ≤ 200 ∧ S.2.2.1 ≤ 400 ∧ S.2.2.2.length ≤ 200 ∧ lf < 1000)
/-- after a fault -/
def w_Yf (H0 H : jH) : Prop := (jsh H ∧ jfr w_F14 H0 H) ∧ ∃ f : Nat, 1 ≤ f ∧ f ≤ 13 ∧ jI H 437 6 = Int32.ofNat f
section REF
variable {scr : List UInt8} {S : w_S4} {lf : Nat} {H0 H : jH} {α : Type} {Q : α → jH → Prop}
theorem k14 {H : jH} (hs : jsh H) : (jK H 437).1 = 14 := by rw [sK_437 hs]
theorem w_Zk (h : w_Z scr S lf H0 H) : (jK H 437).1 = 14 := k14 h.1.1
theorem w_Yk (h : w_Yf H0 H) : (jK H 437).1 = 14 := k14 h.1.1
theorem w_Zr (h : w_Z scr S lf H0 H) : jR H 437 0 = 438 ∧ jR H 437 1 = 439 ∧ jR H 437 4 = 440 ∧ jR H 437 10 = 441 := ⟨sR_437_0 h.1.1, sR_437_1 h.1.1, sR_437_4 h.1.1, sR_437_10 h.1.1⟩
theorem w_F437 {a j : Nat} (h : 437 ≤ a) (h2 : a ≤ 444) : w_F14 a j := Or.inr ⟨h, h2⟩
/-- writes of other fields -/
theorem w_Z_L {v : Int64} (h : w_Z scr S lf H0 H) : w_Z scr S lf H0 (jsL H 437 11 v) := by
  obtain ⟨⟨a1, a2⟩, b, c, d⟩ := h
  exact ⟨⟨jsh_sL a1, jfr_sL a2 (w_F437 (by decide) (by decide))⟩, b, c, d⟩
theorem w_Y_I {j : Nat} {v : Int32} (h : w_Yf H0 H) (hj : j ≠ 6) : w_Yf H0 (jsI H 437 j v) := by
  obtain ⟨⟨a1, a2⟩, f, f1, f2, f3⟩ := h
  exact ⟨⟨jsh_sI a1 (by decide), jfr_sI a2 (w_F437 (by decide) (by decide))⟩, f, f1, f2, (jI_sIn (fun q => hj q.symm)).trans f3⟩
theorem w_fails {k : Unit → jH → Option (α × jH)} {n : Nat} {n' : Int32} (h : w_Z scr S lf H0 H) (en : n' = Int32.ofNat n) (h1 : 1 ≤ n) (h2 : n ≤ 13) (hk : ∀ H', w_Yf H0 H' → jT (k () H') Q) : jT (jb (F_14_fails 437 n' H) k) Q := by
  subst en
  unfold F_14_fails B_14_fails_16
  rw [h.2.1.2.2.2.1]
  exact jT_b (jT_g (w_Zk h) (jT_neg (by decide) (jT_g (w_Zk h) (jT_l (jT_ret (hk _ ⟨⟨jsh_sI h.1.1 (by decide), jfr_sI h.1.2 (w_F437 (by decide) (by decide))⟩, n, h1, h2, jI_sIe⟩))))))
theorem w_has14 {k : Int32 → jH → Option (α × jH)} {n : Nat} {n' : Int32} (h : w_Z scr S lf H0 H) (en : n' = Int32.ofNat n) (hn : n < 1000) (h1 : n ≤ S.1.length → jT (k 1 H) Q) (h0 : S.1.length < n → ∀ H', w_Yf H0 H' → jT (k 0 H') Q) : jT (jb (F_14_has 437 n' H) k) Q := by
  subst en
  have hl := h.2.2.1.2.2.1
  have e2 := h.2.1.1
  unfold F_14_has B_14_has_13 B_14_has_26
  rw [e2]
  refine jT_b (jT_g (w_Zk h) ?_)
  by_cases c : n ≤ S.1.length
  · exact jT_pos (by rw [jo_le (by omega) (by omega)]; exact c) (jT_g (w_Zk h) (jT_neg (by rw [jo_lt (by omega) (by omega)]; omega) (jT_g (by decide) (jT_ret (h1 c)))))
  · unfold F_14_fails B_14_fails_16
    rw [h.2.1.2.2.2.1]
    refine jT_neg (by rw [jo_le (by omega) (by omega)]; exact c) (jT_g (w_Zk h) (jT_b (jT_g (w_Zk h) (jT_neg (by decide) (jT_g (w_Zk h) (jT_l (jT_ret ?_)))))))
    have hy : w_Yf H0 (jsI H 437 6 5) := ⟨⟨jsh_sI h.1.1 (by decide), jfr_sI h.1.2 (w_F437 (by decide) (by decide))⟩, 5, by decide, by decide, jI_sIe⟩
    have e3 : jI (jsI H 437 6 5) 437 2 = Int32.ofNat S.1.length := (jI_sIn (by decide)).trans e2
    refine jT_g (w_Yk hy) (jT_pos (by rw [e3, jo_lt (by omega) (by omega)]; omega) (jT_g (by decide) (jT_ret (h0 (by omega) _ hy))))
theorem z14_top {k : Nat} {k' : Int32} (h : w_Z scr S lf H0 H) (ek : k' = Int32.ofNat k) (hk : k < S.1.length) : F_14_top 437 k' H = some (Int32.ofNat (S.1.length - 1 - k), H) := by
  subst ek
  have hl := h.2.2.1.2.2.1
  unfold F_14_top
  rw [jg_t (w_Zk h), h.2.1.1, show (1 : Int32) = Int32.ofNat 1 from rfl, jo_sub (by omega), jo_sub (by omega)]
theorem w_tp0 {k : Nat} (hk : k < S.1.length) : S.1[S.1.length - 1 - k]? = some (w_tp S.1 (k + 1)) := by
  have := w_tp_at (st := S.1) (k := k + 1) (by omega) (by omega)
  rw [show S.1.length - 1 - k = S.1.length - (k + 1) by omega]
  exact this
theorem w_rowA (h : w_Z scr S lf H0 H) {k : Nat} {it : List UInt8} (hk : S.1[k]? = some it) : w_row H k it := by
  have := h.2.2.1.1 k it hk
  rw [Nat.zero_add] at this
  exact this
theorem w_rowB (h : w_Z scr S lf H0 H) {k : Nat} {it : List UInt8} (hk : S.2.1[k]? = some it) : w_row H (70 + k) it := h.2.2.1.2.1 k it hk
/-- the stack gets lower -/
theorem w_Z_take {n : Nat} (h : w_Z scr S lf H0 H) (hn : n ≤ S.1.length) : w_Z scr (S.1.take n, S.2) lf H0 (jsI H 437 2 (Int32.ofNat n)) := by
  obtain ⟨⟨a1, a2⟩, ⟨b1, b2, b3, b4, b5, b6, b7⟩, ⟨c1, c2, c3, c4⟩, d1, d2, d3⟩ := h
  have f : jfr (fun a j => a = 437 ∧ j = 2) H (jsI H 437 2 (Int32.ofNat n)) := jfr_sI jfr_refl ⟨rfl, rfl⟩
  have tl : (S.1.take n).length = n := by rw [List.length_take]; omega
  refine ⟨⟨jsh_sI a1 (by decide), jfr_sI a2 (w_F437 (by decide) (by decide))⟩, ⟨?_, (jI_sIn (by decide)).trans b2, (jI_sIn (by decide)).trans b3, (jI_sIn (by decide)).trans b4, (jI_sIn (by decide)).trans b5, (jI_sIn (by decide)).trans b6, (jI_sIn (by decide)).trans b7⟩, ⟨fun k it hk => ?_, fun k it hk => w_row_fr (c2 k it hk) f fun a j q => by omega, ?_, c4⟩, fun k hk => (jI_sIa (by decide)).trans (d1 k hk), fun k hk => (jI_sIa (by decide)).trans (d2 k hk), d3⟩
  · show jI _ 437 2 = Int32.ofNat (S.1.take n).length
    rw [tl]
    exact jI_sIe
  · have hk' : (S.1.take n)[k]? = some it := hk
    rw [List.getElem?_take] at hk'
    split at hk'
    · exact w_row_fr (c1 k it hk') f fun a j q => by omega
    · cases hk'
  · show (S.1.take n).length ≤ 66
    omega
/-- a row is copied -/
theorem z14_copy {to from_ : Nat} {to' from' : Int32} {it : List UInt8} {Q : Unit → jH → Prop} {H1 : jH} (et : to' = Int32.ofNat to) (ef : from' = Int32.ofNat from_) (hto : to < 140) (hfr : from_ < 140) (hs : jsh H1) (hr : w_row H1 from_ it) (hk : ∀ H', jsh H' → jfr (w_Cf to) H1 H' → w_row H' to it → Q () H') : jT (F_14_copy 437 to' from' H1) Q := by
  subst et
  subst ef
  obtain ⟨r1, r2, r3⟩ := hr
  have em : ∀ m j : Nat, (120 : Int32) * Int32.ofNat m + Int32.ofNat j = Int32.ofNat (120 * m + j) := fun m j => by rw [show (120 : Int32) = Int32.ofNat 120 from rfl, jo_mul, jo_add]
  have loop : ∀ (d i fu : Nat) (H : jH), i + d = 120 → d < fu → jsh H → jfr (w_Cf to) H1 H → jI H 439 to = Int32.ofNat it.length → (∀ j, j < i → jI H 438 (120 * to + j) = jI H1 438 (120 * from_ + j)) → (∀ j, i ≤ j → j < 120 → jI H 438 (120 * from_ + j) = jI H1 438 (120 * from_ + j)) → jT (F_14_copy_14 fu 437 (Int32.ofNat to) (Int32.ofNat from_) (Int32.ofNat i) H) Q := by
    intro d
    induction d with
    | zero =>
      intro i fu H hi hfu hsH hf hz hd _
      obtain ⟨fu, rfl⟩ : ∃ k, fu = k + 1 := ⟨fu - 1, by omega⟩
      unfold F_14_copy_14 B_14_copy_14
      refine jT_pos (by rw [show (120 : Int32) = Int32.ofNat 120 from rfl, jo_le (by omega) (by omega)]; omega) (jT_ret (hk H hsH hf ⟨r1, hz, fun j u hj => ?_⟩))
      obtain ⟨hl, -⟩ := List.getElem?_eq_some_iff.mp hj
      rw [hd j (by omega)]
      exact r3 j u hj
    | succ d ih =>
      intro i fu H hi hfu hsH hf hz hd hs2
      obtain ⟨fu, rfl⟩ : ∃ k, fu = k + 1 := ⟨fu - 1, by omega⟩
      have e1 : Int32.ofNat i + 1 = Int32.ofNat (i + 1) := jo_add (a := i) (b := 1)
      unfold F_14_copy_14 B_14_copy_14
      simp only [sR_437_0 hsH, em, jo_nat (n := 120 * to + i) (by omega), jo_nat (n := 120 * from_ + i) (by omega), e1]
      refine jT_neg (by rw [show (120 : Int32) = Int32.ofNat 120 from rfl, jo_le (by omega) (by omega)]; omega) (jT_g (k14 hsH) (jT_g (k14 hsH) (jT_g (gA (sK_438 hsH) (jo_in (by omega) (by omega))) (jT_g (gIw (sK_438 hsH) (by decide) (jo_in (by omega) (by omega))) (jT_l (jT_l (ih (i + 1) fu _ (by omega) (by omega) (jsh_sI hsH (by decide)) (jfr_sI hf (Or.inr ⟨rfl, by omega, by omega⟩)) ((jI_sIa (by decide)).trans hz) (fun j hj => ?_) fun j h1 h2 => ?_)))))))
      · by_cases c : j = i
        · rw [c, jI_sIe]
          exact hs2 i (Nat.le_refl i) (by omega)
        · rw [jI_sIn (by omega)]
          exact hd j (by omega)
      · by_cases c : to = from_
        · rw [c, jI_sIn (by omega)]
          exact hs2 j (by omega) h2
        · rw [jI_sIn (by omega)]
          exact hs2 j (by omega) h2
  unfold F_14_copy
  simp only [sR_437_1 hs, jo_nat (n := to) (by omega), jo_nat (n := from_) (by omega), r2]
  refine jT_g (k14 hs) (jT_g (k14 hs) (jT_g (gA (sK_439 hs) (jo_in (by omega) hfr)) (jT_g (gIw (sK_439 hs) (by decide) (jo_in (by omega) hto)) (jT_l ?_))))
  exact loop 120 0 jfuel _ rfl (by unfold jfuel; omega) (jsh_sI hs (by decide)) (jfr_sI jfr_refl (Or.inl ⟨rfl, rfl⟩)) jI_sIe (fun j hj => absurd hj (Nat.not_lt_zero j)) fun j _ _ => jI_sIa (by decide)
/-- the state after a write into rows alone -/
theorem w_Z_rows {st sd : w_R} {T : Nat → Nat → Prop} {H' : jH} (h : w_Z scr S lf H0 H) (hs : jsh H') (hf : jfr T H H') (hT : ∀ a j, T a j → a = 438 ∨ a = 439 ∨ (a = 437 ∧ (j = 2 ∨ j = 3 ∨ j = 11)) ∨ (442 ≤ a ∧ a ≤ 444) ∨ (423 ≤ a ∧ a ≤ 426)) (h2 : jI H' 437 2 = Int32.ofNat st.length) (h3 : jI H' 437 3 = Int32.ofNat sd.length) (z1 : zIts H' 0 st) (z2 : zIts H' 70 sd) (l1 : st.length ≤ 66) (l2 : sd.length ≤ 62) : w_Z scr (st, sd, S.2.2) lf H0 H' := by
  obtain ⟨⟨a1, a2⟩, ⟨b1, b2, b3, b4, b5, b6, b7⟩, ⟨c1, c2, c3, c4⟩, d1, d2, d3⟩ := h
  have n437 : ∀ j, j ≠ 2 → j ≠ 3 → j ≠ 11 → ¬ T 437 j := fun j q1 q2 q3 w => by have := hT _ _ w; omega
  have n44 : ∀ a j, a = 440 ∨ a = 441 → ¬ T a j := fun a j q w => by have := hT _ _ w; omega
  refine ⟨⟨hs, jfr_trans a2 (jfr_mono hf fun a j q => ?_)⟩, ⟨h2, h3, (jfr_I hf (n437 5 (by decide) (by decide) (by decide))).trans b3, (jfr_I hf (n437 6 (by decide) (by decide) (by decide))).trans b4, (jfr_I hf (n437 7 (by decide) (by decide) (by decide))).trans b5, (jfr_I hf (n437 8 (by decide) (by decide) (by decide))).trans b6, (jfr_I hf (n437 9 (by decide) (by decide) (by decide))).trans b7⟩, ⟨z1, z2, l1, l2⟩, fun k hk => (jfr_I hf (n44 441 k (Or.inr rfl))).trans (d1 k hk), fun k hk => (jfr_I hf (n44 440 k (Or.inl rfl))).trans (d2 k hk), d3⟩
  have := hT a j q
  unfold w_F14
  omega
theorem zIts_fr {T : Nat → Nat → Prop} {H H' : jH} {b : Nat} {st : w_R} (h : zIts H b st) (hf : jfr T H H') (hT : ∀ a j k, k < st.length → T a j → ¬ (a = 439 ∧ j = b + k) ∧ ¬ (a = 438 ∧ 120 * (b + k) ≤ j ∧ j < 120 * (b + k) + 120)) : zIts H' b st := fun k it hk => by
  obtain ⟨hl, -⟩ := List.getElem?_eq_some_iff.mp hk
  exact w_row_fr (h k it hk) hf fun a j q => hT a j k hl q
theorem zIts_snoc {H : jH} {b : Nat} {st : w_R} {it : List UInt8} (h : zIts H b st) (hr : w_row H (b + st.length) it) : zIts H b (st ++ [it]) := fun k w hk => by
  by_cases c : k < st.length
  · rw [List.getElem?_append_left c] at hk
    exact h k w hk
  · rw [List.getElem?_append_right (by omega)] at hk
    obtain ⟨q1, q2⟩ := List.getElem?_eq_some_iff.mp hk
    have q3 : k - st.length < 1 := q1
    obtain rfl : k = st.length := by omega
    have q4 : it = w := by
      rw [Nat.sub_self] at hk
      exact Option.some.inj hk
    rw [← q4]
    exact hr
/-- a copy of a row comes to the top -/
theorem w_push14 {k : Unit → jH → Option (α × jH)} {from_ : Nat} {from' : Int32} {it : List UInt8} (h : w_Z scr S lf H0 H) (ef : from' = Int32.ofNat from_) (hfr : from_ < 140) (hr : w_row H from_ it) (hl : S.1.length < 66) (hk : ∀ H', w_Z scr (S.1 ++ [it], S.2) lf H0 H' → jfr (fun a j => w_Cf S.1.length a j ∨ (a = 437 ∧ j = 2)) H H' → jT (k () H') Q) : jT (jb (F_14_push 437 from' H) k) Q := by
  have e2 := h.2.1.1
  have e3 := h.2.1.2.1
  have l2 := h.2.2.1.2.2.2
  unfold F_14_push
  rw [e2]
  refine jT_b (jT_g (w_Zk h) (jT_g (w_Zk h) (jT_b (z14_copy rfl ef (by omega) hfr h.1.1 hr fun H1 s1 f1 r1 => ?_))))
  have e4 : jI H1 437 2 = Int32.ofNat S.1.length := (jfr_I f1 (by unfold w_Cf; omega)).trans e2
  have e5 : Int32.ofNat S.1.length + 1 = Int32.ofNat (S.1.length + 1) := jo_add (a := S.1.length) (b := 1)
  rw [e4, e5]
  have f2 : jfr (fun a j => w_Cf S.1.length a j ∨ (a = 437 ∧ j = 2)) H (jsI H1 437 2 (Int32.ofNat (S.1.length + 1))) := jfr_sI (jfr_mono f1 fun a j q => Or.inl q) (Or.inr ⟨rfl, rfl⟩)
  refine jT_g (k14 s1) (jT_g (k14 s1) (jT_l (jT_ret (hk _ (w_Z_rows h (jsh_sI s1 (by decide)) f2 (fun a j q => by unfold w_Cf at q; omega) ?_ ?_ (zIts_snoc (zIts_fr h.2.2.1.1 f2 fun a j k hkl q => by unfold w_Cf at q; omega) ?_) (zIts_fr h.2.2.1.2.1 f2 fun a j k hkl q => by unfold w_Cf at q; omega) ?_ l2) f2))))
  · rw [jI_sIe, List.length_append]
    rfl
  · exact (jI_sIn (by decide)).trans ((jfr_I f1 (by unfold w_Cf; omega)).trans e3)
  · rw [Nat.zero_add]
    exact w_row_fr r1 (T := fun a j => a = 437 ∧ j = 2) (jfr_sI jfr_refl ⟨rfl, rfl⟩) fun a j q => by omega
  · rw [List.length_append]
    show S.1.length + 1 ≤ 66
    omega
theorem z14_isT {k : Nat} {k' : Int32} {it : List UInt8} (hs : jsh H) (ek : k' = Int32.ofNat k) (hk : k < 140) (hr : w_row H k it) : F_14_isTrueRow 437 k' H = some ((if ztrue it = true then 1 else 0), H) := by
  subst ek
  exact z14_isTrueRow hs hk hr.1 hr.2.1 hr.2.2
/-- the top must be true -/
theorem w_must14 {k : Unit → jH → Option (α × jH)} (h : w_Z scr S lf H0 H) (h1 : 1 ≤ S.1.length → ztrue (w_tp S.1 1) = true → ∀ H', w_Z scr (w_dr S.1 1, S.2) lf H0 H' → jT (k () H') Q) (h0 : ¬ (1 ≤ S.1.length ∧ ztrue (w_tp S.1 1) = true) → ∀ H', w_Yf H0 H' → jT (k () H') Q) : jT (jb (F_14_mustBeTrue 437 H) k) Q := by
  unfold F_14_mustBeTrue B_14_mustBeTrue_35
  refine jT_b (jT_g (w_Zk h) (w_has14 (n := 1) h rfl (by decide) (fun hl => ?_) fun hl H' hy => jT_pos rfl (jT_ret (h0 (by omega) H' hy))))
  have em : Int32.ofNat S.1.length - 1 = Int32.ofNat (S.1.length - 1) := jo_sub (a := S.1.length) (b := 1) hl
  have l66 := h.2.2.1.2.2.1
  have h' := w_Z_take (n := S.1.length - 1) h (by omega)
  have rr : w_row (jsI H 437 2 (Int32.ofNat (S.1.length - 1))) (S.1.length - 1) (w_tp S.1 1) := w_row_fr (w_rowA h (w_tp_at (Nat.le_refl 1) hl)) (T := fun a j => a = 437 ∧ j = 2) (jfr_sI jfr_refl ⟨rfl, rfl⟩) fun a j q => by omega
  have e2 : jI (jsI H 437 2 (Int32.ofNat (S.1.length - 1))) 437 2 = Int32.ofNat (S.1.length - 1) := jI_sIe
  rw [h.2.1.1, em]
  refine jT_neg (by decide) (jT_g (w_Zk h) (jT_g (w_Zk h) (jT_l ?_)))
  generalize jsI H 437 2 (Int32.ofNat (S.1.length - 1)) = H1 at *
  rw [e2, z14_isT h'.1.1 rfl (by omega) rr, jb_ok]
  refine jT_g (w_Zk h') (jT_g (w_Zk h') ?_)
  by_cases t : ztrue (w_tp S.1 1) = true
  · rw [if_pos t]
    exact jT_pos (by decide) (jT_ret (h1 hl t H1 h'))
  · rw [if_neg t]
    exact jT_neg (by decide) (jT_g (w_Zk h') (w_fails (n := 8) h' rfl (by decide) (by decide) fun H2 hy => jT_ret (h0 (fun q => t q.2) H2 hy)))
/-- an operand is read -/
theorem w_reads14 {k : Int32 → jH → Option (α × jH)} {n : Nat} {n' : Int32} (h : w_Z scr S lf H0 H) (en : n' = Int32.ofNat n) (hn : n < 100) (h1 : n + 1 ≤ S.1.length → (w_tp S.1 (n + 1)).length ≤ 4 → ∀ H', w_Z scr S lf H0 H' → jL H' 437 11 = zno (w_tp S.1 (n + 1)) → jT (k 1 H') Q) (h0 : ¬ (n + 1 ≤ S.1.length ∧ (w_tp S.1 (n + 1)).length ≤ 4) → ∀ H', w_Yf H0 H' → jT (k 0 H') Q) : jT (jb (F_14_reads 437 n' H) k) Q := by
  subst en
  have e1 : Int32.ofNat n + 1 = Int32.ofNat (n + 1) := jo_add (a := n) (b := 1)
  unfold F_14_reads
  rw [e1]
  refine jT_b (jT_g (w_Zk h) (w_has14 (n := n + 1) h rfl (by omega) (fun hl => ?_) fun hl H' hy => jT_neg (fun q => q rfl) (jT_g (by decide) (jT_ret (h0 (by omega) H' hy)))))
  have l66 := h.2.2.1.2.2.1
  have rr := w_rowA h (w_tp0 (k := n) (by omega))
  rw [z14_top h rfl (by omega), jb_ok]
  simp only [(w_Zr h).2.1, jo_nat (n := S.1.length - 1 - n) (by omega), rr.2.1]
  have rl := rr.1
  refine jT_pos (by decide) (jT_g (w_Zk h) (jT_g (w_Zk h) (jT_g (gA (sK_439 h.1.1) (jo_in (by omega) (by omega))) ?_)))
  by_cases c4 : (w_tp S.1 (n + 1)).length ≤ 4
  · refine jT_pos (by rw [show (4 : Int32) = Int32.ofNat 4 from rfl, jo_le (by omega) (by omega)]; exact c4) (jT_g (w_Zk h) (jT_l ?_))
    have h' := w_Z_L (v := 0) h
    have e11 : jL (jsL H 437 11 0) 437 11 = 0 := jL_one
    have rr' : w_row (jsL H 437 11 0) (S.1.length - 1 - n) (w_tp S.1 (n + 1)) := rr
    generalize jsL H 437 11 0 = H1 at *
    have em : Int32.ofNat (w_tp S.1 (n + 1)).length - 1 = Int32.ofNat (w_tp S.1 (n + 1)).length + (-1) := Int32.sub_eq_add_neg _ _
    simp only [(w_Zr h').2.1, rr'.2.1, em]
    refine jT_g (w_Zk h') (jT_g (gA (sK_439 h'.1.1) (jo_in (by omega) (by omega))) (jT_l ?_))
    refine z14_reads50 (m := S.1.length - 1 - n) (it := w_tp S.1 (n + 1)) (H0 := H1) (by omega) c4 rr'.2.1 rr'.2.2 (fun H2 s2 L2 f2 => ?_) (w_tp S.1 (n + 1)).length jfuel H1 (Nat.le_refl _) (by unfold jfuel; omega) h'.1.1 jfr_refl ?_
    · have l2 := h'.2.2.1.2.2.2
      exact h1 hl c4 H2 (w_Z_rows h' s2 f2 (fun a j q => by omega) ((jfr_I f2 (by omega)).trans h'.2.1.1) ((jfr_I f2 (by omega)).trans h'.2.1.2.1) (zIts_fr h'.2.2.1.1 f2 fun a j k hk q => by omega) (zIts_fr h'.2.2.1.2.1 f2 fun a j k hk q => by omega) l66 l2) L2
    · rw [e11, Nat.sub_self]
      rfl
  · exact jT_neg (by rw [show (4 : Int32) = Int32.ofNat 4 from rfl, jo_le (by omega) (by omega)]; exact c4) (jT_g (w_Zk h) (w_fails (n := 6) h rfl (by decide) (by decide) fun H2 hy => jT_g (by decide) (jT_ret (h0 (fun q => c4 q.2) H2 hy))))
end REF
