/-! The reference's scripts: rows are shifted, moves. -/
def w_rm (st : w_R) (i : Nat) : w_R := st.take i ++ st.drop (i + 1)
def w_shf (st : w_R) (i : Nat) : Nat → w_R
  | 0 => st
  | n + 1 => (w_shf st i n).set (i + n) (st.getD (i + n + 1) [])
theorem w_shf_len {st : w_R} {i : Nat} : ∀ {n}, (w_shf st i n).length = st.length
  | 0 => rfl
  | n + 1 => by rw [w_shf, List.length_set, w_shf_len]
theorem w_shf_at {st : w_R} {i : Nat} : ∀ {n k : Nat}, i + n < st.length → (w_shf st i n)[k]? = if i ≤ k ∧ k < i + n then st[k + 1]? else st[k]?
  | 0, k, _ => by
    rw [if_neg (by omega)]
    rfl
  | n + 1, k, h => by
    rw [w_shf, List.getElem?_set, w_shf_len]
    by_cases c : i + n = k
    · rw [if_pos c, if_pos (by omega), if_pos (by omega), ← c, List.getD_eq_getElem?_getD, List.getElem?_eq_getElem (by omega)]
      rfl
    · rw [if_neg c, w_shf_at (by omega)]
      by_cases c2 : i ≤ k ∧ k < i + n
      · rw [if_pos c2, if_pos (by omega)]
      · rw [if_neg c2, if_neg (by omega)]
theorem w_shf_rm {st : w_R} {i : Nat} (hi : i < st.length) : (w_shf st i (st.length - 1 - i)).take (st.length - 1) = w_rm st i := by
  refine List.ext_getElem? fun k => ?_
  unfold w_rm
  rw [List.getElem?_take]
  by_cases c : k < st.length - 1
  · rw [if_pos c, w_shf_at (by omega)]
    by_cases c1 : k < i
    · rw [if_neg (by omega), List.getElem?_append_left (by rw [List.length_take]; omega), List.getElem?_take, if_pos c1]
    · rw [if_pos (by omega), List.getElem?_append_right (by rw [List.length_take]; omega), List.length_take, List.getElem?_drop, show i + 1 + (k - min i st.length) = k + 1 by omega]
  · rw [if_neg c, List.getElem?_eq_none (by rw [List.length_append, List.length_take, List.length_drop]; omega)]
theorem w_shf_lift {st : w_R} {i : Nat} (hi : i < st.length) : (w_shf st i (st.length - 1 - i)).set (st.length - 1) (st.getD i []) = w_lift st i [] := by
  refine List.ext_getElem? fun k => ?_
  rw [List.getElem?_set, w_shf_len]
  by_cases c : k < st.length
  · rw [w_lift_at hi c]
    unfold w_pi
    by_cases c1 : st.length - 1 = k
    · rw [if_pos c1, if_pos (by omega), if_neg (by omega), if_pos (by omega), List.getD_eq_getElem?_getD, List.getElem?_eq_getElem hi]
      rfl
    · rw [if_neg c1, w_shf_at (by omega)]
      by_cases c2 : i ≤ k
      · rw [if_pos ⟨c2, by omega⟩, if_pos ⟨c2, by omega⟩]
      · rw [if_neg (by omega), if_neg (by omega), if_neg (by omega)]
  · rw [if_neg (by omega), w_shf_at (by omega), List.getElem?_eq_none (l := w_lift st i []) (by rw [w_lift_len hi]; omega)]
    rw [if_neg (by omega), List.getElem?_eq_none (by omega)]
/-! the table's answers -/
def w_pm (st : w_R) (n : Nat) (l : List Nat) : w_R := l.map fun i => st.getD (st.length - n + (i - 1)) []
theorem w_put_eq {st : w_R} {n : Nat} {l : List Nat} : w_put st n l = w_dr st n ++ w_pm st n l := rfl
theorem w_put_id {st : w_R} {n : Nat} (h : n ≤ st.length) : w_put st n ((List.range n).map (· + 1)) = st := by
  refine List.ext_getElem? fun k => ?_
  unfold w_put w_dr
  by_cases c : k < st.length - n
  · rw [List.getElem?_append_left (by rw [List.length_take]; omega), List.getElem?_take, if_pos c]
  · rw [List.getElem?_append_right (by rw [List.length_take]; omega), List.length_take, List.getElem?_map, List.getElem?_map]
    by_cases c2 : k < st.length
    · rw [List.getElem?_range (by omega), List.getElem?_eq_getElem c2]
      show some (st.getD (st.length - n + (k - min (st.length - n) st.length + 1 - 1)) []) = _
      rw [show st.length - n + (k - min (st.length - n) st.length + 1 - 1) = k by omega, List.getD_eq_getElem?_getD, List.getElem?_eq_getElem c2]
      rfl
    · rw [List.getElem?_eq_none (by rw [List.length_range]; omega), List.getElem?_eq_none (by omega)]
      rfl
theorem w_put_app {st : w_R} {n : Nat} {l k : List Nat} : w_put st n (l ++ k) = w_put st n l ++ w_pm st n k := by
  rw [w_put_eq, w_put_eq, List.append_assoc]
  congr 1
  unfold w_pm
  exact List.map_append
theorem w_lift_app {A M : w_R} {x : List UInt8} : w_lift (A ++ x :: M) A.length [] = A ++ M ++ [x] := by
  unfold w_lift
  rw [List.take_left, List.getD_eq_getElem?_getD, List.getElem?_append_right (Nat.le_refl _), Nat.sub_self, ← List.drop_drop, List.drop_left, List.append_assoc]
  rfl
theorem w_lift_put {st : w_R} {n a : Nat} {l : List Nat} : w_lift (w_put st n (a :: l)) (st.length - n) [] = w_put st n (l ++ [a]) := by
  have hl : (w_dr st n).length = st.length - n := w_dr_len
  have e := w_lift_app (A := w_dr st n) (M := w_pm st n l) (x := st.getD (st.length - n + (a - 1)) [])
  rw [hl] at e
  rw [w_put_app, w_put_eq, w_put_eq]
  exact e
theorem w_rm_app {A M : w_R} {x : List UInt8} : w_rm (A ++ x :: M) A.length = A ++ M := by
  unfold w_rm
  rw [List.take_left, ← List.drop_drop, List.drop_left]
  rfl
theorem w_rm_put {st : w_R} {n a : Nat} {l : List Nat} : w_rm (w_put st n (a :: l)) (st.length - n) = w_put st n l := by
  have hl : (w_dr st n).length = st.length - n := w_dr_len
  have e := w_rm_app (A := w_dr st n) (M := w_pm st n l) (x := st.getD (st.length - n + (a - 1)) [])
  rw [hl] at e
  rw [w_put_eq, w_put_eq]
  exact e
theorem w_put_len {st : w_R} {n : Nat} {l : List Nat} : (w_put st n l).length = st.length - n + l.length := by
  rw [w_put_eq, List.length_append, w_dr_len]
  unfold w_pm
  rw [List.length_map]
section MV14
variable {scr : List UInt8} {S : w_S4} {lf : Nat} {H0 H : jH} {α : Type} {Q : α → jH → Prop}
/-- a row within the stack becomes another -/
theorem w_set14 {k : Unit → jH → Option (α × jH)} {to from_ : Nat} {to' from' : Int32} {it : List UInt8} (h : w_Z scr S lf H0 H) (et : to' = Int32.ofNat to) (ef : from' = Int32.ofNat from_) (hto : to < S.1.length) (hfr : from_ < 140) (hr : w_row H from_ it) (hk : ∀ H', w_Z scr (S.1.set to it, S.2) lf H0 H' → jfr (w_Cf to) H H' → jT (k () H') Q) : jT (jb (F_14_copy 437 to' from' H) k) Q := by
  have l1 := h.2.2.1.2.2.1
  have l2 := h.2.2.1.2.2.2
  refine jT_b (z14_copy et ef (by omega) hfr h.1.1 hr fun H1 s1 f1 r1 => hk H1 (w_Z_rows h s1 f1 (fun a j q => by unfold w_Cf at q; omega) ((jfr_I f1 (by unfold w_Cf; omega)).trans (h.2.1.1.trans ?_)) ((jfr_I f1 (by unfold w_Cf; omega)).trans h.2.1.2.1) ?_ (zIts_fr h.2.2.1.2.1 f1 fun a j k hkl q => by unfold w_Cf at q; omega) ?_ l2) f1)
  · rw [List.length_set]
  · intro k w hk2
    rw [List.getElem?_set] at hk2
    rw [Nat.zero_add]
    by_cases c : to = k
    · rw [if_pos c, if_pos (by omega)] at hk2
      obtain rfl := Option.some.inj hk2
      rw [← c]
      exact r1
    · rw [if_neg c] at hk2
      exact w_row_fr (w_rowA h hk2) f1 fun a j q => by unfold w_Cf at q; omega
  · rw [List.length_set]
    exact l1
theorem w_sub1 {n : Nat} (h : 1 ≤ n) : Int32.ofNat n - 1 = Int32.ofNat (n - 1) := jo_sub (a := n) (b := 1) h
/-- the element that has n above it is taken out -/
theorem w_take14 {k : Unit → jH → Option (α × jH)} {n : Nat} {n' : Int32} (h : w_Z scr S lf H0 H) (en : n' = Int32.ofNat n) (hn : n < S.1.length) (hk : ∀ H', w_Z scr (w_rm S.1 (S.1.length - 1 - n), S.2) lf H0 H' → jfr (fun a j => (a = 437 ∧ j = 2) ∨ (a = 439 ∧ j < 70) ∨ (a = 438 ∧ j < 8400)) H H' → jT (k () H') Q) : jT (jb (F_14_takeOut 437 n' H) k) Q := by
  have l1 := h.2.2.1.2.2.1
  unfold F_14_takeOut
  rw [z14_top h en hn]
  refine jT_b (jT_g (w_Zk h) ?_)
  rw [jb_ok]
  have loop : ∀ (d j fu : Nat) (H1 : jH), S.1.length - 1 - n + j + d + 1 = S.1.length → d < fu → w_Z scr (w_shf S.1 (S.1.length - 1 - n) j, S.2) lf H0 H1 → jfr (fun a j => (a = 437 ∧ j = 2) ∨ (a = 439 ∧ j < 70) ∨ (a = 438 ∧ j < 8400)) H H1 → jT (F_14_takeOut_6 fu 437 (Int32.ofNat (S.1.length - 1 - n + j)) H1) (fun x h => jT (k x h) Q) := by
    intro d
    induction d with
    | zero =>
      intro j fu H1 hj hfu h1 f1
      obtain ⟨fu, rfl⟩ : ∃ k, fu = k + 1 := ⟨fu - 1, by omega⟩
      have hl : (w_shf S.1 (S.1.length - 1 - n) j).length = S.1.length := w_shf_len
      have e2 : jI H1 437 2 = Int32.ofNat S.1.length := h1.2.1.1.trans (by rw [hl])
      have h2 := w_Z_take (n := S.1.length - 1) h1 (by rw [hl]; omega)
      have ej : j = S.1.length - 1 - (S.1.length - 1 - n) := by omega
      have et : (w_shf S.1 (S.1.length - 1 - n) j).take (S.1.length - 1) = w_rm S.1 (S.1.length - 1 - n) := by
        rw [ej]
        exact w_shf_rm (by omega)
      unfold F_14_takeOut_6 B_14_takeOut_6
      rw [e2, w_sub1 (by omega)]
      refine jT_g (w_Zk h1) (jT_pos (by rw [jo_le (by omega) (by omega)]; omega) (jT_g (w_Zk h1) (jT_g (w_Zk h1) (jT_l (jT_ret (hk _ ?_ (jfr_sI f1 (Or.inl ⟨rfl, rfl⟩))))))))
      rw [← et]
      exact h2
    | succ d ih =>
      intro j fu H1 hj hfu h1 f1
      obtain ⟨fu, rfl⟩ : ∃ k, fu = k + 1 := ⟨fu - 1, by omega⟩
      have hl : (w_shf S.1 (S.1.length - 1 - n) j).length = S.1.length := w_shf_len
      have e2 : jI H1 437 2 = Int32.ofNat S.1.length := h1.2.1.1.trans (by rw [hl])
      have en1 : Int32.ofNat (S.1.length - 1 - n + j) + 1 = Int32.ofNat (S.1.length - 1 - n + j + 1) := jo_add (a := S.1.length - 1 - n + j) (b := 1)
      have hrow : (w_shf S.1 (S.1.length - 1 - n) j)[S.1.length - 1 - n + j + 1]? = some (S.1.getD (S.1.length - 1 - n + j + 1) []) := by
        rw [w_shf_at (by omega), if_neg (by omega), List.getD_eq_getElem?_getD, List.getElem?_eq_getElem (by omega)]
        rfl
      unfold F_14_takeOut_6 B_14_takeOut_6
      rw [e2, w_sub1 (by omega), en1]
      refine jT_g (w_Zk h1) (jT_neg (by rw [jo_le (by omega) (by omega)]; omega) (jT_g (w_Zk h1) (w_set14 h1 rfl rfl (by rw [hl]; omega) (by omega) (w_rowA h1 hrow) fun H2 h2 f2 => jT_l (ih (j + 1) fu H2 (by omega) (by omega) h2 (jfr_trans f1 (jfr_mono f2 fun a j q => by unfold w_Cf at q; omega))))))
  exact loop n 0 jfuel H (by omega) (by unfold jfuel; omega) h jfr_refl
/-- some elements come again -/
theorem w_again14 {k : Unit → jH → Option (α × jH)} {n ab m : Nat} {n' ab' m' : Int32} (h : w_Z scr S lf H0 H) (en : n' = Int32.ofNat n) (ea : ab' = Int32.ofNat ab) (em : m' = Int32.ofNat m) (hn : n < 100) (hab : ab < n) (hm : m ≤ ab + 1) (hm3 : m ≤ 3) (hl : S.1.length ≤ 60) (h1 : n ≤ S.1.length → ∀ H', w_Z scr (S.1 ++ w_pm S.1 (ab + 1) ((List.range m).map (· + 1)), S.2) lf H0 H' → jT (k () H') Q) (h0 : S.1.length < n → ∀ H', w_Yf H0 H' → jT (k () H') Q) : jT (jb (F_14_again 437 n' ab' m' H) k) Q := by
  subst ea
  subst em
  unfold F_14_again
  refine jT_b (jT_g (w_Zk h) (w_has14 h en (by omega) (fun hl2 => ?_) fun hl2 H' hy => jT_neg (fun q => q rfl) (jT_ret (h0 hl2 H' hy))))
  rw [h.2.1.1, jo_sub (by omega), w_sub1 (by omega)]
  refine jT_pos (by decide) (jT_g (w_Zk h) (jT_l ?_))
  have loop : ∀ (d j fu : Nat) (H1 : jH), j + d = m → d < fu → w_Z scr (S.1 ++ w_pm S.1 (ab + 1) ((List.range j).map (· + 1)), S.2) lf H0 H1 → jT (F_14_again_22 fu 437 (Int32.ofNat m) (Int32.ofNat (S.1.length - ab - 1)) (Int32.ofNat j) H1) (fun x h => jT (k x h) Q) := by
    intro d
    induction d with
    | zero =>
      intro j fu H1 hj hfu h2
      obtain ⟨fu, rfl⟩ : ∃ k, fu = k + 1 := ⟨fu - 1, by omega⟩
      obtain rfl : j = m := by omega
      unfold F_14_again_22 B_14_again_22
      exact jT_pos (by rw [jo_le (by omega) (by omega)]; exact Nat.le_refl _) (jT_ret (h1 hl2 H1 h2))
    | succ d ih =>
      intro j fu H1 hj hfu h2
      obtain ⟨fu, rfl⟩ : ∃ k, fu = k + 1 := ⟨fu - 1, by omega⟩
      have e1 : Int32.ofNat j + 1 = Int32.ofNat (j + 1) := jo_add (a := j) (b := 1)
      have hlen : (S.1 ++ w_pm S.1 (ab + 1) ((List.range j).map (· + 1))).length = S.1.length + j := by
        unfold w_pm
        rw [List.length_append, List.length_map, List.length_map, List.length_range]
      have hrow : (S.1 ++ w_pm S.1 (ab + 1) ((List.range j).map (· + 1)))[S.1.length - ab - 1 + j]? = some (S.1.getD (S.1.length - (ab + 1) + j) []) := by
        rw [List.getElem?_append_left (by omega), List.getD_eq_getElem?_getD, show S.1.length - ab - 1 + j = S.1.length - (ab + 1) + j by omega, List.getElem?_eq_getElem (by omega)]
        rfl
      unfold F_14_again_22 B_14_again_22
      rw [jo_add, e1]
      refine jT_neg (by rw [jo_le (by omega) (by omega)]; omega) (jT_g (w_Zk h2) (w_push14 h2 rfl (by omega) (w_rowA h2 hrow) (by show (S.1 ++ w_pm S.1 (ab + 1) ((List.range j).map (· + 1))).length < 66; omega) fun H2 h3 _ => jT_l (ih (j + 1) fu H2 (by omega) (by omega) ?_)))
      have es : w_pm S.1 (ab + 1) ((List.range (j + 1)).map (· + 1)) = w_pm S.1 (ab + 1) ((List.range j).map (· + 1)) ++ [S.1.getD (S.1.length - (ab + 1) + j) []] := by
        unfold w_pm
        rw [List.range_succ, List.map_append, List.map_append]
        rfl
      rw [es, ← List.append_assoc]
      exact h3
  refine loop m 0 jfuel H (by omega) (by unfold jfuel; omega) ?_
  show w_Z scr (S.1 ++ [], S.2) lf H0 H
  rw [List.append_nil]
  exact h
/-- the lowest of some comes to the top, so often -/
theorem w_turn14 {k : Unit → jH → Option (α × jH)} {n m : Nat} {n' m' : Int32} (h : w_Z scr S lf H0 H) (en : n' = Int32.ofNat n) (em : m' = Int32.ofNat m) (h1n : 1 ≤ n) (hn : n < 100) (hm : m < 100) (T : Nat → w_R) (T0 : T 0 = S.1) (Tl : ∀ j, j ≤ m → (T j).length = S.1.length) (Ts : ∀ j, j < m → T (j + 1) = w_lift (T j) (S.1.length - n) []) (h1 : n ≤ S.1.length → ∀ H', w_Z scr (T m, S.2) lf H0 H' → jT (k () H') Q) (h0 : S.1.length < n → ∀ H', w_Yf H0 H' → jT (k () H') Q) : jT (jb (F_14_turn 437 n' m' H) k) Q := by
  subst em
  have l1 := h.2.2.1.2.2.1
  unfold F_14_turn
  refine jT_b (jT_g (w_Zk h) (w_has14 h en (by omega) (fun hl2 => jT_pos (by decide) ?_) fun hl2 H' hy => jT_neg (fun q => q rfl) (jT_ret (h0 hl2 H' hy))))
  subst en
  have outer : ∀ (d j fu : Nat) (H1 : jH), j + d = m → d < fu → w_Z scr (T j, S.2) lf H0 H1 → jT (F_14_turn_11 fu 437 (Int32.ofNat n) (Int32.ofNat m) (Int32.ofNat j) H1) (fun x h => jT (k x h) Q) := by
    intro d
    induction d with
    | zero =>
      intro j fu H1 hj hfu h2
      obtain ⟨fu, rfl⟩ : ∃ k, fu = k + 1 := ⟨fu - 1, by omega⟩
      obtain rfl : j = m := by omega
      unfold F_14_turn_11 B_14_turn_11
      exact jT_pos (by rw [jo_le (by omega) (by omega)]; exact Nat.le_refl _) (jT_ret (h1 hl2 H1 h2))
    | succ d ih =>
      intro j fu H1 hj hfu h2
      obtain ⟨fu, rfl⟩ : ∃ k, fu = k + 1 := ⟨fu - 1, by omega⟩
      have hTl := Tl j (by omega)
      have e2 : jI H1 437 2 = Int32.ofNat S.1.length := h2.2.1.1.trans (by rw [hTl])
      have e1 : Int32.ofNat j + 1 = Int32.ofNat (j + 1) := jo_add (a := j) (b := 1)
      have hlow : (T j)[S.1.length - n]? = some ((T j).getD (S.1.length - n) []) := by
        rw [List.getD_eq_getElem?_getD, List.getElem?_eq_getElem (by omega)]
        rfl
      unfold F_14_turn_11 B_14_turn_11
      rw [e2, jo_sub hl2]
      refine jT_neg (by rw [jo_le (by omega) (by omega)]; omega) (jT_g (w_Zk h2) (jT_g (w_Zk h2) (jT_b (z14_copy (to := 139) (from_ := S.1.length - n) rfl rfl (by decide) (by omega) h2.1.1 (w_rowA h2 hlow) fun H2 s2 f2 r2 => ?_))))
      have l2 := h2.2.2.1.2.2.2
      have l2' : S.2.1.length ≤ 62 := l2
      have h3 : w_Z scr (T j, S.2) lf H0 H2 := w_Z_rows (S := (T j, S.2)) (st := T j) (sd := S.2.1) h2 s2 f2 (fun a j q => by unfold w_Cf at q; omega) ((jfr_I f2 (by unfold w_Cf; omega)).trans h2.2.1.1) ((jfr_I f2 (by unfold w_Cf; omega)).trans h2.2.1.2.1) (zIts_fr h2.2.2.1.1 f2 fun a j k hkl q => by unfold w_Cf at q; omega) (zIts_fr h2.2.2.1.2.1 f2 fun a j k hkl q => by unfold w_Cf at q; omega) h2.2.2.1.2.2.1 l2
      have e3 : jI H2 437 2 = Int32.ofNat S.1.length := h3.2.1.1.trans (by rw [hTl])
      rw [e3, jo_sub hl2]
      refine jT_g (w_Zk h3) (jT_l ?_)
      have inner : ∀ (d2 i fu2 : Nat) (H3 : jH), S.1.length - n + i + d2 + 1 = S.1.length → d2 < fu2 → w_Z scr (w_shf (T j) (S.1.length - n) i, S.2) lf H0 H3 → w_row H3 139 ((T j).getD (S.1.length - n) []) → jT (F_14_turn_37 (F_14_turn_11 fu) fu2 437 (Int32.ofNat n) (Int32.ofNat m) (Int32.ofNat j) (Int32.ofNat (S.1.length - n + i)) H3) (fun x h => jT (k x h) Q) := by
        intro d2
        induction d2 with
        | zero =>
          intro i fu2 H3 hi hfu2 h4 r4
          obtain ⟨fu2, rfl⟩ : ∃ k, fu2 = k + 1 := ⟨fu2 - 1, by omega⟩
          have hl4 : (w_shf (T j) (S.1.length - n) i).length = S.1.length := w_shf_len.trans hTl
          have e4 : jI H3 437 2 = Int32.ofNat S.1.length := h4.2.1.1.trans (by rw [hl4])
          unfold F_14_turn_37 B_14_turn_37
          rw [e4, w_sub1 (by omega), e1]
          refine jT_g (w_Zk h4) (jT_pos (by rw [jo_le (by omega) (by omega)]; omega) (jT_g (w_Zk h4) (jT_g (w_Zk h4) (w_set14 (to := S.1.length - 1) (from_ := 139) h4 rfl rfl (by rw [hl4]; omega) (by decide) r4 fun H5 h5 _ => jT_l (ih (j + 1) fu H5 (by omega) (by omega) ?_)))))
          have ei : i = (T j).length - 1 - (S.1.length - n) := by omega
          have := w_shf_lift (st := T j) (i := S.1.length - n) (by omega)
          rw [← ei, hTl] at this
          rw [Ts j (by omega), ← this]
          exact h5
        | succ d2 ih2 =>
          intro i fu2 H3 hi hfu2 h4 r4
          obtain ⟨fu2, rfl⟩ : ∃ k, fu2 = k + 1 := ⟨fu2 - 1, by omega⟩
          have hl4 : (w_shf (T j) (S.1.length - n) i).length = S.1.length := w_shf_len.trans hTl
          have e4 : jI H3 437 2 = Int32.ofNat S.1.length := h4.2.1.1.trans (by rw [hl4])
          have en1 : Int32.ofNat (S.1.length - n + i) + 1 = Int32.ofNat (S.1.length - n + i + 1) := jo_add (a := S.1.length - n + i) (b := 1)
          have hrow : (w_shf (T j) (S.1.length - n) i)[S.1.length - n + i + 1]? = some ((T j).getD (S.1.length - n + i + 1) []) := by
            rw [w_shf_at (by omega), if_neg (by omega), List.getD_eq_getElem?_getD, List.getElem?_eq_getElem (by omega)]
            rfl
          unfold F_14_turn_37 B_14_turn_37
          rw [e4, w_sub1 (by omega), en1]
          exact jT_g (w_Zk h4) (jT_neg (by rw [jo_le (by omega) (by omega)]; omega) (jT_g (w_Zk h4) (w_set14 h4 rfl rfl (by rw [hl4]; omega) (by omega) (w_rowA h4 hrow) fun H5 h5 f5 => jT_l (ih2 (i + 1) fu2 H5 (by omega) (by omega) h5 (w_row_fr r4 f5 fun a j q => by unfold w_Cf at q; omega)))))
      exact inner (n - 1) 0 jfuel H2 (by omega) (by unfold jfuel; omega) h3 r2
  refine outer m 0 jfuel H (by omega) (by unfold jfuel; omega) ?_
  rw [T0]
  exact h
end MV14
