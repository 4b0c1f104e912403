/-! The class's machine: digest, move. -/
def w_sha (x : List UInt8) : List UInt8 := (List.range 32).map (zsha (fun i => x.getD i 0) x.length)
def w_rip (x : List UInt8) : List UInt8 := (List.range 20).map (zrip (fun i => x.getD i 0) x.length)
def w_dgv (c : Nat) (x : List UInt8) : List UInt8 := if c = 166 then w_rip x else if c = 169 then w_rip (w_sha x) else if c = 170 then w_sha (w_sha x) else w_sha x
def w_dig (c : Nat) (st sd : w_R) : Option (w_R × w_R) := if c = 167 ∨ st.length < 1 then none else some (w_dr st 1 ++ [w_dgv c (w_tp st 1)], sd)
theorem w_sha_len {x : List UInt8} : (w_sha x).length = 32 := by
  unfold w_sha
  rw [List.length_map, List.length_range]
theorem w_rip_len {x : List UInt8} : (w_rip x).length = 20 := by
  unfold w_rip
  rw [List.length_map, List.length_range]
theorem w_row_map {H : jH} {r n : Nat} {f : Nat → UInt8} (h : ∀ i, i < n → jB H r i = f i) : zRow H r 0 ((List.range n).map f) := by
  intro i u hi
  rw [List.getElem?_map] at hi
  obtain ⟨j, hj, rfl⟩ := Option.map_eq_some_iff.mp hi
  obtain ⟨hi2, rfl⟩ := List.getElem?_eq_some_iff.mp hj
  rw [List.length_range] at hi2
  rw [List.getElem_range, Nat.zero_add]
  exact h i hi2
def w_rd (x : List UInt8) (H : jH) : Prop := jI H 43 1 = Int32.ofNat x.length ∧ ∀ i, i < x.length + 72 → jB H 44 i = zpad (fun i => x.getD i 0) x.length i
section DIG
variable {st sd : w_R} {v : Int32} {H0 H : jH} {α : Type} {Q : α → jH → Prop} {c : Nat} {x : List UInt8}
theorem w_tk {k : Unit → jH → Option (α × jH)} {r len p : Nat} {p' n' : Int32} (h : w_N st sd v H0 H) (ep : p' = Int32.ofNat p) (en : n' = Int32.ofNat x.length) (kr : jK H r = (101, len)) (hlen : len < 2147483648) (hp : p + x.length ≤ len) (hx : x.length ≤ 2400) (hr : zRow H r p x) (hk : ∀ H', w_N st sd v H0 H' → w_rd x H' → jT (k () H') Q) : jT (jb (F_3_take 43 r p' n' H) k) Q := by
  subst ep
  subst en
  refine jT_b (z3_take r len p x.length hp hlen (by omega) H h.1.1 kr fun H' s' f' i' b' => hk H' (w_N_fr h s' f' (fun a j q => by unfold w_F4; omega) fun a j q => by omega) ⟨i', fun i hi => ?_⟩)
  rw [b' i hi]
  exact congrFun (zpad_eq fun i hi => hr i _ (getD_of hi)) i
theorem w_dg {k : Unit → jH → Option (α × jH)} (h : w_N st sd v H0 H) (hx : x.length ≤ 2400) (hr : w_rd x H) (hk : ∀ H', w_N st sd v H0 H' → zRow H' 390 0 (w_sha x) → jT (k () H') Q) : jT (jb (F_3_digest 43 390 H) k) Q := by
  refine jT_b (z3_digest 390 32 ⟨Nat.le_refl 32, by decide⟩ (by decide) (zpad (fun i => x.getD i 0) x.length) x.length ((x.length + 8) / 64 + 1) rfl (by omega) H h.1.1 (sK_390 h.1.1) hr.1 (fun i hi => hr.2 i (by omega)) fun H' s' f' b' => hk H' (w_N_fr h s' f' (fun a j q => by unfold w_F4; omega) fun a j q => by omega) (w_row_map b'))
theorem w_rp {k : Unit → jH → Option (α × jH)} (h : w_N st sd v H0 H) (hx : x.length ≤ 2400) (hr : w_rd x H) (hk : ∀ H', w_N st sd v H0 H' → zRow H' 390 0 (w_rip x) → jT (k () H') Q) : jT (jb (F_3_ripe 43 390 H) k) Q := by
  refine jT_b (z3_ripe (len := 32) ⟨by decide, by decide⟩ (bs := zpad (fun i => x.getD i 0) x.length) (sz := x.length) (parts := (x.length + 8) / 64 + 1) rfl (by omega) h.1.1 (sK_390 h.1.1) hr.1 (fun i hi => hr.2 i (by omega)) fun H' s' f' b' => hk H' (w_N_fr h s' f' (fun a j q => by unfold w_F4; omega) fun a j q => by omega) (w_row_map b'))
end DIG
section DIG2
variable {st sd : w_R} {v : Int32} {H0 H : jH} {Q : Unit → jH → Prop} {c : Nat} {x : List UInt8}
theorem w_cut0 {r : Nat} {y : List UInt8} (h : zRow H r 0 y) : zcut (jB H r) 0 y.length = y := by
  have := w_sl_cut (tb := y) (p := 0) (n := y.length) h (by omega)
  rw [Nat.add_zero] at this
  rw [this]
  unfold w_sl
  rw [List.drop_zero, List.take_length]
theorem z4_dig184 {n' : Int32} {y : List UInt8} (h : w_N st sd v H0 H) (en : n' = Int32.ofNat y.length) (hy : y.length ≤ 32) (hl : st.length < 70) (hr : zRow H 390 0 y) (hk : ∀ H', w_N (st ++ [y]) sd v H0 H' → Q () H') : jT (B_4_digest_184 171 390 0 n' H) Q := by
  subst en
  unfold B_4_digest_184
  refine jT_g (w_N_k1 h) (jT_b (z9_put (p := 0) (n := y.length) h.1.1 zS171 h.1.2.1 hl (sK_390 h.1.1) (by decide) (by omega) (by omega) fun H' s' z' f' => jT_ret (hk H' (w_N_A h s' ?_ (jfr_mono f' fun _ _ q => w_Sk_w q)))))
  rw [w_cut0 hr] at z'
  exact z'
theorem w_N_r (h : w_N st sd v H0 H) : jR H 170 0 = 43 ∧ jR H 170 1 = 171 ∧ jR H 170 4 = 390 := ⟨sR_170_0 h.1.1, sR_170_1 h.1.1, sR_170_4 h.1.1⟩
theorem w_N_k0 (h : w_N st sd v H0 H) : (jK H 43).1 = 3 := by rw [sK_43 h.1.1]
theorem z4_digest (hc : c < 256) (h : w_N st sd 0 H0 H) (hb : st.length + sd.length ≤ 60) (hk1 : ∀ st' sd' H', w_dig c st sd = some (st', sd') → w_N st' sd' 0 H0 H' → Q () H') (hk0 : ∀ a b H', w_dig c st sd = none → w_N a b 2 H0 H' → Q () H') : jT (F_4_digest 170 (Int32.ofNat c) H) Q := by
  have ec : ∀ k, k < 256 → (Int32.ofNat c = Int32.ofNat k ↔ c = k) := fun k hk => jo_eq (by omega) (by omega)
  have e166 : (Int32.ofNat c = 166 ↔ c = 166) := ec 166 (by decide)
  have e167 : (Int32.ofNat c = 167 ↔ c = 167) := ec 167 (by decide)
  have e169 : (Int32.ofNat c = 169 ↔ c = 169) := ec 169 (by decide)
  have e170 : (Int32.ofNat c = 170 ↔ c = 170) := ec 170 (by decide)
  have b15 : ∀ u H1, w_N st sd u H0 H1 → w_dig c st sd = none → jT (B_4_digest_15 170 H1) Q := fun u H1 h1 hn => by
    unfold B_4_digest_15
    exact jT_g (w_N_k h1) (jT_l (jT_ret (hk0 _ _ _ hn (w_st h1))))
  unfold F_4_digest
  by_cases c7 : c = 167
  · exact jT_pos (e167.mpr c7) (b15 0 H h (by unfold w_dig; rw [if_pos (Or.inl c7)]))
  refine jT_neg (fun q => c7 (e167.mp q)) (jT_g (w_N_k h) (w_has (n := 1) h rfl (by decide) (fun hl => ?_) fun hl H' h' => jT_neg (fun q => q rfl) (b15 2 H' h' (by unfold w_dig; rw [if_pos (Or.inr hl)]))))
  have l1 : (w_dr st 1).length = st.length - 1 := w_dr_len
  have em : Int32.ofNat st.length - 1 = Int32.ofNat (st.length - 1) := jo_sub (a := st.length) (b := 1) hl
  obtain ⟨q1, q2⟩ := w_len_i h (Nat.le_refl 1) hl
  obtain ⟨k0, r0, r1, k1, k2, k3⟩ := sSt h.1.1 zS171
  obtain ⟨z1, z2, z3, z4, z5⟩ := h.1.2.1
  have zz := (z5 _ _ (w_tp_at (Nat.le_refl 1) hl)).2.2
  have q4 := z3 (st.length - 1) (by omega)
  have kr := k3 _ q4.1 q4.2
  generalize hx : w_tp st 1 = x at *
  have edig : ∀ y, w_dgv c x = y → w_dig c st sd = some (w_dr st 1 ++ [y], sd) := fun y hy => by
    unfold w_dig
    rw [if_neg (by omega), hx, hy]
  -- the end
  have g154 : ∀ (H1 : jH) (y : List UInt8), w_N (w_dr st 1) sd 0 H0 H1 → zRow H1 390 0 y → y.length = (if c = 166 ∨ c = 169 then 20 else 32) → w_dgv c x = y → jT (B_4_digest_154 170 (Int32.ofNat c) H1) Q := by
    intro H1 y h1 hr hy he
    unfold B_4_digest_154 B_4_digest_177
    simp only [(w_N_r h1).2.1, (w_N_r h1).2.2]
    refine jT_g (w_N_k h1) (jT_g (w_N_k h1) ?_)
    have fin : ∀ H2, w_N (w_dr st 1 ++ [y]) sd 0 H0 H2 → Q () H2 := fun H2 h2 => hk1 _ _ H2 (edig y he) h2
    by_cases c6 : c = 166
    · rw [if_pos (Or.inl c6)] at hy
      exact jT_pos (e166.mpr c6) (z4_dig184 h1 (by rw [hy]; rfl) (by omega) (by omega) hr fin)
    · refine jT_neg (fun q => c6 (e166.mp q)) ?_
      by_cases c9 : c = 169
      · rw [if_pos (Or.inr c9)] at hy
        exact jT_neg (fun q => q (e169.mpr c9)) (z4_dig184 h1 (by rw [hy]; rfl) (by omega) (by omega) hr fin)
      · rw [if_neg (by omega)] at hy
        exact jT_pos (fun q => c9 (e169.mp q)) (z4_dig184 h1 (by rw [hy]; rfl) (by omega) (by omega) hr fin)
  have g143 : ∀ (H1 : jH) (y : List UInt8), w_N (w_dr st 1) sd 0 H0 H1 → w_rd y H1 → y.length ≤ 120 → (c = 166 ∨ c = 169) → w_dgv c x = w_rip y → jT (B_4_digest_143 170 (Int32.ofNat c) H1) Q := by
    intro H1 y h1 hr hy hcc he
    unfold B_4_digest_143
    simp only [(w_N_r h1).1, (w_N_r h1).2.2]
    exact jT_g (w_N_k h1) (jT_g (w_N_k h1) (jT_g (w_N_k0 h1) (w_rp h1 (by omega) hr fun H2 h2 r2 => g154 H2 _ h2 r2 (by rw [w_rip_len, if_pos hcc]) he)))
  simp only [(w_N_h h).1, (w_N_r h).1, (w_N_r h).2.1, r0, r1, em, jo_nat (n := st.length - 1) (by omega)]
  refine jT_pos (by decide) (jT_g (w_N_k h) (jT_g (w_N_k1 h) (jT_l (jT_g (w_N_k h) (jT_g (w_N_k h) (jT_g (w_N_k1 h) (jT_g (gA k1 (jo_in (by omega) (by omega))) (jT_g (w_N_k h) (jT_g (w_N_k1 h) (jT_g (gA k2 (jo_in (by omega) (by omega))) (jT_g (w_N_k0 h) ?_)))))))))))
  rw [jo_nat (n := st.length - 1) (by omega), q1]
  refine w_tk (x := x) (p := 0) h rfl rfl kr (by decide) (by omega) (by omega) zz fun H1 h1 d1 => ?_
  simp only [(w_N_r h1).2.1]
  refine jT_g (w_N_k h1) (jT_g (w_N_k1 h1) (jT_b (z9_drop (n := 1) h1.1.1 zS171 h1.1.2.1 hl fun H2 s2 z2 f2 => ?_)))
  have h2 : w_N (w_dr st 1) sd 0 H0 H2 := w_N_A h1 s2 z2 (jfr_mono f2 fun a j q => Or.inl q)
  have d2 : w_rd x H2 := ⟨(jfr_I f2 (by omega)).trans d1.1, fun i hi => (jfr_B f2 (by omega)).trans (d1.2 i hi)⟩
  by_cases c6 : c = 166
  · refine jT_pos (e166.mpr c6) ?_
    unfold B_4_digest_83 B_4_digest_111 B_4_digest_129
    exact jT_neg (fun q => by have := e169.mp q; omega) (jT_pos (fun q => by have := e170.mp q; omega) (jT_pos (fun q => by have := e170.mp q; omega) (jT_pos (e166.mpr c6) (g143 H2 x h2 d2 q2 (Or.inl c6) (by unfold w_dgv; rw [if_pos c6])))))
  · simp only [(w_N_r h2).1, (w_N_r h2).2.2]
    refine jT_neg (fun q => c6 (e166.mp q)) (jT_g (w_N_k h2) (jT_g (w_N_k h2) (jT_g (w_N_k0 h2) (w_dg h2 (by omega) d2 fun H3 h3 r3 => ?_))))
    unfold B_4_digest_83
    have g97 : (c = 169 ∨ c = 170) → jT (B_4_digest_97 170 (Int32.ofNat c) H3) Q := by
      intro hcc
      unfold B_4_digest_97
      simp only [(w_N_r h3).1, (w_N_r h3).2.2]
      refine jT_g (w_N_k h3) (jT_g (w_N_k h3) (jT_g (w_N_k0 h3) (w_tk (x := w_sha x) (p := 0) h3 rfl (by rw [w_sha_len]; rfl) (sK_390 h3.1.1) (by decide) (by rw [w_sha_len]; decide) (by rw [w_sha_len]; decide) r3 fun H4 h4 d4 => ?_)))
      unfold B_4_digest_111
      by_cases c0 : c = 170
      · simp only [(w_N_r h4).1, (w_N_r h4).2.2]
        refine jT_neg (fun q => q (e170.mpr c0)) (jT_g (w_N_k h4) (jT_g (w_N_k h4) (jT_g (w_N_k0 h4) (w_dg h4 (by rw [w_sha_len]; decide) d4 fun H5 h5 r5 => ?_))))
        unfold B_4_digest_129
        exact jT_neg (fun q => c6 (e166.mp q)) (jT_pos (fun q => by have := e169.mp q; omega) (g154 H5 _ h5 r5 (by rw [w_sha_len, if_neg (by omega)]) (by unfold w_dgv; rw [if_neg c6, if_neg (by omega), if_pos c0])))
      · have c9 : c = 169 := by omega
        refine jT_pos (fun q => c0 (e170.mp q)) ?_
        unfold B_4_digest_129
        exact jT_neg (fun q => c6 (e166.mp q)) (jT_neg (fun q => q (e169.mpr c9)) (g143 H4 _ h4 d4 (by rw [w_sha_len]; decide) (Or.inr c9) (by unfold w_dgv; rw [if_neg c6, if_pos c9])))
    by_cases c9 : c = 169
    · exact jT_pos (e169.mpr c9) (g97 (Or.inl c9))
    · refine jT_neg (fun q => c9 (e169.mp q)) ?_
      by_cases c0 : c = 170
      · exact jT_neg (fun q => q (e170.mpr c0)) (g97 (Or.inr c0))
      · refine jT_pos (fun q => c0 (e170.mp q)) ?_
        unfold B_4_digest_111 B_4_digest_129
        exact jT_pos (fun q => c0 (e170.mp q)) (jT_neg (fun q => c6 (e166.mp q)) (jT_pos (fun q => c9 (e169.mp q)) (g154 H3 _ h3 r3 (by rw [w_sha_len, if_neg (by omega)]) (by unfold w_dgv; rw [if_neg c6, if_neg c9, if_neg c0]))))
end DIG2
/-! move: the table. -/
abbrev w_E : Type := Nat × Nat × List Nat
def w_tab : List w_E := [(109, 2, []), (110, 2, [1, 2, 1, 2]), (111, 3, [1, 2, 3, 1, 2, 3]), (112, 4, [1, 2, 3, 4, 1, 2]), (113, 6, [3, 4, 5, 6, 1, 2]), (114, 4, [3, 4, 1, 2]), (117, 1, []), (118, 1, [1, 1]), (119, 2, [2]), (120, 2, [1, 2, 1]), (123, 3, [2, 3, 1]), (124, 2, [2, 1]), (125, 2, [2, 1, 2])]
def w_look (c : Nat) : List w_E → Option (Nat × List Nat)
  | [] => none
  | e :: L => if e.1 = c then some e.2 else w_look c L
def w_put (st : w_R) (n : Nat) (l : List Nat) : w_R := w_dr st n ++ l.map fun i => st.getD (st.length - n + (i - 1)) []
def w_mov (c : Nat) (st sd : w_R) : Option (w_R × w_R) := match w_look c w_tab with
  | none => none
  | some e => if e.1 ≤ st.length then some (w_put st e.1 e.2, sd) else none
def w_m6 (i : Nat) : Nat := (jval_6.getD i 0).toNatClampNeg
/-- the entry at a place of the table -/
def w_ent (p : Nat) (e : w_E) : Bool := decide (w_m6 p = e.1) && decide (w_m6 (p + 1) = e.2.1) && decide (w_m6 (p + 2) = e.2.2.length) && decide (p + 3 + e.2.2.length ≤ 79) && decide (1 ≤ e.2.1) && decide (e.2.1 ≤ 6) && decide (e.2.2.length ≤ 6) && ((List.range e.2.2.length).all fun i => decide (w_m6 (p + 3 + i) = e.2.2.getD i 0) && decide (1 ≤ e.2.2.getD i 0) && decide (e.2.2.getD i 0 ≤ e.2.1))
def w_ents : Nat → List w_E → Bool
  | p, [] => decide (p = 79)
  | p, e :: L => w_ent p e && w_ents (p + 3 + e.2.2.length) L
theorem w_ents_tab : w_ents 0 w_tab = true := by decide +kernel
theorem w_m6_v : ∀ i, i < 79 → jval_6.getD i 0 = Int32.ofNat (w_m6 i) ∧ w_m6 i < 256 := by decide +kernel
section MOVE4
variable {st sd : w_R} {v : Int32} {H0 H : jH} {Q : Unit → jH → Prop} {c : Nat}
theorem w_k6 (h : w_N st sd v H0 H) : jK H 6 = (100, 79) := sK h.1.1 (a := 6) rfl (by decide) (by decide)
theorem w_i6 (h : w_N st sd v H0 H) {i : Nat} (hi : i < 79) : jI H 6 i = Int32.ofNat (w_m6 i) := (jsh_st h.1.1 (by decide) i).trans (w_m6_v i hi).1
theorem w_ent_t {p : Nat} {e : w_E} (h : w_ent p e = true) : w_m6 p = e.1 ∧ w_m6 (p + 1) = e.2.1 ∧ w_m6 (p + 2) = e.2.2.length ∧ p + 3 + e.2.2.length ≤ 79 ∧ 1 ≤ e.2.1 ∧ e.2.1 ≤ 6 ∧ e.2.2.length ≤ 6 ∧ ∀ i, i < e.2.2.length → w_m6 (p + 3 + i) = e.2.2.getD i 0 ∧ 1 ≤ e.2.2.getD i 0 ∧ e.2.2.getD i 0 ≤ e.2.1 := by
  unfold w_ent at h
  simp only [Bool.and_eq_true, decide_eq_true_eq, List.all_eq_true, List.mem_range] at h
  obtain ⟨⟨⟨⟨⟨⟨⟨h1, h2⟩, h3⟩, h4⟩, h5⟩, h6⟩, h7⟩, h8⟩ := h
  exact ⟨h1, h2, h3, h4, h5, h6, h7, fun i hi => ⟨(h8 i hi).1.1, (h8 i hi).1.2, (h8 i hi).2⟩⟩
theorem w_take_s {α : Type} {l : List α} {k : Nat} {a : α} (h : l[k]? = some a) : l.take (k + 1) = l.take k ++ [a] := by
  rw [List.take_succ, h]
  rfl
theorem w_b60 (h : w_N st sd v H0 H) (hk : ∀ H', w_N st sd 2 H0 H' → Q () H') : jT (B_4_move_60 170 H) Q := by
  unfold B_4_move_60
  exact jT_g (w_N_k h) (jT_l (jT_ret (hk _ (w_st h))))
theorem w_N_sp (h : w_N st sd v H0 H) : w_N st sd v H0 (jsI H 317 2 0) ∧ zStk 317 [] (jsI H 317 2 0) := by
  obtain ⟨⟨a1, a2, a3, sp, a4⟩, b, cc⟩ := h
  have z : zStk 317 (sp.take 0) (jsI H 317 2 (Int32.ofNat (sp.take 0).length)) := zStk_take a4 (n := 0) (by decide)
  have e : Int32.ofNat (sp.take 0).length = 0 := by rw [List.take_zero]; rfl
  rw [e, List.take_zero] at z
  exact ⟨w_N_C ⟨⟨a1, a2, a3, sp, a4⟩, b, cc⟩ (jsh_sI a1 (by decide)) z (jfr_sI jfr_refl (Or.inl ⟨rfl, rfl⟩)), z⟩
/-- the row is found: it is done -/
theorem z4_m36 {p : Nat} {e : w_E} (he : w_ent p e = true) (h : w_N st sd 0 H0 H) (hb : st.length + sd.length ≤ 60) (hk1 : ∀ H', e.2.1 ≤ st.length → w_N (w_put st e.2.1 e.2.2) sd 0 H0 H' → Q () H') (hk0 : ∀ H', ¬ e.2.1 ≤ st.length → w_N st sd 2 H0 H' → Q () H') : jT (B_4_move_36 170 (Int32.ofNat p) H) Q := by
  obtain ⟨t1, t2, t3, t4, t5, t6, t7, t8⟩ := w_ent_t he
  generalize e.2.1 = n at *
  generalize e.2.2 = l at *
  have e1 : Int32.ofNat p + 1 = Int32.ofNat (p + 1) := jo_add (a := p) (b := 1)
  have e2 : Int32.ofNat p + 2 = Int32.ofNat (p + 2) := jo_add (a := p) (b := 2)
  have e3 : Int32.ofNat p + 3 = Int32.ofNat (p + 3) := jo_add (a := p) (b := 3)
  have ek : ∀ {H : jH} {st sd : w_R} {v : Int32}, w_N st sd v H0 H → (Int32.ofNat (jK H 6).2) = Int32.ofNat 79 := fun h => by rw [w_k6 h]
  unfold B_4_move_36
  simp only [e1, e2, ek h, w_i6 h (i := p + 1) (by omega), jo_nat (n := p + 1) (by omega), t2]
  refine jT_g (gT (w_k6 h)) (jT_neg (by rw [jo_le (by omega) (by omega)]; omega) (jT_g (gA (w_k6 h) (jo_in (by omega) (by omega))) (jT_g (w_N_k h) (w_has h rfl (by omega) (fun hl => ?_) fun hl H' h' => jT_neg (fun q => q rfl) (w_b60 h' fun H2 h2 => hk0 H2 (by omega) h2)))))
  simp only [w_i6 h (i := p + 1) (by omega), w_i6 h (i := p + 2) (by omega), jo_nat (n := p + 2) (by omega), t2, t3, (w_N_h h).2.2.2.2]
  refine jT_pos (by decide) (jT_g (gA (w_k6 h) (jo_in (by omega) (by omega))) (jT_l (jT_g (gA (w_k6 h) (jo_in (by omega) (by omega))) (jT_l (jT_g (w_N_k h) (jT_g (w_N_k3 h) (jT_l ?_)))))))
  obtain ⟨h1, z1⟩ := w_N_sp h
  generalize jsI H 317 2 0 = H1 at *
  clear h
  have low : ∀ k, k < n → ∃ it, st[st.length - n + k]? = some it ∧ (st.drop (st.length - n))[k]? = some it := fun k hk => by
    refine ⟨st[st.length - n + k], List.getElem?_eq_getElem (by omega), ?_⟩
    rw [List.getElem?_drop, List.getElem?_eq_getElem (by omega)]
  have ll : (st.drop (st.length - n)).length = n := by rw [List.length_drop]; omega
  -- putting
  have put : ∀ (d j fu : Nat) (H : jH), j + d = l.length → d < fu → w_N (w_dr st n ++ (l.take j).map fun i => st.getD (st.length - n + (i - 1)) []) sd 0 H0 H → zStk 317 (st.drop (st.length - n)) H → jT (F_4_move_139 fu 170 (Int32.ofNat p) (Int32.ofNat l.length) (Int32.ofNat (p + 3 + j)) H) Q := by
    intro d
    induction d with
    | zero =>
      intro j fu H hj hfu h2 z2
      obtain ⟨fu, rfl⟩ : ∃ k, fu = k + 1 := ⟨fu - 1, by omega⟩
      obtain rfl : j = l.length := by omega
      rw [List.take_length] at h2
      unfold F_4_move_139 B_4_move_139 B_4_move_184
      rw [e3, jo_add]
      exact jT_pos (by rw [jo_le (by omega) (by omega)]; exact Nat.le_refl _) (jT_ret (hk1 H hl h2))
    | succ d ih =>
      intro j fu H hj hfu h2 z2
      obtain ⟨fu, rfl⟩ : ∃ k, fu = k + 1 := ⟨fu - 1, by omega⟩
      obtain ⟨m1, m2, m3⟩ := t8 j (by omega)
      obtain ⟨it, i1, i2⟩ := low (l.getD j 0 - 1) (by omega)
      have en1 : Int32.ofNat (p + 3 + j) + 1 = Int32.ofNat (p + 3 + (j + 1)) := jo_add (a := p + 3 + j) (b := 1)
      have em : Int32.ofNat (l.getD j 0) - 1 = Int32.ofNat (l.getD j 0 - 1) := jo_sub (a := l.getD j 0) (b := 1) m2
      have hll : (w_dr st n ++ (l.take j).map fun i => st.getD (st.length - n + (i - 1)) []).length ≤ 66 := by
        rw [List.length_append, w_dr_len, List.length_map, List.length_take]
        omega
      unfold F_4_move_139 B_4_move_139
      simp only [e3, jo_add, ek h2, (w_N_h h2).2.2.1, (w_N_h h2).2.2.2.2, w_i6 h2 (i := p + 3 + j) (by omega), jo_nat (n := p + 3 + j) (by omega), m1, em, en1]
      refine jT_neg (by rw [jo_le (by omega) (by omega)]; omega) (jT_g (gT (w_k6 h2)) (jT_neg (by rw [jo_le (by omega) (by omega)]; omega) (jT_g (w_N_k h2) (jT_g (w_N_k h2) (jT_g (gA (w_k6 h2) (jo_in (by omega) (by omega))) (jT_g (w_N_k1 h2) (jT_b (z9_putCopy h2.1.1 zS171 zS317 h2.1.2.1 z2 (by omega) i2 fun H3 s3 z3 f3 => jT_l ?_))))))))
      refine ih (j + 1) fu H3 (by omega) (by omega) ?_ (zStk_fr z2 f3 fun a j q => by omega)
      have h3 := w_N_A h2 s3 z3 (jfr_mono f3 fun _ _ q => w_Sk_w q)
      have el : l[j]? = some (l.getD j 0) := by
        rw [List.getD_eq_getElem?_getD, List.getElem?_eq_getElem (by omega)]
        rfl
      have eit : st.getD (st.length - n + (l.getD j 0 - 1)) [] = it := by
        rw [List.getD_eq_getElem?_getD, i1]
        rfl
      rw [w_take_s el, List.map_append, ← List.append_assoc]
      show w_N (_ ++ [st.getD (st.length - n + (l.getD j 0 - 1)) []]) sd 0 H0 H3
      rw [eit]
      exact h3
  -- taking
  have tak : ∀ (i fu : Nat) (H : jH), i ≤ n → i < fu → w_N st sd 0 H0 H → zStk 317 ((st.drop (st.length - n)).take (n - i)) H → jT (F_4_move_94 fu 170 (Int32.ofNat p) (Int32.ofNat n) (Int32.ofNat l.length) (Int32.ofNat i) H) Q := by
    intro i
    induction i with
    | zero =>
      intro fu H hi hfu h2 z2
      obtain ⟨fu, rfl⟩ : ∃ k, fu = k + 1 := ⟨fu - 1, by omega⟩
      unfold F_4_move_94 B_4_move_94
      rw [Nat.sub_zero] at z2
      have z2' : zStk 317 (st.drop (st.length - n)) H := by
        have : (st.drop (st.length - n)).take n = st.drop (st.length - n) := by
          conv => lhs; arg 1; rw [← ll]
          exact List.take_length
        rw [this] at z2
        exact z2
      simp only [(w_N_h h2).2.2.1]
      refine jT_pos (by decide) (jT_g (w_N_k h2) (jT_g (w_N_k1 h2) (jT_b (z9_drop (n := n) h2.1.1 zS171 h2.1.2.1 hl fun H3 s3 z3 f3 => jT_l ?_))))
      have h3 : w_N (w_dr st n) sd 0 H0 H3 := w_N_A h2 s3 z3 (jfr_mono f3 fun a j q => Or.inl q)
      have := put l.length 0 jfuel H3 (by omega) (by unfold jfuel; omega) (by show w_N (w_dr st n ++ []) sd 0 H0 H3; rw [List.append_nil]; exact h3) (zStk_fr z2' f3 fun a j q => by omega)
      rw [e3]
      exact this
    | succ i ih =>
      intro fu H hi hfu h2 z2
      obtain ⟨fu, rfl⟩ : ∃ k, fu = k + 1 := ⟨fu - 1, by omega⟩
      obtain ⟨it, i1, i2⟩ := low (n - (i + 1)) (by omega)
      have ep : Int32.ofNat (i + 1) + (-1) = Int32.ofNat i := by
        rw [← jo_add, Int32.add_assoc, show Int32.ofNat 1 + (-1) = 0 from by decide, Int32.add_zero]
      have eh : Int32.ofNat st.length - Int32.ofNat (i + 1) = Int32.ofNat (st.length - n + (n - (i + 1))) := by
        rw [jo_sub (by omega), show st.length - (i + 1) = st.length - n + (n - (i + 1)) by omega]
      unfold F_4_move_94 B_4_move_94
      simp only [(w_N_h h2).1, (w_N_h h2).2.2.1, (w_N_h h2).2.2.2.2, eh, ep]
      refine jT_neg (by rw [show (0 : Int32) = Int32.ofNat 0 from rfl, jo_le (by omega) (by omega)]; omega) (jT_g (w_N_k h2) (jT_g (w_N_k h2) (jT_g (w_N_k h2) (jT_g (w_N_k1 h2) (jT_g (w_N_k3 h2) (jT_b (z9_putCopy h2.1.1 zS317 zS171 z2 h2.1.2.1 (by rw [List.length_take]; omega) i1 fun H3 s3 z3 f3 => jT_l ?_)))))))
      refine ih fu H3 (by omega) (by omega) (w_N_C h2 s3 z3 (jfr_mono f3 fun _ _ q => w_Sk_w q)) ?_
      rw [show n - i = n - (i + 1) + 1 by omega, w_take_s i2]
      exact z3
  refine tak n jfuel H1 (Nat.le_refl n) (by unfold jfuel; omega) h1 ?_
  rw [Nat.sub_self, List.take_zero]
  exact z1
theorem z4_move (hc : c < 256) (h : w_N st sd 0 H0 H) (hb : st.length + sd.length ≤ 60) (hk1 : ∀ st' sd' H', w_mov c st sd = some (st', sd') → w_N st' sd' 0 H0 H' → Q () H') (hk0 : ∀ a b H', w_mov c st sd = none → w_N a b 2 H0 H' → Q () H') : jT (F_4_move 170 (Int32.ofNat c) H) Q := by
  have ek : (Int32.ofNat (jK H 6).2) = Int32.ofNat 79 := by rw [w_k6 h]
  have loop : ∀ (L : List w_E) (p fu : Nat), w_ents p L = true → L.length < fu → w_look c w_tab = w_look c L → jT (F_4_move_2 fu 170 (Int32.ofNat c) (Int32.ofNat p) H) Q := by
    intro L
    induction L with
    | nil =>
      intro p fu hp hfu hlk
      obtain ⟨fu, rfl⟩ : ∃ k, fu = k + 1 := ⟨fu - 1, by omega⟩
      obtain rfl : p = 79 := of_decide_eq_true hp
      unfold F_4_move_2 B_4_move_2 B_4_move_36
      rw [ek]
      refine jT_g (gT (w_k6 h)) (jT_pos (by decide) (jT_g (gT (w_k6 h)) (jT_pos (by decide) (w_b60 h fun H' h' => hk0 _ _ H' ?_ h'))))
      unfold w_mov
      rw [hlk]
      rfl
    | cons e L ih =>
      intro p fu hp hfu hlk
      obtain ⟨fu, rfl⟩ : ∃ k, fu = k + 1 := ⟨fu - 1, by omega⟩
      unfold w_ents at hp
      rw [Bool.and_eq_true] at hp
      obtain ⟨t1, t2, t3, t4, t5, t6, t7, t8⟩ := w_ent_t hp.1
      have e2 : Int32.ofNat p + 2 = Int32.ofNat (p + 2) := jo_add (a := p) (b := 2)
      have hm := (w_m6_v p (by omega)).2
      unfold F_4_move_2 B_4_move_2
      simp only [e2, ek, w_i6 h (i := p) (by omega), w_i6 h (i := p + 2) (by omega), jo_nat (n := p) (by omega), jo_nat (n := p + 2) (by omega), t1, t3]
      rw [t1] at hm
      refine jT_g (gT (w_k6 h)) (jT_neg (by rw [jo_le (by omega) (by omega)]; omega) (jT_g (gA (w_k6 h) (jo_in (by omega) (by omega))) ?_))
      by_cases c0 : e.1 = c
      · have elk : w_look c (e :: L) = some e.2 := by
          unfold w_look
          rw [if_pos c0]
        refine jT_pos ((jo_eq (by omega) (by omega)).mpr c0) (z4_m36 hp.1 h hb (fun H' q h' => hk1 _ _ H' ?_ h') fun H' q h' => hk0 _ _ H' ?_ h')
        · unfold w_mov
          rw [hlk, elk]
          exact if_pos q
        · unfold w_mov
          rw [hlk, elk]
          exact if_neg q
      · have elk : w_look c (e :: L) = w_look c L := by
          show (if e.1 = c then _ else _) = _
          rw [if_neg c0]
        have e3 : Int32.ofNat p + (3 + Int32.ofNat e.2.2.length) = Int32.ofNat (p + 3 + e.2.2.length) := by
          rw [show (3 : Int32) = Int32.ofNat 3 from rfl, jo_add, jo_add, Nat.add_assoc]
        rw [e3]
        exact jT_neg (fun q => c0 ((jo_eq (by omega) (by omega)).mp q)) (jT_g (gA (w_k6 h) (jo_in (by omega) (by omega))) (jT_l (ih _ fu hp.2 (by rw [List.length_cons] at hfu; omega) (hlk.trans elk))))
  unfold F_4_move
  exact loop w_tab 0 jfuel w_ents_tab (by unfold jfuel; decide) rfl
end MOVE4
