/-! The class's machine: what holds of its stacks, and its small steps. -/
abbrev w_R : Type := List (List UInt8)
/-- the k-th from above, from 1 on -/
def w_tp (st : w_R) (k : Nat) : List UInt8 := st.getD (st.length - k) []
def w_dr (st : w_R) (n : Nat) : w_R := st.take (st.length - n)
def w_F4 : Nat → Nat → Prop := fun a j => (171 ≤ a ∧ a ≤ 390) ∨ (a = 170 ∧ j = 9) ∨ (43 ≤ a ∧ a ≤ 48)
def w_M (st sd : w_R) (H : jH) : Prop := jsh H ∧ zStk 171 st H ∧ zStk 244 sd H ∧ ∃ sp, zStk 317 sp H
/-- the machine's state in the middle of an operation -/
def w_N (st sd : w_R) (v : Int32) (H0 H : jH) : Prop := w_M st sd H ∧ jfr w_F4 H0 H ∧ jI H 170 9 = v
theorem w_tp_at {st : w_R} {k : Nat} (h1 : 1 ≤ k) (h2 : k ≤ st.length) : st[st.length - k]? = some (w_tp st k) := by
  unfold w_tp
  rw [List.getD_eq_getElem?_getD, List.getElem?_eq_getElem (by omega)]
  rfl
theorem w_dr_len {st : w_R} {n : Nat} : (w_dr st n).length = st.length - n := by
  unfold w_dr
  rw [List.length_take]
  omega
theorem zS171 : zS3 171 := Or.inl rfl
theorem zS244 : zS3 244 := Or.inr (Or.inl rfl)
theorem zS317 : zS3 317 := Or.inr (Or.inr rfl)
section NN
variable {st sd sp : w_R} {v u : Int32} {H0 H : jH} {α : Type} {Q : α → jH → Prop}
theorem w_N_s (h : w_N st sd v H0 H) : jsh H := h.1.1
theorem w_N_k (h : w_N st sd v H0 H) : (jK H 170).1 = 4 := by rw [sK_170 h.1.1]
theorem w_N_k1 (h : w_N st sd v H0 H) : (jK H 171).1 = 9 := by rw [sK_171 h.1.1]
theorem w_N_k2 (h : w_N st sd v H0 H) : (jK H 244).1 = 9 := by rw [sK_244 h.1.1]
theorem w_N_k3 (h : w_N st sd v H0 H) : (jK H 317).1 = 9 := by rw [sK_317 h.1.1]
theorem w_N_fr {T : Nat → Nat → Prop} {H' : jH} (h : w_N st sd v H0 H) (hs : jsh H') (hf : jfr T H H') (hT : ∀ a j, T a j → w_F4 a j) (hA : ∀ a j, T a j → a ≠ 170 ∧ ¬ (171 ≤ a ∧ a ≤ 389)) : w_N st sd v H0 H' := by
  obtain ⟨⟨a1, a2, a3, sp, a4⟩, b, c⟩ := h
  have hh : ∀ S, zS3 S → ∀ a j, T a j → ¬ (a = S ∧ j = 2) ∧ ¬ (S + 1 ≤ a ∧ a ≤ S + 72) := fun S hS a j q => by
    have := hA a j q
    unfold zS3 at hS
    omega
  exact ⟨⟨hs, zStk_fr a2 hf (hh _ zS171), zStk_fr a3 hf (hh _ zS244), sp, zStk_fr a4 hf (hh _ zS317)⟩, jfr_trans b (jfr_mono hf hT), (jfr_I hf fun q => (hA _ _ q).1 rfl).trans c⟩
theorem w_st (h : w_N st sd v H0 H) : w_N st sd u H0 (jsI H 170 9 u) := by
  obtain ⟨⟨a1, a2, a3, sp, a4⟩, b, c⟩ := h
  have f : jfr (fun a j => a = 170 ∧ j = 9) H (jsI H 170 9 u) := jfr_sI jfr_refl ⟨rfl, rfl⟩
  have hh : ∀ S, zS3 S → ∀ a j, (a = 170 ∧ j = 9) → ¬ (a = S ∧ j = 2) ∧ ¬ (S + 1 ≤ a ∧ a ≤ S + 72) := fun S hS a j q => by
    unfold zS3 at hS
    omega
  exact ⟨⟨jsh_sI a1 (by decide), zStk_fr a2 f (hh _ zS171), zStk_fr a3 f (hh _ zS244), sp, zStk_fr a4 f (hh _ zS317)⟩, jfr_sI b (Or.inr (Or.inl ⟨rfl, rfl⟩)), jI_sIe⟩
/-- only one of the stacks is written -/
theorem w_N_A {st' : w_R} {H' : jH} (h : w_N st sd v H0 H) (hs : jsh H') (hz : zStk 171 st' H') (hf : jfr (w_Sw 171) H H') : w_N st' sd v H0 H' := by
  obtain ⟨⟨a1, a2, a3, sp, a4⟩, b, c⟩ := h
  refine ⟨⟨hs, hz, zStk_fr a3 hf fun a j q => ?_, sp, zStk_fr a4 hf fun a j q => ?_⟩, jfr_trans b (jfr_mono hf fun a j q => ?_), (jfr_I hf fun q => ?_).trans c⟩ <;> (unfold w_Sw at q; first | omega | (unfold w_F4; omega))
theorem w_N_B {sd' : w_R} {H' : jH} (h : w_N st sd v H0 H) (hs : jsh H') (hz : zStk 244 sd' H') (hf : jfr (w_Sw 244) H H') : w_N st sd' v H0 H' := by
  obtain ⟨⟨a1, a2, a3, sp, a4⟩, b, c⟩ := h
  refine ⟨⟨hs, zStk_fr a2 hf fun a j q => ?_, hz, sp, zStk_fr a4 hf fun a j q => ?_⟩, jfr_trans b (jfr_mono hf fun a j q => ?_), (jfr_I hf fun q => ?_).trans c⟩ <;> (unfold w_Sw at q; first | omega | (unfold w_F4; omega))
theorem w_N_C {sp' : w_R} {H' : jH} (h : w_N st sd v H0 H) (hs : jsh H') (hz : zStk 317 sp' H') (hf : jfr (w_Sw 317) H H') : w_N st sd v H0 H' := by
  obtain ⟨⟨a1, a2, a3, sp, a4⟩, b, c⟩ := h
  refine ⟨⟨hs, zStk_fr a2 hf fun a j q => ?_, zStk_fr a3 hf fun a j q => ?_, sp', hz⟩, jfr_trans b (jfr_mono hf fun a j q => ?_), (jfr_I hf fun q => ?_).trans c⟩ <;> (unfold w_Sw at q; first | omega | (unfold w_F4; omega))
theorem w_has {k : Int32 → jH → Option (α × jH)} {n : Nat} {n' : Int32} (h : w_N st sd v H0 H) (en : n' = Int32.ofNat n) (hn : n < 1000) (h1 : n ≤ st.length → jT (k 1 H) Q) (h0 : st.length < n → ∀ H', w_N st sd 2 H0 H' → jT (k 0 H') Q) : jT (jb (F_4_has 170 n' H) k) Q := by
  subst en
  have hl := h.1.2.1.1
  unfold F_4_has
  rw [sR_170_1 (w_N_s h), h.1.2.1.2.1]
  refine jT_b (jT_g (w_N_k h) (jT_g (w_N_k1 h) ?_))
  by_cases c : n ≤ st.length
  · exact jT_pos (by rw [jo_le (by omega) (by omega)]; exact c) (jT_g (by decide) (jT_ret (h1 c)))
  · exact jT_neg (by rw [jo_le (by omega) (by omega)]; exact c) (jT_g (w_N_k h) (jT_l (jT_g (by decide) (jT_ret (h0 (by omega) _ (w_st h))))))
theorem w_drA {k : Unit → jH → Option (α × jH)} {n : Nat} {n' : Int32} (h : w_N st sd v H0 H) (en : n' = Int32.ofNat n) (hn : n ≤ st.length) (hk : ∀ H', w_N (w_dr st n) sd v H0 H' → jT (k () H') Q) : jT (jb (F_9_drop 171 n' H) k) Q := by
  subst en
  exact jT_b (z9_drop h.1.1 zS171 h.1.2.1 hn fun H' s' z' f' => hk H' (w_N_A h s' z' (jfr_mono f' fun a j q => Or.inl q)))
theorem w_drB {k : Unit → jH → Option (α × jH)} {n : Nat} {n' : Int32} (h : w_N st sd v H0 H) (en : n' = Int32.ofNat n) (hn : n ≤ sd.length) (hk : ∀ H', w_N st (w_dr sd n) v H0 H' → jT (k () H') Q) : jT (jb (F_9_drop 244 n' H) k) Q := by
  subst en
  exact jT_b (z9_drop h.1.1 zS244 h.1.2.2.1 hn fun H' s' z' f' => hk H' (w_N_B h s' z' (jfr_mono f' fun a j q => Or.inl q)))
theorem w_pnA {k : Unit → jH → Option (α × jH)} {x : Int64} (h : w_N st sd v H0 H) (hx : x.toInt.natAbs < 1099511627776) (hl : st.length < 70) (hk : ∀ H', w_N (st ++ [w_en x]) sd v H0 H' → jT (k () H') Q) : jT (jb (F_9_putNumber 171 x H) k) Q :=
  jT_b (z9_putNumber hx h.1.1 zS171 h.1.2.1 hl fun H' s' z' f' => hk H' (w_N_A h s' z' (jfr_mono f' fun _ _ q => w_Sk_w q)))
theorem w_cpA {k : Unit → jH → Option (α × jH)} {i : Nat} {i' : Int32} {it : List UInt8} (h : w_N st sd v H0 H) (ei : i' = Int32.ofNat i) (hl : st.length < 70) (hi : st[i]? = some it) (hk : ∀ H', w_N (st ++ [it]) sd v H0 H' → jT (k () H') Q) : jT (jb (F_9_putCopy 171 171 i' H) k) Q := by
  subst ei
  exact jT_b (z9_putCopy h.1.1 zS171 zS171 h.1.2.1 h.1.2.1 hl hi fun H' s' z' f' => hk H' (w_N_A h s' z' (jfr_mono f' fun _ _ q => w_Sk_w q)))
theorem w_cpBA {k : Unit → jH → Option (α × jH)} {i : Nat} {i' : Int32} {it : List UInt8} (h : w_N st sd v H0 H) (ei : i' = Int32.ofNat i) (hl : st.length < 70) (hi : sd[i]? = some it) (hk : ∀ H', w_N (st ++ [it]) sd v H0 H' → jT (k () H') Q) : jT (jb (F_9_putCopy 171 244 i' H) k) Q := by
  subst ei
  exact jT_b (z9_putCopy h.1.1 zS171 zS244 h.1.2.1 h.1.2.2.1 hl hi fun H' s' z' f' => hk H' (w_N_A h s' z' (jfr_mono f' fun _ _ q => w_Sk_w q)))
theorem w_cpAB {k : Unit → jH → Option (α × jH)} {i : Nat} {i' : Int32} {it : List UInt8} (h : w_N st sd v H0 H) (ei : i' = Int32.ofNat i) (hl : sd.length < 70) (hi : st[i]? = some it) (hk : ∀ H', w_N st (sd ++ [it]) v H0 H' → jT (k () H') Q) : jT (jb (F_9_putCopy 244 171 i' H) k) Q := by
  subst ei
  exact jT_b (z9_putCopy h.1.1 zS244 zS171 h.1.2.2.1 h.1.2.1 hl hi fun H' s' z' f' => hk H' (w_N_B h s' z' (jfr_mono f' fun _ _ q => w_Sk_w q)))
theorem w_liA {k : Unit → jH → Option (α × jH)} {i : Nat} {i' : Int32} (h : w_N st sd v H0 H) (ei : i' = Int32.ofNat i) (hi : i < st.length) (hk : ∀ H', w_N (w_lift st i []) sd v H0 H' → jT (k () H') Q) : jT (jb (F_9_lift 171 i' H) k) Q :=
  jT_b (z9_lift ei h.1.1 zS171 h.1.2.1 hi fun H' s' z' f' => hk H' (w_N_A h s' z' f'))
theorem w_isT {k : Int32 → jH → Option (α × jH)} (h : w_N st sd v H0 H) (h1 : 1 ≤ st.length) (hk : jT (k (if ztrue (w_tp st 1) = true then 1 else 0) H) Q) : jT (jb (F_9_isTrue 171 1 H) k) Q := by
  have := z9_isTrue h.1.1 zS171 h.1.2.1 (n := 1) (Nat.le_refl 1) (by decide)
  rw [show Int32.ofNat 1 = 1 from rfl] at this
  rw [this, jb_ok]
  have e : (if 1 ≤ st.length ∧ ztrue (st.getD (st.length - 1) []) = true then (1 : Int32) else 0) = if ztrue (w_tp st 1) = true then 1 else 0 := by
    unfold w_tp
    by_cases c : ztrue (st.getD (st.length - 1) []) = true
    · rw [if_pos c, if_pos ⟨h1, c⟩]
    · rw [if_neg c, if_neg fun q => c q.2]
  rw [e]
  exact hk
theorem w_isN {k : Int32 → jH → Option (α × jH)} {n : Nat} {n' : Int32} (h : w_N st sd v H0 H) (en : n' = Int32.ofNat n) (hn : 1 ≤ n) (hn2 : n < 1000) (hk1 : n ≤ st.length → (w_tp st n).length ≤ 4 → jT (k 1 H) Q) (hk0 : ¬ (n ≤ st.length ∧ (w_tp st n).length ≤ 4) → jT (k 0 H) Q) : jT (jb (F_9_isNumber 171 n' H) k) Q := by
  subst en
  rw [z9_isNumber h.1.1 zS171 h.1.2.1 hn hn2, jb_ok]
  by_cases c : n ≤ st.length ∧ (w_tp st n).length ≤ 4
  · have c' := c
    unfold w_tp at c'
    rw [if_pos c']
    exact hk1 c.1 c.2
  · have c' := c
    unfold w_tp at c'
    rw [if_neg c']
    exact hk0 c
theorem w_numA {k : Int64 → jH → Option (α × jH)} {n : Nat} {n' : Int32} (h : w_N st sd v H0 H) (en : n' = Int32.ofNat n) (hn : 1 ≤ n) (hn2 : n ≤ st.length) (h4 : (w_tp st n).length ≤ 4) (hk : jT (k (zno (w_tp st n)) H) Q) : jT (jb (F_9_number 171 n' H) k) Q := by
  subst en
  rw [z9_number h.1.1 zS171 h.1.2.1 hn hn2 h4, jb_ok]
  exact hk
theorem w_N_h (h : w_N st sd v H0 H) : jI H 171 2 = Int32.ofNat st.length ∧ jI H 244 2 = Int32.ofNat sd.length ∧ jR H 170 1 = 171 ∧ jR H 170 2 = 244 ∧ jR H 170 3 = 317 := ⟨h.1.2.1.2.1, h.1.2.2.1.2.1, sR_170_1 h.1.1, sR_170_2 h.1.1, sR_170_3 h.1.1⟩
end NN
def w_pass (c : Nat) (st sd : w_R) : Option (w_R × w_R) :=
  if c = 105 ∧ 1 ≤ st.length then (if ztrue (w_tp st 1) = true then some (w_dr st 1, sd) else none)
  else if c = 107 ∧ 1 ≤ st.length then some (w_dr st 1, sd ++ [w_tp st 1])
  else if c = 108 ∧ 1 ≤ sd.length then some (st ++ [w_tp sd 1], w_dr sd 1)
  else none
section PASS
variable {st sd : w_R} {v : Int32} {H0 H : jH} {Q : Unit → jH → Prop} {c : Nat}
theorem z4_pass137 (h : w_N st sd v H0 H) (hk : ∀ H', w_N st sd 2 H0 H' → Q () H') : jT (B_4_pass_137 170 H) Q := by
  unfold B_4_pass_137 B_4_pass_142
  exact jT_g (w_N_k h) (jT_l (jT_ret (hk _ (w_st h))))
theorem z4_pass (hc : c < 256) (h : w_N st sd 0 H0 H) (hb : st.length + sd.length ≤ 60) (hk1 : ∀ st' sd' H', w_pass c st sd = some (st', sd') → w_N st' sd' 0 H0 H' → Q () H') (hk0 : ∀ a b H', w_pass c st sd = none → w_N a b 2 H0 H' → Q () H') : jT (F_4_pass 170 (Int32.ofNat c) H) Q := by
  have ec : ∀ k, k < 256 → (Int32.ofNat c = Int32.ofNat k ↔ c = k) := fun k hk => jo_eq (by omega) (by omega)
  have e105 : (Int32.ofNat c = 105 ↔ c = 105) := ec 105 (by decide)
  have e107 : (Int32.ofNat c = 107 ↔ c = 107) := ec 107 (by decide)
  have e108 : (Int32.ofNat c = 108 ↔ c = 108) := ec 108 (by decide)
  unfold F_4_pass
  by_cases c5 : c = 105
  · refine jT_neg (fun q => q (e105.mpr c5)) (jT_g (w_N_k h) (w_has (n := 1) h rfl (by decide) (fun h1 => ?_) fun h1 H' h' => ?_))
    · refine jT_neg (by decide) ?_
      rw [(w_N_h h).2.2.1]
      refine jT_g (w_N_k h) (jT_g (w_N_k1 h) (w_isT h h1 ?_))
      have go : ∀ u : Int32, (∀ H', w_N (w_dr st 1) sd u H0 H' → Q () H') → jT (B_4_pass_31 170 170 u H) Q := fun u hu => by
        have h' := w_st (u := u) h
        unfold B_4_pass_31 B_4_pass_142
        refine jT_g (w_N_k h) (jT_l ?_)
        rw [(w_N_h h').2.2.1]
        exact jT_g (w_N_k h') (jT_g (w_N_k1 h') (w_drA (n := 1) h' rfl h1 fun H2 h2 => jT_ret (hu H2 h2)))
      by_cases t : ztrue (w_tp st 1) = true
      · rw [if_pos t]
        exact jT_neg (by decide) (go 0 fun H' h' => hk1 _ _ H' (by unfold w_pass; rw [if_pos ⟨c5, h1⟩, if_pos t]) h')
      · rw [if_neg t]
        exact jT_pos rfl (go 2 fun H' h' => hk0 _ _ H' (by unfold w_pass; rw [if_pos ⟨c5, h1⟩, if_neg t]) h')
    · refine jT_pos rfl ?_
      unfold B_4_pass_45 B_4_pass_90
      exact jT_pos (fun q => by have := e107.mp q; omega) (jT_pos (fun q => by have := e108.mp q; omega) (z4_pass137 h' fun H2 h2 => hk0 _ _ H2 (by unfold w_pass; rw [if_neg (by omega), if_neg (by omega), if_neg (by omega)]) h2))
  · refine jT_pos (fun q => c5 (e105.mp q)) ?_
    unfold B_4_pass_45
    by_cases c7 : c = 107
    · refine jT_neg (fun q => q (e107.mpr c7)) (jT_g (w_N_k h) (w_has (n := 1) h rfl (by decide) (fun h1 => ?_) fun h1 H' h' => ?_))
      · refine jT_neg (by decide) ?_
        have em : Int32.ofNat st.length - 1 = Int32.ofNat (st.length - 1) := jo_sub (a := st.length) (b := 1) h1
        simp only [(w_N_h h).1, (w_N_h h).2.2.1, (w_N_h h).2.2.2.1, em]
        refine jT_g (w_N_k h) (jT_g (w_N_k h) (jT_g (w_N_k h) (jT_g (w_N_k1 h) (jT_g (w_N_k2 h) (w_cpAB h rfl (by omega) (w_tp_at (Nat.le_refl 1) h1) fun H1 h1' => ?_)))))
        rw [(w_N_h h1').2.2.1]
        refine jT_g (w_N_k h1') (jT_g (w_N_k1 h1') (w_drA (n := 1) h1' rfl h1 fun H2 h2 => ?_))
        unfold B_4_pass_142
        exact jT_ret (hk1 _ _ H2 (by unfold w_pass; rw [if_neg (by omega), if_pos ⟨c7, h1⟩]) h2)
      · refine jT_pos rfl ?_
        unfold B_4_pass_90
        exact jT_pos (fun q => by have := e108.mp q; omega) (z4_pass137 h' fun H2 h2 => hk0 _ _ H2 (by unfold w_pass; rw [if_neg (by omega), if_neg (by omega), if_neg (by omega)]) h2)
    · refine jT_pos (fun q => c7 (e107.mp q)) ?_
      unfold B_4_pass_90
      by_cases c8 : c = 108
      · refine jT_neg (fun q => q (e108.mpr c8)) ?_
        simp only [(w_N_h h).1, (w_N_h h).2.1, (w_N_h h).2.2.1, (w_N_h h).2.2.2.1]
        refine jT_g (w_N_k h) (jT_g (w_N_k2 h) ?_)
        by_cases h1 : 1 ≤ sd.length
        · have em : Int32.ofNat sd.length - 1 = Int32.ofNat (sd.length - 1) := jo_sub (a := sd.length) (b := 1) h1
          rw [em]
          refine jT_neg (by rw [show (0 : Int32) = Int32.ofNat 0 from rfl, jo_le (by omega) (by omega)]; omega) (jT_g (w_N_k h) (jT_g (w_N_k h) (jT_g (w_N_k h) (jT_g (w_N_k2 h) (jT_g (w_N_k1 h) (w_cpBA h rfl (by omega) (w_tp_at (Nat.le_refl 1) h1) fun H1 h1' => ?_))))))
          rw [(w_N_h h1').2.2.2.1]
          refine jT_g (w_N_k h1') (jT_g (w_N_k2 h1') (w_drB (n := 1) h1' rfl h1 fun H2 h2 => ?_))
          unfold B_4_pass_142
          exact jT_ret (hk1 _ _ H2 (by unfold w_pass; rw [if_neg (by omega), if_neg (by omega), if_pos ⟨c8, h1⟩]) h2)
        · exact jT_pos (by rw [show (0 : Int32) = Int32.ofNat 0 from rfl, jo_le (by omega) (by omega)]; omega) (z4_pass137 h fun H2 h2 => hk0 _ _ H2 (by unfold w_pass; rw [if_neg (by omega), if_neg (by omega), if_neg (by omega)]) h2)
      · exact jT_pos (fun q => c8 (e108.mp q)) (z4_pass137 h fun H2 h2 => hk0 _ _ H2 (by unfold w_pass; rw [if_neg (by omega), if_neg (by omega), if_neg (by omega)]) h2)
end PASS
