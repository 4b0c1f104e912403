/-! The class's machine: part. -/
/-- after a fault -/
def w_X (H0 H : jH) : Prop := (∃ a b, w_M a b H) ∧ jfr w_F5 H0 H ∧ jI H 170 9 = 2
theorem w_cl_snoc {pb : List Bool} {g : Bool} : w_cl (pb ++ [g]) = w_cl pb + (if g = true then 0 else 1) := by
  unfold w_cl
  rw [List.count_append]
  cases g <;> rfl
theorem w_split {α : Type} {l : List α} {d : α} (h : l.length ≠ 0) : l = l.take (l.length - 1) ++ [l.getD (l.length - 1) d] := by
  refine List.ext_getElem? fun i => ?_
  by_cases c : i < l.length - 1
  · rw [List.getElem?_append_left (by rw [List.length_take]; omega), List.getElem?_take, if_pos c]
  · rw [List.getElem?_append_right (by rw [List.length_take]; omega), List.length_take]
    by_cases c2 : i = l.length - 1
    · rw [c2, show l.length - 1 - min (l.length - 1) l.length = 0 by omega, List.getD_eq_getElem?_getD, List.getElem?_eq_getElem (by omega)]
      rfl
    · rw [List.getElem?_eq_none (by omega), List.getElem?_eq_none (by show 1 ≤ _; omega)]
theorem w_getD_snoc {pb : List Bool} {g : Bool} {k : Nat} (hk : k < pb.length + 1) : (pb ++ [g]).getD k false = if k = pb.length then g else pb.getD k false := by
  by_cases c : k = pb.length
  · rw [if_pos c, c, List.getD_eq_getElem?_getD, List.getElem?_append_right (Nat.le_refl _), Nat.sub_self]
    rfl
  · rw [if_neg c, List.getD_eq_getElem?_getD, List.getElem?_append_left (by omega), ← List.getD_eq_getElem?_getD]
theorem w_getD_take {pb : List Bool} {n k : Nat} (hk : k < n) : (pb.take n).getD k false = pb.getD k false := by
  rw [List.getD_eq_getElem?_getD, List.getElem?_take, if_pos hk, ← List.getD_eq_getElem?_getD]
section PART
variable {r p len at_ : Nat} {scr : List UInt8} {S : w_S4} {v : Int32} {H0 H : jH}
theorem w_M_g {st sd : w_R} {a j : Nat} {u : Int32} (h : w_M st sd H) (ha : a = 170 ∨ a = 391) : w_M st sd (jsI H a j u) := by
  obtain ⟨a1, a2, a3, sp, a4⟩ := h
  have f : jfr (fun b _ => b = a) H (jsI H a j u) := jfr_sI jfr_refl rfl
  have hh : ∀ S, zS3 S → ∀ b j, b = a → ¬ (b = S ∧ j = 2) ∧ ¬ (S + 1 ≤ b ∧ b ≤ S + 72) := fun S hS b j q => by
    unfold zS3 at hS
    omega
  exact ⟨jsh_sI a1 (by omega), zStk_fr a2 f (hh _ zS171), zStk_fr a3 f (hh _ zS244), sp, zStk_fr a4 f (hh _ zS317)⟩
/-- the parts change -/
theorem w_G_pb {pb : List Bool} {H' : jH} (h : w_G r p len scr at_ S v H0 H) (hm : w_M S.1 S.2.1 H') (hf : jfr (fun a j => (a = 170 ∧ (j = 12 ∨ j = 13)) ∨ a = 391) H H') (h12 : jI H' 170 12 = Int32.ofNat pb.length) (h13 : jI H' 170 13 = Int32.ofNat (w_cl pb)) (hg : ∀ k, k < pb.length → jI H' 391 k = if pb.getD k false = true then 1 else 0) (hl : pb.length ≤ S.2.2.1) : w_G r p len scr at_ (S.1, S.2.1, S.2.2.1, pb) v H0 H' := by
  obtain ⟨a, f, c, ⟨d1, d2, d3, d4, d5, d6⟩, ⟨e1, e2, e3, e4, e5⟩, g, i1, i2, i3⟩ := h
  refine ⟨hm, jfr_trans f (jfr_mono hf fun a j q => Or.inl (by omega)), (jfr_I hf (by omega)).trans c, ⟨(jfr_R hf (by omega)).trans d1, by rw [jfr_K hf]; exact d2, zRow_eq d3 fun i _ => jfr_B hf (by omega), d4, d5, d6⟩, ⟨(jfr_I hf (by omega)).trans e1, (jfr_I hf (by omega)).trans e2, (jfr_I hf (by omega)).trans e3, h12, h13⟩, hg, hl, i2, i3⟩
theorem z4_part66 {g : Bool} {a2 : Int32} {Q : Unit → jH → Prop} (eg : a2 = if g = true then 1 else 0) (h : w_G r p len scr at_ S v H0 H) (hpb : S.2.2.2.length + 1 ≤ S.2.2.1) (hk : ∀ H', w_G r p len scr at_ (S.1, S.2.1, S.2.2.1, S.2.2.2 ++ [g]) v H0 H' → Q () H') : jT (B_4_part_66 170 a2 H) Q := by
  have hs := h.1.1
  have i2 := h.2.2.2.2.2.2.2.1
  obtain ⟨e1, e2, e3, e4, e5⟩ := h.2.2.2.2.1
  have hg := h.2.2.2.2.2.1
  have k391 : jK H 391 = (102, 200) := sK_391 hs
  have ek : (Int32.ofNat (jK H 391).2) = Int32.ofNat 200 := by rw [k391]
  have cle : w_cl S.2.2.2 ≤ S.2.2.2.length := List.count_le_length
  have ea : a2 &&& 1 = a2 := by rw [eg]; cases g <;> decide
  have en : Int32.ofNat S.2.2.2.length + 1 = Int32.ofNat (S.2.2.2.length + 1) := jo_add (a := S.2.2.2.length) (b := 1)
  unfold B_4_part_66
  simp only [sR_170_11 hs, ek, e4, jo_nat (n := S.2.2.2.length) (by omega), ea]
  refine jT_g (w_G_k h) (jT_g (w_G_k h) (jT_g (gT k391) (jT_neg (by rw [jo_le (by omega) (by omega)]; omega) (jT_g (w_G_k h) (jT_g (w_G_k h) (jT_g (gA k391 (jo_in (by omega) (by omega))) (jT_l ?_)))))))
  have m1 : w_M S.1 S.2.1 (jsI H 391 S.2.2.2.length a2) := w_M_g h.1 (Or.inr rfl)
  have f1 : jfr (fun a j => (a = 170 ∧ (j = 12 ∨ j = 13)) ∨ a = 391) H (jsI H 391 S.2.2.2.length a2) := jfr_sI jfr_refl (Or.inr rfl)
  have j12 : jI (jsI H 391 S.2.2.2.length a2) 170 12 = Int32.ofNat S.2.2.2.length := (jI_sIa (by decide)).trans e4
  have j13 : jI (jsI H 391 S.2.2.2.length a2) 170 13 = Int32.ofNat (w_cl S.2.2.2) := (jI_sIa (by decide)).trans e5
  have jg1 : ∀ k, k < S.2.2.2.length + 1 → jI (jsI H 391 S.2.2.2.length a2) 391 k = if (S.2.2.2 ++ [g]).getD k false = true then 1 else 0 := fun k hk => by
    rw [w_getD_snoc hk]
    by_cases c : k = S.2.2.2.length
    · rw [if_pos c, c, jI_sIe, eg]
    · rw [if_neg c, jI_sIn c]
      exact hg k (by omega)
  generalize jsI H 391 S.2.2.2.length a2 = H1 at *
  have k1 : (jK H1 170).1 = 4 := by rw [sK_170 m1.1]
  rw [j12, en]
  refine jT_g k1 (jT_g k1 (jT_l ?_))
  have m2 : w_M S.1 S.2.1 (jsI H1 170 12 (Int32.ofNat (S.2.2.2.length + 1))) := w_M_g m1 (Or.inl rfl)
  have f2 : jfr (fun a j => (a = 170 ∧ (j = 12 ∨ j = 13)) ∨ a = 391) H (jsI H1 170 12 (Int32.ofNat (S.2.2.2.length + 1))) := jfr_sI f1 (Or.inl ⟨rfl, Or.inl rfl⟩)
  have q12 : jI (jsI H1 170 12 (Int32.ofNat (S.2.2.2.length + 1))) 170 12 = Int32.ofNat (S.2.2.2.length + 1) := jI_sIe
  have q13 : jI (jsI H1 170 12 (Int32.ofNat (S.2.2.2.length + 1))) 170 13 = Int32.ofNat (w_cl S.2.2.2) := (jI_sIn (by decide)).trans j13
  have qg : ∀ k, k < S.2.2.2.length + 1 → jI (jsI H1 170 12 (Int32.ofNat (S.2.2.2.length + 1))) 391 k = if (S.2.2.2 ++ [g]).getD k false = true then 1 else 0 := fun k hk => (jI_sIa (by decide)).trans (jg1 k hk)
  generalize jsI H1 170 12 (Int32.ofNat (S.2.2.2.length + 1)) = H2 at *
  have k2 : (jK H2 170).1 = 4 := by rw [sK_170 m2.1]
  have go : ∀ x : Nat, x = (if g = true then 0 else 1) → jT (B_4_part_112 170 (jI H2 170 13) (Int32.ofNat x) H2) Q := fun x hx => by
    unfold B_4_part_112 B_4_part_116 B_4_part_237
    rw [q13, jo_add]
    refine jT_g k2 (jT_l (jT_ret (hk _ (w_G_pb h (w_M_g m2 (Or.inl rfl)) (jfr_sI f2 (Or.inl ⟨rfl, Or.inr rfl⟩)) ?_ ?_ (fun k hk => ?_) ?_))))
    · exact (jI_sIn (by decide)).trans (q12.trans (by rw [List.length_append]; rfl))
    · rw [jI_sIe, w_cl_snoc, hx]
    · rw [List.length_append] at hk
      exact (jI_sIa (by decide)).trans (qg k hk)
    · rw [List.length_append]
      exact hpb
  refine jT_g k2 ?_
  cases g with
  | true => exact jT_neg (by rw [eg]; decide) (go 0 rfl)
  | false => exact jT_pos (by rw [eg]; rfl) (go 1 rfl)
theorem z4_part {c : Nat} {Q : Unit → jH → Prop} (hc : c = 99 ∨ c = 100 ∨ c = 103 ∨ c = 104) (h : w_G r p len scr at_ S 0 H0 H) (hb : S.1.length + S.2.1.length ≤ 60) (hpb : S.2.2.2.length + 1 ≤ S.2.2.1)
    (hk1 : ∀ st' pb' H', w_flow c S.1 S.2.2.2 = some (st', pb') → w_G r p len scr at_ (st', S.2.1, S.2.2.1, pb') 0 H0 H' → Q () H') (hk0 : ∀ H', w_flow c S.1 S.2.2.2 = none → w_X H0 H' → Q () H') : jT (F_4_part 170 (Int32.ofNat c) H) Q := by
  have hs := h.1.1
  have i2 := h.2.2.2.2.2.2.2.1
  obtain ⟨e1, e2, e3, e4, e5⟩ := h.2.2.2.2.1
  have hg := h.2.2.2.2.2.1
  have k391 : jK H 391 = (102, 200) := sK_391 hs
  have cle : w_cl S.2.2.2 ≤ S.2.2.2.length := List.count_le_length
  have ec : ∀ k, k < 256 → (Int32.ofNat c = Int32.ofNat k ↔ c = k) := fun k hk => jo_eq (by omega) (by omega)
  have e99 : (Int32.ofNat c = 99 ↔ c = 99) := ec 99 (by decide)
  have e100 : (Int32.ofNat c = 100 ↔ c = 100) := ec 100 (by decide)
  have e103 : (Int32.ofNat c = 103 ↔ c = 103) := ec 103 (by decide)
  have g12 : (c = 99 ∨ c = 100) → jT (B_4_part_12 170 (Int32.ofNat c) H) Q := by
    intro cc
    unfold B_4_part_12
    rw [e5]
    refine jT_g (w_G_k h) ?_
    by_cases cl : w_cl S.2.2.2 = 0
    · have al := w_all_cl.mpr cl
      refine jT_neg (by rw [cl]; decide) (jT_g (w_G_k h) (w_has (n := 1) (w_G_N h) rfl (by decide) (fun hl => ?_) fun hl H' h' => ?_))
      · refine jT_pos (by decide) ?_
        simp only [(w_N_h (w_G_N h)).2.2.1]
        refine jT_g (w_G_k h) (jT_g (w_N_k1 (w_G_N h)) (w_isT (w_G_N h) hl ?_))
        have g57 : ∀ (x : Int32) (g : Bool), x = (if g = true then 1 else 0) → g = (ztrue (w_tp S.1 1) == decide (c = 99)) → jT (B_4_part_57 170 x H) Q := fun x g hx eg => by
          unfold B_4_part_57
          simp only [(w_N_h (w_G_N h)).2.2.1]
          refine jT_g (w_G_k h) (jT_g (w_N_k1 (w_G_N h)) (w_drA (n := 1) (w_G_N h) rfl hl fun H2 h2 => ?_))
          refine z4_part66 hx (w_G_op h h2) hpb fun H3 h3 => hk1 _ _ H3 ?_ h3
          unfold w_flow
          rw [if_pos cc, if_pos al, if_pos hl, ← eg]
        have g49 : ∀ (s : Int32) (b : Bool), s = (if b = true then 1 else 0) → b = decide (c = 99) → jT (B_4_part_49 170 (if ztrue (w_tp S.1 1) = true then 1 else 0) s H) Q := fun s b hsb hb9 => by
          unfold B_4_part_49
          rw [hsb]
          by_cases t : ztrue (w_tp S.1 1) = b
          · refine jT_neg (fun q => q (by rw [t])) (g57 1 true rfl ?_)
            rw [t, hb9]
            simp
          · refine jT_pos (fun q => t ?_) (g57 0 false rfl ?_)
            · revert q
              cases ztrue (w_tp S.1 1) <;> cases b <;> simp
            · rw [← hb9]
              revert t
              cases ztrue (w_tp S.1 1) <;> cases b <;> simp
        by_cases c9 : c = 99
        · exact jT_neg (fun q => q (e99.mpr c9)) (g49 1 true rfl (by rw [decide_eq_true c9]))
        · exact jT_pos (fun q => c9 (e99.mp q)) (g49 0 false rfl (by rw [decide_eq_false c9]))
      · refine jT_neg (fun q => q rfl) (jT_ret (hk0 H' ?_ ⟨⟨_, _, h'.1⟩, jfr_trans h.2.1 (jfr_mono h'.2.1 fun _ _ => w_F4_5), h'.2.2⟩))
        unfold w_flow
        rw [if_pos cc, if_pos al, if_neg (by omega)]
    · refine jT_pos (fun q => cl ((jo_eq (a := w_cl S.2.2.2) (b := 0) (by omega) (by decide)).mp q)) (z4_part66 (g := false) rfl h hpb fun H2 h2 => hk1 _ _ H2 ?_ h2)
      unfold w_flow
      rw [if_pos cc, if_neg fun q => cl (w_all_cl.mp q)]
  unfold F_4_part
  by_cases c9 : c = 99
  · exact jT_pos (e99.mpr c9) (g12 (Or.inl c9))
  refine jT_neg (fun q => c9 (e99.mp q)) ?_
  by_cases c0 : c = 100
  · exact jT_neg (fun q => q (e100.mpr c0)) (g12 (Or.inr c0))
  refine jT_pos (fun q => c0 (e100.mp q)) (jT_g (w_G_k h) ?_)
  rw [e4]
  by_cases l0 : S.2.2.2.length = 0
  · refine jT_neg (by rw [l0]; decide) (jT_g (w_G_k h) (jT_l ?_))
    unfold B_4_part_237
    refine jT_ret (hk0 _ ?_ ⟨⟨_, _, (w_G_st h).1⟩, (w_G_st h).2.1, (w_G_st h).2.2.1⟩)
    unfold w_flow
    rw [if_neg (by omega), if_pos l0]
  refine jT_pos (fun q => l0 ((jo_eq (a := S.2.2.2.length) (b := 0) (by omega) (by decide)).mp q)) ?_
  have en : Int32.ofNat S.2.2.2.length - 1 = Int32.ofNat (S.2.2.2.length - 1) := jo_sub (a := S.2.2.2.length) (b := 1) (by omega)
  have hsp := w_split (l := S.2.2.2) (d := false) l0
  have htl : (S.2.2.2.take (S.2.2.2.length - 1)).length = S.2.2.2.length - 1 := by rw [List.length_take]; omega
  have hcs := congrArg w_cl hsp
  rw [w_cl_snoc] at hcs
  have hlast := hg (S.2.2.2.length - 1) (by omega)
  generalize hx : S.2.2.2.getD (S.2.2.2.length - 1) false = x at *
  by_cases c3 : c = 103
  · -- 103
    refine jT_neg (fun q => q (e103.mpr c3)) ?_
    simp only [sR_170_11 hs, en, jo_nat (n := S.2.2.2.length - 1) (by omega), hlast]
    refine jT_g (w_G_k h) (jT_g (w_G_k h) (jT_g (w_G_k h) (jT_g (w_G_k h) (jT_g (gA k391 (jo_in (by omega) (by omega))) ?_))))
    have g169 : ∀ s2 : Int32, s2 = (if x = true then 0 else 1) → jT (B_4_part_169 170 391 (Int32.ofNat (S.2.2.2.length - 1)) s2 H) Q := fun s2 es => by
      have ea : s2 &&& 1 = s2 := by rw [es]; cases x <;> decide
      unfold B_4_part_169
      rw [jo_nat (n := S.2.2.2.length - 1) (by omega), ea]
      refine jT_g (gA k391 (jo_in (by omega) (by omega))) (jT_l ?_)
      have m1 : w_M S.1 S.2.1 (jsI H 391 (S.2.2.2.length - 1) s2) := w_M_g h.1 (Or.inr rfl)
      have f1 : jfr (fun a j => (a = 170 ∧ (j = 12 ∨ j = 13)) ∨ a = 391) H (jsI H 391 (S.2.2.2.length - 1) s2) := jfr_sI jfr_refl (Or.inr rfl)
      have j12 : jI (jsI H 391 (S.2.2.2.length - 1) s2) 170 12 = Int32.ofNat S.2.2.2.length := (jI_sIa (by decide)).trans e4
      have j13 : jI (jsI H 391 (S.2.2.2.length - 1) s2) 170 13 = Int32.ofNat (w_cl S.2.2.2) := (jI_sIa (by decide)).trans e5
      have jl1 : jI (jsI H 391 (S.2.2.2.length - 1) s2) 391 (S.2.2.2.length - 1) = s2 := jI_sIe
      have jg1 : ∀ k, k < S.2.2.2.length → k ≠ S.2.2.2.length - 1 → jI (jsI H 391 (S.2.2.2.length - 1) s2) 391 k = if S.2.2.2.getD k false = true then 1 else 0 := fun k hk hk2 => (jI_sIn hk2).trans (hg k hk)
      generalize jsI H 391 (S.2.2.2.length - 1) s2 = H1 at *
      have k1 : (jK H1 170).1 = 4 := by rw [sK_170 m1.1]
      have k391' : jK H1 391 = (102, 200) := sK_391 m1.1
      simp only [sR_170_11 m1.1, j12, en, jo_nat (n := S.2.2.2.length - 1) (by omega), jl1, j13]
      refine jT_g k1 (jT_g k1 (jT_g k1 (jT_g (gA k391' (jo_in (by omega) (by omega))) ?_)))
      have go : ∀ (y : Int32), Int32.ofNat (w_cl S.2.2.2) + y = Int32.ofNat (w_cl (S.2.2.2.take (S.2.2.2.length - 1) ++ [!x])) → jT (B_4_part_194 170 (Int32.ofNat (w_cl S.2.2.2)) y H1) Q := fun y hy => by
        unfold B_4_part_194 B_4_part_237
        rw [hy]
        refine jT_g k1 (jT_l (jT_ret (hk1 S.1 (S.2.2.2.take (S.2.2.2.length - 1) ++ [!x]) _ ?_ (w_G_pb h (w_M_g m1 (Or.inl rfl)) (jfr_sI f1 (Or.inl ⟨rfl, Or.inr rfl⟩)) ?_ jI_sIe (fun k hk => ?_) ?_))))
        · unfold w_flow
          rw [if_neg (by omega), if_neg l0, if_pos c3, hx]
        · refine (jI_sIn (by decide)).trans (j12.trans ?_)
          rw [List.length_append, htl]
          congr 1
          show _ = S.2.2.2.length - 1 + 1
          omega
        · rw [List.length_append, htl] at hk
          refine (jI_sIa (by decide)).trans ?_
          rw [w_getD_snoc (by rw [htl]; exact hk), htl]
          by_cases ck : k = S.2.2.2.length - 1
          · rw [if_pos ck, ck, jl1, es]
            cases x <;> rfl
          · rw [if_neg ck, w_getD_take (by have : k < S.2.2.2.length - 1 + 1 := hk; omega)]
            exact jg1 k (by have : k < S.2.2.2.length - 1 + 1 := hk; omega) ck
        · rw [List.length_append, htl]
          show S.2.2.2.length - 1 + 1 ≤ _
          omega
      cases x with
      | true =>
        refine jT_pos (by rw [es]; rfl) (go 1 ?_)
        rw [w_cl_snoc, hcs]
        exact jo_add
      | false =>
        refine jT_neg (by rw [es]; decide) (go (-1) ?_)
        rw [w_cl_snoc, hcs]
        show Int32.ofNat (w_cl (S.2.2.2.take (S.2.2.2.length - 1)) + 1) + (-1) = Int32.ofNat (w_cl (S.2.2.2.take (S.2.2.2.length - 1)) + 0)
        rw [← jo_add, Int32.add_assoc, show Int32.ofNat 1 + (-1) = 0 from by decide, Int32.add_zero, Nat.add_zero]
    cases x with
    | true => exact jT_pos (by decide) (g169 0 rfl)
    | false => exact jT_neg (by decide) (g169 1 rfl)
  · -- 104
    refine jT_pos (fun q => c3 (e103.mp q)) ?_
    rw [en]
    refine jT_g (w_G_k h) (jT_g (w_G_k h) (jT_l ?_))
    have m1 : w_M S.1 S.2.1 (jsI H 170 12 (Int32.ofNat (S.2.2.2.length - 1))) := w_M_g h.1 (Or.inl rfl)
    have f1 : jfr (fun a j => (a = 170 ∧ (j = 12 ∨ j = 13)) ∨ a = 391) H (jsI H 170 12 (Int32.ofNat (S.2.2.2.length - 1))) := jfr_sI jfr_refl (Or.inl ⟨rfl, Or.inl rfl⟩)
    have j12 : jI (jsI H 170 12 (Int32.ofNat (S.2.2.2.length - 1))) 170 12 = Int32.ofNat (S.2.2.2.length - 1) := jI_sIe
    have j13 : jI (jsI H 170 12 (Int32.ofNat (S.2.2.2.length - 1))) 170 13 = Int32.ofNat (w_cl S.2.2.2) := (jI_sIn (by decide)).trans e5
    have jg1 : ∀ k, k < S.2.2.2.length → jI (jsI H 170 12 (Int32.ofNat (S.2.2.2.length - 1))) 391 k = if S.2.2.2.getD k false = true then 1 else 0 := fun k hk => (jI_sIa (by decide)).trans (hg k hk)
    have jl1 : jI (jsI H 170 12 (Int32.ofNat (S.2.2.2.length - 1))) 391 (S.2.2.2.length - 1) = if x = true then 1 else 0 := (jI_sIa (by decide)).trans hlast
    generalize jsI H 170 12 (Int32.ofNat (S.2.2.2.length - 1)) = H1 at *
    have k1 : (jK H1 170).1 = 4 := by rw [sK_170 m1.1]
    have k391' : jK H1 391 = (102, 200) := sK_391 m1.1
    simp only [sR_170_11 m1.1, j12, jo_nat (n := S.2.2.2.length - 1) (by omega), jl1, j13]
    refine jT_g k1 (jT_g k1 (jT_g k1 (jT_g (gA k391' (jo_in (by omega) (by omega))) ?_)))
    have go : ∀ (y : Int32), Int32.ofNat (w_cl S.2.2.2) - y = Int32.ofNat (w_cl (S.2.2.2.take (S.2.2.2.length - 1))) → jT (B_4_part_233 170 (Int32.ofNat (w_cl S.2.2.2)) y H1) Q := fun y hy => by
      unfold B_4_part_233 B_4_part_237
      rw [hy]
      refine jT_g k1 (jT_l (jT_ret (hk1 S.1 (S.2.2.2.take (S.2.2.2.length - 1)) _ ?_ (w_G_pb h (w_M_g m1 (Or.inl rfl)) (jfr_sI f1 (Or.inl ⟨rfl, Or.inr rfl⟩)) ?_ jI_sIe (fun k hk => ?_) ?_))))
      · unfold w_flow
        rw [if_neg (by omega), if_neg l0, if_neg c3]
      · refine (jI_sIn (by decide)).trans (j12.trans ?_)
        rw [htl]
      · rw [htl] at hk
        refine (jI_sIa (by decide)).trans ?_
        rw [w_getD_take hk]
        exact jg1 k (by omega)
      · rw [htl]
        omega
    cases x with
    | true =>
      refine jT_neg (by decide) (go 0 ?_)
      rw [hcs]
      exact Int32.sub_zero _
    | false =>
      refine jT_pos (by decide) (go 1 ?_)
      rw [hcs]
      exact jo_sub (a := w_cl (S.2.2.2.take (S.2.2.2.length - 1)) + 1) (b := 1) (by omega)
end PART
