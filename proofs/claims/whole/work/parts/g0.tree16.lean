/-! The reference's tree: what is found by going down a branch. -/
theorem jT_det {α : Type} {o : Option (α × jH)} {v : α} {H : jH} (h : jT o (fun r h => r = v ∧ h = H)) : o = some (v, H) := by
  obtain ⟨x, hx, h1, h2⟩ := h
  rw [hx, ← h1, ← h2]
def b_T (bs : List b_k) (H : jH) : Prop := jI H 445 1 = Int32.ofNat bs.length ∧ ∀ k, k < bs.length → jI H 446 k = (if k = 0 then -1 else Int32.ofNat (b_pa bs k)) ∧ jI H 447 k = Int32.ofNat (b_ht bs k) ∧ jL H 448 k = Int64.ofNat (b_ti bs k) ∧ jL H 449 k = Int64.ofNat (b_bi bs k)
theorem b_T_fr {bs : List b_k} {T : Nat → Nat → Prop} {H H' : jH} (h : b_T bs H) (hf : jfr T H H') (hT : ∀ a j, T a j → (a < 445 ∨ 450 ≤ a) ∨ (a = 445 ∧ j ≠ 1)) : b_T bs H' := by
  have n : ∀ a j, 446 ≤ a → a ≤ 449 → ¬ T a j := fun a j q1 q2 w => by have := hT a j w; omega
  refine ⟨(jfr_I hf fun w => by have := hT _ _ w; omega).trans h.1, fun k hk => ?_⟩
  obtain ⟨h1, h2, h3, h4⟩ := h.2 k hk
  exact ⟨(jfr_I hf (n 446 k (by decide) (by decide))).trans h1, (jfr_I hf (n 447 k (by decide) (by decide))).trans h2, (jfr_L hf (n 448 k (by decide) (by decide))).trans h3, (jfr_L hf (n 449 k (by decide) (by decide))).trans h4⟩
theorem b_T6 {bs : List b_k} {H : jH} (hT : b_T bs H) {k : Nat} (hk : k < bs.length) (hk1 : 1 ≤ k) : jI H 446 k = Int32.ofNat (b_pa bs k) := by
  rw [(hT.2 k hk).1, if_neg (by omega)]
section TR16
variable {bs : List b_k} {H : jH}
theorem b_isBlk (hw : b_wf bs) (hs : jsh H) (hT : b_T bs H) {k : Nat} (hk : k < bs.length) : F_16_isBlock 445 (Int32.ofNat k) H = some (1, H) := z16_isBlock hs hw.2.1 hk hT.1
theorem b_height (hw : b_wf bs) (hs : jsh H) (hT : b_T bs H) {k : Nat} (hk : k < bs.length) : F_18_height 421 (Int32.ofNat k) H = some (Int32.ofNat (b_ht bs k), H) :=
  jT_det (z18_height hs hw.2.1 hk hT.1 ⟨(hT.2 k hk).2.1, rfl⟩)
theorem b_parent (hw : b_wf bs) (hs : jsh H) (hT : b_T bs H) {k : Nat} (hk : k < bs.length) (hk1 : 1 ≤ k) : F_18_parent 421 (Int32.ofNat k) H = some (Int32.ofNat (b_pa bs k), H) := by
  refine jT_det ?_
  unfold F_18_parent
  rw [sR_421_3 hs]
  refine jT_g (gT (sK_421 hs)) (jT_g (gT (sK_445 hs)) (jT_b (z16_look hs hw.2.1 hk hT.1 (Or.inl rfl) (jT_ret ⟨?_, rfl⟩))))
  have e : zlk H k 0 = Int32.toInt64 (jI H 446 k) := rfl
  rw [e, Int32.toInt32_toInt64, (hT.2 k hk).1, if_neg (by omega)]
theorem b_look4 (hw : b_wf bs) (hs : jsh H) (hT : b_T bs H) {k : Nat} (hk : k < bs.length) : F_16_look 445 (Int32.ofNat k) 4 H = some (if jI H 450 k = 0 then 0 else 1, H) :=
  jT_det (z16_look hs hw.2.1 hk hT.1 (Or.inr (Or.inr (Or.inr (Or.inr rfl)))) ⟨rfl, rfl⟩)
theorem b_below26 (hw : b_wf bs) (hs : jsh H) (hT : b_T bs H) {h : Nat} : ∀ (d fu k : Nat), k < bs.length → h + d = b_ht bs k → d < fu → F_16_below_26 fu 445 (Int32.ofNat h) (Int32.ofNat k) H = some (Int32.ofNat (b_up bs d k), H) := by
  intro d
  have l300 := hw.2.1
  induction d with
  | zero =>
    intro fu k hk hd hfu
    obtain ⟨fu, rfl⟩ : ∃ j, fu = j + 1 := ⟨fu - 1, by omega⟩
    refine jT_det ?_
    unfold F_16_below_26 B_16_below_26
    have := b_ht_300 hw hk
    rw [sR_445_3 hs, sK_445 hs, sK_447 hs, jo_nat (n := k) (by omega), (hT.2 k hk).2.1]
    exact jT_g rfl (jT_g ⟨rfl, jo_in (by omega) (by show k < 300; omega)⟩ (jT_pos (by rw [jo_le (by omega) (by omega)]; omega) (jT_ret ⟨rfl, rfl⟩)))
  | succ d ih =>
    intro fu k hk hd hfu
    obtain ⟨fu, rfl⟩ : ∃ j, fu = j + 1 := ⟨fu - 1, by omega⟩
    have hk1 := b_ht_pos hw hk (by omega)
    obtain ⟨p1, p2, -⟩ := hw.2.2.2.2 k hk1 hk
    have := b_ht_300 hw hk
    have e := ih fu (b_pa bs k) (by omega) (by omega) (by omega)
    refine jT_det ?_
    unfold F_16_below_26 B_16_below_26
    rw [sR_445_3 hs, sR_445_2 hs, sK_445 hs, sK_446 hs, sK_447 hs, jo_nat (n := k) (by omega), (hT.2 k hk).2.1, b_T6 hT hk hk1]
    refine jT_g rfl (jT_g ⟨rfl, jo_in (by omega) (by show k < 300; omega)⟩ (jT_neg (by rw [jo_le (by omega) (by omega)]; omega) (jT_g rfl (jT_g ⟨rfl, jo_in (by omega) (by show k < 300; omega)⟩ (jT_l ?_)))))
    exact jT_eq e (jT_ret ⟨rfl, rfl⟩)
theorem b_below (hw : b_wf bs) (hs : jsh H) (hT : b_T bs H) {k h : Nat} (hk : k < bs.length) (hh : h ≤ b_ht bs k) : F_16_below 445 (Int32.ofNat k) (Int32.ofNat h) H = some (Int32.ofNat (b_at bs k h), H) := by
  have l300 := hw.2.1
  have := b_ht_300 hw hk
  refine jT_det ?_
  unfold F_16_below
  rw [b_isBlk hw hs hT hk, jb_ok, sR_445_3 hs, sK_445 hs, sK_447 hs, jo_nat (n := k) (by omega), (hT.2 k hk).2.1]
  refine jT_g rfl (jT_neg (by decide) (jT_neg (by rw [show (0 : Int32) = Int32.ofNat 0 from rfl, jo_lt (by omega) (by decide)]; omega) (jT_g rfl (jT_g ⟨rfl, jo_in (by omega) (by show k < 300; omega)⟩ (jT_pos (by rw [jo_le (by omega) (by omega)]; exact hh) ?_)))))
  exact jT_eq (b_below26 hw hs hT (b_ht bs k - h) jfuel k hk (by omega) (by unfold jfuel; omega)) (jT_ret ⟨rfl, rfl⟩)
theorem b_below_no (hw : b_wf bs) (hs : jsh H) (hT : b_T bs H) {k h : Nat} (hk : k < bs.length) (h3 : h < 300) (hh : ¬ h ≤ b_ht bs k) : F_16_below 445 (Int32.ofNat k) (Int32.ofNat h) H = some (-1, H) := by
  have l300 := hw.2.1
  have := b_ht_300 hw hk
  refine jT_det ?_
  unfold F_16_below B_16_below_22
  rw [b_isBlk hw hs hT hk, jb_ok, sR_445_3 hs, sK_445 hs, sK_447 hs, jo_nat (n := k) (by omega), (hT.2 k hk).2.1]
  exact jT_g rfl (jT_neg (by decide) (jT_neg (by rw [show (0 : Int32) = Int32.ofNat 0 from rfl, jo_lt (by omega) (by decide)]; omega) (jT_g rfl (jT_g ⟨rfl, jo_in (by omega) (by show k < 300; omega)⟩ (jT_neg (by rw [jo_le (by omega) (by omega)]; exact hh) (jT_ret ⟨rfl, rfl⟩))))))
/-- the highest height that two chains share -/
def b_isf (bs : List b_k) (x y f : Nat) : Prop := f ≤ b_ht bs x ∧ f ≤ b_ht bs y ∧ b_at bs x f = b_at bs y f ∧ ∀ h, f < h → h ≤ b_ht bs x → h ≤ b_ht bs y → b_at bs x h ≠ b_at bs y h
theorem b_isf_ex (hw : b_wf bs) {x y : Nat} (hx : x < bs.length) (hy : y < bs.length) : ∃ f, b_isf bs x y f := by
  have go : ∀ d, d ≤ b_ht bs x → d ≤ b_ht bs y → (∀ h, d < h → h ≤ b_ht bs x → h ≤ b_ht bs y → b_at bs x h ≠ b_at bs y h) → ∃ f, b_isf bs x y f := by
    intro d
    induction d with
    | zero => exact fun _ _ h => ⟨0, Nat.zero_le _, Nat.zero_le _, (b_at_0 hw hx).trans (b_at_0 hw hy).symm, h⟩
    | succ d ih =>
      intro h1 h2 h3
      by_cases c : b_at bs x (d + 1) = b_at bs y (d + 1)
      · exact ⟨d + 1, h1, h2, c, h3⟩
      · refine ih (by omega) (by omega) fun h g1 g2 g3 => ?_
        by_cases c2 : h = d + 1
        · rw [c2]
          exact c
        · exact h3 h (by omega) g2 g3
  exact go (min (b_ht bs x) (b_ht bs y)) (Nat.min_le_left _ _) (Nat.min_le_right _ _) fun h g1 g2 g3 => by omega
theorem b_isf_lo (hw : b_wf bs) {x y f : Nat} (hx : x < bs.length) (hy : y < bs.length) (h : b_isf bs x y f) : ∀ g, g ≤ f → b_at bs x g = b_at bs y g := fun g hg => by
  rw [← b_at_at hw hx h.1 hg, h.2.2.1, b_at_at hw hy h.2.1 hg]
theorem b_isf_u (hw : b_wf bs) {x y f g : Nat} (hx : x < bs.length) (hy : y < bs.length) (h : b_isf bs x y f) (h' : b_isf bs x y g) : f = g := by
  rcases Nat.lt_trichotomy f g with c | c | c
  · exact absurd h'.2.2.1 (h.2.2.2 g c h'.1 h'.2.1)
  · exact c
  · exact absurd h.2.2.1 (h'.2.2.2 f c h.1 h.2.1)
theorem b_fork (hw : b_wf bs) (hs : jsh H) (hT : b_T bs H) {x y f : Nat} (hx : x < bs.length) (hy : y < bs.length) (hf : b_isf bs x y f) : F_16_fork 445 (Int32.ofNat x) (Int32.ofNat y) H = some (Int32.ofNat (b_at bs x f), H) := by
  have l300 := hw.2.1
  have hx3 := b_ht_300 hw hx
  have hy3 := b_ht_300 hw hy
  have loop : ∀ (d fu : Nat), f + d ≤ b_ht bs x → d < fu → F_16_fork_20 fu 445 (Int32.ofNat y) (Int32.ofNat (b_at bs x (f + d))) H = some (Int32.ofNat (b_at bs x f), H) := by
    intro d
    induction d with
    | zero =>
      intro fu hd hfu
      obtain ⟨fu, rfl⟩ : ∃ j, fu = j + 1 := ⟨fu - 1, by omega⟩
      obtain ⟨q1, q2, q3⟩ := b_at_ok hw hx hd
      refine jT_det ?_
      unfold F_16_fork_20 B_16_fork_20
      rw [sR_445_3 hs, sK_445 hs, sK_447 hs, jo_nat (n := b_at bs x (f + 0)) (by omega), (hT.2 _ q3).2.1, q2, b_below hw hs hT hy (show f + 0 ≤ _ from hf.2.1), jb_ok]
      refine jT_g rfl (jT_g ⟨rfl, jo_in (by omega) (by show _ < 300; omega)⟩ (jT_g rfl (jT_pos ?_ (jT_ret ⟨rfl, rfl⟩))))
      show Int32.ofNat (b_at bs y f) = Int32.ofNat (b_at bs x f)
      rw [hf.2.2.1]
    | succ d ih =>
      intro fu hd hfu
      obtain ⟨fu, rfl⟩ : ∃ j, fu = j + 1 := ⟨fu - 1, by omega⟩
      obtain ⟨q1, q2, q3⟩ := b_at_ok hw hx hd
      have hk1 := b_ht_pos hw q3 (by omega)
      obtain ⟨p1, p2, -⟩ := hw.2.2.2.2 _ hk1 q3
      have epa : b_pa bs (b_at bs x (f + (d + 1))) = b_at bs x (f + d) := by
        have h1 : b_at bs (b_at bs x (f + (d + 1))) (f + d) = b_at bs x (f + d) := b_at_at hw hx hd (by omega)
        rw [b_at_pa hw q3 hk1 (by omega)] at h1
        rw [← h1, show f + d = b_ht bs (b_pa bs (b_at bs x (f + (d + 1)))) by omega, b_at_self]
      have e := ih fu (by omega) (by omega)
      have hne : ∃ z, F_16_below 445 (Int32.ofNat y) (Int32.ofNat (f + (d + 1))) H = some (z, H) ∧ z ≠ Int32.ofNat (b_at bs x (f + (d + 1))) := by
        by_cases c : f + (d + 1) ≤ b_ht bs y
        · refine ⟨_, b_below hw hs hT hy c, fun w => ?_⟩
          have q4 := (b_at_ok hw hy c).2.2
          exact hf.2.2.2 _ (by omega) hd c ((jo_eq (by omega) (by omega)).mp w).symm
        · refine ⟨_, b_below_no hw hs hT hy (by omega) c, fun w => ?_⟩
          have hneg : (-1 : Int32) < 0 := by decide
          rw [w] at hneg
          exact absurd ((jo_lt (a := _) (b := 0) (by omega) (by decide)).mp hneg) (by omega)
      obtain ⟨z, e1, e2⟩ := hne
      refine jT_det ?_
      unfold F_16_fork_20 B_16_fork_20
      rw [sR_445_3 hs, sK_445 hs, sK_447 hs, jo_nat (n := b_at bs x (f + (d + 1))) (by omega), (hT.2 _ q3).2.1, q2, e1, jb_ok, sR_445_2 hs, sK_445 hs, sK_446 hs, b_T6 hT q3 hk1, epa]
      refine jT_g rfl (jT_g ⟨rfl, jo_in (by omega) (by show _ < 300; omega)⟩ (jT_g rfl (jT_neg e2 (jT_g rfl ?_))))
      exact jT_g ⟨rfl, jo_in (by omega) (by show _ < 300; omega)⟩ (jT_l (jT_eq e (jT_ret ⟨rfl, rfl⟩)))
  refine jT_det ?_
  unfold F_16_fork
  rw [b_isBlk hw hs hT hx, jb_ok, b_isBlk hw hs hT hy, jb_ok]
  refine jT_g (gT (sK_445 hs)) (jT_neg (by decide) (jT_g (gT (sK_445 hs)) (jT_pos (by decide) ?_)))
  have e := loop (b_ht bs x - f) jfuel (by have := hf.1; omega) (by unfold jfuel; omega)
  rw [show f + (b_ht bs x - f) = b_ht bs x by have := hf.1; omega, b_at_self] at e
  exact jT_eq e (jT_ret ⟨rfl, rfl⟩)
end TR16
