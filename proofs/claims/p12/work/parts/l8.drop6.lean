/-! The class drops the family that pays least. -/
theorem jRs_415 : ∀ q ∈ jRs, q.1 ≠ 415 := by decide +kernel
def p_TD : Nat → Nat → Prop := fun a j => a = 415 ∨ a = 416 ∨ a = 418 ∨ (a = 414 ∧ j = 4)
/-- one entry of the class's pool -/
def p_ea (e : p_e) (j : Nat) (H : jH) : Prop := (∃ row s len, w_x (jR H 415 j) row s len e.1.2.1 e.1.2.2 e.1.1 H) ∧ jL H 416 j = e.2
theorem p_ea_fr {e : p_e} {j : Nat} {T : Nat → Nat → Prop} {H H' : jH} (h : p_ea e j H) (hf : jfr T H H') (hT : ∀ a, 422 ≤ a → ∀ j, ¬ T a j) (h1 : jR H' 415 j = jR H 415 j) (h2 : jL H' 416 j = jL H 416 j) : p_ea e j H' := by
  obtain ⟨⟨row, s, len, q1⟩, q2⟩ := h
  rw [← h1] at q1
  exact ⟨⟨row, s, len, w_x_jfr q1 hf fun a j q => hT a q j⟩, h2.trans q2⟩
section DL6
variable {α : Type} {ps : List p_e} {Hs : jH} {o : Nat} {Q : α → jH → Prop}
theorem p_fh_fam {h : Nat} (hh : h < ps.length) {a : Nat} {H : jH} (hf : p_fl a ps.length (p_fam ps fun i => decide (i = h) || p_hg ps i h) H) : p_fl a ps.length (p_fh ps h) H := p_fl_eq hf (p_fam_head hh)
/-- marking the family of one in the pool -/
theorem z6_kinOf {k : Unit → jH → Option (α × jH)} {h : Nat} (hs : jsh Hs) (hok : p_ok ps) (hA : p_PA ps Hs) (hh : h < ps.length) (hk : ∀ H', jsh H' → jfr p_T418 Hs H' → p_fl 418 ps.length (p_fh ps h) H' → jT (k () H') Q) : jT (jb (F_6_markKin 414 (jR Hs 415 h) Hs) k) Q := by
  obtain ⟨⟨row, s, len, hx⟩, -⟩ := hA.2 h _ (p_g_at hh)
  refine z6_markKin (S := fun i => decide (i = h) || p_hg ps i h) hs hok hA hx (fun i hi => ?_) fun H' hs' hf' hfl' => hk H' hs' hf' (p_fh_fam hh hfl')
  rw [Bool.or_eq_true, decide_eq_true_eq]
  constructor
  · rintro (w | w)
    · exact Or.inl (by rw [w])
    · exact Or.inr w
  · rintro (w | w)
    · left
      obtain ⟨⟨row2, s2, len2, hx2⟩, -⟩ := hA.2 i _ (p_g_at hi)
      rw [w] at hx2
      obtain ⟨-, -, -, -, -, d2, d3, d4, -⟩ := hx
      obtain ⟨-, -, -, -, -, f2, f3, f4, -⟩ := hx2
      refine hok.2.2 i h _ _ (p_g_at hi) (p_g_at hh) (List.ext_getElem? fun j => ?_)
      by_cases hj : j < 32
      · have a1 := d3 j _ (getD_of (by omega))
        have a2 := f3 j _ (getD_of (by omega))
        rw [getD_of (l := (p_g ps i).1.1) (by omega), getD_of (l := (p_g ps h).1.1) (by omega), ← a1, ← a2]
      · rw [List.getElem?_eq_none (by omega), List.getElem?_eq_none (by omega)]
    · exact Or.inr w
theorem z6_163 {R : Int32 → jH → Prop} {K : Nat → Bool} (hok : p_ok ps) (hA0 : p_PA ps Hs) (hn : 0 < ps.length) (ho : jR Hs 415 (ps.length - 1) = o) (hno : ∀ i, i < ps.length - 1 → jR Hs 415 i ≠ o) (hK0 : p_fl 418 ps.length K Hs)
    (hk : ∀ H', jsh H' → jfr p_TD Hs H' → p_PA (p_kp K 0 ps) H' → R (p_ib (K (ps.length - 1))) H') :
    ∀ (d i fu : Nat) (c : Bool) (H : jH), i + d = ps.length → d < fu → jsh H → jfr (fun a _ => a = 415 ∨ a = 416) Hs H → (∀ j e, (p_kp K 0 (ps.take i))[j]? = some e → p_ea e j H) → (∀ j, i ≤ j → jR H 415 j = jR Hs 415 j ∧ jL H 416 j = jL Hs 416 j) → (c = true ↔ i = ps.length ∧ K (ps.length - 1) = true) → jT (F_6_dropLeast_163 fu 414 o (Int32.ofNat (p_kp K 0 (ps.take i)).length) (p_ib c) (Int32.ofNat i) H) R := by
  have l41 := hok.1
  have k6 : ∀ {H}, jsh H → (jK H 414).1 = 6 := fun hs => gT (sK_414 hs)
  intro d
  induction d with
  | zero =>
    intro i fu c H hl hfu hs hf hp hr hc
    obtain ⟨fu, rfl⟩ : ∃ k, fu = k + 1 := ⟨fu - 1, by omega⟩
    obtain rfl : i = ps.length := by omega
    have e4 : jI H 414 4 = Int32.ofNat ps.length := (jfr_I hf (by omega)).trans hA0.1
    rw [List.take_of_length_le (Nat.le_refl _)] at hp ⊢
    unfold F_6_dropLeast_163 B_6_dropLeast_163
    rw [e4]
    refine jT_g (k6 hs) (jT_pos (by rw [jo_le (by omega) (by omega)]; exact Nat.le_refl _) (jT_g (k6 hs) (jT_l (jT_g (by cases c; exact Or.inl rfl; exact Or.inr rfl) (jT_ret ?_)))))
    have ec : c = K (ps.length - 1) := jbl ⟨fun w => (hc.mp w).2, fun w => hc.mpr ⟨rfl, w⟩⟩
    rw [ec]
    have f4 : jfr (fun a j => a = 414 ∧ j = 4) H (jsI H 414 4 (Int32.ofNat (p_kp K 0 ps).length)) := jfr_sI jfr_refl ⟨rfl, rfl⟩
    refine hk _ (jsh_sI hs (by decide)) (jfr_trans (jfr_mono hf fun a j w => by unfold p_TD; omega) (jfr_mono f4 fun a j w => by unfold p_TD; omega)) ⟨jI_sIe, fun j e hj => ?_⟩
    exact p_ea_fr (hp j e hj) f4 (fun a q j w => by omega) rfl rfl
  | succ d ih =>
    intro i fu c H hl hfu hs hf hp hr hc
    obtain ⟨fu, rfl⟩ : ∃ k, fu = k + 1 := ⟨fu - 1, by omega⟩
    have hi : i < ps.length := by omega
    have e4 : jI H 414 4 = Int32.ofNat ps.length := (jfr_I hf (by omega)).trans hA0.1
    have e8 : jI H 418 i = p_ib (K i) := (jfr_I hf (by omega)).trans (hK0 i hi)
    have e1 : Int32.ofNat i + 1 = Int32.ofNat (i + 1) := jo_add (a := i) (b := 1)
    obtain ⟨q1, q2⟩ := hr i (Nat.le_refl i)
    have ea : p_ea (p_g ps i) i H := p_ea_fr (hA0.2 i _ (p_g_at hi)) hf (fun a q j w => by omega) q1 q2
    obtain ⟨⟨row, s, len, hx⟩, -⟩ := ea
    have k10 := hx.1.1
    have oi : 422 ≤ jR H 415 i := hx.2.2.2.2.2.2.2.2.2.2.1
    have etk : ps.take (i + 1) = ps.take i ++ [p_g ps i] := by
      rw [List.take_succ, p_g_at hi]
      rfl
    have ekp : p_kp K 0 (ps.take (i + 1)) = p_kp K 0 (ps.take i) ++ if K i = true then [] else [p_g ps i] := by
      rw [etk, p_kp_snoc, List.length_take, Nat.zero_add, Nat.min_eq_left (by omega)]
    have lkp : (p_kp K 0 (ps.take i)).length ≤ i := by
      have := p_kp_len (K := K) (ps := ps.take i) (i := 0)
      rw [List.length_take] at this
      omega
    have co : ¬ (c = true) := fun w => by have := (hc.mp w).1; omega
    have ec : c = false := by
      cases c with
      | false => rfl
      | true => exact absurd rfl co
    unfold F_6_dropLeast_163 B_6_dropLeast_163
    rw [e4, sR_414_6 hs, sR_414_2 hs, jo_nat (n := i) (by omega), e8]
    refine jT_g (k6 hs) (jT_neg (by rw [jo_le (by omega) (by omega)]; omega) (jT_g (k6 hs) (jT_g (gA (sK_418 hs) (jo_in (by omega) (by omega))) ?_)))
    cases hKi : K i with
    | false =>
      rw [hKi, if_neg (show ¬ (false = true) by decide)] at ekp
      rw [jo_nat (n := (p_kp K 0 (ps.take i)).length) (by omega)]
      refine jT_pos rfl (jT_g (k6 hs) (jT_g (k6 hs) (jT_g (gA (sK_415 hs) (jo_in (by omega) (by omega))) (jT_g ⟨gT (sK_415 hs), by rw [sK_415 hs]; exact jo_in (by omega) (by show _ < 41; omega), Or.inr k10⟩ (jT_l ?_)))))
      have s1 : jsh (jsR H 415 (p_kp K 0 (ps.take i)).length (jR H 415 i)) := jsh_sRn hs jRs_415
      have f1 : jfr (fun a _ => a = 415 ∨ a = 416) H (jsR H 415 (p_kp K 0 (ps.take i)).length (jR H 415 i)) := jfr_sR jfr_refl (Or.inl rfl)
      have r1 : jR (jsR H 415 (p_kp K 0 (ps.take i)).length (jR H 415 i)) 415 (p_kp K 0 (ps.take i)).length = jR H 415 i := jR_sRe
      have r1n : ∀ j, j ≠ (p_kp K 0 (ps.take i)).length → jR (jsR H 415 (p_kp K 0 (ps.take i)).length (jR H 415 i)) 415 j = jR H 415 j := fun j hj => jR_sRn hj
      have l1 : ∀ j, jL (jsR H 415 (p_kp K 0 (ps.take i)).length (jR H 415 i)) 416 j = jL H 416 j := fun j => rfl
      generalize jsR H 415 (p_kp K 0 (ps.take i)).length (jR H 415 i) = H1 at *
      rw [sR_414_3 s1]
      refine jT_g (k6 s1) (jT_g (k6 s1) (jT_g (gA (sK_416 s1) (jo_in (by omega) (by omega))) (jT_g (gA (sK_416 s1) (jo_in (by omega) (by omega))) (jT_l ?_))))
      have s2 : jsh (jsL H1 416 (p_kp K 0 (ps.take i)).length (jL H1 416 i)) := jsh_sL s1
      have f2 : jfr (fun a _ => a = 415 ∨ a = 416) H (jsL H1 416 (p_kp K 0 (ps.take i)).length (jL H1 416 i)) := jfr_sL f1 (Or.inr rfl)
      have r2 : ∀ j, jR (jsL H1 416 (p_kp K 0 (ps.take i)).length (jL H1 416 i)) 415 j = jR H1 415 j := fun j => rfl
      have l2 : jL (jsL H1 416 (p_kp K 0 (ps.take i)).length (jL H1 416 i)) 416 (p_kp K 0 (ps.take i)).length = jL H1 416 i := jL_sLe
      have l2n : ∀ j, j ≠ (p_kp K 0 (ps.take i)).length → jL (jsL H1 416 (p_kp K 0 (ps.take i)).length (jL H1 416 i)) 416 j = jL H1 416 j := fun j hj => jL_sLn hj
      generalize jsL H1 416 (p_kp K 0 (ps.take i)).length (jL H1 416 i) = H2 at *
      have elen : (p_kp K 0 (ps.take (i + 1))).length = (p_kp K 0 (ps.take i)).length + 1 := by
        rw [ekp, List.length_append]
        rfl
      have e1k : Int32.ofNat (p_kp K 0 (ps.take i)).length + 1 = Int32.ofNat (p_kp K 0 (ps.take (i + 1))).length := by
        rw [elen]
        exact jo_add (a := (p_kp K 0 (ps.take i)).length) (b := 1)
      unfold B_6_dropLeast_237
      rw [e1k, e1]
      refine jT_l (jT_l (ih (i + 1) fu c H2 (by omega) (by omega) s2 (jfr_trans hf f2) (fun j e hj => ?_) (fun j hj => ?_) ?_))
      · rw [ekp] at hj
        by_cases cj : j < (p_kp K 0 (ps.take i)).length
        · rw [List.getElem?_append_left cj] at hj
          exact p_ea_fr (hp j e hj) f2 (fun a q j w => by omega) ((r2 j).trans (r1n j (by omega))) ((l2n j (by omega)).trans (l1 j))
        · have hjl := (List.getElem?_eq_some_iff.mp hj).1
          rw [List.length_append] at hjl
          have hjl2 : j < (p_kp K 0 (ps.take i)).length + 1 := hjl
          obtain rfl : j = (p_kp K 0 (ps.take i)).length := by omega
          rw [List.getElem?_append_right (Nat.le_refl _), Nat.sub_self] at hj
          have ee : p_g ps i = e := Option.some.inj hj
          obtain ⟨⟨rw2, ss2, ll2, hx2⟩, hx3⟩ := p_ea_fr (hA0.2 i _ (p_g_at hi)) hf (fun a q j w => by omega) q1 q2
          rw [← ee]
          refine ⟨⟨rw2, ss2, ll2, ?_⟩, l2.trans ((l1 i).trans hx3)⟩
          rw [r2, r1]
          exact w_x_jfr hx2 f2 fun a j q w => by omega
      · obtain ⟨g1, g2⟩ := hr j (by omega)
        exact ⟨(r2 j).trans ((r1n j (by omega)).trans g1), (l2n j (by omega)).trans ((l1 j).trans g2)⟩
      · rw [ec]
        refine ⟨fun w => (by cases w), fun w => ?_⟩
        have : i = ps.length - 1 := by omega
        rw [← this, hKi] at w
        exact absurd w.2 (by decide)
    | true =>
      rw [hKi, if_pos rfl, List.append_nil] at ekp
      have nxt : ∀ b : Bool, (b = true ↔ i + 1 = ps.length) → jT (B_6_dropLeast_200 (F_6_dropLeast_163 fu) 414 o (Int32.ofNat (p_kp K 0 (ps.take i)).length) (Int32.ofNat i) (p_ib c) (p_ib b) H) R := fun b hb => by
        unfold B_6_dropLeast_200 B_6_dropLeast_237
        have eo : p_ib c ||| p_ib b = p_ib b := by
          rw [ec]
          cases b <;> decide
        rw [eo, e1, ← ekp]
        refine jT_l (jT_l (ih (i + 1) fu b H (by omega) (by omega) hs hf (fun j e hj => hp j e (ekp ▸ hj)) (fun j hj => hr j (by omega)) (hb.trans ⟨fun w => ⟨w, ?_⟩, fun w => w.1⟩)))
        have : i = ps.length - 1 := by omega
        rw [← this]
        exact hKi
      refine jT_neg (by decide) (jT_g (k6 hs) (jT_g (gA (sK_415 hs) (jo_in (by omega) (by omega))) (jT_g ⟨Or.inr (show 31 ≤ _ by omega), ?_⟩ ?_)))
      · right
        obtain ⟨⟨rw2, ss2, ll2, hx2⟩, -⟩ := hA0.2 (ps.length - 1) _ (p_g_at (by omega))
        rw [ho] at hx2
        have : 422 ≤ o := hx2.2.2.2.2.2.2.2.2.2.2.1
        exact (show 31 ≤ o by omega)
      · by_cases cl : i + 1 = ps.length
        · have : i = ps.length - 1 := by omega
          exact jT_neg (fun w => w (by rw [q1, this]; exact ho)) (nxt true ⟨fun _ => cl, fun _ => rfl⟩)
        · exact jT_pos (by rw [q1]; exact hno i (by omega)) (nxt false ⟨fun w => (by cases w), fun w => absurd w cl⟩)
/-- the sums of one family, and whether it is taken -/
theorem z6_39 {R : Int32 → jH → Prop} {k10 : Nat → Nat → Nat → Int64 → Int64 → Int32 → jH → Option (Int32 × jH)} {a2 i : Nat} {a3 a5 : Int64} {H : jH} (hok : p_ok ps) (hs : jsh H) (hA : p_PA ps H) (hi : i < ps.length) (hfl : p_fl 418 ps.length (p_fh ps i) H) (h5 : 0 < i → 0 < a5 ∧ ¬ a5 = 0)
    (hk1 : (i = 0 ∨ p_dr (p_ff ps i) (p_fz ps i) a3 a5 = false) → jT (k10 414 o (jR H 415 i) (p_ff ps i) (p_fz ps i) (Int32.ofNat (i + 1)) H) R) (hk0 : 0 < i → p_dr (p_ff ps i) (p_fz ps i) a3 a5 = true → jT (k10 414 o a2 a3 a5 (Int32.ofNat (i + 1)) H) R) :
    ∀ (d j fu : Nat), j + d = ps.length → d < fu → jT (F_6_dropLeast_39 k10 fu 414 o a2 a3 a5 (Int32.ofNat i) (p_fs ps (p_fh ps i) j) (Int64.ofNat (p_sn ps (p_fh ps i) j)) (Int32.ofNat j) H) R := by
  have l41 := hok.1
  have k6 : (jK H 414).1 = 6 := gT (sK_414 hs)
  have e1i : Int32.ofNat i + 1 = Int32.ofNat (i + 1) := jo_add (a := i) (b := 1)
  obtain ⟨z1, z2, z3⟩ := p_fz_pos hok hi
  intro d
  induction d with
  | zero =>
    intro j fu hl hfu
    obtain ⟨fu, rfl⟩ : ∃ k, fu = k + 1 := ⟨fu - 1, by omega⟩
    obtain rfl : j = ps.length := by omega
    have up : (i = 0 ∨ p_dr (p_ff ps i) (p_fz ps i) a3 a5 = false) → jT (B_6_dropLeast_128 k10 414 o (Int32.ofNat i) (p_ff ps i) (p_fz ps i) H) R := fun w => by
      unfold B_6_dropLeast_128 B_6_dropLeast_143
      rw [sR_414_2 hs, jo_nat (n := i) (by omega), e1i]
      exact jT_g k6 (jT_g (gA (sK_415 hs) (jo_in (by omega) (by omega))) (jT_l (jT_l (hk1 w))))
    unfold F_6_dropLeast_39 B_6_dropLeast_39
    rw [hA.1]
    refine jT_g k6 (jT_pos (by rw [jo_le (by omega) (by omega)]; exact Nat.le_refl _) ?_)
    by_cases c0 : i = 0
    · exact jT_pos (by rw [c0]; rfl) (up (Or.inl c0))
    · obtain ⟨y1, y2⟩ := h5 (by omega)
      have dr := z6_dearer (f := p_ff ps i) (s := p_fz ps i) (f' := a3) (s' := a5) (H := H) z1 y1 z3 y2
      refine jT_neg (fun w => c0 ((jo_eq (b := 0) (by omega) (by decide)).mp w)) ?_
      show jT (jb (F_6_isDearer (p_ff ps i) (p_fz ps i) a3 a5 H) _) _
      rw [dr, jb_ok]
      cases hd : p_dr (p_ff ps i) (p_fz ps i) a3 a5 with
      | false => exact jT_neg (fun w => w rfl) (up (Or.inr hd))
      | true =>
        unfold B_6_dropLeast_143
        rw [e1i]
        exact jT_pos (by decide) (jT_l (hk0 (by omega) hd))
  | succ d ih =>
    intro j fu hl hfu
    obtain ⟨fu, rfl⟩ : ∃ k, fu = k + 1 := ⟨fu - 1, by omega⟩
    have hj : j < ps.length := by omega
    obtain ⟨⟨row, s, len, hx⟩, hfee⟩ := hA.2 j _ (p_g_at hj)
    have hy := (hok.2.1 j _ (p_g_at hj)).1
    have l2 := hy.2.2
    have e1 : Int32.ofNat j + 1 = Int32.ofNat (j + 1) := jo_add (a := j) (b := 1)
    have nxt := ih (j + 1) fu (by omega) (by omega)
    unfold F_6_dropLeast_39 B_6_dropLeast_39 B_6_dropLeast_71 B_6_dropLeast_101
    rw [hA.1, sR_414_6 hs, sR_414_3 hs, sR_414_2 hs, jo_nat (n := j) (by omega), hfl j hj, hfee, hx.2.1.2.1, lo_of (by omega), e1]
    refine jT_g k6 (jT_neg (by rw [jo_le (by omega) (by omega)]; omega) (jT_g k6 (jT_g (gA (sK_418 hs) (jo_in (by omega) (by omega))) ?_)))
    cases hK : p_fh ps i j with
    | false =>
      have q1 : p_fs ps (p_fh ps i) (j + 1) = p_fs ps (p_fh ps i) j + 0 := by
        show _ + (if p_fh ps i j = true then _ else _) = _
        rw [hK, if_neg (by decide)]
      have q2 : p_sn ps (p_fh ps i) (j + 1) = p_sn ps (p_fh ps i) j + 0 := by
        show _ + (if p_fh ps i j = true then _ else _) = _
        rw [hK, if_neg (by decide)]
      rw [q1, q2] at nxt
      rw [show Int64.ofNat (p_sn ps (p_fh ps i) j + 0) = Int64.ofNat (p_sn ps (p_fh ps i) j) + 0 from Int64.ofNat_add _ _] at nxt
      exact jT_pos rfl (jT_l (jT_g k6 (jT_g (gA (sK_418 hs) (jo_in (by omega) (by omega))) (jT_pos rfl (jT_l (jT_l nxt))))))
    | true =>
      have q1 : p_fs ps (p_fh ps i) (j + 1) = p_fs ps (p_fh ps i) j + (p_g ps j).2 := by
        show _ + (if p_fh ps i j = true then _ else _) = _
        rw [hK, if_pos rfl]
      have q2 : p_sn ps (p_fh ps i) (j + 1) = p_sn ps (p_fh ps i) j + (p_g ps j).1.2.1.length := by
        show _ + (if p_fh ps i j = true then _ else _) = _
        rw [hK, if_pos rfl]
      rw [q1, q2, Int64.ofNat_add] at nxt
      exact jT_neg (by decide) (jT_g k6 (jT_g (gA (sK_416 hs) (jo_in (by omega) (by omega))) (jT_l (jT_g k6 (jT_g (gA (sK_418 hs) (jo_in (by omega) (by omega))) (jT_neg (by decide) (jT_g k6 (jT_g (gA (sK_415 hs) (jo_in (by omega) (by omega))) (jT_g hx.1.1 (jT_l (jT_l nxt)))))))))))
theorem z6_dropLeast {k : Int32 → jH → Option (α × jH)} (hs : jsh Hs) (hok : p_ok ps) (hA0 : p_PA ps Hs) (hn : 0 < ps.length) (ho : jR Hs 415 (ps.length - 1) = o) (hk : ∀ H', jsh H' → jfr p_TD Hs H' → p_PA (p_evi ps).1 H' → jT (k (p_ib (p_evi ps).2) H') Q) : jT (jb (F_6_dropLeast 414 o Hs) k) Q := by
  have l41 := hok.1
  have k6 : ∀ {H}, jsh H → (jK H 414).1 = 6 := fun hs => gT (sK_414 hs)
  have hno : ∀ i, i < ps.length - 1 → jR Hs 415 i ≠ o := fun i hi w => by
    obtain ⟨⟨row, s, len, hx⟩, -⟩ := hA0.2 i _ (p_g_at (by omega))
    obtain ⟨⟨row2, s2, len2, hx2⟩, -⟩ := hA0.2 (ps.length - 1) _ (p_g_at (by omega))
    rw [w] at hx
    rw [ho] at hx2
    obtain ⟨-, -, -, -, -, d2, d3, d4, -⟩ := hx
    obtain ⟨-, -, -, -, -, f2, f3, f4, -⟩ := hx2
    have : i = ps.length - 1 := hok.2.2 i (ps.length - 1) _ _ (p_g_at (by omega)) (p_g_at (by omega)) (List.ext_getElem? fun j => by
      by_cases hj : j < 32
      · have a1 := d3 j _ (getD_of (by omega))
        have a2 := f3 j _ (getD_of (by omega))
        rw [getD_of (l := (p_g ps i).1.1) (by omega), getD_of (l := (p_g ps (ps.length - 1)).1.1) (by omega), ← a1, ← a2]
      · rw [List.getElem?_eq_none (by omega), List.getElem?_eq_none (by omega)])
    omega
  have loop : ∀ (d i fu : Nat) (a2 : Nat) (a3 a5 : Int64) (H : jH), i + d = ps.length → d < fu → jsh H → jfr p_T418 Hs H → (0 < i → a2 = jR Hs 415 (p_lst ps i) ∧ a3 = p_ff ps (p_lst ps i) ∧ a5 = p_fz ps (p_lst ps i)) → jT (F_6_dropLeast_10 fu 414 o a2 a3 a5 (Int32.ofNat i) H) (fun v h => jT (k v h) Q) := by
    intro d
    induction d with
    | zero =>
      intro i fu a2 a3 a5 H hl hfu hs hf hm
      obtain ⟨fu, rfl⟩ : ∃ k, fu = k + 1 := ⟨fu - 1, by omega⟩
      obtain rfl : i = ps.length := by omega
      have hA := p_PA_418 hA0 hf
      have eR : ∀ j, jR H 415 j = jR Hs 415 j := fun j => jfr_R hf (by unfold p_T418; decide)
      obtain ⟨m1, -, -⟩ := hm hn
      have hL : p_lst ps ps.length < ps.length := by
        rcases p_lst_lt (ps := ps) (i := ps.length) with w | w
        · exact w
        · omega
      unfold F_6_dropLeast_10 B_6_dropLeast_10
      rw [hA.1, m1, ← eR]
      refine jT_g (k6 hs) (jT_pos (by rw [jo_le (by omega) (by omega)]; exact Nat.le_refl _) (jT_g (k6 hs) ?_))
      refine z6_kinOf hs hok hA hL fun H1 s1 f1 fl1 => ?_
      have f1' := jfr_trans hf f1
      have hA1 := p_PA_418 hA0 f1'
      have eR1 : ∀ j, jR H1 415 j = jR Hs 415 j := fun j => jfr_R f1' (by unfold p_T418; decide)
      have go := z6_163 (o := o) (R := fun v h => jT (k v h) Q) (K := p_fh ps (p_lst ps ps.length)) (Hs := H1) hok hA1 hn ((eR1 _).trans ho) (fun i hi => by rw [eR1]; exact hno i hi) fl1 (fun H' s' f' A' => hk H' s' (jfr_trans (jfr_mono f1' fun a j w => by unfold p_T418 at w; unfold p_TD; omega) f') A') ps.length 0 jfuel false H1 (Nat.zero_add _) (by unfold jfuel; omega) s1 jfr_refl (fun j e hj => by cases hj) (fun j _ => ⟨rfl, rfl⟩) ⟨fun w => (by cases w), fun w => by have := w.1; omega⟩
      exact go
    | succ d ih =>
      intro i fu a2 a3 a5 H hl hfu hs hf hm
      obtain ⟨fu, rfl⟩ : ∃ k, fu = k + 1 := ⟨fu - 1, by omega⟩
      have hi : i < ps.length := by omega
      have hA := p_PA_418 hA0 hf
      unfold F_6_dropLeast_10 B_6_dropLeast_10
      rw [hA.1, sR_414_2 hs, jo_nat (n := i) (by omega)]
      refine jT_g (k6 hs) (jT_neg (by rw [jo_le (by omega) (by omega)]; omega) (jT_g (k6 hs) (jT_g (gA (sK_415 hs) (jo_in (by omega) (by omega))) (jT_g (k6 hs) ?_))))
      refine z6_kinOf hs hok hA hi fun H1 s1 f1 fl1 => ?_
      have f1' := jfr_trans hf f1
      have hA1 := p_PA_418 hA0 f1'
      have eR1 : ∀ j, jR H1 415 j = jR Hs 415 j := fun j => jfr_R f1' (by unfold p_T418; decide)
      have hL : 0 < i → p_lst ps i < ps.length := fun q => by
        rcases p_lst_lt (ps := ps) (i := i) with w | w <;> omega
      refine z6_39 (R := fun v h => jT (k v h) Q) (o := o) (i := i) (H := H1) hok s1 hA1 hi fl1 (fun q => ?_) (fun w => ?_) (fun q w => ?_) ps.length 0 jfuel (Nat.zero_add _) (by unfold jfuel; omega)
      · obtain ⟨-, -, m3⟩ := hm q
        rw [m3]
        exact (p_fz_pos hok (hL q)).2
      · refine ih (i + 1) fu _ _ _ H1 (by omega) (by omega) s1 f1' fun _ => ?_
        have el : p_lst ps (i + 1) = i := by
          unfold p_lst
          by_cases c0 : i = 0
          · rw [if_pos c0, c0]
          · obtain ⟨-, m2, m3⟩ := hm (by omega)
            rw [if_neg c0, ← m2, ← m3]
            rcases w with w | w
            · exact absurd w c0
            · rw [w, if_neg (by decide)]
        rw [el]
        exact ⟨eR1 i, rfl, rfl⟩
      · refine ih (i + 1) fu _ _ _ H1 (by omega) (by omega) s1 f1' fun _ => ?_
        obtain ⟨m1, m2, m3⟩ := hm q
        have el : p_lst ps (i + 1) = p_lst ps i := by
          conv => lhs; unfold p_lst
          rw [if_neg (by omega), ← m2, ← m3, if_pos w]
        rw [el]
        exact ⟨m1, m2, m3⟩
  unfold F_6_dropLeast
  exact jT_b (loop ps.length 0 jfuel o 0 0 Hs (Nat.zero_add _) (by unfold jfuel; omega) hs jfr_refl fun w => absurd w (Nat.lt_irrefl 0))
end DL6
