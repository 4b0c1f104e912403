/-! The reference drops the family that pays least, whole. -/
def p_TE : Nat → Nat → Prop := fun a j => (496 ≤ a ∧ a ≤ 503) ∨ (a = 421 ∧ j = 36)
section EV2
variable {α : Type} {ps : List p_e} {Hs : jH}
theorem y18_175 {Q : Unit → jH → Prop} {K : Nat → Bool} (hok : p_ok ps) (hB0 : p_PB ps Hs) (hK0 : p_fl 503 ps.length K Hs) (hk : ∀ H', jsh H' → jfr p_TE Hs H' → p_PB (p_kp K 0 ps) H' → Q () H') :
    ∀ (d i fu : Nat) (H : jH), i + d = ps.length → d < fu → jsh H → jfr (fun a _ => 496 ≤ a ∧ a ≤ 502) Hs H → (∀ j e, (p_kp K 0 (ps.take i))[j]? = some e → p_eb e j H) → (∀ j, i ≤ j → j < ps.length → p_eb (p_g ps j) j H) → jT (F_18_evict_175 fu 421 (Int32.ofNat (p_kp K 0 (ps.take i)).length) (Int32.ofNat i) H) Q := by
  have l41 := hok.1
  have k18 : ∀ {H}, jsh H → (jK H 421).1 = 18 := fun hs => gT (sK_421 hs)
  intro d
  induction d with
  | zero =>
    intro i fu H hl hfu hs hf hp hr
    obtain ⟨fu, rfl⟩ : ∃ k, fu = k + 1 := ⟨fu - 1, by omega⟩
    obtain rfl : i = ps.length := by omega
    have e4 : jI H 421 36 = Int32.ofNat ps.length := (jfr_I hf (by omega)).trans hB0.1
    rw [List.take_of_length_le (Nat.le_refl _)] at hp ⊢
    unfold F_18_evict_175 B_18_evict_175
    rw [e4]
    refine jT_g (k18 hs) (jT_pos (by rw [jo_le (by omega) (by omega)]; exact Nat.le_refl _) (jT_g (k18 hs) (jT_l (jT_ret ?_))))
    have f4 : jfr (fun a j => a = 421 ∧ j = 36) H (jsI H 421 36 (Int32.ofNat (p_kp K 0 ps).length)) := jfr_sI jfr_refl ⟨rfl, rfl⟩
    refine hk _ (jsh_sI hs (by decide)) (jfr_trans (jfr_mono hf fun a j w => by unfold p_TE; omega) (jfr_mono f4 fun a j w => by unfold p_TE; omega)) ⟨jI_sIe, fun j e hj => ?_⟩
    obtain ⟨q, -, hq, -⟩ := p_kp_at hj
    exact p_eb_fr (hok.2.1 q e hq).1 (hok.2.1 q e hq).2 (hp j e hj) f4 fun a j w => Or.inl (by omega)
  | succ d ih =>
    intro i fu H hl hfu hs hf hp hr
    obtain ⟨fu, rfl⟩ : ∃ k, fu = k + 1 := ⟨fu - 1, by omega⟩
    have hi : i < ps.length := by omega
    have e4 : jI H 421 36 = Int32.ofNat ps.length := (jfr_I hf (by omega)).trans hB0.1
    have e8 : jI H 503 i = p_ib (K i) := (jfr_I hf (by omega)).trans (hK0 i hi)
    have e1 : Int32.ofNat i + 1 = Int32.ofNat (i + 1) := jo_add (a := i) (b := 1)
    have etk : ps.take (i + 1) = ps.take i ++ [p_g ps i] := by
      rw [List.take_succ, p_g_at hi]
      rfl
    have ekp : p_kp K 0 (ps.take (i + 1)) = p_kp K 0 (ps.take i) ++ if K i = true then [] else [p_g ps i] := by
      rw [etk, p_kp_snoc, List.length_take, Nat.zero_add, Nat.min_eq_left (by omega)]
    have lkp : (p_kp K 0 (ps.take i)).length ≤ i := by
      have := p_kp_len (K := K) (ps := ps.take i) (i := 0)
      rw [List.length_take] at this
      omega
    have okg : ∀ j, j < ps.length → w_ty (p_g ps j).1.2.1 (p_g ps j).1.2.2 ∧ (p_g ps j).1.1.length = 32 := fun j hj => hok.2.1 j _ (p_g_at hj)
    unfold F_18_evict_175 B_18_evict_175
    rw [e4, sR_421_44 hs, jo_nat (n := i) (by omega), e8]
    refine jT_g (k18 hs) (jT_neg (by rw [jo_le (by omega) (by omega)]; omega) (jT_g (k18 hs) (jT_g (gA (sK_503 hs) (jo_in (by omega) (by omega))) ?_)))
    cases hKi : K i with
    | false =>
      rw [hKi, if_neg (show ¬ (false = true) by decide)] at ekp
      refine jT_pos rfl ?_
      refine y18_mv (e := p_g ps i) (t := (p_kp K 0 (ps.take i)).length) (k := i) hs (okg i hi).1 (okg i hi).2 lkp (by omega) (hr i (Nat.le_refl i) hi) fun H1 s1 f1 m1 => ?_
      have elen : (p_kp K 0 (ps.take (i + 1))).length = (p_kp K 0 (ps.take i)).length + 1 := by
        rw [ekp, List.length_append]
        rfl
      rw [← elen]
      refine ih (i + 1) fu H1 (by omega) (by omega) s1 (jfr_trans hf (jfr_mono f1 fun a j w => by unfold p_Tm at w; omega)) (fun j e hj => ?_) fun j hj hj2 => ?_
      · rw [ekp] at hj
        by_cases cj : j < (p_kp K 0 (ps.take i)).length
        · rw [List.getElem?_append_left cj] at hj
          obtain ⟨q, -, hq, -⟩ := p_kp_at hj
          have hq2 : ps[q]? = some e := by
            rw [List.getElem?_take] at hq
            split at hq
            · exact hq
            · cases hq
          exact p_eb_fr (hok.2.1 q e hq2).1 (hok.2.1 q e hq2).2 (hp j e hj) f1 fun a j' w => Or.inr ⟨_, by omega, w⟩
        · have hjl := (List.getElem?_eq_some_iff.mp hj).1
          rw [List.length_append] at hjl
          have hjl2 : j < (p_kp K 0 (ps.take i)).length + 1 := hjl
          obtain rfl : j = (p_kp K 0 (ps.take i)).length := by omega
          rw [List.getElem?_append_right (Nat.le_refl _), Nat.sub_self] at hj
          have ee : p_g ps i = e := Option.some.inj hj
          rw [← ee]
          exact m1
      · exact p_eb_fr (okg j hj2).1 (okg j hj2).2 (hr j (by omega) hj2) f1 fun a j' w => Or.inr ⟨_, by omega, w⟩
    | true =>
      rw [hKi, if_pos rfl, List.append_nil] at ekp
      unfold B_18_evict_406
      rw [e1, ← ekp]
      exact jT_neg (by decide) (jT_l (ih (i + 1) fu H (by omega) (by omega) hs hf (fun j e hj => hp j e (ekp ▸ hj)) fun j hj hj2 => hr j (by omega) hj2))
/-- marking the family of one in the pool -/
theorem y18_kinOf {Q : α → jH → Prop} {k : Unit → jH → Option (α × jH)} {h : Nat} (hs : jsh Hs) (hok : p_ok ps) (hB : p_PB ps Hs) (hh : h < ps.length) (hk : ∀ H', jsh H' → jfr p_T503 Hs H' → p_fl 503 ps.length (p_fh ps h) (jsI H' 503 h 1) → jT (k () H') Q) : jT (jb (F_18_family 421 498 (Int32.ofNat (32 * h)) Hs) k) Q := by
  have l41 := hok.1
  refine y18_family (S := fun i => p_hg ps i h) hs hok hB (sK_498 hs) (by decide) (by omega) (by decide) (hB.2 h _ (p_g_at hh)).1.2.2.1 (hok.2.1 h _ (p_g_at hh)).2 (fun i hi => rfl) fun H' hs' hf' hfl' => hk H' hs' hf' fun i hi => ?_
  unfold p_fh
  by_cases c : i = h
  · rw [c, decide_eq_true rfl, Bool.true_or]
    exact jI_sIe
  · rw [decide_eq_false c, Bool.false_or]
    exact (jI_sIn c).trans (hfl' i hi)
/-- the sums of one family, and whether it is taken -/
theorem y18_49 {R : Unit → jH → Prop} {k10 : Nat → Int32 → Int64 → Int64 → Int32 → jH → Option (Unit × jH)} {i : Nat} {a1 : Int32} {a2 a4 : Int64} {H : jH} (hok : p_ok ps) (hs : jsh H) (hB : p_PB ps H) (hi : i < ps.length) (hfl : p_fl 503 ps.length (p_fh ps i) H) (h0 : a1 < 0 ↔ i = 0) (h5 : 0 < i → ¬ a4 = 0)
    (hk1 : (i = 0 ∨ p_dr (p_ff ps i) (p_fz ps i) a2 a4 = false) → jT (k10 421 (Int32.ofNat i) (p_ff ps i) (p_fz ps i) (Int32.ofNat (i + 1)) H) R) (hk0 : 0 < i → p_dr (p_ff ps i) (p_fz ps i) a2 a4 = true → jT (k10 421 a1 a2 a4 (Int32.ofNat (i + 1)) H) R) :
    ∀ (d j fu : Nat), j + d = ps.length → d < fu → jT (F_18_evict_49 k10 fu 421 a1 a2 a4 (Int32.ofNat i) (p_fs ps (p_fh ps i) j) (Int64.ofNat (p_sn ps (p_fh ps i) j)) (Int32.ofNat j) H) R := by
  have l41 := hok.1
  have k6 : (jK H 421).1 = 18 := gT (sK_421 hs)
  have e1i : Int32.ofNat i + 1 = Int32.ofNat (i + 1) := jo_add (a := i) (b := 1)
  obtain ⟨z1, z2, z3⟩ := p_fz_pos hok hi
  intro d
  induction d with
  | zero =>
    intro j fu hl hfu
    obtain ⟨fu, rfl⟩ : ∃ k, fu = k + 1 := ⟨fu - 1, by omega⟩
    obtain rfl : j = ps.length := by omega
    have up : (i = 0 ∨ p_dr (p_ff ps i) (p_fz ps i) a2 a4 = false) → jT (B_18_evict_134 k10 421 (Int32.ofNat i) (p_ff ps i) (p_fz ps i) H) R := fun w => by
      unfold B_18_evict_134 B_18_evict_144
      rw [e1i]
      exact jT_l (hk1 w)
    unfold F_18_evict_49 B_18_evict_49
    rw [hB.1]
    refine jT_g k6 (jT_pos (by rw [jo_le (by omega) (by omega)]; exact Nat.le_refl _) ?_)
    by_cases c0 : i = 0
    · exact jT_pos (h0.mpr c0) (up (Or.inl c0))
    · obtain ⟨v, dr, dv⟩ := y18_compare (f := p_ff ps i) (s := p_fz ps i) (f' := a2) (s' := a4) (H := H) z3 (h5 (by omega))
      refine jT_neg (fun w => c0 (h0.mp w)) ?_
      show jT (jb (F_18_compare (p_ff ps i) (p_fz ps i) a2 a4 H) _) _
      rw [dr, jb_ok]
      cases hd : p_dr (p_ff ps i) (p_fz ps i) a2 a4 with
      | false => exact jT_neg (fun w => by have := dv.mp w; rw [hd] at this; cases this) (up (Or.inr hd))
      | true =>
        unfold B_18_evict_144
        rw [e1i]
        exact jT_pos (dv.mpr hd) (jT_l (hk0 (by omega) hd))
  | succ d ih =>
    intro j fu hl hfu
    obtain ⟨fu, rfl⟩ : ∃ k, fu = k + 1 := ⟨fu - 1, by omega⟩
    have hj : j < ps.length := by omega
    obtain ⟨⟨-, hsz, -, hfee⟩, -⟩ := hB.2 j _ (p_g_at hj)
    have hy := (hok.2.1 j _ (p_g_at hj)).1
    have l2 := hy.2.2
    have e1 : Int32.ofNat j + 1 = Int32.ofNat (j + 1) := jo_add (a := j) (b := 1)
    have nxt := ih (j + 1) fu (by omega) (by omega)
    unfold F_18_evict_49 B_18_evict_49 B_18_evict_81 B_18_evict_108
    rw [hB.1, sR_421_44 hs, sR_421_40 hs, sR_421_38 hs, jo_nat (n := j) (by omega), hfl j hj, hfee, hsz, lo_of (by omega), e1]
    refine jT_g k6 (jT_neg (by rw [jo_le (by omega) (by omega)]; omega) (jT_g k6 (jT_g (gA (sK_503 hs) (jo_in (by omega) (by omega))) ?_)))
    cases hK : p_fh ps i j with
    | false =>
      have q1 : p_fs ps (p_fh ps i) (j + 1) = p_fs ps (p_fh ps i) j + 0 := by
        show _ + (if p_fh ps i j = true then _ else _) = _
        rw [hK, if_neg (by decide)]
      have q2 : p_sn ps (p_fh ps i) (j + 1) = p_sn ps (p_fh ps i) j + 0 := by
        show _ + (if p_fh ps i j = true then _ else _) = _
        rw [hK, if_neg (by decide)]
      rw [q1, q2] at nxt
      rw [show Int64.ofNat (p_sn ps (p_fh ps i) j + 0) = Int64.ofNat (p_sn ps (p_fh ps i) j) + 0 from Int64.ofNat_add _ _] at nxt
      exact jT_pos rfl (jT_l (jT_g k6 (jT_g (gA (sK_503 hs) (jo_in (by omega) (by omega))) (jT_pos rfl (jT_l (jT_l nxt))))))
    | true =>
      have q1 : p_fs ps (p_fh ps i) (j + 1) = p_fs ps (p_fh ps i) j + (p_g ps j).2 := by
        show _ + (if p_fh ps i j = true then _ else _) = _
        rw [hK, if_pos rfl]
      have q2 : p_sn ps (p_fh ps i) (j + 1) = p_sn ps (p_fh ps i) j + (p_g ps j).1.2.1.length := by
        show _ + (if p_fh ps i j = true then _ else _) = _
        rw [hK, if_pos rfl]
      rw [q1, q2, Int64.ofNat_add] at nxt
      exact jT_neg (by decide) (jT_g k6 (jT_g (gA (sK_499 hs) (jo_in (by omega) (by omega))) (jT_l (jT_g k6 (jT_g (gA (sK_503 hs) (jo_in (by omega) (by omega))) (jT_neg (by decide) (jT_g k6 (jT_g (gA (sK_497 hs) (jo_in (by omega) (by omega))) (jT_l (jT_l nxt))))))))))
theorem y18_evict {Q : α → jH → Prop} {k : Unit → jH → Option (α × jH)} (hs : jsh Hs) (hok : p_ok ps) (hB0 : p_PB ps Hs) (hn : 0 < ps.length) (hk : ∀ H', jsh H' → jfr p_TE Hs H' → p_PB (p_evi ps).1 H' → jT (k () H') Q) : jT (jb (F_18_evict 421 Hs) k) Q := by
  have l41 := hok.1
  have k6 : ∀ {H}, jsh H → (jK H 421).1 = 18 := fun hs => gT (sK_421 hs)
  have loop : ∀ (d i fu : Nat) (a1 : Int32) (a2 a4 : Int64) (H : jH), i + d = ps.length → d < fu → jsh H → jfr p_T503 Hs H → (a1 < 0 ↔ i = 0) → (0 < i → a1 = Int32.ofNat (p_lst ps i) ∧ a2 = p_ff ps (p_lst ps i) ∧ a4 = p_fz ps (p_lst ps i)) → jT (F_18_evict_10 fu 421 a1 a2 a4 (Int32.ofNat i) H) (fun v h => jT (k v h) Q) := by
    intro d
    induction d with
    | zero =>
      intro i fu a1 a2 a4 H hl hfu hs hf h0 hm
      obtain ⟨fu, rfl⟩ : ∃ k, fu = k + 1 := ⟨fu - 1, by omega⟩
      obtain rfl : i = ps.length := by omega
      have hB := p_PB_503 hB0 hf
      obtain ⟨m1, -, -⟩ := hm hn
      have hL : p_lst ps ps.length < ps.length := by
        rcases p_lst_lt (ps := ps) (i := ps.length) with w | w
        · exact w
        · omega
      unfold F_18_evict_10 B_18_evict_10
      rw [hB.1, m1, sR_421_39 hs, p_e32]
      refine jT_g (k6 hs) (jT_pos (by rw [jo_le (by omega) (by omega)]; exact Nat.le_refl _) (jT_g (k6 hs) (jT_g (k6 hs) ?_)))
      refine y18_kinOf hs hok hB hL fun H1 s1 f1 fl1 => ?_
      have f1' := jfr_trans hf f1
      rw [sR_421_44 s1, jo_nat (n := p_lst ps ps.length) (by omega)]
      refine jT_g (k6 s1) (jT_g (gA (sK_503 s1) (jo_in (by omega) (by omega))) (jT_l ?_))
      have s2 : jsh (jsI H1 503 (p_lst ps ps.length) (1 &&& 1)) := jsh_sI s1 (by decide)
      have f2 : jfr p_T503 Hs (jsI H1 503 (p_lst ps ps.length) (1 &&& 1)) := jfr_sI f1' rfl
      have hB2 := p_PB_503 hB0 f2
      exact y18_175 (Q := fun v h => jT (k v h) Q) (K := p_fh ps (p_lst ps ps.length)) hok hB2 fl1 (fun H' s' f' B' => hk H' s' (jfr_trans (jfr_mono f2 fun a j w => by unfold p_T503 at w; unfold p_TE; omega) f') B') ps.length 0 jfuel _ (Nat.zero_add _) (by unfold jfuel; omega) s2 jfr_refl (fun j e hj => by cases hj) fun j _ hj => hB2.2 j _ (p_g_at hj)
    | succ d ih =>
      intro i fu a1 a2 a4 H hl hfu hs hf h0 hm
      obtain ⟨fu, rfl⟩ : ∃ k, fu = k + 1 := ⟨fu - 1, by omega⟩
      have hi : i < ps.length := by omega
      have hB := p_PB_503 hB0 hf
      unfold F_18_evict_10 B_18_evict_10
      rw [hB.1, sR_421_39 hs, p_e32]
      refine jT_g (k6 hs) (jT_neg (by rw [jo_le (by omega) (by omega)]; omega) (jT_g (k6 hs) (jT_g (k6 hs) ?_)))
      refine y18_kinOf hs hok hB hi fun H1 s1 f1 fl1 => ?_
      have f1' := jfr_trans hf f1
      rw [sR_421_44 s1, jo_nat (n := i) (by omega)]
      refine jT_g (k6 s1) (jT_g (gA (sK_503 s1) (jo_in (by omega) (by omega))) (jT_l ?_))
      have s2 : jsh (jsI H1 503 i (1 &&& 1)) := jsh_sI s1 (by decide)
      have f2 : jfr p_T503 Hs (jsI H1 503 i (1 &&& 1)) := jfr_sI f1' rfl
      have hB2 := p_PB_503 hB0 f2
      have hL : 0 < i → p_lst ps i < ps.length := fun q => by
        rcases p_lst_lt (ps := ps) (i := i) with w | w <;> omega
      refine y18_49 (R := fun v h => jT (k v h) Q) (i := i) (H := jsI H1 503 i (1 &&& 1)) hok s2 hB2 hi fl1 h0 (fun q => ?_) (fun w => ?_) (fun q w => ?_) ps.length 0 jfuel (Nat.zero_add _) (by unfold jfuel; omega)
      · obtain ⟨-, -, m3⟩ := hm q
        rw [m3]
        exact (p_fz_pos hok (hL q)).2.2
      · refine ih (i + 1) fu _ _ _ _ (by omega) (by omega) s2 f2 ⟨fun q => absurd q (by rw [show (0 : Int32) = Int32.ofNat 0 from rfl, jo_lt (by omega) (by decide)]; omega), fun q => absurd q (by omega)⟩ fun _ => ?_
        have el : p_lst ps (i + 1) = i := by
          unfold p_lst
          by_cases c0 : i = 0
          · rw [if_pos c0, c0]
          · obtain ⟨-, m2, m3⟩ := hm (by omega)
            rw [if_neg c0, ← m2, ← m3]
            rcases w with w | w
            · exact absurd w c0
            · rw [w, if_neg (by decide)]
        rw [el]
        exact ⟨rfl, rfl, rfl⟩
      · refine ih (i + 1) fu _ _ _ _ (by omega) (by omega) s2 f2 ⟨fun q2 => by have := h0.mp q2; omega, fun q2 => absurd q2 (by omega)⟩ fun _ => ?_
        obtain ⟨m1, m2, m3⟩ := hm q
        have el : p_lst ps (i + 1) = p_lst ps i := by
          conv => lhs; unfold p_lst
          rw [if_neg (by omega), ← m2, ← m3, if_pos w]
        rw [el]
        exact ⟨m1, m2, m3⟩
  unfold F_18_evict
  exact jT_b (loop ps.length 0 jfuel (-1) 0 1 Hs (Nat.zero_add _) (by unfold jfuel; omega) hs jfr_refl ⟨fun _ => rfl, fun _ => by decide⟩ fun w => absurd w (Nat.lt_irrefl 0))
end EV2
