/-! What a transaction that comes spends: coins, or outputs of those that wait. The class. -/
def p_cf (cs : List w_cn) (ps : List p_e) (x : b_t) (i : Nat) : Option (w_cn × Bool) :=
  match w_cf cs x.2.1 x.2.2 i with
  | some c => some (c, true)
  | none => match p_fi ps (w_in1 x.2.1 x.2.2 i) with
    | some k => if w_in2 x.2.1 x.2.2 i < (p_g ps k).1.2.2.2.1.length then some (((p_g ps k).1.1, w_in2 x.2.1 x.2.2 i, (p_g ps k).1.2.1, (p_g ps k).1.2.2, 0), false) else none
    | none => none
theorem p_cf_pool {cs : List w_cn} {ps : List p_e} {x : b_t} {i k : Nat} {e : p_e} (hcf : w_cf cs x.2.1 x.2.2 i = none) (hpk : p_fi ps (w_in1 x.2.1 x.2.2 i) = some k) (eg : p_g ps k = e) : p_cf cs ps x i = if w_in2 x.2.1 x.2.2 i < e.1.2.2.2.1.length then some ((e.1.1, w_in2 x.2.1 x.2.2 i, e.1.2.1, e.1.2.2, 0), false) else none := by
  subst eg
  unfold p_cf
  rw [hcf, hpk]
def p_tt (cs : List w_cn) (ps : List p_e) (x : b_t) : Nat → Int64
  | 0 => 0
  | i + 1 => p_tt cs ps x i + (match p_cf cs ps x i with
    | some q => w_cv q.1
    | none => 0)
def p_un (ht : Int32) (q : w_cn × Bool) : Prop := q.2 = true ∧ w_unr ht q.1
/-- 7, 8, 9 or nothing -/
noncomputable def p_jd (ht : Int32) (cs : List w_cn) (ps : List p_e) (x : b_t) : Int32 :=
  b_if (∃ i, i < x.2.2.1.length ∧ p_cf cs ps x i = none) 7 (b_if (∃ i q, i < x.2.2.1.length ∧ p_cf cs ps x i = some q ∧ p_un ht q) 8 (if w_sum x.2.1 x.2.2 ≤ p_tt cs ps x x.2.2.1.length then 0 else 9))
theorem jRs_419 : ∀ q ∈ jRs, q.1 ≠ 419 := by decide +kernel
def p_T6 : Nat → Nat → Prop := fun a j => a = 419 ∨ a = 420 ∨ (a = 414 ∧ j = 9)
def p_mkr (cs : List w_cn) (ps : List p_e) (x : b_t) (H : jH) (j : Nat) : Prop := ∃ q, p_cf cs ps x j = some q ∧ w_cok q.1 ∧ jI H 420 j = Int32.ofNat q.1.2.1 ∧ ∃ row s len, w_x (jR H 419 j) row s len q.1.2.2.1 q.1.2.2.2.1 q.1.1 H
theorem z2_maker {cs : List w_cn} {H : jH} (hs : jsh H) (h : w_CA cs H) {k : Nat} (hk : k < cs.length) : F_2_maker 392 (Int32.ofNat k) H = some (jR H 393 k, H) := by
  have k2 : (jK H 392).1 = 2 := gT (sK_392 hs)
  have hl := h.2.1
  unfold F_2_maker B_2_maker_22
  rw [if_neg (by rw [show (0 : Int32) = Int32.ofNat 0 from rfl, jo_lt (by omega) (by decide)]; omega), jg_t k2, h.1, if_pos (by rw [jo_lt (by omega) (by omega)]; exact hk), jg_t k2, sR_392_0 hs, jg_t (gA (sK_393 hs) (jo_in (by omega) (by omega))), jo_nat (n := k) (by omega)]
theorem z2_unripe_no {ht : Int32} {H : jH} : F_2_isUnripe 392 (-1) ht H = some (0, H) := by
  unfold F_2_isUnripe B_2_isUnripe_41 B_2_isUnripe_42
  rw [if_pos (by decide), jg_t (Or.inl rfl)]
section TK6
variable {cs : List w_cn} {ps : List p_e} {x : b_t} {Hs : jH} {o row s len : Nat} {ht : Int32}
theorem p_CA_6 {H H' : jH} (h : w_CA cs H) (hf : jfr p_T6 H H') : w_CA cs H' := w_CA_fr h hf fun a j w => by unfold p_T6 at w; omega
theorem p_PA_6 {H H' : jH} (h : p_PA ps H) (hf : jfr p_T6 H H') : p_PA ps H' := p_PA_fr h hf fun a j w => by unfold p_T6 at w; omega
theorem z6_take10 {Q : Int32 → jH → Prop} (hok : p_ok ps) (hy : w_ty x.2.1 x.2.2) (hx0 : w_x o row s len x.2.1 x.2.2 x.1 Hs) (hC0 : w_CA cs Hs) (hA0 : p_PA ps Hs)
    (hk : ∀ v H', v = p_jd ht cs ps x → jsh H' → jfr p_T6 Hs H' → (v = 0 → jL H' 414 9 = p_tt cs ps x x.2.2.1.length ∧ ∀ j, j < x.2.2.1.length → p_mkr cs ps x H' j) → Q v H') :
    ∀ (d i fu : Nat) (u : Bool) (H : jH), i + d = x.2.2.1.length → d < fu → jsh H → jfr p_T6 Hs H → (∀ j, j < i → p_mkr cs ps x H j) → (u = true ↔ ∃ j q, j < i ∧ p_cf cs ps x j = some q ∧ p_un ht q) → jL H 414 9 = p_tt cs ps x i → jT (F_6_take_10 fu 414 o ht (p_ib u) (Int32.ofNat i) H) Q := by
  have l41 := hok.1
  have l8 : x.2.2.1.length ≤ 8 := (ztx_spec hy.1).1
  have n5 : ∀ a j, 422 ≤ a → ¬ p_T6 a j := fun a j q w => by unfold p_T6 at w; omega
  have t2000 := hy.2.2
  have k6 : ∀ {H}, jsh H → (jK H 414).1 = 6 := fun hs => gT (sK_414 hs)
  have k2 : ∀ {H}, jsh H → (jK H 392).1 = 2 := fun hs => gT (sK_392 hs)
  intro d
  induction d with
  | zero =>
    intro i fu u H hi hfu hs hf hm hu ht8
    obtain ⟨fu, rfl⟩ : ∃ k, fu = k + 1 := ⟨fu - 1, by omega⟩
    obtain rfl : i = x.2.2.1.length := by omega
    have hx := w_x_jfr hx0 hf n5
    have k10 := hx.1.1
    have e6 := hx.2.2.2.2.2.2.2.2.1
    obtain ⟨-, ⟨b1, b2, b3, b4, -⟩, -⟩ := hx
    have hall : ¬ ∃ i, i < x.2.2.1.length ∧ p_cf cs ps x i = none := fun ⟨i, hi2, q⟩ => by
      obtain ⟨c, hc, -⟩ := hm i hi2
      rw [hc] at q
      cases q
    unfold F_6_take_10 B_6_take_10 B_6_take_168 B_6_take_195
    rw [b3, b4, e6, ht8]
    refine jT_g k10 (jT_g rfl (jT_pos (by show Int32.ofNat x.2.2.1.length ≤ Int32.ofNat x.2.2.1.length; rw [jo_le (by omega) (by omega)]; exact Nat.le_refl _) ?_))
    cases u with
    | true =>
      obtain ⟨j, c, h1, h2, h3⟩ := hu.mp rfl
      refine jT_neg (by decide) (jT_ret (hk 8 H ?_ hs hf fun w => absurd w (by decide)))
      unfold p_jd
      rw [b_neg hall, b_pos ⟨j, c, h1, h2, h3⟩]
    | false =>
      have hnu : ¬ ∃ i q, i < x.2.2.1.length ∧ p_cf cs ps x i = some q ∧ p_un ht q := fun ⟨i, c, h1, h2, h3⟩ => by
        have := hu.mpr ⟨i, c, h1, h2, h3⟩
        cases this
      refine jT_pos rfl (jT_g k10 (jT_g (k6 hs) ?_))
      by_cases q : w_sum x.2.1 x.2.2 ≤ p_tt cs ps x x.2.2.1.length
      · refine jT_pos q (jT_ret (hk 0 H ?_ hs hf fun _ => ⟨ht8, hm⟩))
        unfold p_jd
        rw [b_neg hall, b_neg hnu, if_pos q]
      · refine jT_neg q (jT_ret (hk 9 H ?_ hs hf fun w => absurd w (by decide)))
        unfold p_jd
        rw [b_neg hall, b_neg hnu, if_neg q]
  | succ d ih =>
    intro i fu u H hi hfu hs hf hm hu ht8
    obtain ⟨fu, rfl⟩ : ∃ k, fu = k + 1 := ⟨fu - 1, by omega⟩
    have hii : i < x.2.2.1.length := by omega
    have hx := w_x_jfr hx0 hf n5
    have hCA := p_CA_6 hC0 hf
    have hA := p_PA_6 hA0 hf
    have eix := z10_indexx hs hy hx hii
    have k10 := hx.1.1
    have e1' : Int32.ofNat i + 1 = Int32.ofNat (i + 1) := jo_add (a := i) (b := 1)
    obtain ⟨z1, z2, z3⟩ := p_in1 hy hx hii
    obtain ⟨⟨a1, a2, a3, a4, a5, a6⟩, ⟨b1, b2, b3, b4, -⟩, c1, -⟩ := hx
    have lix : w_in2 x.2.1 x.2.2 i < 4294967296 := zho_lt _ _ 4
    have hfd := z2_find hs hCA a3 (by omega) z3 z1 z2 lix
    have hpf := z6_find hs hA hok a3 (by omega) z3 z1 z2
    have hcn := hCA.2.1
    have no : p_cf cs ps x i = none → Q 7 H := fun hc => hk 7 H (by unfold p_jd; rw [b_pos ⟨i, hii, hc⟩]) hs hf fun w => absurd w (by decide)
    have put : ∀ (s0 : Nat) (a6 : Int32) (q : w_cn × Bool) (v : Int32), p_cf cs ps x i = some q → w_cok q.1 → (∃ row s len, w_x s0 row s len q.1.2.2.1 q.1.2.2.2.1 q.1.1 H) → q.1.2.1 = w_in2 x.2.1 x.2.2 i → F_2_isUnripe 392 a6 ht H = some (v, H) → (v = 1 ∧ p_un ht q ∨ v = 0 ∧ ¬ p_un ht q) → jT (B_6_take_89 (F_6_take_10 fu) 414 o ht (p_ib u) (Int32.ofNat i) (Int32.ofNat (w_in2 x.2.1 x.2.2 i)) a6 s0 H) Q := fun s0 a6 q v hq ok hxs eq ev hv => by
      obtain ⟨rw', s', len', hxk⟩ := hxs
      have h513 : 422 ≤ s0 := hxk.2.2.2.2.2.2.2.2.2.2.1
      have lo : q.1.2.1 < q.1.2.2.2.1.2.1.length := ok.2.2
      have lo8 : q.1.2.2.2.1.2.1.length ≤ 8 := (ztx_spec ok.2.1.1).2.1
      unfold B_6_take_89
      rw [← eq, sR_414_0 hs, ev, hxk.2.1.2.2.2.2.1, hxk.2.1.2.2.2.2.2]
      refine jT_neg (show ¬ s0 = 0 by omega) (jT_neg (by rw [show (0 : Int32) = Int32.ofNat 0 from rfl, jo_lt (by omega) (by decide)]; omega) (jT_g hxk.1.1 (jT_g rfl (jT_pos (by show Int32.ofNat _ < Int32.ofNat _; rw [jo_lt (by omega) (by omega)]; exact lo) (jT_g (k6 hs) (jT_g (k2 hs) ?_))))))
      rw [jb_ok, sR_414_7 hs, jo_nat (n := i) (by omega)]
      refine jT_l (jT_g (k6 hs) (jT_g ⟨gT (sK_419 hs), by rw [sK_419 hs]; exact jo_in (by omega) (by show i < 8; omega), Or.inr hxk.1.1⟩ (jT_l ?_)))
      have s1 : jsh (jsR H 419 i s0) := jsh_sRn hs jRs_419
      have r1 : jR (jsR H 419 i s0) 419 i = s0 := jR_sRe
      have ro1 : ∀ j, j ≠ i → jR (jsR H 419 i s0) 419 j = jR H 419 j := fun j hj => jR_sRn hj
      have f1 : jfr p_T6 H (jsR H 419 i s0) := jfr_sR jfr_refl (Or.inl rfl)
      have v8 : jL (jsR H 419 i s0) 414 9 = p_tt cs ps x i := ht8
      have iI : ∀ a j, jI (jsR H 419 i s0) a j = jI H a j := fun a j => rfl
      generalize jsR H 419 i s0 = H1 at *
      rw [sR_414_8 s1]
      refine jT_g (k6 s1) (jT_g (gIw (sK_420 s1) (by decide) (jo_in (by omega) (by omega))) (jT_l ?_))
      have s2 : jsh (jsI H1 420 i (Int32.ofNat q.1.2.1)) := jsh_sI s1 (by decide)
      have r2 : ∀ j, jR (jsI H1 420 i (Int32.ofNat q.1.2.1)) 419 j = jR H1 419 j := fun j => rfl
      have i2 : jI (jsI H1 420 i (Int32.ofNat q.1.2.1)) 420 i = Int32.ofNat q.1.2.1 := jI_sIe
      have io2 : ∀ j, j ≠ i → jI (jsI H1 420 i (Int32.ofNat q.1.2.1)) 420 j = jI H 420 j := fun j hj => (jI_sIn hj).trans (iI 420 j)
      have f2 : jfr p_T6 H (jsI H1 420 i (Int32.ofNat q.1.2.1)) := jfr_sI f1 (Or.inr (Or.inl rfl))
      have v82 : jL (jsI H1 420 i (Int32.ofNat q.1.2.1)) 414 9 = p_tt cs ps x i := v8
      generalize jsI H1 420 i (Int32.ofNat q.1.2.1) = H2 at *
      have hxk2 := w_x_jfr hxk f2 n5
      have ew : F_10_worth s0 (Int32.ofNat q.1.2.1) H2 = some (w_cv q.1, H2) := z10_worthx s2 ok.2.1 hxk2 lo
      rw [ew, v82]
      refine jT_g (k6 s2) (jT_g hxk2.1.1 ?_)
      rw [jb_ok]
      have etot : p_tt cs ps x (i + 1) = p_tt cs ps x i + w_cv q.1 := by
        rw [p_tt, hq]
      rw [← etot, e1']
      have s3 : jsh (jsL H2 414 9 (p_tt cs ps x (i + 1))) := jsh_sL s2
      have f3 : jfr p_T6 H (jsL H2 414 9 (p_tt cs ps x (i + 1))) := jfr_sL f2 (Or.inr (Or.inr ⟨rfl, rfl⟩))
      have r3 : ∀ j, jR (jsL H2 414 9 (p_tt cs ps x (i + 1))) 419 j = jR H2 419 j := fun j => rfl
      have i3 : ∀ j, jI (jsL H2 414 9 (p_tt cs ps x (i + 1))) 420 j = jI H2 420 j := fun j => rfl
      have v83 : jL (jsL H2 414 9 (p_tt cs ps x (i + 1))) 414 9 = p_tt cs ps x (i + 1) := jL_sLe
      refine jT_g (k6 s2) (jT_l (jT_l ?_))
      generalize jsL H2 414 9 (p_tt cs ps x (i + 1)) = H3 at *
      have hor : ∀ u' : Bool, u' = (u || decide (v = 1)) → (p_ib u ||| v) = p_ib u' := fun u' e => by
        rcases hv with ⟨rfl, -⟩ | ⟨rfl, -⟩
        · rw [e]
          cases u <;> decide
        · rw [e]
          cases u <;> decide
      rw [hor _ rfl]
      refine ih (i + 1) fu _ H3 (by omega) (by omega) s3 (jfr_trans hf f3) (fun j hj => ?_) ?_ v83
      · by_cases qj : j = i
        · subst qj
          refine ⟨q, hq, ok, (i3 j).trans i2, rw', s', len', ?_⟩
          rw [r3, r2, r1]
          exact w_x_jfr hxk f3 n5
        · obtain ⟨c', g1, g2, g3, row2, s2', len2, g4⟩ := hm j (by omega)
          refine ⟨c', g1, g2, (i3 j).trans ((io2 j qj).trans g3), row2, s2', len2, ?_⟩
          rw [r3, r2, ro1 j qj]
          exact w_x_jfr g4 f3 n5
      · rw [Bool.or_eq_true, decide_eq_true_eq, hu]
        constructor
        · rintro (⟨j, c', h1, h2, h3⟩ | h1)
          · exact ⟨j, c', by omega, h2, h3⟩
          · rcases hv with ⟨-, w⟩ | ⟨rfl, -⟩
            · exact ⟨i, q, by omega, hq, w⟩
            · exact absurd h1 (by decide)
        · rintro ⟨j, c', h1, h2, h3⟩
          by_cases qj : j = i
          · rw [qj, hq] at h2
            rw [← Option.some.inj h2] at h3
            rcases hv with ⟨rfl, -⟩ | ⟨-, w⟩
            · exact Or.inr rfl
            · exact absurd h3 w
          · exact Or.inl ⟨j, c', by omega, h2, h3⟩
    unfold F_6_take_10 B_6_take_10
    rw [b3, b4, jo_nat (n := i) (by omega), eix]
    refine jT_g k10 (jT_g rfl (jT_neg (by show ¬ Int32.ofNat x.2.2.1.length ≤ Int32.ofNat i; rw [jo_le (by omega) (by omega)]; omega) (jT_neg (by rw [show (8 : Int32) = Int32.ofNat 8 from rfl, jo_le (by decide) (by omega)]; omega) (jT_g k10 ?_))))
    rw [jb_ok, sR_414_0 hs, b3, b4, c1 i hii, a2, hfd]
    refine jT_g (k6 hs) (jT_g k10 (jT_g k10 (jT_g ⟨rfl, jo_in (by omega) hii⟩ (jT_g (k2 hs) ?_))))
    rw [jb_ok]
    cases hfk : w_fd cs (w_in1 x.2.1 x.2.2 i) (w_in2 x.2.1 x.2.2 i) 0 with
    | none =>
      have hcf := w_cf_none.mpr hfk
      rw [b3, b4, c1 i hii, a2, hpf]
      refine jT_pos (by decide) (jT_g k10 (jT_g k10 (jT_g ⟨rfl, jo_in (by omega) hii⟩ (jT_g (k6 hs) ?_))))
      rw [jb_ok]
      cases hpk : p_fi ps (w_in1 x.2.1 x.2.2 i) with
      | none =>
        have hq : p_cf cs ps x i = none := by
          unfold p_cf
          rw [hcf, hpk]
        unfold B_6_take_89 B_6_take_112
        exact jT_pos rfl (jT_ret (no hq))
      | some k =>
        obtain ⟨hkl, e, he, en⟩ := p_fi_some hpk
        have eg := p_g_of he
        obtain ⟨hye, h32⟩ := hok.2.1 k e he
        have lo8 : e.1.2.2.2.1.length ≤ 8 := (ztx_spec hye.1).2.1
        obtain ⟨⟨rw', s', len', hxk⟩, -⟩ := hA.2 k e he
        have h513 : 422 ≤ jR H 415 k := hxk.2.2.2.2.2.2.2.2.2.2.1
        by_cases q : w_in2 x.2.1 x.2.2 i < e.1.2.2.2.1.length
        · have hq : p_cf cs ps x i = some ((e.1.1, w_in2 x.2.1 x.2.2 i, e.1.2.1, e.1.2.2, 0), false) := by
            rw [p_cf_pool hcf hpk eg]
            exact if_pos q
          exact put (jR H 415 k) (-1) _ 0 hq ⟨h32, hye, q⟩ ⟨rw', s', len', hxk⟩ rfl z2_unripe_no (Or.inr ⟨rfl, fun w => by cases w.1⟩)
        · have hq : p_cf cs ps x i = none := by
            rw [p_cf_pool hcf hpk eg]
            exact if_neg q
          unfold B_6_take_89 B_6_take_112
          refine jT_neg (show ¬ p_oo H (some k) = 0 from fun w => by have w2 : jR H 415 k = 0 := w; omega) ?_
          by_cases q2 : 2147483648 ≤ w_in2 x.2.1 x.2.2 i
          · exact jT_pos ((p_neg lix).mpr q2) (jT_ret (no hq))
          · refine jT_neg (fun w => q2 ((p_neg lix).mp w)) ?_
            show jT (jg ((jK H (jR H 415 k)).1 = 10) (jg ((jK H (jR H (jR H 415 k) 5)).1 = 100) (if Int32.ofNat (w_in2 x.2.1 x.2.2 i) < Int32.ofNat (jK H (jR H (jR H 415 k) 5)).2 then _ else _))) Q
            rw [hxk.2.1.2.2.2.2.1, hxk.2.1.2.2.2.2.2]
            exact jT_g hxk.1.1 (jT_g rfl (jT_neg (by show ¬ Int32.ofNat _ < Int32.ofNat _; rw [jo_lt (by omega) (by omega)]; exact q) (jT_ret (no hq))))
    | some k =>
      have hlt := (w_fd_lt hfk).2
      obtain ⟨c, hck, hc1, hc2⟩ := w_fd_at hfk
      rw [Nat.sub_zero] at hck
      have hcf : w_cf cs x.2.1 x.2.2 i = some c := w_cf_some.mpr ⟨k, hfk, hck⟩
      have hq : p_cf cs ps x i = some (c, true) := by
        unfold p_cf
        rw [hcf]
      obtain ⟨ok, hxs, ek1, ek2⟩ := hCA.2.2 k c hck
      obtain ⟨v, ev, hv⟩ := z2_unripe (ht := ht) hs hCA hck
      have kl : k < cs.length := by omega
      have kv : w_fv (some k) = Int32.ofNat k := rfl
      rw [kv, sR_414_0 hs, z2_maker hs hCA kl]
      refine jT_neg (by rw [show (0 : Int32) = Int32.ofNat 0 from rfl, jo_lt (by omega) (by decide)]; omega) (jT_g (k6 hs) (jT_g (k2 hs) ?_))
      rw [jb_ok]
      exact put (jR H 393 k) (Int32.ofNat k) (c, true) v hq ok hxs hc2 ev (by
        rcases hv with ⟨w1, w2⟩ | ⟨w1, w2⟩
        · exact Or.inl ⟨w1, rfl, w2⟩
        · exact Or.inr ⟨w1, fun w => w2 w.2⟩)
theorem z6_take {α : Type} {Q : α → jH → Prop} {k : Int32 → jH → Option (α × jH)} (hs : jsh Hs) (hok : p_ok ps) (hy : w_ty x.2.1 x.2.2) (hx0 : w_x o row s len x.2.1 x.2.2 x.1 Hs) (hC0 : w_CA cs Hs) (hA0 : p_PA ps Hs)
    (hk : ∀ v H', v = p_jd ht cs ps x → jsh H' → jfr p_T6 Hs H' → (v = 0 → jL H' 414 9 = p_tt cs ps x x.2.2.1.length ∧ ∀ j, j < x.2.2.1.length → p_mkr cs ps x H' j) → jT (k v H') Q) : jT (jb (F_6_take 414 o ht Hs) k) Q := by
  have l8 : x.2.2.1.length ≤ 8 := (ztx_spec hy.1).1
  unfold F_6_take
  refine jT_b (jT_g (gT (sK_414 hs)) (jT_l ?_))
  have s1 : jsh (jsL Hs 414 9 0) := jsh_sL hs
  have f1 : jfr p_T6 Hs (jsL Hs 414 9 0) := jfr_sL jfr_refl (Or.inr (Or.inr ⟨rfl, rfl⟩))
  have v1 : jL (jsL Hs 414 9 0) 414 9 = 0 := jL_sLe
  exact z6_take10 (Q := fun v h => jT (k v h) Q) (Hs := Hs) hok hy hx0 hC0 hA0 hk x.2.2.1.length 0 jfuel false _ (Nat.zero_add _) (by unfold jfuel; omega) s1 f1 (fun j hj => absurd hj (Nat.not_lt_zero j)) ⟨fun w => (by cases w), fun ⟨j, _, hj, _⟩ => absurd hj (Nat.not_lt_zero j)⟩ v1
end TK6
