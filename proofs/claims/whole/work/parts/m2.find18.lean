/-! What a transaction that comes spends: the reference finds it. -/
/-- no value is below nothing -/
def p_vn (tb : List UInt8) (y : w_y) : Prop := ∀ k, k < y.2.1.length → ¬ Int64.ofNat (zho (fun i => tb.getD i 0) ((y.2.1.getD k (0, 0)).1 + 8) 8) < 0
theorem ztm_nn : ∀ {vs : List Int64} {a : Int64}, ztm vs a = false → ∀ v ∈ vs, ¬ v < 0
  | [], _, _, v, h => by cases h
  | w :: r, a, h, v, hv => by
    unfold ztm at h
    by_cases c : w < 0
    · rw [if_pos c] at h
      cases h
    · rw [if_neg c] at h
      rcases List.mem_cons.mp hv with rfl | hv
      · exact c
      · by_cases c2 : w ≤ 2100000000000000
        · rw [if_pos c2] at h
          exact ztm_nn h v hv
        · rw [if_neg c2] at h
          cases h
theorem p_vn_of {tb : List UInt8} {y : w_y} (h : ztm (zvs (fun i => tb.getD i 0) y.2.1) 0 = false) : p_vn tb y := fun k hk => by
  refine ztm_nn h _ ?_
  unfold zvs
  rw [← zle_zho, List.getD_eq_getElem?_getD, List.getElem?_eq_getElem hk]
  exact List.mem_map_of_mem (List.getElem_mem hk)
def p_cvn (cs : List w_cn) : Prop := ∀ c ∈ cs, p_vn c.2.2.1 c.2.2.2.1
theorem p_dc_mem {cs : List w_cn} {k : Nat} {c : w_cn} (h : c ∈ w_dc cs k) : c ∈ cs := by
  unfold w_dc at h
  rcases List.mem_or_eq_of_mem_set (List.mem_of_mem_take h) with q | q
  · exact q
  · by_cases c0 : cs.length - 1 < cs.length
    · rw [q, List.getD_eq_getElem?_getD, List.getElem?_eq_getElem c0]
      exact List.getElem_mem c0
    · have : cs.length = 0 := by omega
      rw [this] at h
      cases h
theorem p_drp_mem {tb : List UInt8} {y : w_y} {c : w_cn} : ∀ {d i : Nat} {cs : List w_cn} {m : Nat}, c ∈ (w_drp tb y d i cs m).1 → c ∈ cs
  | 0, _, _, _, h => h
  | d + 1, i, cs, m, h => by
    unfold w_drp at h
    split at h
    · exact p_drp_mem h
    · exact p_dc_mem (p_drp_mem h)
theorem p_ads_mem {nm tb : List UInt8} {y : w_y} {h : Nat} {c : w_cn} : ∀ {d j : Nat} {cs : List w_cn}, c ∈ w_ads nm tb y h d j cs → c ∈ cs ∨ (c.2.2.1 = tb ∧ c.2.2.2.1 = y)
  | 0, _, _, h => Or.inl h
  | d + 1, j, cs, h => by
    unfold w_ads at h
    rcases p_ads_mem h with q | q
    · rcases List.mem_append.mp q with q | q
      · exact Or.inl q
      · rcases List.mem_singleton.mp q with rfl
        exact Or.inr ⟨rfl, rfl⟩
    · exact Or.inr q
theorem p_chg_vn {nm tb : List UInt8} {y : w_y} {h : Nat} {rt : Bool} {cs : List w_cn} {m : Nat} (hc : p_cvn cs) (hv : p_vn tb y) : p_cvn (w_chg nm tb y h rt cs m).1 := fun c hm => by
  unfold w_chg at hm
  split at hm
  · rcases p_ads_mem hm with q | ⟨q1, q2⟩
    · exact hc c q
    · rw [q1, q2]
      exact hv
  · rcases p_ads_mem hm with q | ⟨q1, q2⟩
    · exact hc c (p_drp_mem q)
    · rw [q1, q2]
      exact hv
theorem p_app_vn {h : Nat} : ∀ {r : List b_t} {rt : Bool} {q : List w_cn × Nat}, p_cvn q.1 → (∀ x ∈ r, p_vn x.2.1 x.2.2) → p_cvn (b_app h rt r q).1
  | [], _, _, hc, _ => hc
  | x :: r, rt, q, hc, hr => by
    unfold b_app
    exact p_app_vn (p_chg_vn hc (hr x (List.mem_cons_self ..))) fun z hz => hr z (List.mem_cons_of_mem _ hz)
def p_bvn (bs : List b_k) : Prop := ∀ k, k < bs.length → ∀ x ∈ b_tx bs k, p_vn x.2.1 x.2.2
theorem p_co_vn {bs : List b_k} (hw : b_wf bs) (hv : p_bvn bs) {k : Nat} (hk : k < bs.length) : ∀ {h : Nat}, p_cvn (b_co bs k h).1
  | 0 => fun c hc => by cases hc
  | h + 1 => by
    unfold b_co
    exact p_app_vn (p_co_vn hw hv hk) (hv _ (b_at_lt hw hk))
def p_okv (ps : List p_e) : Prop := ∀ (k : Nat) (e : p_e), ps[k]? = some e → p_vn e.1.2.1 e.1.2.2
theorem p_cf_ok {cs : List w_cn} {ps : List p_e} {x : b_t} {i : Nat} {q : w_cn × Bool} (hc : p_cvn cs) (hp : p_okv ps) (hcok : ∀ (k : Nat) (c : w_cn), cs[k]? = some c → w_cok c) (hok : p_ok ps) (h : p_cf cs ps x i = some q) : w_cok q.1 ∧ ¬ w_cv q.1 < 0 ∧ q.1.2.1 = w_in2 x.2.1 x.2.2 i := by
  cases hcf : w_cf cs x.2.1 x.2.2 i with
  | some c =>
    rw [p_cf_coin hcf] at h
    rw [← Option.some.inj h]
    obtain ⟨k, h1, h2⟩ := w_cf_some.mp hcf
    obtain ⟨c', h3, -, h4⟩ := w_fd_at h1
    rw [Nat.sub_zero, h2] at h3
    rw [← Option.some.inj h3] at h4
    have ok := hcok k c h2
    exact ⟨ok, hc c (List.mem_of_getElem? h2) _ ok.2.2, h4⟩
  | none =>
    cases hpk : p_fi ps (w_in1 x.2.1 x.2.2 i) with
    | none =>
      rw [p_cf_none hcf hpk] at h
      cases h
    | some k =>
      obtain ⟨hkl, e, he, en⟩ := p_fi_some hpk
      rw [p_cf_pool hcf hpk (p_g_of he)] at h
      by_cases c : w_in2 x.2.1 x.2.2 i < e.1.2.2.2.1.length
      · rw [if_pos c] at h
        rw [← Option.some.inj h]
        exact ⟨⟨(hok.2.1 k e he).2, (hok.2.1 k e he).1, c⟩, hp k e he _ c, rfl⟩
      · rw [if_neg c] at h
        cases h
def p_TF : Nat → Nat → Prop := fun a j => zS17 465 a j ∨ (a = 421 ∧ 57 ≤ j ∧ j ≤ 60)
theorem jRs_57 : ∀ q ∈ jRs, ¬ (q.1 = 421 ∧ q.2.1 = 57) := by decide +kernel
/-- the lock at hand -/
def p_lk57 (q : w_cn × Bool) (H : jH) : Prop := ∃ la llen, w_lr (jR H 421 57) la llen (w_ck q.1) H ∧ jI H 421 58 = Int32.ofNat la ∧ jI H 421 59 = Int32.ofNat (w_ck q.1).length
theorem w_lr_T {lr la llen : Nat} {lk : List UInt8} {T : Nat → Nat → Prop} {H H' : jH} (h : w_lr lr la llen lk H) (hf : jfr T H H') (hT : ∀ j, ¬ T lr j) : w_lr lr la llen lk H' := by
  obtain ⟨h1, h2, h3, h4, h5, h6⟩ := h
  exact ⟨by rw [jfr_K hf]; exact h1, h2, h3, zRow_eq h4 fun i _ => jfr_B hf (hT _), h5, h6⟩
section FD18
variable {α : Type} {cs : List w_cn} {ps : List p_e} {x : b_t} {H : jH} {row s len tip i : Nat} {bs : List b_k} {Q : α → jH → Prop}
theorem z18_find {k : Int64 → jH → Option (α × jH)} (hs : jsh H) (hok : p_ok ps) (hB : p_PB ps H) (hy : w_ty x.2.1 x.2.2) (hx : w_rx row s len x.2.1 x.2.2 H) (hCB : w_CB cs H) (hw : b_wf bs) (hT : b_T bs H) (h13 : jI H 421 13 = Int32.ofNat tip) (htl : tip < bs.length) (hi : i < x.2.2.1.length)
    (hk1 : ∀ q H', p_cf cs ps x i = some q → jsh H' → jfr p_TF H H' → p_lk57 q H' → (jI H' 421 60 = 1 ∧ p_un (Int32.ofNat (b_ht bs tip + 1)) q ∨ jI H' 421 60 = 0 ∧ ¬ p_un (Int32.ofNat (b_ht bs tip + 1)) q) → jT (k (w_cv q.1) H') Q)
    (hk0 : ∀ H', p_cf cs ps x i = none → jsh H' → jfr p_TF H H' → jT (k (-1) H') Q) : jT (jb (F_18_find 421 row (jI H 457 i) (jL H 458 i) H) k) Q := by
  have l41 := hok.1
  have k18 : ∀ {H}, jsh H → (jK H 421).1 = 18 := fun hs => gT (sK_421 hs)
  have k17b : ∀ {H}, jsh H → (jK H 465).1 = 17 := fun hs => gT (sK_465 hs)
  have c2 := hx.1.2.1
  have clen : len < 2000000 := hx.1.2.2.2.1
  obtain ⟨g1, g2, g3, g4, g5⟩ := p_rx hy hx hi
  have lix : w_in2 x.2.1 x.2.2 i < 4294967296 := zho_lt _ _ 4
  have hfd := z18_cn hs hy hx hCB hi
  rw [g1, g2] at hfd
  unfold F_18_find
  rw [g1, g2, hfd]
  refine jT_b (jT_g (k18 hs) ?_)
  rw [jb_ok]
  refine jT_g ⟨k18 hs, Or.inl rfl⟩ (jT_l ?_)
  have s1 : jsh (jsI H 421 60 0) := jsh_sI hs (by decide)
  have f1 : jfr p_TF H (jsI H 421 60 0) := jfr_sI jfr_refl (Or.inr ⟨rfl, by decide, by decide⟩)
  have v60 : jI (jsI H 421 60 0) 421 60 = 0 := jI_sIe
  generalize jsI H 421 60 0 = H1 at *
  have nB : ∀ a j, p_TF a j → (a < 496 ∨ 502 < a) ∧ ¬ (a = 421 ∧ j = 36) := fun a j w => by unfold p_TF zS17 at w; omega
  have hrow := hx.1.2.2.2.2.1
  cases hfk : w_fd cs (w_in1 x.2.1 x.2.2 i) (w_in2 x.2.1 x.2.2 i) 0 with
  | none =>
    have hcf := w_cf_none.mpr hfk
    have hB1 := p_PB_fr hB f1 nB
    have z1 : zRow H1 row (s + (x.2.2.1.getD i (0, 0)).1) (w_in1 x.2.1 x.2.2 i) := zRow_eq g3 fun j _ => jfr_B (jfr_mono (S' := fun a j => p_TF a j) f1 fun a j w => w) (by
      have : jB H1 row = jB H1 row := rfl
      unfold p_TF zS17
      intro w
      rcases w with w | w
      · exact absurd hx.1.2.1 (by
          have h17 : ∀ a, 465 ≤ a → a ≤ 473 → (jK H a).1 ≠ 101 := fun a q1 q2 => by
            have := s17 hs (t := 465) (by unfold zT; decide)
            obtain ⟨t0, -, -, -, -, -, -, -, -, t1, t2, t3, t4, t5, t6, t7, t8⟩ := this
            have : a = 465 ∨ a = 466 ∨ a = 467 ∨ a = 468 ∨ a = 469 ∨ a = 470 ∨ a = 471 ∨ a = 472 ∨ a = 473 := by omega
            rcases this with rfl | rfl | rfl | rfl | rfl | rfl | rfl | rfl | rfl
            · rw [t0]; decide
            · rw [t1]; decide
            · rw [t2]; decide
            · rw [t3]; decide
            · rw [t4]; decide
            · rw [t5]; decide
            · rw [t6]; decide
            · rw [t7]; decide
            · rw [t8]; decide
          intro q
          exact h17 row w.1 w.2 (by rw [q]))
      · omega)
    have hin := z18_inPool s1 hB1 hok (by rw [jfr_K f1]; exact c2) (by omega) g5 z1 g4
    rw [hin]
    refine jT_pos (by decide) (jT_g (k18 s1) ?_)
    rw [jb_ok]
    cases hpk : p_fi ps (w_in1 x.2.1 x.2.2 i) with
    | none => exact jT_neg w_fv_neg (jT_ret (hk0 H1 (p_cf_none hcf hpk) s1 f1))
    | some p =>
      obtain ⟨hp, e, he, en⟩ := p_fi_some hpk
      have hcp := p_cf_pool (ps := ps) hcf hpk (p_g_of he)
      obtain ⟨hye, h32e⟩ := hok.2.1 p e he
      have lo8 : e.1.2.2.2.1.length ≤ 8 := (ztx_spec hye.1).2.1
      have l2 := hye.2.2
      refine jT_pos (w_fv_pos (by omega)) (jT_g (k18 s1) ?_)
      show jT (jb (F_18_openPool 421 (Int32.ofNat p) H1) _) _
      refine z18_openPool s1 hB1 hok he fun H2 s2 f2 op => ?_
      have f2' : jfr p_TF H H2 := jfr_trans f1 (jfr_mono f2 fun a j w => Or.inl w)
      rw [sR_421_5 s2, op.1, lo_of (by omega)]
      refine jT_g (k18 s2) (jT_g (k17b s2) ?_)
      by_cases c : w_in2 x.2.1 x.2.2 i < e.1.2.2.2.1.length
      · rw [if_pos c] at hcp
        obtain ⟨o1, o2, o3⟩ := op.2 _ c
        have e32 : Int64.toInt32 (Int64.ofNat (w_in2 x.2.1 x.2.2 i)) = Int32.ofNat (w_in2 x.2.1 x.2.2 i) := by
          rw [← lo_of (by omega)]
          exact Int32.toInt32_toInt64 _
        rw [e32, sR_421_37 s2, jo_nat (n := w_in2 x.2.1 x.2.2 i) (by omega)]
        refine jT_pos ((lo_lt (by omega) (by omega)).mpr c) (jT_g (k18 s2) (jT_g (k18 s2) (jT_l ?_)))
        have s3 : jsh (jsR H2 421 57 496) := jsh_sRj s2 jRs_57
        have f3 : jfr p_TF H (jsR H2 421 57 496) := jfr_sR f2' (Or.inr ⟨rfl, by decide, by decide⟩)
        have w57 : jR (jsR H2 421 57 496) 421 57 = 496 := jR_sRe
        have wI : ∀ a j, jI (jsR H2 421 57 496) a j = jI H2 a j := fun a j => rfl
        have wL : ∀ a j, jL (jsR H2 421 57 496) a j = jL H2 a j := fun a j => rfl
        generalize jsR H2 421 57 496 = H3 at *
        rw [sR_421_5 s3, sR_465_13 s3, (wI _ _).trans o2]
        refine jT_g (k18 s3) (jT_g (k17b s3) (jT_g (gA (sK_472 s3) (jo_in (by omega) (by omega))) (jT_g (k18 s3) (jT_l ?_))))
        have s4 : jsh (jsI H3 421 58 (Int32.ofNat (2000 * p + (e.1.2.2.2.1.getD (w_in2 x.2.1 x.2.2 i) (0, 0)).1 + 9))) := jsh_sI s3 (by decide)
        have f4 : jfr p_TF H (jsI H3 421 58 (Int32.ofNat (2000 * p + (e.1.2.2.2.1.getD (w_in2 x.2.1 x.2.2 i) (0, 0)).1 + 9))) := jfr_sI f3 (Or.inr ⟨rfl, by decide, by decide⟩)
        have u57 : jR (jsI H3 421 58 (Int32.ofNat (2000 * p + (e.1.2.2.2.1.getD (w_in2 x.2.1 x.2.2 i) (0, 0)).1 + 9))) 421 57 = 496 := w57
        have u58 : jI (jsI H3 421 58 (Int32.ofNat (2000 * p + (e.1.2.2.2.1.getD (w_in2 x.2.1 x.2.2 i) (0, 0)).1 + 9))) 421 58 = Int32.ofNat (2000 * p + (e.1.2.2.2.1.getD (w_in2 x.2.1 x.2.2 i) (0, 0)).1 + 9) := jI_sIe
        have uI : ∀ a j, a ≠ 421 ∨ j ≠ 58 → jI (jsI H3 421 58 (Int32.ofNat (2000 * p + (e.1.2.2.2.1.getD (w_in2 x.2.1 x.2.2 i) (0, 0)).1 + 9))) a j = jI H2 a j := fun a j h => (jup_ne fun w => by omega).trans (wI a j)
        have uL : ∀ a j, jL (jsI H3 421 58 (Int32.ofNat (2000 * p + (e.1.2.2.2.1.getD (w_in2 x.2.1 x.2.2 i) (0, 0)).1 + 9))) a j = jL H2 a j := fun a j => wL a j
        generalize jsI H3 421 58 (Int32.ofNat (2000 * p + (e.1.2.2.2.1.getD (w_in2 x.2.1 x.2.2 i) (0, 0)).1 + 9)) = H4 at *
        rw [sR_421_5 s4, sR_465_14 s4, (uI 473 _ (Or.inl (by decide))).trans o3]
        refine jT_g (k18 s4) (jT_g (k17b s4) (jT_g (gA (sK_473 s4) (jo_in (by omega) (by omega))) (jT_g (k18 s4) (jT_l ?_))))
        have s5 : jsh (jsI H4 421 59 (Int32.ofNat (e.1.2.2.2.1.getD (w_in2 x.2.1 x.2.2 i) (0, 0)).2)) := jsh_sI s4 (by decide)
        have f5 : jfr p_TF H (jsI H4 421 59 (Int32.ofNat (e.1.2.2.2.1.getD (w_in2 x.2.1 x.2.2 i) (0, 0)).2)) := jfr_sI f4 (Or.inr ⟨rfl, by decide, by decide⟩)
        have y57 : jR (jsI H4 421 59 (Int32.ofNat (e.1.2.2.2.1.getD (w_in2 x.2.1 x.2.2 i) (0, 0)).2)) 421 57 = 496 := u57
        have y58 : jI (jsI H4 421 59 (Int32.ofNat (e.1.2.2.2.1.getD (w_in2 x.2.1 x.2.2 i) (0, 0)).2)) 421 58 = Int32.ofNat (2000 * p + (e.1.2.2.2.1.getD (w_in2 x.2.1 x.2.2 i) (0, 0)).1 + 9) := (jI_sIn (by decide)).trans u58
        have y59 : jI (jsI H4 421 59 (Int32.ofNat (e.1.2.2.2.1.getD (w_in2 x.2.1 x.2.2 i) (0, 0)).2)) 421 59 = Int32.ofNat (e.1.2.2.2.1.getD (w_in2 x.2.1 x.2.2 i) (0, 0)).2 := jI_sIe
        have y60 : jI (jsI H4 421 59 (Int32.ofNat (e.1.2.2.2.1.getD (w_in2 x.2.1 x.2.2 i) (0, 0)).2)) 421 60 = 0 := (jI_sIn (by decide)).trans ((uI 421 60 (Or.inr (by decide))).trans ((jfr_I f2 (by unfold zS17; omega)).trans v60))
        have yL : ∀ a j, jL (jsI H4 421 59 (Int32.ofNat (e.1.2.2.2.1.getD (w_in2 x.2.1 x.2.2 i) (0, 0)).2)) a j = jL H2 a j := fun a j => uL a j
        generalize jsI H4 421 59 (Int32.ofNat (e.1.2.2.2.1.getD (w_in2 x.2.1 x.2.2 i) (0, 0)).2) = H5 at *
        rw [sR_421_5 s5, sR_465_12 s5, (yL 471 _).trans o1]
        refine jT_g (k18 s5) (jT_g (k17b s5) (jT_g (gA (sK_471 s5) (jo_in (by omega) (by omega))) (jT_ret ?_)))
        obtain ⟨m1, m2, m3, m4⟩ := w_out e.1.2.2 e.1.2.1 hye c
        have hB5 := p_PB_fr hB f5 nB
        have elk : (w_sl e.1.2.1 ((e.1.2.2.2.1.getD (w_in2 x.2.1 x.2.2 i) (0, 0)).1 + 9) (e.1.2.2.2.1.getD (w_in2 x.2.1 x.2.2 i) (0, 0)).2).length = (e.1.2.2.2.1.getD (w_in2 x.2.1 x.2.2 i) (0, 0)).2 := w_sl_len (by omega)
        have lkeq : w_ck (e.1.1, w_in2 x.2.1 x.2.2 i, e.1.2.1, e.1.2.2, 0) = w_sl e.1.2.1 ((e.1.2.2.2.1.getD (w_in2 x.2.1 x.2.2 i) (0, 0)).1 + 9) (e.1.2.2.2.1.getD (w_in2 x.2.1 x.2.2 i) (0, 0)).2 := rfl
        have cveq : w_cv (e.1.1, w_in2 x.2.1 x.2.2 i, e.1.2.1, e.1.2.2, 0) = Int64.ofNat (zho (fun i => e.1.2.1.getD i 0) ((e.1.2.2.2.1.getD (w_in2 x.2.1 x.2.2 i) (0, 0)).1 + 8) 8) := rfl
        have lr : w_lr 496 (2000 * p + (e.1.2.2.2.1.getD (w_in2 x.2.1 x.2.2 i) (0, 0)).1 + 9) 84000 (w_sl e.1.2.1 ((e.1.2.2.2.1.getD (w_in2 x.2.1 x.2.2 i) (0, 0)).1 + 9) (e.1.2.2.2.1.getD (w_in2 x.2.1 x.2.2 i) (0, 0)).2) H5 := by
          refine ⟨sK_496 s5, ?_, by decide, w_sl_row (hB5.2 p e he).1.1 (by omega), by decide, ?_⟩
          · rw [elk]
            omega
          · rw [elk]
            exact m4
        have lk : p_lk57 ((e.1.1, w_in2 x.2.1 x.2.2 i, e.1.2.1, e.1.2.2, 0), false) H5 := by
          refine ⟨2000 * p + (e.1.2.2.2.1.getD (w_in2 x.2.1 x.2.2 i) (0, 0)).1 + 9, 84000, ?_, y58, ?_⟩
          · rw [y57, lkeq]
            exact lr
          · rw [lkeq, elk]
            exact y59
        have := hk1 _ H5 hcp s5 f5 lk (Or.inr ⟨y60, fun w => by cases w.1⟩)
        rw [cveq] at this
        exact this
      · rw [if_neg c] at hcp
        exact jT_neg (fun w => c ((lo_lt (by omega) (by omega)).mp w)) (jT_ret (hk0 H2 hcp s2 f2'))
  | some kk =>
    have hlt := (w_fd_lt hfk).2
    obtain ⟨c, hck, hc1, hc2⟩ := w_fd_at hfk
    rw [Nat.sub_zero] at hck
    have hcf : w_cf cs x.2.1 x.2.2 i = some c := w_cf_some.mpr ⟨kk, hfk, hck⟩
    have hq := p_cf_coin (ps := ps) hcf
    have hcn := hCB.2.1
    obtain ⟨ok, b1, b2, b3, b4, b5, b6, la, llen, b7, b8, -⟩ := hCB.2.2 kk c hck
    have kv : w_fv (some kk) = Int32.ofNat kk := rfl
    rw [kv, sR_421_6 s1]
    refine jT_neg (by rw [show (0 : Int32) = Int32.ofNat 0 from rfl, jo_lt (by omega) (by decide)]; omega) (jT_g (k18 s1) (jT_g (k18 s1) (jT_l ?_)))
    have s3 : jsh (jsR H1 421 57 474) := jsh_sRj s1 jRs_57
    have f3 : jfr p_TF H (jsR H1 421 57 474) := jfr_sR f1 (Or.inr ⟨rfl, by decide, by decide⟩)
    have w57 : jR (jsR H1 421 57 474) 421 57 = 474 := jR_sRe
    have w60 : jI (jsR H1 421 57 474) 421 60 = 0 := v60
    generalize jsR H1 421 57 474 = H3 at *
    have x58 : jI H3 487 kk = Int32.ofNat la := (jfr_I f3 (by unfold p_TF zS17; omega)).trans b7
    rw [sR_421_25 s3, jo_nat (n := kk) (by omega), x58]
    refine jT_g (k18 s3) (jT_g (gA (sK_487 s3) (jo_in (by omega) (by omega))) (jT_g (k18 s3) (jT_l ?_)))
    have s4 : jsh (jsI H3 421 58 (Int32.ofNat la)) := jsh_sI s3 (by decide)
    have f4 : jfr p_TF H (jsI H3 421 58 (Int32.ofNat la)) := jfr_sI f3 (Or.inr ⟨rfl, by decide, by decide⟩)
    have u57 : jR (jsI H3 421 58 (Int32.ofNat la)) 421 57 = 474 := w57
    have u58 : jI (jsI H3 421 58 (Int32.ofNat la)) 421 58 = Int32.ofNat la := jI_sIe
    have u60 : jI (jsI H3 421 58 (Int32.ofNat la)) 421 60 = 0 := (jI_sIn (by decide)).trans w60
    generalize jsI H3 421 58 (Int32.ofNat la) = H4 at *
    have x59 : jI H4 488 kk = Int32.ofNat (w_ck c).length := (jfr_I f4 (by unfold p_TF zS17; omega)).trans b6
    rw [sR_421_26 s4, x59]
    refine jT_g (k18 s4) (jT_g (gA (sK_488 s4) (jo_in (by omega) (by omega))) (jT_g (k18 s4) (jT_l ?_)))
    have s5 : jsh (jsI H4 421 59 (Int32.ofNat (w_ck c).length)) := jsh_sI s4 (by decide)
    have f5 : jfr p_TF H (jsI H4 421 59 (Int32.ofNat (w_ck c).length)) := jfr_sI f4 (Or.inr ⟨rfl, by decide, by decide⟩)
    have y57 : jR (jsI H4 421 59 (Int32.ofNat (w_ck c).length)) 421 57 = 474 := u57
    have y58 : jI (jsI H4 421 59 (Int32.ofNat (w_ck c).length)) 421 58 = Int32.ofNat la := (jI_sIn (by decide)).trans u58
    have y59 : jI (jsI H4 421 59 (Int32.ofNat (w_ck c).length)) 421 59 = Int32.ofNat (w_ck c).length := jI_sIe
    generalize jsI H4 421 59 (Int32.ofNat (w_ck c).length) = H5 at *
    have x86 : jI H5 486 kk = w_rt c.2.2.1 c.2.2.2.1 := (jfr_I f5 (by unfold p_TF zS17; omega)).trans b5
    have hlr : w_lr 474 la llen (w_ck c) H5 := w_lr_T b8 f5 fun j w => by unfold p_TF zS17 at w; omega
    rw [sR_421_24 s5, x86]
    refine jT_g (k18 s5) (jT_g (gA (sK_486 s5) (jo_in (by omega) (by omega))) ?_)
    have fin : ∀ b : Bool, (b = true ↔ p_un (Int32.ofNat (b_ht bs tip + 1)) (c, true)) → jT (B_18_find_88 421 (Int32.ofNat kk) 421 (p_ib b) H5) (fun v h => jT (k v h) Q) := fun b hb => by
      unfold B_18_find_88
      refine jT_g ⟨k18 s5, by cases b; exact Or.inl rfl; exact Or.inr rfl⟩ (jT_l ?_)
      have s6 : jsh (jsI H5 421 60 (p_ib b)) := jsh_sI s5 (by decide)
      have f6 : jfr p_TF H (jsI H5 421 60 (p_ib b)) := jfr_sI f5 (Or.inr ⟨rfl, by decide, by decide⟩)
      have t57 : jR (jsI H5 421 60 (p_ib b)) 421 57 = 474 := y57
      have t58 : jI (jsI H5 421 60 (p_ib b)) 421 58 = Int32.ofNat la := (jI_sIn (by decide)).trans y58
      have t59 : jI (jsI H5 421 60 (p_ib b)) 421 59 = Int32.ofNat (w_ck c).length := (jI_sIn (by decide)).trans y59
      have t60 : jI (jsI H5 421 60 (p_ib b)) 421 60 = p_ib b := jI_sIe
      have hlr6 : w_lr 474 la llen (w_ck c) (jsI H5 421 60 (p_ib b)) := w_lr_T b8 f6 fun j w => by unfold p_TF zS17 at w; omega
      generalize jsI H5 421 60 (p_ib b) = H6 at *
      have x84 : jL H6 484 kk = w_cv c := (jfr_L f6 (by unfold p_TF zS17; omega)).trans b3
      rw [sR_421_22 s6, jo_nat (n := kk) (by omega), x84]
      refine jT_g (k18 s6) (jT_g (gA (sK_484 s6) (jo_in (by omega) (by omega))) (jT_ret ?_))
      refine hk1 (c, true) H6 hq s6 f6 ⟨la, llen, by rw [t57]; exact hlr6, t58, t59⟩ ?_
      cases b with
      | true => exact Or.inl ⟨t60, hb.mp rfl⟩
      | false => exact Or.inr ⟨t60, fun w => by have := hb.mpr w; cases this⟩
    by_cases q1 : w_rt c.2.2.1 c.2.2.2.1 = 0
    · exact jT_pos q1 (fin false ⟨fun w => (by cases w), fun w => absurd q1 w.2.1⟩)
    · have hT5 : b_T bs H5 := b_T_fr hT f5 fun a j w => by unfold p_TF zS17 at w; omega
      have x13 : jI H5 421 13 = Int32.ofNat tip := (jfr_I f5 (by unfold p_TF zS17; omega)).trans h13
      have x85 : jI H5 485 kk = Int32.ofNat c.2.2.2.2 := (jfr_I f5 (by unfold p_TF zS17; omega)).trans b4
      have eh : Int32.ofNat (b_ht bs tip) + 1 = Int32.ofNat (b_ht bs tip + 1) := jo_add (a := b_ht bs tip) (b := 1)
      rw [x13, b_height hw s5 hT5 htl]
      refine jT_neg q1 (jT_g (k18 s5) (jT_g (k18 s5) ?_))
      rw [jb_ok, sR_421_23 s5, x85, eh]
      refine jT_g (k18 s5) (jT_g (gA (sK_485 s5) (jo_in (by omega) (by omega))) ?_)
      by_cases q2 : (8 : Int32) ≤ Int32.ofNat (b_ht bs tip + 1) - Int32.ofNat c.2.2.2.2
      · exact jT_pos q2 (fin false ⟨fun w => (by cases w), fun w => absurd q2 w.2.2⟩)
      · exact jT_neg q2 (fin true ⟨fun _ => ⟨rfl, q1, q2⟩, fun _ => rfl⟩)
end FD18
