/-! A transaction comes to the reference, whole. -/
def p_TC : Nat → Nat → Prop := fun a j => (423 ≤ a ∧ a ≤ 444) ∨ (456 ≤ a ∧ a ≤ 473) ∨ (496 ≤ a ∧ a ≤ 503) ∨ a = 507 ∨ (a = 421 ∧ (j = 36 ∨ (57 ≤ j ∧ j ≤ 60)))
theorem p_KC_TC {bs : List b_k} {c : Nat} {T : Nat → Nat → Prop} {H H' : jH} (h : b_KC bs c H) (hf : jfr T H H') (hT : ∀ a j, T a j → a ≠ 474 ∧ (a < 482 ∨ 488 < a) ∧ ¬ (a = 421 ∧ (j = 16 ∨ j = 17 ∨ j = 18)) ∧ ¬ (a = 445 ∧ j = 1)) : b_KC bs c H' := by
  obtain ⟨h1, h2, h3, h4⟩ := h
  exact ⟨(jfr_I hf fun w => (hT _ _ w).2.2.1 ⟨rfl, Or.inl rfl⟩).trans h1, h2, h3, b_KB_fr h4 hf fun a j w => by have := hT a j w; omega⟩
/-- from the reading on -/
def p_rest (a1 : Nat) (a2 : Int32) (a3 : Int32) (a4 : Int32) (H : jH) : Option (Int32 × jH) :=
jg ((jK H 421).1 = 18) (
jg ((jK H (jR H 421 4)).1 = 17) (
jb (F_17_read (jR H 421 4) a1 a2 (a2 + a3) H) fun x40 h41 =>
(if (x40 : Int32) = ((a2 + a3) : Int32) then
jg ((jK h41 421).1 = 18) (
jg ((jK h41 421).1 = 18) (
jg ((jK h41 421).1 = 18) (
jb (F_18_nameOf 421 (jR h41 421 4) (jR h41 421 49) 0 h41) fun x42 h43 =>
jg ((jK h43 421).1 = 18) (
jg ((jK h43 (jR h43 421 4)).1 = 17) (
jb (F_17_fault (jR h43 421 4) h43) fun x44 h45 =>
(if (x44 : Int32) ≤ 0 then
jg ((jK h45 421).1 = 18) (
jg ((jK h45 (jR h45 421 4)).1 = 17) (
jb (F_17_hasRoot (jR h45 421 4) h45) fun x46 h47 =>
(if (x46 : Int32) = 0 then
jg ((jK h47 421).1 = 18) (
jg ((jK h47 421).1 = 18) (
jb (F_18_inPool 421 (jR h47 421 49) 0 h47) fun x48 h49 =>
(if (x48 : Int32) < 0 then
F_18_comes_88 jfuel 421 a1 a2 a3 a4 0 h49
else
some (12, h49))))
else
some (5, h47))))
else
some (x44, h45)))))))
else
some (1, h41))))
theorem p_comes_eq {a1 : Nat} {a2 a3 a4 : Int32} {H : jH} : F_18_comes 421 a1 a2 a3 a4 H = jg ((jK H 421).1 = 18) (jg ((jK H 421).1 = 18) (jb (F_18_need 421 (jI H 421 13) H) fun _ h => p_rest a1 a2 a3 a4 h)) := rfl
section CW18
variable {α : Type} {bs : List b_k} {tip c : Nat} {ps : List p_e} {tb : List UInt8} {y : w_y} {row s len : Nat} {sent : Bool} {Q : α → jH → Prop} {Hs : jH}
theorem y18_comes {k : Int32 → jH → Option (α × jH)} (hr : p_row row) (hs0 : jsh Hs) (hw : b_wf bs) (hT0 : b_T bs Hs) (hD : b_D bs Hs) (htl : tip < bs.length) (h13 : jI Hs 421 13 = Int32.ofNat tip) (hri : b_right bs tip) (hC0 : b_KC bs c Hs) (hp0 : w_p13 Hs) (hok : p_ok ps) (h40 : ps.length ≤ 40) (hv : p_okv ps) (hcv : p_cvn (b_co bs tip (b_ht bs tip)).1) (hB0 : p_PB ps Hs) (hy : w_ty tb y) (hkr : jK Hs row = (101, len)) (hlen : len < 2000000) (hz : zRow Hs row s tb) (hse : s + tb.length ≤ len)
    (hk : ∀ H', jsh H' → jfr (fun a j => p_TC a j ∨ (c ≠ tip ∧ b_FN a j)) Hs H' → b_KC bs tip H' → w_p13 H' → p_PB (p_off (Int32.ofNat (b_ht bs tip + 1)) (b_co bs tip (b_ht bs tip)).1 ps (b_hs tb, tb, y) sent).2 H' → zRow H' 507 0 (b_hs tb) → jT (k (p_off (Int32.ofNat (b_ht bs tip + 1)) (b_co bs tip (b_ht bs tip)).1 ps (b_hs tb, tb, y) sent).1 H') Q) : jT (jb (F_18_comes 421 row (Int32.ofNat s) (Int32.ofNat tb.length) (p_ib sent) Hs) k) Q := by
  have k18 : ∀ {H}, jsh H → (jK H 421).1 = 18 := fun hs => gT (sK_421 hs)
  have k17 : ∀ {H}, jsh H → (jK H 456).1 = 17 := fun hs => gT (sK_456 hs)
  have l2000 := hy.2.2
  have hr' := hr
  unfold p_row at hr'
  -- from the reading on
  have main : ∀ H1, jsh H1 → jfr (fun a j => p_TC a j ∨ (c ≠ tip ∧ b_FN a j)) Hs H1 → b_KC bs tip H1 → w_p13 H1 → p_PB ps H1 → jT (p_rest row (Int32.ofNat s) (Int32.ofNat tb.length) (p_ib sent) H1) (fun v h => jT (k v h) Q) := fun H1 s1 f1 C1 p1 B1 => by
    unfold p_rest
    have nn : ∀ a j, (p_TC a j ∨ (c ≠ tip ∧ b_FN a j)) → (423 ≤ a ∧ a ≤ 444) ∨ (456 ≤ a ∧ a ≤ 473) ∨ a = 481 ∨ (482 ≤ a ∧ a ≤ 488) ∨ (496 ≤ a ∧ a ≤ 503) ∨ a = 507 ∨ (a = 421 ∧ (j = 14 ∨ j = 16 ∨ j = 17 ∨ j = 18 ∨ j = 36 ∨ (57 ≤ j ∧ j ≤ 60))) := fun a j w => by
      rcases w with w | w
      · unfold p_TC at w
        omega
      · have := w.2
        unfold b_FN at this
        omega
    have kr1 : jK H1 row = (101, len) := by rw [jfr_K f1]; exact hkr
    have z1 : zRow H1 row s tb := zRow_eq hz fun i _ => jfr_B f1 fun w => by have := nn _ _ w; omega
    rw [sR_421_4 s1, show Int32.ofNat s + Int32.ofNat tb.length = Int32.ofNat (s + tb.length) from jo_add]
    refine jT_g (k18 s1) (jT_g (k17 s1) ?_)
    refine b_read18 (e := s + tb.length) s1 (by omega) kr1 hlen hse z1 hy (Nat.le_refl _) fun H2 s2 f2 hx2 => ?_
    have f2' : jfr (fun a j => p_TC a j ∨ (c ≠ tip ∧ b_FN a j)) Hs H2 := jfr_trans f1 (jfr_mono f2 fun a j w => Or.inl (by unfold zS17 at w; unfold p_TC; omega))
    refine jT_pos rfl (jT_g (k18 s2) (jT_g (k18 s2) (jT_g (k18 s2) ?_)))
    have x11 := hx2.2.1.1
    have x13 := hx2.2.1.2.1
    rw [sR_421_4 s2, sR_421_49 s2]
    unfold F_18_nameOf F_17_bytes
    rw [x11, x13, jo_sub (show s ≤ s + tb.length by omega), Nat.add_sub_cancel_left, sR_421_0 s2, hx2.1.1]
    refine jT_b (jT_g (k18 s2) (jT_g (k17 s2) (jT_g (k17 s2) (jT_g (k17 s2) (jT_b (jT_g (k17 s2) (jT_g (k17 s2) (jT_ret (jT_g (by rw [sK_422 s2]) (jT_b ?_))))))))))
    refine z12_name (at_ := s) (n := tb.length) (len := len) (pl := 0) (len4 := 32) hse (by omega) (by omega) hx2.1.2.1 (by decide) (by decide) (sK_507 s2) s2 fun H3 s3 f3 v3 => jT_ret ?_
    have f3' : jfr (fun a j => p_TC a j ∨ (c ≠ tip ∧ b_FN a j)) Hs H3 := jfr_trans f2' (jfr_mono f3 fun a j w => Or.inl (by unfold p_TC; omega))
    have hx3 : w_rx row s len tb y H3 := w_rx_T hx2 f3 (fun j w => by omega) fun a j w => by omega
    have n3 : zRow H3 507 0 (b_hs tb) := fun i u hi => by
      obtain ⟨q1, q2⟩ := b_hs_at hi
      rw [q2, v3 i q1]
      refine congrFun (znm_eq fun k hk => ?_) i
      exact hx2.1.2.2.2.2.2 k _ (getD_of hk)
    have C3 : b_KC bs tip H3 := p_KC_TC C1 (jfr_trans (jfr_mono f2 fun a j w => (Or.inl w : zS17 456 a j ∨ ((423 ≤ a ∧ a ≤ 426) ∨ a = 507))) (jfr_mono f3 fun a j w => by omega)) fun a j w => by unfold zS17 at w; omega
    have p3 : w_p13 H3 := w_p13_T p1 (jfr_trans (jfr_mono f2 fun a j w => (Or.inl w : zS17 456 a j ∨ ((423 ≤ a ∧ a ≤ 426) ∨ a = 507))) (jfr_mono f3 fun a j w => by omega)) fun a j w => by unfold zS17 at w; omega
    have B3 : p_PB ps H3 := by
      have nB : ∀ a j, b_FN a j → (a < 496 ∨ 502 < a) ∧ ¬ (a = 421 ∧ j = 36) := fun a j w => by unfold b_FN at w; omega
      exact p_PB_fr (T := fun a j => (423 ≤ a ∧ a ≤ 426) ∨ (456 ≤ a ∧ a ≤ 464) ∨ a = 507) B1 (jfr_trans (jfr_mono f2 fun a j w => by unfold zS17 at w; omega) (jfr_mono f3 fun a j w => by omega)) fun a j w => by omega
    have x3 : p_CX bs tip (b_co bs tip (b_ht bs tip)).1 ps (b_hs tb, tb, y) row s len H3 := ⟨s3, hx3, B3, C3.2.2.2.1, b_T_fr hT0 f3' fun a j w => by have := nn a j w; omega, (jfr_I f3' fun w => by have := nn _ _ w; omega).trans h13, p3⟩
    have bad : ∀ v H', v = p_code (Int32.ofNat (b_ht bs tip + 1)) (b_co bs tip (b_ht bs tip)).1 ps (b_hs tb, tb, y) sent → v ≠ 0 → jsh H' → jfr (fun a j => (465 ≤ a ∧ a ≤ 473) ∨ (423 ≤ a ∧ a ≤ 444) ∨ a = 503 ∨ (a = 421 ∧ 57 ≤ j ∧ j ≤ 60)) H3 H' → w_p13 H' → jT (k v H') Q := fun v H' e h0 hs' hf' hp' => by
      have := hk H' hs' (jfr_trans f3' (jfr_mono hf' fun a j w => Or.inl (by unfold p_TC; omega))) (p_KC_TC C3 hf' fun a j w => by omega) hp'
      unfold p_off at this
      rw [e] at h0
      rw [if_pos h0] at this
      rw [e]
      exact this (p_PB_fr B3 hf' fun a j w => by omega) (zRow_eq n3 fun i _ => jfr_B hf' (by omega))
    rw [sR_421_4 s3, w_rx_fault s3 hx3 hy]
    refine jT_g (k18 s3) (jT_g (k17 s3) ?_)
    rw [jb_ok]
    by_cases c1 : p_flt (b_hs tb, tb, y) = 0
    · refine jT_pos (b_zfl_pos.mpr c1) (jT_g (k18 s3) ?_)
      rw [sR_421_4 s3, w_rx_hasRoot s3 hx3 hy]
      refine jT_g (k17 s3) ?_
      rw [jb_ok]
      by_cases c2 : w_rt tb y = 0
      · rw [sR_421_49 s3]
        refine jT_pos c2 (jT_g (k18 s3) (jT_g (k18 s3) ?_))
        show jT (jb (F_18_inPool 421 507 (Int32.ofNat 0) H3) _) _
        rw [z18_inPool s3 B3 hok (sK_507 s3) (by decide) (by decide) n3 b_hs_len, jb_ok]
        cases hf : p_fi ps (b_hs tb) with
        | some kk =>
          have hlt := (p_fi_some hf).1
          have := hok.1
          refine jT_neg (by show ¬ Int32.ofNat kk < Int32.ofNat 0; rw [jo_lt (by omega) (by decide)]; omega) (jT_ret (bad 12 H3 ?_ (by decide) s3 jfr_refl p3))
          unfold p_code p_cls
          rw [if_neg (fun w => w c1), if_neg (fun w => w c2), hf, if_pos (by rw [if_pos (fun w => by cases w)]; decide), if_pos (fun w => by cases w)]
        | none =>
          have ecl : p_cls ps (b_hs tb, tb, y) = if p_any ps (fun e => p_sh tb y e.1.2.1 e.1.2.2) = true then 13 else 0 := by
            unfold p_cls
            rw [show p_fi ps ((b_hs tb, tb, y) : b_t).1 = none from hf, if_neg (fun w => w rfl)]
          refine jT_pos (by decide) ?_
          refine y18_cls88 (x := (b_hs tb, tb, y)) hok hy x3 (fun q => bad 13 H3 ?_ (by decide) s3 jfr_refl p3) (fun q => ?_) y.1.length 0 jfuel (Nat.zero_add _) (by have := (ztx_spec hy.1).1; unfold jfuel; omega) fun i' hi' => absurd hi' (Nat.not_lt_zero i')
          · unfold p_code
            rw [if_neg (fun w => w c1), if_neg (fun w => w c2), ecl, if_pos q, if_pos (by decide)]
          · rw [if_neg (fun w => by rw [show p_any ps (fun e => p_sh tb y e.1.2.1 e.1.2.2) = false from q] at w; cases w)] at ecl
            have cod : ∀ v : Int32, p_jd (Int32.ofNat (b_ht bs tip + 1)) (b_co bs tip (b_ht bs tip)).1 ps (b_hs tb, tb, y) = 0 → ((if sent = true ∧ p_scr (b_co bs tip (b_ht bs tip)).1 ps (b_hs tb, tb, y) = none then 10 else p_knt ps (b_hs tb, tb, y)) = v) → v = p_code (Int32.ofNat (b_ht bs tip + 1)) (b_co bs tip (b_ht bs tip)).1 ps (b_hs tb, tb, y) sent := fun v hj e => by
              unfold p_code
              rw [if_neg (fun w => w c1), if_neg (fun w => w c2), if_neg (fun w => w ecl), if_neg (fun w => w hj)]
              exact e.symm
            -- behind the scripts
            have tail : ∀ H4, p_jd (Int32.ofNat (b_ht bs tip + 1)) (b_co bs tip (b_ht bs tip)).1 ps (b_hs tb, tb, y) = 0 → (sent = true → p_scr (b_co bs tip (b_ht bs tip)).1 ps (b_hs tb, tb, y) ≠ none) → jfr p_TX H3 H4 → p_CX bs tip (b_co bs tip (b_ht bs tip)).1 ps (b_hs tb, tb, y) row s len H4 → jT (B_18_comes_395 421 row (Int32.ofNat s) (Int32.ofNat tb.length) (p_tt (b_co bs tip (b_ht bs tip)).1 ps (b_hs tb, tb, y) y.1.length) H4) (fun v h => jT (k v h) Q) := fun H4 hj hsc f4 X4 => by
              have X4' := X4
              obtain ⟨s4, x4, B4, CB4, T4, e134, p4⟩ := X4
              have f4' : jfr (fun a j => (465 ≤ a ∧ a ≤ 473) ∨ (423 ≤ a ∧ a ≤ 444) ∨ a = 503 ∨ (a = 421 ∧ 57 ≤ j ∧ j ≤ 60)) H3 H4 := jfr_mono f4 fun a j w => by unfold p_TX p_TF zS17 w_FI w_FS w_F14 w_S15 at w; omega
              have n4 : zRow H4 507 0 (b_hs tb) := zRow_eq n3 fun i _ => jfr_B f4' (by omega)
              have ifn : ¬ (sent = true ∧ p_scr (b_co bs tip (b_ht bs tip)).1 ps (b_hs tb, tb, y) = none) := fun w => hsc w.1 w.2
              unfold B_18_comes_395
              refine jT_g (k18 s4) ?_
              refine z18_lacks (x := (b_hs tb, tb, y)) hr s4 hok B4 hy x4 n4 b_hs_len fun H5 s5 f5 => ?_
              have f5' := jfr_trans f4' (jfr_mono f5 fun a j w => by unfold zS17 at w; omega)
              have p5 : w_p13 H5 := w_p13_T p4 f5 fun a j w => by unfold zS17 at w; omega
              cases hl : p_lk ps (b_hs tb, tb, y) with
              | true =>
                refine jT_neg (by decide) (jT_ret (bad 15 H5 (cod 15 hj ?_) (by decide) s5 f5' p5))
                rw [if_neg ifn]
                unfold p_knt
                rw [hl, if_pos rfl]
              | false =>
                have x5 := w_rx_465 hr x4 f5
                have n5 : zRow H5 507 0 (b_hs tb) := zRow_eq n4 fun i _ => jfr_B f5 (by unfold zS17; omega)
                have B5 := p_PB_465 B4 f5
                refine jT_pos rfl (jT_g (k18 s5) ?_)
                refine z18_hangsOn (x := (b_hs tb, tb, y)) hr s5 hok B5 hy x5 n5 b_hs_len (fun H6 s6 f6 nt => ?_) fun H6 s6 f6 ht => ?_
                · have f6' := jfr_trans f5' (jfr_mono f6 fun a j w => by unfold p_T503 at w; omega)
                  have p6 : w_p13 H6 := w_p13_T p5 f6 fun a j w => by unfold p_T503 at w; omega
                  have x6 : w_rx row s len tb y H6 := w_rx_T x5 f6 (fun j w => by unfold p_T503 at w; omega) fun a j w => by unfold p_T503 at w; omega
                  have n6 : zRow H6 507 0 (b_hs tb) := zRow_eq n5 fun i _ => jfr_B f6 (by unfold p_T503; omega)
                  have B6 := p_PB_503 B5 f6
                  have ec0 : p_code (Int32.ofNat (b_ht bs tip + 1)) (b_co bs tip (b_ht bs tip)).1 ps (b_hs tb, tb, y) sent = 0 := by
                    refine (cod 0 hj ?_).symm
                    rw [if_neg ifn]
                    unfold p_knt
                    rw [hl, if_neg (by decide), b_neg nt]
                  refine jT_pos rfl ?_
                  refine y18_in (x := (b_hs tb, tb, y)) (cs := (b_co bs tip (b_ht bs tip)).1) (len := len) hr s6 hok h40 hy hf b_hs_len x6 n6 B6 fun v H7 s7 f7 r7 => ?_
                  have C7 : b_KC bs tip H7 := p_KC_TC (p_KC_TC C3 f6' fun a j w => by omega) f7 fun a j w => by unfold p_TE at w; omega
                  have p7 : w_p13 H7 := w_p13_T p6 f7 fun a j w => by unfold p_TE at w; omega
                  have n7 : zRow H7 507 0 (b_hs tb) := zRow_eq n6 fun i _ => jfr_B f7 (by unfold p_TE; omega)
                  have fin := hk H7 s7 (jfr_trans f3' (jfr_trans (jfr_mono f6' fun a j w => Or.inl (by unfold p_TC; omega)) (jfr_mono f7 fun a j w => Or.inl (by unfold p_TE at w; unfold p_TC; omega)))) C7 p7
                  unfold p_off at fin
                  rw [ec0, if_neg (fun w => w rfl)] at fin
                  by_cases c6 : (ps ++ [p_new (b_co bs tip (b_ht bs tip)).1 ps (b_hs tb, tb, y)]).length ≤ 40
                  · rw [if_pos c6] at fin r7
                    rw [r7.1]
                    exact fin r7.2 n7
                  · rw [if_neg c6] at fin r7
                    rw [r7.1]
                    exact fin r7.2 n7
                · have f6' := jfr_trans f5' (jfr_mono f6 fun a j w => by unfold p_T503 at w; omega)
                  refine jT_neg (by decide) (jT_ret (bad 14 H6 (cod 14 hj ?_) (by decide) s6 f6' (w_p13_T p5 f6 fun a j w => by unfold p_T503 at w; omega)))
                  rw [if_neg ifn]
                  unfold p_knt
                  rw [hl, if_neg (by decide), b_pos ht]
            have go172 := y18_172 (x := (b_hs tb, tb, y)) (row := row) (s := s) (len := len) (Hs := H3) (r1 := row) (a2 := Int32.ofNat s) (a3 := Int32.ofNat tb.length) (a4 := p_ib sent) (Q := fun v h => jT (k v h) Q) hr hok hv hcv hy hw htl (fun v H4 ev h0 s4 f4 => ?_) (fun H4 hj f4 X4 => ?_) y.1.length 0 jfuel false H3 (Nat.zero_add _) (by have := (ztx_spec hy.1).1; unfold jfuel; omega) jfr_refl x3 (fun j hj => absurd hj (Nat.not_lt_zero j)) ⟨fun w => (by cases w), fun ⟨j, _, hj, _⟩ => absurd hj (Nat.not_lt_zero j)⟩
            · exact go172
            · refine bad v H4 ?_ h0 s4 (jfr_mono f4 fun a j w => by unfold p_TF zS17 at w; omega) (w_p13_T p3 f4 fun a j w => by unfold p_TF zS17 at w; omega)
              unfold p_code
              rw [if_neg (fun w => w c1), if_neg (fun w => w c2), if_neg (fun w => w ecl), ← ev, if_pos h0]
            · have s5 : jsh (jsI H4 437 8 8) := jsh_sI X4.1 (by decide)
              have g5 : jfr (fun a j => a = 437 ∧ j = 8) H4 (jsI H4 437 8 8) := jfr_sI jfr_refl ⟨rfl, rfl⟩
              have g5' : jfr p_TX H4 (jsI H4 437 8 8) := jfr_mono g5 fun a j w => Or.inr (by unfold w_FI w_FS w_F14 w_S15; omega)
              have p5 : w_p13 (jsI H4 437 8 8) := w_p13_T X4.2.2.2.2.2.2 g5 fun a j w => by omega
              have v8 : jI (jsI H4 437 8 8) 437 8 = Int32.ofNat 8 := jI_sIe
              have f5 : jfr p_TX H3 (jsI H4 437 8 8) := jfr_trans (jfr_mono f4 fun a j w => Or.inl w) g5'
              have X5 := p_CX_fr hr X4 s5 p5 g5' fun a j w => w
              generalize jsI H4 437 8 8 = H5 at *
              have hall : ∀ j, j < y.1.length → p_cf (b_co bs tip (b_ht bs tip)).1 ps (b_hs tb, tb, y) j ≠ none := fun j hj2 w => by
                unfold p_jd at hj
                rw [b_pos ⟨j, hj2, w⟩] at hj
                exact absurd hj (by decide)
              cases hsn : sent with
              | false =>
                have d3 := X5.2.1.2.1.2.2.1
                have t := tail H5 hj (fun w => by rw [hsn] at w; cases w) f5 X5
                obtain ⟨fu, hfu⟩ : ∃ fu, jfuel = fu + 1 := ⟨jfuel - 1, by unfold jfuel; omega⟩
                rw [hfu]
                unfold F_18_comes_312 B_18_comes_312
                rw [sR_421_4 s5]
                refine jT_g (k18 s5) (jT_g (k17 s5) ?_)
                split
                · exact t
                · exact jT_pos rfl t
              | true =>
                refine y18_312 (x := (b_hs tb, tb, y)) (row := row) (s := s) (len := len) (Hs := H3) hr hok hy hw htl hall (p_scr (b_co bs tip (b_ht bs tip)).1 ps (b_hs tb, tb, y)) (fun H6 hV s6 p6 f6 => ?_) (fun lf H6 hV f6 X6 => tail H6 hj (fun _ w => by rw [w] at hV; cases hV) f6 X6) y.1.length 0 8 jfuel H5 (Nat.zero_add _) (by have := (ztx_spec hy.1).1; unfold jfuel; omega) (by decide) f5 X5 v8 rfl
                refine bad 10 H6 (cod 10 hj ?_) (by decide) s6 (jfr_mono f6 fun a j w => by unfold p_TX p_TF zS17 w_FI w_FS w_F14 w_S15 at w; omega) p6
                rw [if_pos ⟨hsn, hV⟩]
      · refine jT_neg c2 (jT_ret (bad 5 H3 ?_ (by decide) s3 jfr_refl p3))
        unfold p_code
        rw [if_neg (fun w => w c1), if_pos c2]
    · refine jT_neg (fun w => c1 (b_zfl_pos.mp w)) (jT_ret (bad _ H3 ?_ c1 s3 jfr_refl p3))
      unfold p_code
      rw [if_pos c1]
      rfl
  rw [p_comes_eq, h13]
  refine jT_b (jT_g (k18 hs0) (jT_g (k18 hs0) ?_))
  by_cases cc : c = tip
  · rw [z18_need_here hs0 (by rw [hC0.1, cc]), jb_ok]
    exact main Hs hs0 jfr_refl (cc ▸ hC0) hp0 hB0
  · refine b_need hw hs0 hT0 hD htl hri hC0 fun H1 s1 f1 C1 => ?_
    exact main H1 s1 (jfr_mono f1 fun a j w => Or.inr ⟨cc, w⟩) C1 (w_p13_T hp0 f1 fun a j w => by unfold b_FN at w; omega) (p_PB_fr hB0 f1 fun a j w => by unfold b_FN at w; omega)
end CW18
