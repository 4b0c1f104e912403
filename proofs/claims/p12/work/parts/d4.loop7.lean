/-! The class: an input's scripts, whole. -/
def w_end (st : w_R) (l : Nat) : Option Nat := if st.length ≠ 0 ∧ ztrue (w_tp st 1) = true then some l else none
def w_bd (fit : List UInt8 → List UInt8 → Bool) (lk : List UInt8) (ph : Bool) (x : Option (w_R × Nat)) : Option Nat :=
  x.bind fun q => if ph = true then w_end q.1 q.2 else (w_run fit lk (lk.length + 1) 0 (q.1, [], 0, []) q.2).bind fun r => w_end r.1 r.2
theorem w_ans_step {fit : List UInt8 → List UInt8 → Bool} {ks ss : w_R} {must : Bool} {n left : Nat} {st : w_R} {k : w_R → Nat → Option (w_R × Nat)} (h1 : ss.length ≠ 0) (h2 : ¬ ks.length < ss.length) (h3 : left ≠ 0) : w_ans fit ks ss must n st left k = w_ans fit (ks.drop 1) (if fit (ss.getD 0 []) (ks.getD 0 []) = true then ss.drop 1 else ss) must n st (left - 1) k := by
  unfold w_ans
  rw [w_mul_eq, if_neg h1, if_neg h2, if_neg h3]
theorem w_ans_0 {fit : List UInt8 → List UInt8 → Bool} {ks ss : w_R} {must : Bool} {n : Nat} {st : w_R} {k : w_R → Nat → Option (w_R × Nat)} (h1 : ss.length ≠ 0) (h2 : ¬ ks.length < ss.length) : w_ans fit ks ss must n st 0 k = none := by
  unfold w_ans
  rw [w_mul_eq, if_neg h1, if_neg h2, if_pos rfl]
theorem w_ans_t {fit : List UInt8 → List UInt8 → Bool} {ks ss : w_R} {must : Bool} {n left : Nat} {st : w_R} {k : w_R → Nat → Option (w_R × Nat)} (h1 : ss.length = 0) : w_ans fit ks ss must n st left k = k (w_fin st n must true) left := by
  unfold w_ans w_fin
  rw [w_mul_eq, if_pos h1]
  cases must <;> rfl
theorem w_ans_f {fit : List UInt8 → List UInt8 → Bool} {ks ss : w_R} {must : Bool} {n left : Nat} {st : w_R} {k : w_R → Nat → Option (w_R × Nat)} (h1 : ss.length ≠ 0) (h2 : ks.length < ss.length) : w_ans fit ks ss must n st left k = if must = true then none else k (w_fin st n must false) left := by
  unfold w_ans w_fin
  rw [w_mul_eq, if_neg h1, if_pos h2]
  cases must <;> rfl
theorem w_fin_len {st : w_R} {n : Nat} {must b : Bool} (hn : 1 ≤ n) (hl : n ≤ st.length) : (w_fin st n must b).length ≤ st.length := by
  unfold w_fin
  have hd := w_dr_len (st := st) (n := n)
  split
  · omega
  · rw [List.length_append]
    show (w_dr st n).length + 1 ≤ st.length
    omega
section LOOP7
variable {o mk la inp : Nat} {tb lk : List UInt8} {y : w_y} {tn mx : Nat} {g8 : Int32} {r p len at_ : Nat} {scr : List UInt8} {S : w_S4} {Hs H : jH} {Q : Int32 → jH → Prop} {a2 a3 : Nat} {k3 : Nat → Nat → Nat → Nat → Int32 → jH → Option (Int32 × jH)} {fit : List UInt8 → List UInt8 → Bool}
/-- what holds when an input is done -/
def w_Z7 (o mk la : Nat) (tb : List UInt8) (y : w_y) (lk : List UInt8) (Hs H : jH) : Prop := (∃ st sd, w_M st sd H) ∧ jfr w_FC Hs H ∧ zBase H ∧ w_C7 o mk la tb y lk H
theorem w_P_Z {v : Int32} (h : w_P o mk la tb y lk tn mx g8 r p len scr at_ S v Hs H) : w_Z7 o mk la tb y lk Hs H := ⟨⟨_, _, h.1.1⟩, h.2.1, h.2.2.1, h.2.2.2.1⟩
theorem w_PX_Z (h : w_PX o mk la tb y lk tn mx Hs H) : w_Z7 o mk la tb y lk Hs H := ⟨h.1.1, h.2.1, h.2.2.1, h.2.2.2.1⟩
theorem w_P_6 {v : Int32} (h : w_P o mk la tb y lk tn mx g8 r p len scr at_ S v Hs H) : w_P o mk la tb y lk (tn + 1) mx g8 r p len scr at_ S v Hs (jsI H 49 6 (Int32.ofNat (tn + 1))) := by
  obtain ⟨a, b, c, d, e, f, g⟩ := h
  have hs := jsh_sI (i := 6) (v := Int32.ofNat (tn + 1)) a.1.1 (a := 49) (by decide)
  have hf : jfr (fun a j => a = 49 ∧ j = 6) H (jsI H 49 6 (Int32.ofNat (tn + 1))) := jfr_sI jfr_refl ⟨rfl, rfl⟩
  exact ⟨w_G_T a hs hf fun a j q => by omega, jfr_sI b ⟨by decide, by decide⟩, zBase_T c hf fun a j q => by omega, w_C7_fr d hs hf fun a j q w => by omega, jI_sIe, (jI_sIn (by decide)).trans f, (jI_sIa (by decide)).trans g⟩
theorem z7_325X (h : w_PX o mk la tb y lk tn mx Hs H) {a4 : Int32} (hq : Q 0 H) : jT (B_7_pass_325 k3 49 o a2 a3 a4 H) Q := by
  obtain ⟨⟨⟨x, z, hm⟩, -, h9⟩, -⟩ := h
  unfold B_7_pass_325
  have ez : (if (2 : Int32) = 1 ∧ jI H 170 8 ≠ 0 ∧ x.length ≠ 0 ∧ ztrue (w_tp x 1) = true then (1 : Int32) else 0) = 0 := if_neg fun q => absurd q.1 (by decide)
  rw [sR_49_1 hm.1, z4_happy hm h9 rfl, jb_ok, ez]
  exact jT_g (k49 hm.1) (jT_g (k170 hm.1) (jT_neg (fun q => q rfl) (jT_g (Or.inl rfl) (jT_ret hq))))
theorem z7_90X (h : w_PX o mk la tb y lk tn mx Hs H) {fu : Nat} {a4 a7 : Int32} (hq : Q 0 H) : jT (F_7_pass_90 k3 (fu + 1) 49 o a2 a3 a4 mk (Int32.ofNat la) a7 H) Q := by
  have hm := h.1
  obtain ⟨⟨x, z, hm⟩, -, h9⟩ := hm
  unfold F_7_pass_90 B_7_pass_90
  refine jT_if (fun _ => z7_325X h hq) fun _ => ?_
  rw [sR_49_1 hm.1]
  exact jT_g (k49 hm.1) (jT_g (k170 hm.1) (z4_runS hm.1 h9 (by decide) (jT_pos rfl (z7_325X h hq))))
theorem w_P_open {r' p' len' : Nat} {scr' : List UInt8} {S' : w_S4} {v : Int32} {H' : jH} (h : w_P o mk la tb y lk tn mx g8 r p len scr at_ S v Hs H) (f : jfr w_To H H') (g : w_G r' p' len' scr' 0 S' 0 H' H') : w_P o mk la tb y lk tn mx 1 r' p' len' scr' 0 S' 0 Hs (jsI H' 170 8 1) := by
  obtain ⟨a, b, c, d, e1, e2, e3⟩ := h
  obtain ⟨q1, q2, q3, ⟨d1, d2, d3, d4, d5, d6⟩, ⟨g1, g2, g3, g4, g5⟩, q4, i1, i2, i3⟩ := g
  have hs : jsh (jsI H' 170 8 1) := jsh_sI q1.1 (by decide)
  have hf : jfr (fun a j => w_To a j ∨ (a = 170 ∧ j = 8)) H (jsI H' 170 8 1) := jfr_sI (jfr_mono f fun _ _ q => Or.inl q) (Or.inr ⟨rfl, rfl⟩)
  have gG : w_G r' p' len' scr' 0 S' 0 (jsI H' 170 8 1) (jsI H' 170 8 1) := ⟨w_M_f q1, jfr_refl, (jI_sIn (by decide)).trans q3, ⟨d1, d2, d3, d4, d5, d6⟩, ⟨(jI_sIn (by decide)).trans g1, (jI_sIn (by decide)).trans g2, (jI_sIn (by decide)).trans g3, (jI_sIn (by decide)).trans g4, (jI_sIn (by decide)).trans g5⟩, fun k hk => (jI_sIa (by decide)).trans (q4 k hk), i1, i2, i3⟩
  exact ⟨gG, jfr_trans b (jfr_mono hf fun a j q => by unfold w_To at q; unfold w_FC; omega), zBase_T c hf fun a j q => by unfold w_To at q; omega, w_C7_fr d hs hf fun a j q w => by unfold w_To at w; omega, (jfr_I hf (by unfold w_To; omega)).trans e1, (jfr_I hf (by unfold w_To; omega)).trans e2, jI_sIe⟩
theorem z7_loop (hfit : ∀ sg ky, fit sg ky = true ↔ w_fit tb y inp lk sg ky) (hin : inp < y.1.length) (hmx : mx < 1000) (V : Option Nat)
    (hend1 : ∀ tn' H', tn' ≤ mx → V = some (mx - tn') → w_Z7 o mk la tb y lk Hs H' → jI H' 49 6 = Int32.ofNat tn' → jI H' 49 7 = Int32.ofNat mx → jT (k3 49 o a2 a3 (Int32.ofNat inp + 1) H') Q)
    (hend0 : ∀ H', V = none → w_Z7 o mk la tb y lk Hs H' → Q 0 H') :
    ∀ (u : Nat) (ph : Bool) (tn r p len : Nat) (scr : List UInt8) (f at_ : Nat) (S : w_S4) (i fu : Nat) (H : jH), mx - tn + (if ph = true then 0 else 1) ≤ u → tn ≤ mx → i + u + 5 ≤ 200 → u + 3 ≤ fu → scr.length < at_ + f → at_ ≤ scr.length → S.1.length + S.2.1.length ≤ 60 →
    ((w_P o mk la tb y lk tn mx (if ph = true then 1 else 0) r p len scr at_ S 0 Hs H ∧ V = w_bd fit lk ph (w_run fit scr f at_ S (mx - tn))) ∨ (∃ ks ss n must, ss.length ≠ 0 ∧ w_P o mk la tb y lk tn mx (if ph = true then 1 else 0) r p len scr at_ S 3 Hs H ∧ w_K S.1 ks ss n must H ∧ V = w_bd fit lk ph (w_ans fit ks ss must n S.1 (mx - tn) fun st' l' => w_run fit scr f at_ (st', S.2) l'))) →
    jT (F_7_pass_90 k3 fu 49 o a2 a3 (Int32.ofNat inp) mk (Int32.ofNat la) (Int32.ofNat i) H) Q := by
  intro u
  induction u using Nat.strongRecOn with
  | ind u ih =>
  intro ph tn r p len scr f at_ S i fu H hu htn hi hfu hf hat hb hst
  obtain ⟨fu, rfl⟩ : ∃ k, fu = k + 1 := ⟨fu - 1, by omega⟩
  have i200 : ¬ (200 : Int32) ≤ Int32.ofNat i := by rw [show (200 : Int32) = Int32.ofNat 200 from rfl, jo_le (by omega) (by omega)]; omega
  have ei : Int32.ofNat i + 1 = Int32.ofNat (i + 1) := jo_add (a := i) (b := 1)
  -- signatures are waited for
  have ask3 : ∀ (f at_ : Nat) (S : w_S4) (H : jH) (ks ss : w_R) (n : Nat) (must : Bool), scr.length < at_ + f → at_ ≤ scr.length → S.1.length + S.2.1.length ≤ 60 → ss.length ≠ 0 → w_P o mk la tb y lk tn mx (if ph = true then 1 else 0) r p len scr at_ S 3 Hs H → w_K S.1 ks ss n must H → V = w_bd fit lk ph (w_ans fit ks ss must n S.1 (mx - tn) fun st' l' => w_run fit scr f at_ (st', S.2) l') → jT (B_7_pass_90 k3 (F_7_pass_90 k3 fu) 49 o a2 a3 (Int32.ofNat inp) mk (Int32.ofNat la) (Int32.ofNat i) H) Q := by
    intro f at_ S H ks ss n must hf hat hb hss hP hK hV
    have hs := w_P_s hP
    have kle : ¬ ks.length < ss.length := by have := hK.2.2.2.2.2.2.2.1; omega
    have hn2 : 2 ≤ n := hK.2.2.2.2.2.2.2.2.2
    have hnl : n ≤ S.1.length := hK.2.2.2.2.2.2.1
    have e9 : jI H 170 9 = 3 := hP.1.2.2.1
    have e6 := hP.2.2.2.2.1
    have e7 := hP.2.2.2.2.2.1
    unfold B_7_pass_90
    rw [sR_49_1 hs]
    refine jT_neg i200 (jT_g (k49 hs) (jT_g (k170 hs) (z4_runS hs e9 (by decide) (jT_neg (by decide) (jT_g (k49 hs) ?_)))))
    rw [sR_49_1 hs, e9, e6, show Int32.ofNat tn + 1 = Int32.ofNat (tn + 1) from jo_add (a := tn) (b := 1)]
    have hP1 := w_P_6 hP
    have hK1 : w_K S.1 ks ss n must (jsI H 49 6 (Int32.ofNat (tn + 1))) := w_K_T (T := fun a j => a = 49 ∧ j = 6) hK (jfr_sI jfr_refl ⟨rfl, rfl⟩) fun a j q => by omega
    refine jT_g (k170 hs) (jT_neg (fun q => q rfl) (jT_g (k49 hs) (jT_g (k49 hs) (jT_l ?_))))
    generalize jsI H 49 6 (Int32.ofNat (tn + 1)) = H1 at *
    have hs1 := w_P_s hP1
    rw [hP1.2.2.2.2.1, hP1.2.2.2.2.2.1]
    refine jT_g (k49 hs1) (jT_g (k49 hs1) ?_)
    by_cases cm : tn + 1 ≤ mx
    rotate_left
    · refine jT_neg (by rw [jo_le (by omega) (by omega)]; exact cm) (jT_g (Or.inl rfl) (jT_ret (hend0 H1 ?_ (w_P_Z hP1))))
      rw [hV, show mx - tn = 0 by omega, w_ans_0 hss kle]
      rfl
    rw [w_ans_step hss kle (by omega), show mx - tn - 1 = mx - (tn + 1) by omega] at hV
    rw [sR_49_1 hs1, sR_49_2 hs1]
    refine jT_pos (by rw [jo_le (by omega) (by omega)]; exact cm) (jT_g (k49 hs1) (jT_g (k49 hs1) (jT_g (k170 hs1) (z7_try hfit hP1 hK1 hss hin fun x H2 ex hP2 hK2 => ?_))))
    have hs2 := w_P_s hP2
    unfold B_7_pass_273 B_7_pass_319
    rw [sR_49_1 hs2, ei]
    refine jT_g (k49 hs2) (jT_g (k170 hs2) (jT_b (z4_answer ex hP2.1 hb hK2 hss (fun H3 z h3 => ?_) (fun H3 z z2 zm h3 => ?_) (fun H3 z z2 zm h3 => ?_) fun H3 z z2 h3 hK3 => ?_)))
    · refine jT_l (ih (u - 1) (by omega) ph (tn + 1) r p len scr f at_ (w_fin S.1 n must true, S.2) (i + 1) fu H3 (by omega) cm (by omega) (by omega) hf hat ?_ (Or.inl ⟨w_P_G hP2 h3, ?_⟩))
      · show (w_fin S.1 n must true).length + S.2.1.length ≤ 60
        have := w_fin_len (must := must) (b := true) (by omega) hnl
        omega
      · rw [hV, w_ans_t z]
    · refine jT_l (ih (u - 1) (by omega) ph (tn + 1) r p len scr f at_ (w_fin S.1 n must false, S.2) (i + 1) fu H3 (by omega) cm (by omega) (by omega) hf hat ?_ (Or.inl ⟨w_P_G hP2 h3, ?_⟩))
      · show (w_fin S.1 n must false).length + S.2.1.length ≤ 60
        have := w_fin_len (must := must) (b := false) (by omega) hnl
        omega
      · rw [hV, w_ans_f z z2, if_neg (by rw [zm]; decide)]
    · obtain ⟨fu, rfl⟩ : ∃ k, fu = k + 1 := ⟨fu - 1, by omega⟩
      have hX := w_P_X hP2 h3
      refine jT_l (z7_90X hX (hend0 H3 ?_ (w_PX_Z hX)))
      rw [hV, w_ans_f z z2, if_pos zm]
      rfl
    · exact jT_l (ih (u - 1) (by omega) ph (tn + 1) r p len scr f at_ S (i + 1) fu H3 (by omega) cm (by omega) (by omega) hf hat hb (Or.inr ⟨_, _, n, must, z, w_P_G hP2 h3, hK3, hV⟩))
  unfold F_7_pass_90
  rcases hst with ⟨hP, hV⟩ | ⟨ks, ss, n, must, hss, hP, hK, hV⟩
  rotate_left
  · exact ask3 f at_ S H ks ss n must hf hat hb hss hP hK hV
  have hs := w_P_s hP
  unfold B_7_pass_90
  rw [sR_49_1 hs]
  refine jT_neg i200 (jT_g (k49 hs) (jT_g (k170 hs) (jT_b ?_)))
  unfold F_4_run
  refine z4_run2 f at_ S 0 jfuel H hf (Nat.zero_le _) hat (by unfold jfuel; omega) hP.1 hb (fun S' b H' er h' hb' => ?_) (fun H' er h' => ?_) fun f' b S' ks ss n must H' hf' hfb hbl er hss h' hK' hb' => ?_
  · -- the script's end
    have hP' := w_P_G hP h'
    have hs' := w_P_s hP'
    have e9 : jI H' 170 9 = 1 := h'.2.2.1
    have e8 := hP'.2.2.2.2.2.2
    rw [er fit (mx - tn)] at hV
    rw [sR_49_1 hs', e9]
    refine jT_neg (by decide) (jT_g (k49 hs') (jT_g (k170 hs') (jT_pos (by decide) (jT_g (k49 hs') (jT_g (k170 hs') ?_)))))
    cases ph with
    | true =>
      rw [if_pos rfl] at e8
      have hV' : V = w_end S'.1 (mx - tn) := hV
      rw [e8]
      refine jT_neg (by decide) ?_
      unfold B_7_pass_325
      rw [sR_49_1 hs', z4_happy h'.1 e9 e8, jb_ok]
      refine jT_g (k49 hs') (jT_g (k170 hs') ?_)
      by_cases t : S'.1.length ≠ 0 ∧ ztrue (w_tp S'.1 1) = true
      · unfold w_end at hV'
        rw [if_pos t] at hV'
        have ez : (if (1 : Int32) = 1 ∧ (1 : Int32) ≠ 0 ∧ S'.1.length ≠ 0 ∧ ztrue (w_tp S'.1 1) = true then (1 : Int32) else 0) = 1 := if_pos ⟨rfl, by decide, t.1, t.2⟩
        rw [ez]
        exact jT_pos (by decide) (jT_l (hend1 tn H' htn hV' (w_P_Z hP') hP'.2.2.2.2.1 hP'.2.2.2.2.2.1))
      · unfold w_end at hV'
        rw [if_neg t] at hV'
        have ez : (if (1 : Int32) = 1 ∧ (1 : Int32) ≠ 0 ∧ S'.1.length ≠ 0 ∧ ztrue (w_tp S'.1 1) = true then (1 : Int32) else 0) = 0 := if_neg fun q => t ⟨q.2.2.1, q.2.2.2⟩
        rw [ez]
        exact jT_neg (fun q => q rfl) (jT_g (Or.inl rfl) (jT_ret (hend0 H' hV' (w_P_Z hP'))))
    | false =>
      rw [if_neg (by decide)] at e8
      have hu1 : mx - tn + 1 ≤ u := hu
      have hV' : V = w_bd fit lk true (w_run fit lk (lk.length + 1) 0 (S'.1, [], 0, []) (mx - tn)) := hV
      obtain ⟨row, s, len2, lr, llen, nm, hc, hy, hlk⟩ := hP'.2.2.2.1
      obtain ⟨m1, m2, m3, m4, m5, m6, m7, m8, m9, m10⟩ := hc.2.2
      have esz := z10_scriptSize (o := mk) (p := la) m1 m2 m3 m6 m4 (by omega)
      rw [m8] at esz
      rw [e8, esz, jb_ok, m2]
      unfold F_4_openLast B_7_pass_319
      rw [ei]
      refine jT_pos rfl (jT_g (k49 hs') (jT_g m1 (jT_g m1 (jT_g (k170 hs') (jT_b (jT_g (k170 hs') (z4_open rfl rfl h'.1 m3 m7 m5 m6 m10 hlk fun H2 f2 g2 => jT_g ⟨k170 g2.1.1, Or.inr rfl⟩ (jT_l (jT_ret (jT_l ?_)))))))))) 
      exact ih (u - 1) (by omega) true tn lr la llen lk (lk.length + 1) 0 (S'.1, [], 0, []) (i + 1) fu _ (by show mx - tn + 0 ≤ u - 1; omega) htn (by omega) (by omega) (by omega) (Nat.zero_le _) (by show S'.1.length + 0 ≤ 60; omega) (Or.inl ⟨w_P_open hP' f2 g2, hV'⟩)
  · -- a fault
    have hX := w_P_X hP h'
    refine jT_pos rfl (z7_325X hX (hend0 H' ?_ (w_PX_Z hX)))
    rw [hV, er fit (mx - tn)]
    rfl
  · -- signatures
    have hP' := w_P_G hP h'
    have hs' := w_P_s hP'
    have e9 : jI H' 170 9 = 3 := h'.2.2.1
    have := ask3 f' b S' H' ks ss n must hfb hbl hb' hss hP' hK' (by rw [hV, er fit (mx - tn)])
    unfold B_7_pass_90 at this
    have eS : F_4_run 170 H' = some (3, H') := by
      obtain ⟨fu, efu⟩ : ∃ fu, jfuel = fu + 1 := ⟨jfuel - 1, by unfold jfuel; omega⟩
      unfold F_4_run
      rw [efu]
      unfold F_4_run_2 B_4_run_2 B_4_run_339 B_4_run_362
      rw [if_neg (by decide), e9, jg_t (k170 hs'), if_pos (by decide), jg_t (k170 hs'), if_pos (by decide), jg_t (k170 hs')]
    rw [if_neg i200, jg_t (k49 hs'), sR_49_1 hs', jg_t (k170 hs'), eS, jb_ok] at this
    exact this
end LOOP7
