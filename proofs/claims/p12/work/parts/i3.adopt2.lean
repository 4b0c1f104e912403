/-! The class makes a block known and looks for its tip. -/
theorem b_KA_kp {cs : List w_cn} {m : Nat} {H H1 : jH} (hs : jsh H) (h : b_KA cs m H) (hk : jkp (jn H) H H1) (e : ∀ a j, 392 ≤ a → a ≤ 395 → jI H1 a j = jI H a j ∧ jL H1 a j = jL H a j ∧ jR H1 a j = jR H a j) : b_KA cs m H1 := by
  obtain ⟨⟨h1, h2, h3⟩, h4, h5, h6⟩ := h
  refine ⟨⟨(e 392 3 (by decide) (by decide)).1.trans h1, h2, fun k c hc => ?_⟩, (e 392 5 (by decide) (by decide)).2.1.trans h4, (e 392 4 (by decide) (by decide)).1.trans h5, h6⟩
  obtain ⟨a1, ⟨row, s, len, a2⟩, a3, a4⟩ := h3 k c hc
  rw [(e 393 k (by decide) (by decide)).2.2, (e 394 k (by decide) (by decide)).1, (e 395 k (by decide) (by decide)).1]
  exact ⟨a1, ⟨row, s, len, (w_xn_kp (w_xn_of hs a2) hk).1⟩, a3, a4⟩
def b_Tn (Wk : Nat) : Nat → Nat → Prop := fun a j => b_Tw Wk a j ∨ a = 399 ∨ (a = 398 ∧ (j = 4 ∨ j = 10))
theorem jT_bu {α β : Type} {Q : α → jH → Prop} {o : Option (β × jH)} {k : β → jH → Option (α × jH)} (h : jT (jb o k) Q) : jT o (fun x h => jT (k x h) Q) := by
  obtain ⟨y, h1, h2⟩ := h
  cases o with
  | none => exact absurd h1 (fun w => nomatch w)
  | some x => exact ⟨x, rfl, y, h1, h2⟩
section AD2
variable {α : Type} {nb0 nb tip p : Nat} {bs : List b_k} {b : b_k} {os : List Nat} {H0 : jH} {bad : Nat → Bool} {W : Nat → Nat} {B Wk : Nat}
theorem b_o_lo {k : Nat} (hk : k < os.length) : b_o (os ++ [B]) k = b_o os k := by
  unfold b_o
  rw [List.getD_eq_getElem?_getD, List.getD_eq_getElem?_getD, List.getElem?_append_left hk]
theorem b_o_new : b_o (os ++ [B]) os.length = B := by
  unfold b_o
  rw [List.getD_eq_getElem?_getD, List.getElem?_append_right (Nat.le_refl _), Nat.sub_self]
  rfl
theorem jsh_Tn (h513 : 422 ≤ Wk) {H H' : jH} (hs : jsh H) (hf : jfr (fun a j => b_Tw Wk a j ∨ (a = 398 ∧ (j = 4 ∨ j = 10))) H H') : jsh H' := jsh_fr hs hf (by
    have : ∀ q ∈ jRs, q.1 ≠ 403 ∧ q.1 ≠ 405 ∧ q.1 < 422 ∧ (q.1 ≠ 398 ∨ (q.2.1 ≠ 4 ∧ q.2.1 ≠ 10)) := by decide +kernel
    intro q hq w
    have := this q hq
    unfold b_Tw at w
    omega) fun a ha j w => by unfold b_Tw at w; omega
theorem z1_adopt {Q : α → jH → Prop} {k : Int32 → jH → Option (α × jH)} (hs : jsh H0) (hw : b_wf bs) (hB : b_BC nb0 bs os H0) (hL : b_LN bs os tip H0) (hW : b_wk W os bs.length H0) (hbd : b_bd os bs.length bad H0) (hr : b_right bs tip) (hclo : b_clo bs bad) (hcnt : jI H0 398 5 = Int32.ofNat (b_cnt bad bs.length))
    (hKA : ∀ H1, jfr (b_Tn Wk) H0 H1 → b_KA (b_co bs tip (b_ht bs tip)).1 (b_co bs tip (b_ht bs tip)).2 H1) (hM : b_MZ H0)
    (hb : b_nw bs b) (ep : b.2.2.1 = p) (hbits : b_bits b.2.2.2.2.1) (hle : b_tg b.2.2.2.2.1 ≤ b_lim) (hbp : bad p = false) (hBn : nb0 ≤ B ∧ 422 ≤ B) (hWn : nb0 ≤ Wk ∧ 422 ≤ Wk) (hbw : b_ws B Wk H0)
    (hx : ∀ H1, jfr (b_Tn Wk) H0 H1 → b_bx nb B b (b_o os p) H1) (h7 : jI H0 B 7 = 0) (hmx : b_max W bad tip bs.length) (hbn : bad bs.length = false) (hb0 : bad 0 = false) (hpw : W p + b_w1 b.2.2.2.2.1 < 2 ^ 256) (hnb : nb0 ≤ nb)
    (hk : ∀ tip' bad' code f H', b_cho (bs ++ [b]) (nup W bs.length (W p + b_w1 b.2.2.2.2.1)) bad tip bs.length tip' bad' code → jsh H' → jfr (fun a j => b_Tn Wk a j ∨ b_FD (os ++ [B]) a j) H0 H' → b_CS nb (bs ++ [b]) (os ++ [B]) (nup W bs.length (W p + b_w1 b.2.2.2.2.1)) bad' tip' H' → (tip' ≠ tip → b_isf (bs ++ [b]) bs.length tip f ∧ b_LF (bs ++ [b]) (os ++ [B]) tip f H') → jT (k code H') Q) : jT (jb (F_1_adopt 398 B H0) k) Q := by
  subst ep
  obtain ⟨l1, l2, l3, l4, l5⟩ := hB
  obtain ⟨n1, n2, n3, n4, n5, n6, n7⟩ := hb
  have k1 : ∀ {H}, jsh H → (jK H 398).1 = 1 := fun hs => gT (sK_398 hs)
  obtain ⟨p1, p2⟩ := l5 _ n3
  obtain ⟨⟨pk, pd, -⟩, -, -, -, pw1, pw2⟩ := p2
  have tipl := hL.1
  unfold F_1_adopt
  refine jT_b (jT_g (k1 hs) (jT_l ?_))
  have f1 : jfr (b_Tn Wk) H0 (jsI H0 398 10 0) := jfr_sI jfr_refl (Or.inr (Or.inr ⟨rfl, Or.inr rfl⟩))
  have f1' : jfr (fun a j => b_Tw Wk a j ∨ (a = 398 ∧ (j = 4 ∨ j = 10))) H0 (jsI H0 398 10 0) := jfr_sI jfr_refl (Or.inr ⟨rfl, Or.inr rfl⟩)
  have s1 := jsh_Tn hWn.2 hs f1'
  have v4 : jI (jsI H0 398 10 0) 398 4 = Int32.ofNat bs.length := (jI_sIn (by decide)).trans l4
  have v10 : jI (jsI H0 398 10 0) 398 10 = 0 := jI_sIe
  obtain ⟨H1, e1⟩ : ∃ H1, H1 = jsI H0 398 10 0 := ⟨_, rfl⟩
  rw [← e1] at f1 f1' s1 v4 v10 ⊢
  rw [v4]
  refine jT_g (k1 s1) (jT_pos (by show Int32.ofNat _ < Int32.ofNat 300; rw [jo_lt (by omega) (by decide)]; exact n1) (jT_g (k1 s1) ?_))
  have bw1 : b_ws B Wk H1 := by
    obtain ⟨a1, a2, a3, a4, a5⟩ := hbw
    exact ⟨s1, by rw [e1]; exact a2, by rw [e1]; exact a3, by rw [e1]; exact a4, a5⟩
  obtain ⟨⟨-, -, x5, -, x2, -⟩, -⟩ := hx H1 f1
  have pdn : ¬ (b_o os b.2.2.1 = Wk) := fun w => by unfold b_dy at pd; omega
  have pd1 := pd
  have pw3 := pw2
  unfold b_dy at pd1 pw3
  have hrp : r8 H1 (jR H0 (b_o os b.2.2.1) 8) (W b.2.2.1) := by
    obtain ⟨f, q1, q2⟩ := hW _ n3
    exact ⟨f, fun i hi => ⟨(jfr_I f1 fun w => by unfold b_Tn b_Tw at w; omega).trans (q1 i hi).1, (q1 i hi).2⟩, q2⟩
  refine z1_setWork (k := fun _ h19 => _) bw1 x2 hbits hle x5 (by omega) (by rw [e1]; exact pk) (by rw [e1]; rfl) (by rw [e1]; exact pw1) (by omega) (by omega) (by omega) hrp hpw fun H2 f2 r2 => ?_
  have f2' : jfr (b_Tn Wk) H0 H2 := jfr_trans f1 (jfr_mono f2 fun a j w => Or.inl w)
  have f2s : jfr (fun a j => b_Tw Wk a j ∨ (a = 398 ∧ (j = 4 ∨ j = 10))) H0 H2 := jfr_trans f1' (jfr_mono f2 fun a j w => Or.inl w)
  have s2 := jsh_Tn hWn.2 hs f2s
  have w4 : jI H2 398 4 = Int32.ofNat bs.length := (jfr_I f2 (by unfold b_Tw; omega)).trans v4
  have w10 : jI H2 398 10 = 0 := (jfr_I f2 (by unfold b_Tw; omega)).trans v10
  have kB2 : (jK H2 B).1 = 0 := by rw [jfr_K f2']; exact hbw.2.1
  have g : jin (Int32.ofNat bs.length) 300 := jo_in (by omega) n1
  have en : Int32.ofNat bs.length + 1 = Int32.ofNat (bs.length + 1) := jo_add (a := bs.length) (b := 1)
  refine jT_g (k1 s2) (jT_g (k1 s2) ?_)
  rw [w4, sR_398_3 s2, sK_399 s2, jo_nat (n := bs.length) (by omega)]
  refine jT_g ⟨rfl, g, Or.inr kB2⟩ (jT_l ?_)
  have f3 : jfr (b_Tn Wk) H0 (jsR H2 399 bs.length B) := jfr_sR f2' (Or.inr (Or.inl rfl))
  have s3 : jsh (jsR H2 399 bs.length B) := jsh_sRn s2 (by decide +kernel)
  have u4 : jI (jsR H2 399 bs.length B) 398 4 = Int32.ofNat bs.length := w4
  have u10 : jI (jsR H2 399 bs.length B) 398 10 = 0 := w10
  have u9 : jR (jsR H2 399 bs.length B) 399 bs.length = B := jR_sRe
  have r3 : r8 (jsR H2 399 bs.length B) Wk (W b.2.2.1 + b_w1 b.2.2.2.2.1) := r2
  have u9n : ∀ i, i ≠ bs.length → jR (jsR H2 399 bs.length B) 399 i = jR H0 399 i := fun i hi => (jup_i hi).trans (jfr_R f2s fun w => by unfold b_Tw at w; omega)
  obtain ⟨H3, e3⟩ : ∃ H3, H3 = jsR H2 399 bs.length B := ⟨_, rfl⟩
  rw [← e3] at f3 s3 u4 u10 u9 u9n r3 ⊢
  refine jT_g (k1 s3) (jT_g (k1 s3) ?_)
  rw [u4, en]
  refine jT_l ?_
  have f4 : jfr (b_Tn Wk) H0 (jsI H3 398 4 (Int32.ofNat (bs.length + 1))) := jfr_sI f3 (Or.inr (Or.inr ⟨rfl, Or.inl rfl⟩))
  have s4 : jsh (jsI H3 398 4 (Int32.ofNat (bs.length + 1))) := jsh_sI s3 (by decide)
  have t4 : jI (jsI H3 398 4 (Int32.ofNat (bs.length + 1))) 398 4 = Int32.ofNat (bs.length + 1) := jI_sIe
  have t10 : jI (jsI H3 398 4 (Int32.ofNat (bs.length + 1))) 398 10 = 0 := (jI_sIn (by decide)).trans u10
  have t9 : jR (jsI H3 398 4 (Int32.ofNat (bs.length + 1))) 399 bs.length = B := u9
  have t9n : ∀ i, i ≠ bs.length → jR (jsI H3 398 4 (Int32.ofNat (bs.length + 1))) 399 i = jR H0 399 i := u9n
  have r4 : r8 (jsI H3 398 4 (Int32.ofNat (bs.length + 1))) Wk (W b.2.2.1 + b_w1 b.2.2.2.2.1) := by
    obtain ⟨f, q1, q2⟩ := r3
    exact ⟨f, fun i hi => ⟨(jup_a (by omega)).trans (q1 i hi).1, (q1 i hi).2⟩, q2⟩
  obtain ⟨H4, e4⟩ : ∃ H4, H4 = jsI H3 398 4 (Int32.ofNat (bs.length + 1)) := ⟨_, rfl⟩
  rw [← e4] at f4 s4 t4 t10 t9 t9n r4 ⊢
  have kp4 : jkp nb0 H0 H4 := jkp_fr f4 fun a j hd w => by unfold b_Tn b_Tw at w; unfold b_dy at hd; omega
  have nold : ∀ i, i < bs.length → b_o os i ≠ B := fun i hi w => by
    have := (l5 i hi).2.1.2.1
    unfold b_dy at this
    omega
  have eo : b_o (os ++ [B]) bs.length = B := by rw [← l1]; exact b_o_new
  have eol : ∀ i, i < bs.length → b_o (os ++ [B]) i = b_o os i := fun i hi => b_o_lo (by omega)
  have hw' := b_wf_new hw ⟨n1, n2, n3, n4, n5, n6, n7⟩
  have hB' : b_BC nb (bs ++ [b]) (os ++ [B]) H4 := by
    refine ⟨by rw [b_len1, List.length_append, l1]; rfl, by rw [eol 0 (by have := hw.1; omega)]; exact l2, fun i j hij hj => ?_, by rw [b_len1]; exact t4, fun i hi => ?_⟩
    · rw [b_len1] at hj
      by_cases c : j < bs.length
      · rw [eol i (by omega), eol j c]
        exact l3 i j hij c
      · obtain rfl : j = bs.length := by omega
        rw [eo, eol i hij]
        exact nold i hij
    · rw [b_len1] at hi
      by_cases c : i < bs.length
      · have epo : b_po (bs ++ [b]) (os ++ [B]) i = b_po bs os i := by
          unfold b_po
          by_cases c0 : i = 0
          · rw [if_pos c0, if_pos c0]
          · rw [if_neg c0, if_neg c0, b_pa_lo c, eol _ (by have := (hw.2.2.2.2 i (by omega) c).1; omega)]
        rw [t9n i (by omega), eol i c, b_g_lo c, epo]
        exact ⟨(l5 i c).1, b_bx_mono (b_bx_kp (l5 i c).2 kp4) hnb⟩
      · obtain rfl : i = bs.length := by omega
        have epo : b_po (bs ++ [b]) (os ++ [B]) bs.length = b_o os b.2.2.1 := by
          unfold b_po b_pa
          rw [if_neg (by have := hw.1; omega), b_g_new, eol _ n3]
        rw [t9, eo, b_g_new, epo]
        exact ⟨rfl, hx H4 f4⟩
  have hL' : b_LN (bs ++ [b]) (os ++ [B]) tip H4 := by
    refine ⟨by rw [b_len1]; omega, ?_, fun h hh => ?_⟩
    · rw [eol tip tipl]
      exact (jfr_R f4 (by unfold b_Tn b_Tw; omega)).trans hL.2.1
    · rw [b_ht_lo tipl] at hh
      rw [b_at_lo hw tipl, eol _ (b_at_lt hw tipl)]
      exact (jfr_R f4 (by unfold b_Tn b_Tw; omega)).trans (hL.2.2 h hh)
  have hW' : b_wk (nup W bs.length (W b.2.2.1 + b_w1 b.2.2.2.2.1)) (os ++ [B]) (bs ++ [b]).length H4 := by
    have old := b_wk_kp hW ⟨l1, l2, l3, l4, l5⟩ kp4
    intro i hi
    rw [b_len1] at hi
    unfold nup
    by_cases c : i < bs.length
    · rw [if_neg (by omega), eol i c]
      exact old i c
    · obtain rfl : i = bs.length := by omega
      rw [if_pos rfl, eo, show jR H4 B 8 = Wk from (jfr_R f4 (by unfold b_Tn b_Tw; have := hbw.2.2.2.2.2.2; omega)).trans hbw.2.2.1]
      exact r4
  have hbd' : b_bd (os ++ [B]) (bs ++ [b]).length bad H4 := fun i hi => by
    rw [b_len1] at hi
    by_cases c : i < bs.length
    · rw [eol i c]
      refine (jfr_I f4 fun w => ?_).trans (hbd i c)
      have := (l5 i c).2.1.2.1
      unfold b_dy at this
      unfold b_Tn b_Tw at w
      omega
    · obtain rfl : i = bs.length := by omega
      rw [eo, hbn]
      exact (jfr_I f4 fun w => by unfold b_Tn b_Tw at w; have := hbw.2.2.2.2.2.2; omega).trans h7
  have hcn : b_cnt bad (bs ++ [b]).length = b_cnt bad bs.length := by
    rw [b_len1]
    show b_cnt bad bs.length + (if bad bs.length = true then 1 else 0) = _
    rw [hbn]
    rfl
  have hC : b_CS nb (bs ++ [b]) (os ++ [B]) (nup W bs.length (W b.2.2.1 + b_w1 b.2.2.2.2.1)) bad tip H4 := by
    refine ⟨hw', hB', hL', hW', hbd', (b_right_lo hw tipl).mpr hr, b_clo_new hclo hbp, ?_, ?_, b_MZ_fr hM s4 f4 fun a j w => by unfold b_Tn b_Tw at w; omega⟩
    · rw [hcn]
      exact (jfr_I f4 (by unfold b_Tn b_Tw; omega)).trans hcnt
    · rw [b_ht_lo tipl, b_co_lo hw tipl]
      exact hKA H4 f4
  have fin := z1_adopt50 (n := bs.length) (k := k) (Q := Q) s4 hC b_len1.symm tipl (b_max_eq hmx fun i hi => if_neg (by omega)) hbn hb0 t10 fun tip' bad' code f H' hch hs' hf' hC' hlf => hk tip' bad' code f H' hch hs' (jfr_trans (jfr_mono f4 fun a j w => Or.inl w) (jfr_mono hf' fun a j w => Or.inr w)) hC' hlf
  rw [eo] at fin
  exact jT_bu fin
end AD2
