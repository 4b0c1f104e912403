/-! The reference takes a block. -/
/-- places that are read one behind the other belong to transactions -/
theorem b_prs_ty {b : Nat → UInt8} {e : Nat} : ∀ {c s q : Nat} {l : List (Nat × w_y)}, s ≤ e → e ≤ s + 2000 → b_prs b e c s = some (l, q) → ∃ txs : List b_t, txs.length = c ∧ (∀ x ∈ txs, w_ty x.2.1 x.2.2 ∧ x.1 = b_hs x.2.1) ∧ (∀ i u, (b_fl txs)[i]? = some u → b (s + i) = u) ∧ q = s + b_tot txs
  | 0, s, q, l, h1, h2, h => by
    have e1 : (([], s) : List (Nat × w_y) × Nat) = (l, q) := Option.some.inj h
    exact ⟨[], rfl, fun x hx => (by cases hx), fun i u hi => (by cases hi), (congrArg Prod.snd e1).symm⟩
  | c + 1, s, q, l, h1, h2, h => by
    unfold b_prs at h
    cases hx : ztx b s e with
    | none =>
      rw [hx] at h
      cases h
    | some x =>
      rw [hx] at h
      obtain ⟨y, e1, e2, e3, e4⟩ := w_own h1 h2 hx
      have h' : (b_prs b e c x.2.2).map (fun q => ((s, x) :: q.1, q.2)) = some (l, q) := h
      cases hr : b_prs b e c x.2.2 with
      | none =>
        rw [hr] at h'
        cases h'
      | some w =>
        rw [hr] at h'
        have e5 : x.2.2 = s + y.2.2 := by rw [e1]; rfl
        have eq2 : w.2 = q := congrArg Prod.snd (Option.some.inj h')
        obtain ⟨r, r1, r2, r3, r4⟩ := b_prs_ty (c := c) (s := x.2.2) (q := w.2) (l := w.1) (by omega) (by omega) hr
        refine ⟨(b_hs (zcut b s y.2.2), zcut b s y.2.2, y) :: r, by rw [List.length_cons, r1], fun z hz => ?_, fun i u hi => ?_, ?_⟩
        · rcases List.mem_cons.mp hz with w | w
          · rw [w]
            exact ⟨e2, rfl⟩
          · exact r2 z w
        · rw [b_fl_cons] at hi
          by_cases c1 : i < y.2.2
          · rw [List.getElem?_append_left (by show i < (zcut b s y.2.2).length; omega)] at hi
            have g : (zcut b s y.2.2).getD i 0 = b (s + i) := zcut_gd c1
            have g2 : (zcut b s y.2.2).getD i 0 = u := by
              rw [List.getD_eq_getElem?_getD, show (zcut b s y.2.2)[i]? = some u from hi]
              rfl
            exact g.symm.trans g2
          · rw [List.getElem?_append_right (by show (zcut b s y.2.2).length ≤ i; omega)] at hi
            have := r3 (i - (zcut b s y.2.2).length) u hi
            rwa [e4, e5, show s + y.2.2 + (i - y.2.2) = s + i by omega] at this
        · rw [← eq2, r4, e5, b_tot_cons]
          show s + y.2.2 + b_tot r = s + ((zcut b s y.2.2).length + b_tot r)
          omega
theorem b_blk_lay {H : jH} {r : Nat} {by_ : List UInt8} {l : List (Nat × w_y)} (hz : zRow H r 1 by_) (hl : by_.length ≤ 1999) (h : b_blk (jB H r) 1 by_.length l) : ∃ txs, s_isb by_ txs := by
  obtain ⟨h1, h2, h3, h4⟩ := h
  have e80 : (by_.getD 80 0) = jB H r (1 + 80) := (hz 80 _ (getD_of (by omega))).symm
  obtain ⟨txs, t1, t2, t3, t4⟩ := b_prs_ty (by omega) (by omega) h4
  refine ⟨txs, ⟨h1, hl, by omega, by rw [e80]; omega, ?_⟩, t2⟩
  refine List.ext_getElem? fun i => ?_
  have lf : (b_fl txs).length = b_tot txs := b_fl_len
  by_cases c : i < by_.length - 81
  · have d1 : i < (b_fl txs).length := by omega
    have g1 := List.getElem?_eq_getElem d1
    have := t3 i _ g1
    rw [List.getElem?_drop, g1, List.getElem?_eq_getElem (show 81 + i < by_.length by omega)]
    have q := hz (81 + i) _ (List.getElem?_eq_getElem (show 81 + i < by_.length by omega))
    rw [show 1 + 81 + i = 1 + (81 + i) by omega, q] at this
    rw [this]
  · rw [List.getElem?_drop, List.getElem?_eq_none (by omega), List.getElem?_eq_none (by omega)]
section BK18
variable {Q : Unit → jH → Prop} {S S' : s_S} {tp kn m nm : List UInt8} {ki code : Int32} {H0 H : jH} {p tipo : Nat}
/-- the others are told of a new tip -/
theorem y18_135 (hs : jsh H) (hR : s_ref S tp kn ki H) (hp : p < 4) (h3 : tipo < 300)
    (h0 : S.2.2.2.1 = tipo → Q () H)
    (h1 : S.2.2.2.1 ≠ tipo → ∀ H', jsh H' → jfr zTS18 H H' → s_ref (s_bx S (p_bxo S.2.2.2.2.2 p (p_tl 2 (b_nm S.1 S.2.2.2.1)))) tp kn ki H' → Q () H') : jT (B_18_message_135 421 (Int32.ofNat p) (Int32.ofNat tipo) H) Q := by
  have k18 : ∀ {H}, jsh H → (jK H 421).1 = 18 := fun hs => gT (sK_421 hs)
  obtain ⟨hw, hT, hD, -, -, htl, h13, -⟩ := hR.1
  have l300 := hw.2.1
  unfold B_18_message_135 B_18_message_161 B_18_message_272
  refine jT_g (k18 hs) ?_
  rw [h13]
  by_cases c : S.2.2.2.1 = tipo
  · exact jT_pos (by rw [c]) (jT_ret (h0 c))
  · refine jT_neg (by rw [jo_eq (by omega) (by omega)]; exact c) (jT_g (k18 hs) (jT_g (k18 hs) (jT_g (k18 hs) ?_)))
    have e32 : (32 : Int32) * Int32.ofNat S.2.2.2.1 = Int32.ofNat (32 * S.2.2.2.1) := p_e32
    rw [sR_421_8 hs, e32]
    exact p_oth18 (r := 476) (o := 32 * S.2.2.2.1) (len := 9600) (nm := b_nm S.1 S.2.2.2.1) (k := fun _ h2 => some ((), h2)) hs hp hR.2.2.2.1 ⟨by decide, by decide⟩ (sK_476 hs) (by decide) (by omega) (hD _ htl).2.2.1 (hw.2.2.2.1 _ htl) fun H' s' b' f' => jT_ret (h1 c H' s' f' (s_ref_bx hR f' b'))
/-- the answer about a block, with its name -/
theorem y18_89 (hs : jsh H) (hR : s_ref S tp kn ki H) (hp : p < 4) (h3 : tipo < 300) {by_ : List UInt8} (hz : zRow H 506 1 by_) (hl : 80 ≤ by_.length) (hl2 : by_.length ≤ 1999) (hc1 : code ≠ 1)
    (h21 : code = 21 → S.2.2.2.1 = tipo ∧ ∀ H', jsh H' → jfr s_T18 H H' → s_ref (s_bx S (p_bx1 S.2.2.2.2.2 p (p_askm S.1 S.2.2.2.1))) tp kn ki H' → Q () H')
    (h0 : code ≠ 21 → S.2.2.2.1 = tipo → ∀ H', jsh H' → jfr s_T18 H H' → s_ref (s_bx S (p_bx1 S.2.2.2.2.2 p (p_vd code (b_hs (by_.take 80))))) tp kn ki H' → Q () H')
    (h1 : code ≠ 21 → S.2.2.2.1 ≠ tipo → ∀ H', jsh H' → jfr s_T18 H H' → s_ref (s_bx S (p_bxo (p_bx1 S.2.2.2.2.2 p (p_vd code (b_hs (by_.take 80)))) p (p_tl 2 (b_nm S.1 S.2.2.2.1)))) tp kn ki H' → Q () H') : jT (B_18_message_89 421 (Int32.ofNat p) (Int32.ofNat tipo) code H) Q := by
  have k18 : ∀ {H}, jsh H → (jK H 421).1 = 18 := fun hs => gT (sK_421 hs)
  have lt : (by_.take 80).length = 80 := by rw [List.length_take]; omega
  unfold B_18_message_89
  rw [sR_421_0 hs, sR_421_47 hs, sR_421_49 hs]
  refine jT_g (k18 hs) (jT_g (k18 hs) (jT_g (k18 hs) (jT_g (by rw [sK_422 hs]) ?_)))
  refine jT_b (z12_name (at_ := 1) (n := 80) (len := 2000) (pl := 0) (len4 := 32) (by decide) (by decide) (by decide) (sK_506 hs) (by decide) (by decide) (sK_507 hs) hs fun H1 s1 f1 v1 => ?_)
  have R1 : s_ref S tp kn ki H1 := s_ref_qt hR f1 fun a j w => by omega
  have F1 : jfr s_T18 H H1 := jfr_mono f1 fun a j w => by show 421 ≤ a ∧ a ≤ 512; omega
  have n1 : zRow H1 507 0 (b_hs (by_.take 80)) := fun i u hi => by
    obtain ⟨q1, q2⟩ := b_hs_at hi
    rw [q2, v1 i q1, lt]
    refine congrFun (znm_eq fun k hk => ?_) i
    exact zRow_take hz k _ (getD_of (by omega))
  unfold B_18_message_108
  by_cases c : code = 21
  · obtain ⟨e, hk⟩ := h21 c
    obtain ⟨hw, hT, hD, -, -, htl, h13, -⟩ := R1.1
    refine jT_neg (fun w => w c) (jT_g (k18 s1) ?_)
    refine y18_ask s1 hw hT hD htl h13 hp R1.2.2.2.1 fun H2 s2 b2 f2 => ?_
    have R2 := s_ref_bx R1 f2 b2
    exact y18_135 s2 R2 hp h3 (fun _ => hk H2 s2 (jfr_trans F1 (jfr_mono f2 fun a j w => s_TS_T18 w)) R2) fun w => absurd e w
  · refine jT_pos c (jT_g (k18 s1) (jT_g (k18 s1) ?_))
    rw [sR_421_49 s1]
    refine p_verd18 (r := 507) (o := 0) (len := 32) (nm := b_hs (by_.take 80)) s1 hp R1.2.2.2.1 (Or.inr ⟨hc1, by decide, by decide, sK_507 s1, by decide, by decide, n1, b_hs_len⟩) fun H2 s2 b2 f2 => ?_
    have R2 := s_ref_bx R1 f2 b2
    have F2 := jfr_trans F1 (jfr_mono f2 fun a j w => s_TS_T18 w)
    exact y18_135 s2 R2 hp h3 (fun e => h0 c e H2 s2 F2 R2) fun e H3 s3 f3 R3 => h1 c e H3 s3 (jfr_trans F2 (jfr_mono f3 fun a j w => s_TS_T18 w)) R3
end BK18
