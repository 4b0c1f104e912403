/-! What a message does, and what stays of the state. -/
def s_bx (S : s_S) (b : Nat → List UInt8) : s_S := (S.1, S.2.1, S.2.2.1, S.2.2.2.1, S.2.2.2.2.1, b)
def s_no (p : Nat) (S : s_S) : s_S := s_bx S (p_bx1 S.2.2.2.2.2 p (p_vd 1 p_z32))
noncomputable def s_of (S : s_S) (tb : List UInt8) (y : w_y) : Int32 × List p_e := p_off (Int32.ofNat (b_ht S.1 S.2.2.2.1 + 1)) (b_co S.1 S.2.2.2.1 (b_ht S.1 S.2.2.2.1)).1 S.2.2.2.2.1 (b_hs tb, tb, y) true
noncomputable def s_txb (p : Nat) (S : s_S) (tb : List UInt8) (y : w_y) : Nat → List UInt8 := if (s_of S tb y).1 = 0 then p_bxo (p_bx1 S.2.2.2.2.2 p (p_vd (s_of S tb y).1 (b_hs tb))) p (p_tl 1 (b_hs tb)) else p_bx1 S.2.2.2.2.2 p (p_vd (s_of S tb y).1 (b_hs tb))
/-- a transaction -/
noncomputable def s_tx (p : Nat) (S : s_S) (tb : List UInt8) (y : w_y) : s_S := (S.1, S.2.1, S.2.2.1, S.2.2.2.1, (s_of S tb y).2, s_txb p S tb y)
def s_isb (by_ : List UInt8) (txs : List b_t) : Prop := b_lay by_ txs ∧ ∀ x ∈ txs, w_ty x.2.1 x.2.2 ∧ x.1 = b_hs x.2.1
def s_nb (bs : List b_k) (by_ : List UInt8) (txs : List b_t) (q : Nat) : b_k := (by_, b_hs (by_.take 80), q, b_ht bs q + 1, b_b4 by_, b_t4 by_, txs)
def s_W (S : s_S) (by_ : List UInt8) (q : Nat) : Nat → Nat := nup S.2.1 S.1.length (S.2.1 q + b_w1 (b_b4 by_))
def s_pl (S : s_S) (bs' : List b_k) (tip' : Nat) (ps' : List p_e) : Prop := (tip' = S.2.2.2.1 ∧ ps' = S.2.2.2.2.1) ∨ (tip' ≠ S.2.2.2.1 ∧ ∃ f, b_isf bs' tip' S.2.2.2.1 f ∧ ps' = p_anew (Int32.ofNat (b_ht bs' tip' + 1)) (b_co bs' tip' (b_ht bs' tip')).1 bs' S.2.2.2.1 f S.2.2.2.2.1)
def s_blb (p : Nat) (S : s_S) (by_ : List UInt8) (tip' : Nat) (code : Int32) : Nat → List UInt8 := if tip' = S.2.2.2.1 then p_bx1 S.2.2.2.2.2 p (p_vd code (b_hs (by_.take 80))) else p_bxo (p_bx1 S.2.2.2.2.2 p (p_vd code (b_hs (by_.take 80)))) p (p_tl 2 (b_hs (by_.take 80)))
/-- a block -/
def s_blk (p : Nat) (S : s_S) (by_ : List UInt8) (txs : List b_t) (S' : s_S) : Prop :=
  (b_ref S.1 S.2.2.1 by_ txs ≠ 0 ∧ S' = s_bx S (p_bx1 S.2.2.2.2.2 p (if b_ref S.1 S.2.2.1 by_ txs = 21 then p_askm S.1 S.2.2.2.1 else p_vd (b_ref S.1 S.2.2.1 by_ txs) (b_hs (by_.take 80))))) ∨
  (b_ref S.1 S.2.2.1 by_ txs = 0 ∧ ∃ q, b_kn S.1 (w_sl by_ 4 32) = some q ∧ ∃ tip' bad' code ps', b_cho (S.1 ++ [s_nb S.1 by_ txs q]) (s_W S by_ q) S.2.2.1 S.2.2.2.1 S.1.length tip' bad' code ∧ s_pl S (S.1 ++ [s_nb S.1 by_ txs q]) tip' ps' ∧ S' = (S.1 ++ [s_nb S.1 by_ txs q], s_W S by_ q, bad', tip', ps', s_blb p S by_ tip' code))
/-- a message -/
def s_step (p : Nat) (m : List UInt8) (S S' : s_S) : Prop :=
  ((m.getD 0 0).toNat = 1 ∧ ((∃ y, w_ty (m.drop 1) y ∧ S' = s_tx p S (m.drop 1) y) ∨ ((∀ y, ¬ w_ty (m.drop 1) y) ∧ S' = s_no p S))) ∨
  ((m.getD 0 0).toNat = 2 ∧ ((∃ txs, s_isb (m.drop 1) txs ∧ s_blk p S (m.drop 1) txs S') ∨ ((∀ txs, b_lay (m.drop 1) txs → (∀ x ∈ txs, w_ty x.2.1 x.2.2) → False) ∧ S' = s_no p S))) ∨
  ((m.getD 0 0).toNat = 3 ∧ ((p_isl m 0 20 32 ∧ S' = s_bx S (p_bx1 S.2.2.2.2.2 p (p_hdm S.1 S.2.2.2.1 m))) ∨ (¬ p_isl m 0 20 32 ∧ S' = s_no p S))) ∨
  ((m.getD 0 0).toNat = 4 ∧ ((p_isl m 1 8 33 ∧ S' = s_bx S (p_gvb S.1 S.2.2.2.2.1 m p (m.getD 1 0).toNat 0 S.2.2.2.2.2)) ∨ (¬ p_isl m 1 8 33 ∧ S' = s_no p S))) ∨
  ((m.getD 0 0).toNat = 6 ∧ ((p_isl m 1 8 33 ∧ S' = s_bx S (p_wtb S.1 S.2.2.2.2.1 m p S.2.2.2.2.2)) ∨ (¬ p_isl m 1 8 33 ∧ S' = s_no p S))) ∨
  (((m.getD 0 0).toNat ≠ 1 ∧ (m.getD 0 0).toNat ≠ 2 ∧ (m.getD 0 0).toNat ≠ 3 ∧ (m.getD 0 0).toNat ≠ 4 ∧ (m.getD 0 0).toNat ≠ 6) ∧ S' = s_no p S)
/-- what a block that isn't refused is -/
theorem s_nb_ok {S : s_S} {by_ : List UInt8} {txs : List b_t} {q : Nat} (h : s_pur S) (hb : s_isb by_ txs) (h0 : b_ref S.1 S.2.2.1 by_ txs = 0) (hq : b_kn S.1 (w_sl by_ 4 32) = some q) :
    q < S.1.length ∧ S.1.length < 300 ∧ S.2.2.1 q = false ∧ b_b4 by_ = b_mst S.1 q ∧ b_mdn S.1 q < b_t4 by_ ∧ b_t4 by_ < 4294967296 ∧ b_flf 0 txs = false ∧ b_nw S.1 (s_nb S.1 by_ txs q) ∧ b_bk1 S.1 (b_ht S.1 q + 1) (b_b4 by_) (b_t4 by_) := by
  obtain ⟨h1, h2, -⟩ := h
  have hql := (b_kn_some hq).1
  unfold b_ref at h0
  by_cases c0 : b_kn S.1 (b_hs (by_.take 80)) ≠ none
  · rw [if_pos c0] at h0
    exact absurd h0 (by decide)
  · rw [if_neg c0, hq] at h0
    have h0' : b_ref2 S.1 S.2.2.1 by_ txs q = 0 := h0
    unfold b_ref2 at h0'
    by_cases c1 : S.2.2.1 q = true
    · rw [if_pos c1] at h0'
      exact absurd h0' (by decide)
    rw [if_neg c1] at h0'
    by_cases c2 : b_b4 by_ ≠ b_mst S.1 q
    · rw [if_pos c2] at h0'
      exact absurd h0' (by decide)
    rw [if_neg c2] at h0'
    by_cases c3 : b_t4 by_ ≤ b_mdn S.1 q
    · rw [if_pos c3] at h0'
      exact absurd h0' (by decide)
    rw [if_neg c3] at h0'
    by_cases c4 : b_tg (b_b4 by_) < b_nn (b_hs (by_.take 80))
    · rw [if_pos c4] at h0'
      exact absurd h0' (by decide)
    rw [if_neg c4] at h0'
    by_cases c5 : b_shp txs = false
    · rw [if_pos c5] at h0'
      exact absurd h0' (by decide)
    rw [if_neg c5] at h0'
    by_cases c6 : b_rtd by_ txs = false
    · rw [if_pos c6] at h0'
      exact absurd h0' (by decide)
    rw [if_neg c6] at h0'
    by_cases c7 : b_flf 0 txs = true
    · rw [if_pos c7] at h0'
      exact absurd h0' (by decide)
    rw [if_neg c7] at h0'
    by_cases c8 : 300 ≤ S.1.length
    · rw [if_pos c8] at h0'
      exact absurd h0' (by decide)
    have e2 := Classical.not_not.mp c2
    have f7 : b_flf 0 txs = false := by
      cases e : b_flf 0 txs with
      | false => rfl
      | true => exact absurd e c7
    have f5 : b_shp txs = true := by
      cases e : b_shp txs with
      | true => rfl
      | false => exact absurd e c5
    have f1 : S.2.2.1 q = false := by
      cases e : S.2.2.1 q with
      | false => rfl
      | true => exact absurd e c1
    have tk := b_toks_of hb.2 f5 f7
    have ht : b_t4 by_ < 4294967296 := by
      unfold b_t4
      exact zho_lt _ _ 4
    refine ⟨hql, by omega, f1, e2, by omega, ht, f7, ⟨by omega, b_hs_len, hql, rfl, hb.1, tk.1, tk.2⟩, ?_⟩
    rw [e2]
    exact b_mst_ok h1 h2 hql (b_ht_300 h1 hql) ht
theorem b_flf_vn : ∀ {txs : List b_t} {i : Nat}, b_flf i txs = false → ∀ x ∈ txs, p_vn x.2.1 x.2.2
  | [], _, _, x, hx => by cases hx
  | x0 :: r, i, h, x, hx => by
    have h' : (b_bdi i x0 || b_flf (i + 1) r) = false := h
    obtain ⟨ha, hb⟩ := Bool.or_eq_false_iff.mp h'
    rcases List.mem_cons.mp hx with e | e
    · rw [e]
      refine p_vn_of ?_
      unfold b_bdi at ha
      by_cases c : i = 0
      · rw [if_pos c] at ha
        unfold b_bd1 at ha
        exact (Bool.or_eq_false_iff.mp ha).2
      · rw [if_neg c] at ha
        unfold b_bd2 at ha
        have z := of_decide_eq_false ha
        have cf := Classical.not_not.mp z
        unfold zfl at cf
        by_cases z1 : x0.2.2.1.length = 0 ∨ x0.2.2.2.1.length = 0
        · rw [if_pos z1] at cf
          exact absurd cf (by decide)
        · rw [if_neg z1] at cf
          cases hz : ztm (zvs (fun i => x0.2.1.getD i 0) x0.2.2.2.1) 0 with
          | false => rfl
          | true =>
            rw [hz, if_pos rfl] at cf
            exact absurd cf (by decide)
    · exact b_flf_vn hb x e
theorem b_ht_out {bs : List b_k} {k : Nat} (hk : bs.length ≤ k) : b_ht bs k = 0 := by
  unfold b_ht b_g
  rw [List.getD_eq_getElem?_getD, List.getElem?_eq_none hk]
  rfl
/-- what comes of choosing, as to what holds -/
theorem s_cho {bs : List b_k} {W : Nat → Nat} {bad bad' : Nat → Bool} {tip n tip' : Nat} {code : Int32} (hw : b_wf bs) (hn : n + 1 = bs.length) (hmx : b_max W bad tip n) (hb0 : bad 0 = false) (hbn : bad n = false) (hclo : b_clo bs bad) (hr : b_right bs tip) (hout : ∀ k, n ≤ k → bad k = false) (h : b_cho bs W bad tip n tip' bad' code) :
    b_max W bad' tip' (n + 1) ∧ bad' 0 = false ∧ b_clo bs bad' ∧ b_right bs tip' ∧ (∀ k, n + 1 ≤ k → bad' k = false) := by
  obtain ⟨m1, m2, m3⟩ := hmx
  have hnl : n < bs.length := by omega
  have htl : tip < bs.length := by omega
  rcases h with ⟨a, rfl, rfl, -⟩ | ⟨a, f, hf, (⟨b1, rfl, rfl, -⟩ | ⟨g, b1, rfl, b2, -⟩)⟩
  · refine ⟨⟨by omega, m2, fun k hk hb => ?_⟩, hb0, hclo, hr, fun k hk => hout k (by omega)⟩
    by_cases c : k < n
    · exact m3 k c hb
    · rw [show k = n by omega]
      exact ⟨a, fun _ => by omega⟩
  · refine ⟨⟨by omega, hbn, fun k hk hb => ?_⟩, hb0, hclo, b_right_new hw hnl htl hr hf b1, fun k hk => hout k (by omega)⟩
    by_cases c : k < tip'
    · have := (m3 k c hb).1
      exact ⟨by omega, fun _ => by omega⟩
    · rw [show k = tip' by omega]
      exact ⟨Nat.le_refl _, fun _ => Nat.le_refl _⟩
  · have ng : g ≤ b_ht bs n := b1.2.1
    have ca := b_at_ok hw hnl ng
    have hfg : f < g := b1.1
    have nt := b_fst_tip hw hnl hf b1
    have bt : ∀ j, b_bad' bs bad (b_at bs n g) j = false ↔ bad j = false ∧ ¬ b_on bs (b_at bs n g) j := fun j => by
      constructor
      · intro e
        have : ¬ (b_bad' bs bad (b_at bs n g) j = true) := fun w => by
          rw [e] at w
          exact absurd w (by decide)
        rw [b_bad'_t] at this
        refine ⟨?_, fun w => this (Or.inr w)⟩
        cases eb : bad j with
        | false => rfl
        | true => exact absurd (Or.inl eb) this
      · intro e
        cases eb : b_bad' bs bad (b_at bs n g) j with
        | false => rfl
        | true =>
          rcases b_bad'_t.mp eb with q | q
          · rw [e.1] at q
            exact absurd q (by decide)
          · exact absurd q e.2
    have onn : b_on bs (b_at bs n g) n := ⟨by omega, by rw [ca.2.1]⟩
    rw [b2]
    refine ⟨⟨by omega, (bt tip').mpr ⟨m2, nt⟩, fun k hk hb => ?_⟩, (bt 0).mpr ⟨hb0, fun w => ?_⟩, fun k k1 k2 hp => ?_, hr, fun k hk => (bt k).mpr ⟨hout k (by omega), fun w => ?_⟩⟩
    · have q := (bt k).mp hb
      by_cases c : k < n
      · exact m3 k c q.1
      · rw [show k = n by omega] at q
        exact absurd onn q.2
    · have := w.1
      rw [ca.2.1, hw.2.2.1] at this
      omega
    · rcases b_bad'_t.mp hp with q | q
      · exact b_bad'_t.mpr (Or.inl (hclo k k1 k2 q))
      · exact b_bad'_t.mpr (Or.inr ((b_on_pa hw k2 k1).mpr (Or.inr q)))
    · have := w.1
      rw [ca.2.1, b_ht_out (by omega)] at this
      omega
theorem p_bok_new {bs : List b_k} {b : b_k} (h : p_bok bs) (hx : ∀ x ∈ b.2.2.2.2.2.2, p_tok x) : p_bok (bs ++ [b]) := fun k hk x hm => by
  rw [b_len1] at hk
  by_cases c : k < bs.length
  · rw [b_tx_lo c] at hm
    exact h k c x hm
  · rw [show k = bs.length by omega] at hm
    unfold b_tx at hm
    rw [b_g_new] at hm
    exact hx x hm
theorem p_bvn_new {bs : List b_k} {b : b_k} (h : p_bvn bs) (hx : ∀ x ∈ b.2.2.2.2.2.2, p_vn x.2.1 x.2.2) : p_bvn (bs ++ [b]) := fun k hk x hm => by
  rw [b_len1] at hk
  by_cases c : k < bs.length
  · rw [b_tx_lo c] at hm
    exact h k c x hm
  · rw [show k = bs.length by omega] at hm
    unfold b_tx at hm
    rw [b_g_new] at hm
    exact hx x hm
theorem b_tot_mem {x : b_t} : ∀ {txs : List b_t}, x ∈ txs → x.2.1.length ≤ b_tot txs
  | [], h => by cases h
  | x0 :: r, h => by
    rw [b_tot_cons]
    rcases List.mem_cons.mp h with e | e
    · rw [e]; omega
    · have := b_tot_mem e
      omega
theorem s_isb_tok {by_ : List UInt8} {txs : List b_t} (hb : s_isb by_ txs) : ∀ x ∈ txs, p_tok x := fun x hx => by
  have h1 := b_tot_mem hx
  have h2 := b_lay_len hb.1
  have h3 := hb.1.2.1
  exact ⟨(hb.2 x hx).1, (hb.2 x hx).2, by omega⟩
/-- a block's work is bounded -/
theorem s_wb {S : s_S} {by_ : List UInt8} {txs : List b_t} {q : Nat} (h : s_pur S) (hb : s_isb by_ txs) (h0 : b_ref S.1 S.2.2.1 by_ txs = 0) (hq : b_kn S.1 (w_sl by_ 4 32) = some q) : S.2.1 q + b_w1 (b_b4 by_) ≤ (b_ht S.1 q + 1) * 2 ^ 151 ∧ S.2.1 q + b_w1 (b_b4 by_) < 2 ^ 256 := by
  obtain ⟨ql, l3, -, -, -, -, -, -, bk⟩ := s_nb_ok h hb h0 hq
  have hW := h.2.2.2.2.2.1 q ql
  have h300 := b_ht_300 h.1 ql
  have w1 : b_w1 (b_b4 by_) < 2 ^ 151 := by
    refine b_w1_lt (b_tg_lo (h := b_ht S.1 q + 1) ?_ bk.2.2.1)
    have := b_ht_le h.1 ql
    omega
  have e : (b_ht S.1 q + 1) * 2 ^ 151 = b_ht S.1 q * 2 ^ 151 + 2 ^ 151 := Nat.succ_mul _ _
  have e2 : b_ht S.1 q * 2 ^ 151 ≤ 300 * 2 ^ 151 := Nat.mul_le_mul_right _ (by omega)
  have e3 : 300 * 2 ^ 151 + 2 ^ 151 < 2 ^ 256 := by decide +kernel
  exact ⟨by omega, by omega⟩
theorem s_blk_pur {p : Nat} {S S' : s_S} {by_ : List UInt8} {txs : List b_t} (h : s_pur S) (hb : s_isb by_ txs) (hst : s_blk p S by_ txs S') : s_pur S' := by
  rcases hst with ⟨-, rfl⟩ | ⟨h0, q, hq, tip', bad', code, ps', hc, hpl, rfl⟩
  · exact h
  · obtain ⟨ql, l3, bq, eb, -, ht, fl, nw, bk⟩ := s_nb_ok h hb h0 hq
    have wb := s_wb h hb h0 hq
    obtain ⟨h1, h2, h3, h4, h5, h6, h7, h8, h9, h10, h11, h12⟩ := h
    have tl : S.2.2.2.1 < S.1.length := h4.1
    have hw := b_wf_new h1 nw
    have hmx : b_max (s_W S by_ q) S.2.2.1 S.2.2.2.1 S.1.length := b_max_eq h4 fun k hk => by
      unfold s_W nup
      rw [if_neg (by omega)]
    have bok := p_bok_new h9 (b := s_nb S.1 by_ txs q) (s_isb_tok hb)
    obtain ⟨c1, c2, c3, c4, c5⟩ := s_cho hw (n := S.1.length) b_len1.symm hmx h5 (h12 _ (Nat.le_refl _)) (b_clo_new h7 bq) ((b_right_lo h1 tl).mpr h11) h12 hc
    refine ⟨hw, b_bok_new h2 bk, ⟨?_, ?_⟩, ?_, c2, fun k hk => ?_, c3, ?_, bok, p_bvn_new h10 (b_flf_vn fl), c4, fun k hk => c5 k (by rw [b_len1] at hk; omega)⟩
    · show b_tx (S.1 ++ [s_nb S.1 by_ txs q]) 0 = []
      rw [b_tx_lo (by omega)]
      exact h3.1
    · show (b_by (S.1 ++ [s_nb S.1 by_ txs q]) 0).length ≤ 1999
      rw [b_by_lo (by omega)]
      exact h3.2
    · show b_max (s_W S by_ q) bad' tip' (S.1 ++ [s_nb S.1 by_ txs q]).length
      rw [b_len1]
      exact c1
    · have hk' : k < S.1.length + 1 := by rw [← b_len1]; exact hk
      show s_W S by_ q k ≤ b_ht (S.1 ++ [s_nb S.1 by_ txs q]) k * 2 ^ 151
      by_cases c : k < S.1.length
      · rw [b_ht_lo c]
        unfold s_W nup
        rw [if_neg (by omega)]
        exact h6 k c
      · have ek : k = S.1.length := by omega
        rw [ek]
        unfold s_W nup b_ht
        rw [if_pos rfl, b_g_new]
        exact wb.1
    · rcases hpl with ⟨-, e⟩ | ⟨-, f, -, e⟩
      · exact e ▸ h8
      · have : p_all ps' := by
          rw [e]
          refine p_ren_all p_all_nil fun x hx => ?_
          rcases List.mem_append.mp hx with w | w
          · exact p_lf_tok hw bok (by rw [b_len1]; omega) x w
          · exact p_map_tok h8 x w
        exact this
theorem s_step_pur {p : Nat} {m : List UInt8} {S S' : s_S} (h : s_pur S) (hm : m.length ≤ 2000) (hm1 : 1 ≤ m.length) (hst : s_step p m S S') : s_pur S' := by
  rcases hst with ⟨-, ⟨y, hy, rfl⟩ | ⟨-, rfl⟩⟩ | ⟨-, ⟨txs, hb, hs⟩ | ⟨-, rfl⟩⟩ | ⟨-, ⟨-, rfl⟩ | ⟨-, rfl⟩⟩ | ⟨-, ⟨-, rfl⟩ | ⟨-, rfl⟩⟩ | ⟨-, ⟨-, rfl⟩ | ⟨-, rfl⟩⟩ | ⟨-, rfl⟩
  · obtain ⟨h1, h2, h3, h4, h5, h6, h7, h8, h9, h10, h11, h12⟩ := h
    exact ⟨h1, h2, h3, h4, h5, h6, h7, p_off_all h8 ⟨hy, rfl, by show (m.drop 1).length ≤ 1999; rw [List.length_drop]; omega⟩, h9, h10, h11, h12⟩
  · exact h
  · exact s_blk_pur h hb hs
  all_goals exact h
