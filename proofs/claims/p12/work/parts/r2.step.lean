/-! What a block of the law does to the account. -/
/-- the account stands: l are the values that are noted -/
def r_I (l : List Nat) (S : s_S) : Prop :=
  (s_pur S ∧ S.2.2.2.2.1 = [] ∧ ∀ k, S.2.2.1 k = false) ∧ (r_tm S.1 ∧ ∀ j, j < S.1.length → S.2.1 j = b_ht S.1 j * r_w) ∧ ((∀ j, j < S.1.length → q_nv (b_fn (b_nm S.1 j)) ∈ l) ∧ ∀ i j, i < j → j < S.1.length → b_nm S.1 i ≠ b_nm S.1 j) ∧ r_txs l S.1 ∧ ∀ j, 1 ≤ j → j < S.1.length → (b_v S.1 j).1 = 0
theorem r_I_mono {l l' : List Nat} {S : s_S} (h : r_I l S) (hl : ∀ x, x ∈ l → x ∈ l') : r_I l' S := by
  obtain ⟨h1, h2, ⟨h3, h4⟩, h5, h6⟩ := h
  exact ⟨h1, h2, ⟨fun j hj => hl _ (h3 j hj), h4⟩, fun j a b => by
    obtain ⟨tag, x, y, z⟩ := h5 j a b
    exact ⟨tag, x, y, hl _ z⟩, h6⟩
theorem r_I_bx {l : List Nat} {S : s_S} {b : Nat → List UInt8} (h : r_I l S) : r_I l (s_bx S b) := h
theorem r_I_wf {l : List Nat} {S : s_S} (h : r_I l S) : b_wf S.1 := h.1.1.1
theorem r_I_tip {l : List Nat} {S : s_S} (h : r_I l S) : S.2.2.2.1 < S.1.length := h.1.1.2.2.2.1.1
/-- the coins of the tip -/
theorem r_I_cs {l : List Nat} {S : s_S} (h : r_I l S) : r_cs l (b_ht S.1 S.2.2.2.1) (b_co S.1 S.2.2.2.1 (b_ht S.1 S.2.2.2.1)) := r_co (r_I_wf h) h.2.2.2.1 (r_I_tip h) (Nat.le_refl _)
theorem r_kn_none {l : List Nat} {S : s_S} (h : r_I l S) {b : Nat → UInt8} (hb : q_nv b ∉ l) : b_kn S.1 (q_ls b 32) = none := by
  cases e : b_kn S.1 (q_ls b 32) with
  | none => rfl
  | some k =>
    obtain ⟨k1, k2⟩ := b_kn_some e
    have := h.2.2.1.1 k k1
    rw [k2, q_nv_ls] at this
    exact absurd this hb
theorem r_kn_some {l : List Nat} {S : s_S} (h : r_I l S) {q : Nat} (hq : q < S.1.length) : b_kn S.1 (b_nm S.1 q) = some q := by
  cases e : b_kn S.1 (b_nm S.1 q) with
  | none =>
    refine absurd ?_ (b_fi_none e q)
    unfold b_nm b_g
    rw [List.getElem?_map, List.getD_eq_getElem?_getD, List.getElem?_eq_getElem hq]
    rfl
  | some k =>
    obtain ⟨k1, k2⟩ := b_kn_some e
    rcases Nat.lt_trichotomy k q with c | c | c
    · exact absurd k2 (h.2.2.1.2 k q c hq)
    · rw [c]
    · exact absurd k2.symm (h.2.2.1.2 q k c k1)
theorem q_val_some {S : s_S} {kn : List UInt8} {ix j : Nat} {cs : List w_cn} (hc : (b_co S.1 S.2.2.2.1 (b_ht S.1 S.2.2.2.1)).1 = cs) (h : w_fd cs kn ix 0 = some j) : q_val S kn ix = w_cv (cs.getD j w_c0) := by
  unfold q_val
  rw [hc, h]
theorem q_val_no {S : s_S} {kn : List UInt8} {ix : Nat} {cs : List w_cn} (hc : (b_co S.1 S.2.2.2.1 (b_ht S.1 S.2.2.2.1)).1 = cs) (h : w_fd cs kn ix 0 = none) : q_val S kn ix = -1 := by
  unfold q_val
  rw [hc, h]
theorem r_val_none {l : List Nat} {S : s_S} {b : Nat → UInt8} (h : r_I l S) (hb : q_nv b ∉ l) : q_val S (q_ls b 32) 0 = -1 := by
  unfold q_val
  have e : w_fd (b_co S.1 S.2.2.2.1 (b_ht S.1 S.2.2.2.1)).1 (q_ls b 32) 0 0 = none := r_fd_none fun c hc w => by
    have := (r_I_cs h).2.2.2 c hc
    rw [w, q_nv_ls] at this
    exact hb this
  rw [e]
theorem r_lf {bs : List b_k} {old : Nat} (h : ∀ j, (b_tx bs j).drop 1 = []) : ∀ {d g : Nat}, p_lf bs old g d = []
  | 0, _ => rfl
  | d + 1, g => by
    show (b_tx bs (b_at bs old g)).drop 1 ++ p_lf bs old (g + 1) d = []
    rw [h, r_lf h]
    rfl
theorem r_tx_drop {l : List Nat} {bs : List b_k} (h0 : b_tx bs 0 = []) (h : r_txs l bs) (j : Nat) : (b_tx bs j).drop 1 = [] := by
  by_cases c : j < bs.length
  · by_cases c0 : j = 0
    · rw [c0, h0]
      rfl
    · obtain ⟨tag, -, e, -⟩ := h j (by omega) c
      rw [e]
      rfl
  · have : b_tx bs j = [] := by
      unfold b_tx b_g
      rw [List.getD_eq_getElem?_getD, List.getElem?_eq_none (by omega)]
      rfl
    rw [this]
    rfl
theorem r_fd_last {cs : List w_cn} {tag h : Nat} (nq : ∀ c ∈ cs, c.1 ≠ b_hs (q_tb tag)) : w_fd (cs ++ [(b_hs (q_tb tag), 0, q_tb tag, r_y, h)]) (q_ls (q_tn tag) 32) 0 0 = some cs.length := by
  rw [← r_hs, r_fd_app (r_fd_none nq)]
  unfold w_fd
  rw [if_pos ⟨rfl, rfl⟩, Nat.zero_add]
section STEP
variable {l : List Nat} {S S' : s_S} {p q tag tm : Nat} {no : Int32} {pb : Nat → UInt8}
/-- it isn't refused -/
theorem r_ref0 (hI : r_I l S) (hn : S.1.length ≤ 28) (hq : q < S.1.length) (hpb : q_ls pb 32 = b_nm S.1 q) (ht : tag < 28) (h1 : 1000000 + 690 * (b_ht S.1 q + 1) ≤ tm) (h2 : tm < 2147483648) (hit : q_hit (q_bn pb tag (Int32.ofNat tm) no)) (hv : q_nv (q_bn pb tag (Int32.ofNat tm) no) ∉ l) :
    b_ref S.1 S.2.2.1 (q_bb pb tag (Int32.ofNat tm) no) [r_x tag] = 0 := by
  have hw := r_I_wf hI
  unfold b_ref
  rw [r_bn, r_kn_none hI hv, if_neg (fun w => w rfl), r_pa, hpb, r_kn_some hI hq]
  show b_ref2 _ _ _ _ q = 0
  unfold b_ref2
  rw [hI.1.2.2 q, if_neg (by decide), r_b4, r_mst hw hI.2.1.1 hq, if_neg (fun w => w rfl), r_t4 h2, if_neg (by have := r_mdn hw hI.2.1.1 hq h1; omega), r_bn, if_neg (r_tg hit), r_shp ht, if_neg (by decide), r_rtd, if_neg (by decide), r_flf ht, if_neg (by decide), if_neg (by omega)]
theorem r_zpo {m : List UInt8} (h : m.length ≤ 600) : zpo [] m = zhd m.length ++ m := by
  unfold zpo
  rw [if_pos (by show 0 + 2 + m.length ≤ 8000; omega)]
  rfl
/-- a block behind a known one -/
theorem r_blk (hI : r_I l S) (hbx : ∀ k, k < 4 → S.2.2.2.2.2 k = []) (hp : p < 4) (hn : S.1.length ≤ 28) (hq : q < S.1.length) (hpb : q_ls pb 32 = b_nm S.1 q) (ht : tag < 28) (h1 : 1000000 + 690 * (b_ht S.1 q + 1) ≤ tm) (h2 : tm ≤ 1000001 + 690 * (b_ht S.1 q + 1)) (hit : q_hit (q_bn pb tag (Int32.ofNat tm) no))
    (vt : q_nv (q_tn tag) ∉ l) (vb : q_nv (q_bn pb tag (Int32.ofNat tm) no) ∉ l) (hst : s_blk p S (q_bb pb tag (Int32.ofNat tm) no) [r_x tag] S') {l' : List Nat} (hl' : ∀ x, x ∈ l → x ∈ l') (lt : q_nv (q_tn tag) ∈ l') (lb : q_nv (q_bn pb tag (Int32.ofNat tm) no) ∈ l') :
    r_I l' S' ∧ S'.1.length = S.1.length + 1 ∧ (∀ k, k < S.1.length → b_nm S'.1 k = b_nm S.1 k ∧ b_ht S'.1 k = b_ht S.1 k) ∧ b_nm S'.1 S.1.length = q_ls (q_bn pb tag (Int32.ofNat tm) no) 32 ∧ b_ht S'.1 S.1.length = b_ht S.1 q + 1 ∧
    ((b_ht S.1 S.2.2.2.1 < b_ht S.1 q + 1 ∧ S'.2.2.2.1 = S.1.length ∧ q_val S' (q_ls (q_tn tag) 32) 0 = 5000000000 ∧ (∀ k, k < 4 → S'.2.2.2.2.2 k = if k = p then [0, 34, 8, 0] ++ q_ls (q_bn pb tag (Int32.ofNat tm) no) 32 else [0, 35, 6, 1, 2] ++ q_ls (q_bn pb tag (Int32.ofNat tm) no) 32)) ∨
     (b_ht S.1 q + 1 ≤ b_ht S.1 S.2.2.2.1 ∧ S'.2.2.2.1 = S.2.2.2.1 ∧ q_val S' (q_ls (q_tn tag) 32) 0 = -1 ∧ (∀ k, k < 4 → S'.2.2.2.2.2 k = if k = p then [0, 34, 8, 0] ++ q_ls (q_bn pb tag (Int32.ofNat tm) no) 32 else []))) := by
  have hw := r_I_wf hI
  have hq28 : b_ht S.1 q ≤ 27 := by have := b_ht_le hw hq; omega
  have tm31 : tm < 2147483648 := by omega
  have hts := r_I_tip hI
  have r0 := r_ref0 hI hn hq hpb ht h1 tm31 hit vb
  have pur' := s_blk_pur hI.1.1 (r_isb ht) hst
  rcases hst with ⟨c, -⟩ | ⟨-, q', hq', tip', bad', code, ps', hc, hpl, rfl⟩
  · exact absurd r0 c
  have hkq : b_kn S.1 (w_sl (q_bb pb tag (Int32.ofNat tm) no) 4 32) = some q := by rw [r_pa, hpb]; exact r_kn_some hI hq
  rw [hkq] at hq'
  obtain rfl : q = q' := Option.some.inj hq'
  obtain ⟨n, en⟩ : ∃ n, n = S.1.length := ⟨_, rfl⟩
  obtain ⟨b, eb⟩ : ∃ b, b = s_nb S.1 (q_bb pb tag (Int32.ofNat tm) no) [r_x tag] q := ⟨_, rfl⟩
  rw [← eb] at hc hpl pur' ⊢
  rw [← en] at hn hq hts hc ⊢
  have b1 : b.2.1 = q_ls (q_bn pb tag (Int32.ofNat tm) no) 32 := by rw [eb]; exact r_bn
  have b2 : b.2.2.1 = q := by rw [eb]; rfl
  have b3 : b.2.2.2.1 = b_ht S.1 q + 1 := by rw [eb]; rfl
  have b4 : b.2.2.2.2.1 = 545259519 := by rw [eb]; exact r_b4
  have b5 : b.2.2.2.2.2.1 = tm := by rw [eb]; exact r_t4 tm31
  have b6 : b.2.2.2.2.2.2 = [r_x tag] := by rw [eb]; rfl
  have gn : b_g (S.1 ++ [b]) n = b := by rw [en]; exact b_g_new
  have nNm : b_nm (S.1 ++ [b]) n = q_ls (q_bn pb tag (Int32.ofNat tm) no) 32 := by unfold b_nm; rw [gn]; exact b1
  have nPa : b_pa (S.1 ++ [b]) n = q := by unfold b_pa; rw [gn]; exact b2
  have nHt : b_ht (S.1 ++ [b]) n = b_ht S.1 q + 1 := by unfold b_ht; rw [gn]; exact b3
  have nBi : b_bi (S.1 ++ [b]) n = 545259519 := by unfold b_bi; rw [gn]; exact b4
  have nTi : b_ti (S.1 ++ [b]) n = tm := by unfold b_ti; rw [gn]; exact b5
  have nTx : b_tx (S.1 ++ [b]) n = [r_x tag] := by unfold b_tx; rw [gn]; exact b6
  have ln : (S.1 ++ [b]).length = n + 1 := by rw [b_len1, en]
  have hw' : b_wf (S.1 ++ [b]) := pur'.1
  have lo : ∀ {k}, k < n → k < S.1.length := fun h => by omega
  have hn' : n < (S.1 ++ [b]).length := by omega
  have n1 : 1 ≤ n := by have := hw.1; omega
  -- the coins below the new block
  have coq : b_co (S.1 ++ [b]) n (b_ht S.1 q) = b_co S.1 q (b_ht S.1 q) := by
    rw [← b_co_lo (b := b) hw (lo hq)]
    refine b_co_eq fun g g1 _ => ?_
    rw [b_at_pa hw' hn' n1 (by rw [nPa, b_ht_lo (lo hq)]; exact g1), nPa]
  have csq : r_cs l (b_ht S.1 q) (b_co S.1 q (b_ht S.1 q)) := r_co hw hI.2.2.2.1 (lo hq) (Nat.le_refl _)
  have nq : ∀ c ∈ (b_co S.1 q (b_ht S.1 q)).1, c.1 ≠ b_hs (q_tb tag) := fun c hc w => by
    have := csq.2.2.2 c hc
    rw [w, r_hs, q_nv_ls] at this
    exact vt this
  have vn : (b_v (S.1 ++ [b]) n).1 = 0 := by
    unfold b_v
    rw [nHt, nTx, Nat.add_sub_cancel, coq, csq.2.1]
    exact r_all ht (by omega) (by rw [csq.1]; omega) nq
  have vall : ∀ j, 1 ≤ j → j < (S.1 ++ [b]).length → (b_v (S.1 ++ [b]) j).1 = 0 := fun j j1 j2 => by
    by_cases c : j = n
    · rw [c]
      exact vn
    · rw [b_v_lo hw (lo (by omega))]
      exact hI.2.2.2.2 j j1 (by omega)
  have txs' : r_txs l' (S.1 ++ [b]) := fun j j1 j2 => by
    by_cases c : j = n
    · rw [c, nTx]
      exact ⟨tag, ht, rfl, lt⟩
    · rw [b_tx_lo (lo (by omega))]
      obtain ⟨tg, x, y, z⟩ := hI.2.2.2.1 j j1 (by omega)
      exact ⟨tg, x, y, hl' _ z⟩
  have Wn : s_W S (q_bb pb tag (Int32.ofNat tm) no) q n = (b_ht S.1 q + 1) * r_w := by
    unfold s_W nup
    rw [if_pos en, r_b4, hI.2.1.2 q (lo hq), Nat.succ_mul]
    rfl
  have Wlo : ∀ k, k < n → s_W S (q_bb pb tag (Int32.ofNat tm) no) q k = b_ht S.1 k * r_w := fun k hk => by
    unfold s_W nup
    rw [if_neg (by omega)]
    exact hI.2.1.2 k (lo hk)
  have base : r_tm (S.1 ++ [b]) ∧ ∀ j, j < (S.1 ++ [b]).length → s_W S (q_bb pb tag (Int32.ofNat tm) no) q j = b_ht (S.1 ++ [b]) j * r_w := by
    refine ⟨fun j hj => ?_, fun j hj => ?_⟩
    · by_cases c : j = n
      · rw [c, nBi, nTi, nHt]
        exact ⟨rfl, h1, h2⟩
      · rw [b_bi_lo (lo (by omega)), b_ti_lo (lo (by omega)), b_ht_lo (lo (by omega))]
        exact hI.2.1.1 j (by omega)
    · by_cases c : j = n
      · rw [c, Wn, nHt]
      · rw [Wlo j (by omega), b_ht_lo (lo (by omega))]
  have names : (∀ j, j < (S.1 ++ [b]).length → q_nv (b_fn (b_nm (S.1 ++ [b]) j)) ∈ l') ∧ ∀ i j, i < j → j < (S.1 ++ [b]).length → b_nm (S.1 ++ [b]) i ≠ b_nm (S.1 ++ [b]) j := by
    refine ⟨fun j hj => ?_, fun i j hij hj => ?_⟩
    · by_cases c : j = n
      · rw [c, nNm, q_nv_ls]
        exact lb
      · rw [b_nm_lo (lo (by omega))]
        exact hl' _ (hI.2.2.1.1 j (by omega))
    · by_cases c : j = n
      · rw [c, nNm, b_nm_lo (lo (by omega))]
        intro w
        have := hI.2.2.1.1 i (by omega)
        rw [w, q_nv_ls] at this
        exact vb this
      · rw [b_nm_lo (lo (by omega)), b_nm_lo (lo (by omega))]
        exact hI.2.2.1.2 i j hij (by omega)
  have psn : ps' = [] := by
    rcases hpl with ⟨-, e⟩ | ⟨-, f, -, e⟩
    · rw [e]
      exact hI.1.2.1
    · rw [e]
      unfold p_anew
      rw [hI.1.2.1, r_lf (r_tx_drop pur'.2.2.1.1 txs')]
      rfl
  have keep : ∀ k, k < n → b_nm (S.1 ++ [b]) k = b_nm S.1 k ∧ b_ht (S.1 ++ [b]) k = b_ht S.1 k := fun k hk => ⟨b_nm_lo (lo hk), b_ht_lo (lo hk)⟩
  have pos := r_w_pos
  have nmL : (q_ls (q_bn pb tag (Int32.ofNat tm) no) 32).length = 32 := q_ls_len
  have vd : ∀ {nm : List UInt8}, nm.length = 32 → zpo [] (p_vd 0 nm) = [0, 34, 8, 0] ++ nm := fun {nm} h => by
    have e : (p_vd 0 nm).length = 34 := by unfold p_vd; rw [List.length_append, h]; rfl
    rw [r_zpo (by omega), e]
    rfl
  have tl : ∀ {nm : List UInt8}, nm.length = 32 → zpo [] (p_tl 2 nm) = [0, 35, 6, 1, 2] ++ nm := fun {nm} h => by
    have e : (p_tl 2 nm).length = 35 := by unfold p_tl; rw [List.length_append, h]; rfl
    rw [r_zpo (by omega), e]
    rfl
  have done : bad' = S.2.2.1 → r_I l' (S.1 ++ [b], s_W S (q_bb pb tag (Int32.ofNat tm) no) q, bad', tip', ps', s_blb p S (q_bb pb tag (Int32.ofNat tm) no) tip' code) := fun e => ⟨⟨pur', psn, fun k => by rw [show ((S.1 ++ [b], s_W S (q_bb pb tag (Int32.ofNat tm) no) q, bad', tip', ps', s_blb p S (q_bb pb tag (Int32.ofNat tm) no) tip' code) : s_S).2.2.1 = bad' from rfl, e]; exact hI.1.2.2 k⟩, base, names, txs', vall⟩
  have low : tip' = S.2.2.2.1 → bad' = S.2.2.1 → code = 0 → b_ht S.1 q + 1 ≤ b_ht S.1 S.2.2.2.1 → _ := fun e1 e2 e3 e4 => (show r_I l' (S.1 ++ [b], s_W S (q_bb pb tag (Int32.ofNat tm) no) q, bad', tip', ps', s_blb p S (q_bb pb tag (Int32.ofNat tm) no) tip' code) ∧ (b_ht S.1 q + 1 ≤ b_ht S.1 S.2.2.2.1 ∧ tip' = S.2.2.2.1 ∧ q_val (S.1 ++ [b], s_W S (q_bb pb tag (Int32.ofNat tm) no) q, bad', tip', ps', s_blb p S (q_bb pb tag (Int32.ofNat tm) no) tip' code) (q_ls (q_tn tag) 32) 0 = -1 ∧ (∀ k, k < 4 → s_blb p S (q_bb pb tag (Int32.ofNat tm) no) tip' code k = if k = p then [0, 34, 8, 0] ++ q_ls (q_bn pb tag (Int32.ofNat tm) no) 32 else [])) from by
    refine ⟨done e2, e4, e1, ?_, fun k hk => ?_⟩
    · have ec : b_co (S.1 ++ [b]) tip' (b_ht (S.1 ++ [b]) tip') = b_co S.1 S.2.2.2.1 (b_ht S.1 S.2.2.2.1) := by rw [e1, b_ht_lo (lo hts), b_co_lo hw (lo hts)]
      refine q_val_no (congrArg Prod.fst ec) (r_fd_none fun c hc w => ?_)
      have := (r_I_cs hI).2.2.2 c hc
      rw [w, q_nv_ls] at this
      exact vt this
    · unfold s_blb
      rw [if_pos e1, e3, r_bn]
      unfold p_bx1
      by_cases c : k = p
      · rw [if_pos c, if_pos c, hbx k hk, vd nmL]
      · rw [if_neg c, if_neg c, hbx k hk])
  refine ⟨?_, ln, keep, nNm, nHt, ?_⟩
  · rcases hc with ⟨-, -, e, -⟩ | ⟨-, f, -, (⟨-, -, e, -⟩ | ⟨g, gg, -⟩)⟩
    · exact done e
    · exact done e
    · exfalso
      obtain ⟨a1, a2, a3⟩ := b_at_ok hw' hn' gg.2.1
      exact gg.2.2.1 (vall _ (b_ht_pos hw' a3 (by have := gg.1; omega)) a3)
  · rcases hc with ⟨a, e1, e2, e3⟩ | ⟨a, f, hf, (⟨-, e1, e2, e3⟩ | ⟨g, gg, -⟩)⟩
    · rw [Wn, Wlo _ hts] at a
      exact Or.inr (low e1 e2 e3 (Nat.le_of_mul_le_mul_right a pos)).2
    · rw [Wn, Wlo _ hts] at a
      refine Or.inl ⟨Nat.lt_of_mul_lt_mul_right a, e1, ?_, fun k hk => ?_⟩
      · have eh : b_ht (S.1 ++ [b]) tip' = b_ht S.1 q + 1 := by rw [e1]; exact nHt
        have ec : b_co (S.1 ++ [b]) tip' (b_ht (S.1 ++ [b]) tip') = ((b_co S.1 q (b_ht S.1 q)).1 ++ [(b_hs (q_tb tag), 0, q_tb tag, r_y, b_ht S.1 q + 1)], (b_co S.1 q (b_ht S.1 q)).2) := by
          rw [eh, e1]
          show b_app (b_ht S.1 q + 1) true (b_tx (S.1 ++ [b]) (b_at (S.1 ++ [b]) n (b_ht S.1 q + 1))) (b_co (S.1 ++ [b]) n (b_ht S.1 q)) = _
          rw [← nHt, b_at_self, nTx, nHt, coq, r_app]
        refine (q_val_some (congrArg Prod.fst ec) (r_fd_last nq)).trans ?_
        rw [List.getD_eq_getElem?_getD, List.getElem?_append_right (Nat.le_refl _), Nat.sub_self]
        exact r_cv ht
      · have nt : tip' ≠ S.2.2.2.1 := by omega
        show s_blb p S (q_bb pb tag (Int32.ofNat tm) no) tip' code k = _
        unfold s_blb
        rw [if_neg nt, e3, r_bn]
        unfold p_bxo zoth p_bx1
        by_cases c : k = p
        · rw [if_neg (fun w => w.2 c), if_pos c, if_pos c, hbx k hk, vd nmL]
        · rw [if_pos ⟨hk, c⟩, if_neg c, if_neg c, hbx k hk, tl nmL]
    · exfalso
      obtain ⟨a1, a2, a3⟩ := b_at_ok hw' hn' gg.2.1
      exact gg.2.2.1 (vall _ (b_ht_pos hw' a3 (by have := gg.1; omega)) a3)
/-- a block behind a name that nobody has -/
theorem r_orph {t : Int32} (hI : r_I l S) (vp : q_nv pb ∉ l) (vb : q_nv (q_bn pb tag t no) ∉ l) (hst : s_blk p S (q_bb pb tag t no) [r_x tag] S') : S' = s_bx S (p_bx1 S.2.2.2.2.2 p (p_askm S.1 S.2.2.2.1)) := by
  have r21 : b_ref S.1 S.2.2.1 (q_bb pb tag t no) [r_x tag] = 21 := by
    unfold b_ref
    rw [r_bn, r_kn_none hI vb, if_neg (fun w => w rfl), r_pa, r_kn_none hI vp]
  rcases hst with ⟨-, e⟩ | ⟨c, -⟩
  · rw [r21, if_pos rfl] at e
    exact e
  · rw [r21] at c
    exact absurd c (by decide)
end STEP
