/-! The account: names by 21 bits, bits, times, coins. -/
def q_nv (b : Nat → UInt8) : Nat := ((b 5).toNat * 65536 + (b 6).toNat * 256 + (b 7).toNat) % 2097152
theorem q_v_nv {T : Nat → Int64} {s : Nat} {b : Nat → UInt8} (h : q_sl T s b) : q_v (T (32 + 4 * s)) 0 = q_nv b := by
  have g : ∀ i, i < 8 → zlb (T (32 + 4 * s)) i = b i := fun i hi => by
    have := h i (by omega)
    rw [show i / 8 = 0 by omega, show i % 8 = i by omega] at this
    exact this
  unfold q_nv
  rw [← g 5 (by decide), ← g 6 (by decide), ← g 7 (by decide)]
  obtain ⟨m, hm, e⟩ := q_natL (T (32 + 4 * s))
  rw [e, zlb_n hm (by decide), zlb_n hm (by decide), zlb_n hm (by decide)]
  unfold q_v
  rw [q_ofL hm]
  simp only [Nat.reduceMul, Nat.reduceSub, Nat.reducePow, Nat.div_one]
  omega
theorem q_ls_at {b : Nat → UInt8} {n i : Nat} (hi : i < n) : b_fn (q_ls b n) i = b i := by
  unfold b_fn q_ls
  rw [List.getD_eq_getElem?_getD, List.getElem?_map, List.getElem?_range hi]
  rfl
theorem q_nv_ls {b : Nat → UInt8} : q_nv (b_fn (q_ls b 32)) = q_nv b := by
  unfold q_nv
  rw [q_ls_at (by decide), q_ls_at (by decide), q_ls_at (by decide)]
theorem q_nv_cg {b c : Nat → UInt8} (h : ∀ i, i < 32 → b i = c i) : q_nv b = q_nv c := by
  unfold q_nv
  rw [h 5 (by decide), h 6 (by decide), h 7 (by decide)]
theorem q_ls_fn {l : List UInt8} {n : Nat} (h : l.length = n) : q_ls (b_fn l) n = l := by
  refine List.ext_getElem? fun i => ?_
  unfold q_ls
  by_cases c : i < n
  · rw [List.getElem?_map, List.getElem?_range c]
    show some (b_fn l i) = _
    unfold b_fn
    rw [List.getD_eq_getElem?_getD, List.getElem?_eq_getElem (by omega)]
    rfl
  · rw [List.getElem?_eq_none (by rw [List.length_map, List.length_range]; omega), List.getElem?_eq_none (by omega)]
/-! Bits and times. -/
def r_w : Nat := b_w1 545259519
theorem r_w_pos : 0 < r_w := by unfold r_w b_w1; decide +kernel
/-- the times that the law gives -/
def r_tm (bs : List b_k) : Prop := ∀ j, j < bs.length → b_bi bs j = 545259519 ∧ 1000000 + 690 * b_ht bs j ≤ b_ti bs j ∧ b_ti bs j ≤ 1000001 + 690 * b_ht bs j
theorem r_rtg {n t : Nat} (hn : n = b_lim) (ht : 4829 ≤ t) : b_rtg n t = b_lim := by
  subst hn
  have hL : 4800 ≤ b_lim := by unfold b_lim; decide +kernel
  unfold b_rtg
  generalize b_lim = L at *
  have h1 : L * 4829 ≤ L * t := Nat.mul_le_mul_left L ht
  have h3 : L * 4800 + 1 * 4800 ≤ L * 4829 := Nat.le_trans (Nat.add_le_add_left (Nat.le_trans (Nat.le_of_eq (Nat.one_mul 4800)) (Nat.le_trans hL (Nat.le_mul_of_pos_right L (Nat.succ_pos 28)))) (L * 4800)) (Nat.le_of_eq (Nat.mul_add L 4800 29).symm)
  have h2 : L + 1 ≤ L * t / 4800 := (Nat.le_div_iff_mul_le (Nat.succ_pos 4799)).mpr (by rw [Nat.add_mul]; exact Nat.le_trans h3 h1)
  exact if_pos h2
theorem r_mst {bs : List b_k} {q : Nat} (hw : b_wf bs) (ht : r_tm bs) (hq : q < bs.length) : b_mst bs q = 545259519 := by
  unfold b_mst
  by_cases c : (b_ht bs q + 1) % 8 = 0
  · rw [if_pos c]
    obtain ⟨a1, a2, a3⟩ := b_at_ok hw hq (show b_ht bs q - 7 ≤ b_ht bs q by omega)
    obtain ⟨e1, t1, t2⟩ := ht q hq
    obtain ⟨-, u1, u2⟩ := ht _ a3
    rw [a2] at u1 u2
    have ec : b_clt (b_ti bs q) (b_ti bs (b_at bs q (b_ht bs q - 7))) = b_ti bs q - b_ti bs (b_at bs q (b_ht bs q - 7)) := by
      unfold b_clt
      rw [if_neg (by omega), if_neg (by omega)]
    rw [ec, e1, r_rtg (n := b_tg 545259519) rfl (by omega)]
    unfold b_lim b_cp
    decide +kernel
  · rw [if_neg c]
    exact (ht q hq).1
theorem r_ins_lt {M x : Nat} (hx : x < M) {p : Nat} {w : Nat → Nat} (h : ∀ j, w j < M) : ∀ j, b_ins x p w j < M := b_ins_lt hx h
theorem r_med_lt {bs : List b_k} {M : Nat} (hw : b_wf bs) (ht : r_tm bs) : ∀ {d k n : Nat} {w : Nat → Nat}, k < bs.length → 1000001 + 690 * b_ht bs k < M → (∀ j, w j < M) → b_med bs d k n w < M
  | 0, k, n, w, _, _, h => h _
  | d + 1, k, n, w, hk, hM, h => by
    have tk := (ht k hk).2.2
    unfold b_med
    by_cases c : k = 0
    · rw [if_pos c]
      exact b_ins_lt (by omega) h _
    · rw [if_neg c]
      obtain ⟨p1, p2, -⟩ := hw.2.2.2.2 k (by omega) hk
      exact r_med_lt hw ht (by omega) (by omega) (b_ins_lt (by omega) h)
theorem r_mdn {bs : List b_k} {q tm : Nat} (hw : b_wf bs) (ht : r_tm bs) (hq : q < bs.length) (h : 1000000 + 690 * (b_ht bs q + 1) ≤ tm) : b_mdn bs q < tm :=
  r_med_lt hw ht hq (by omega) fun _ => by omega
/-- the name is below the target -/
theorem r_tg {b : Nat → UInt8} (h : q_hit b) : ¬ b_tg 545259519 < b_nn (q_ls b 32) := by
  unfold b_nn
  have e : ∀ j, j < 32 → ((q_ls b 32).getD j 0).toNat = (b j).toNat := fun j hj => by rw [show (q_ls b 32).getD j 0 = b j from q_ls_at hj]
  rw [nv_ext e, nv_cut (m := 29) 3]
  have l29 : nv 256 (fun j => (b j).toNat) 29 < 256 ^ 29 := nv_lt fun i _ => UInt8.toNat_lt (b i)
  have e3 : nv 256 (fun i => (b (29 + i)).toNat) 3 = (b 31).toNat * 65536 + (b 30).toNat * 256 + (b 29).toNat := by
    show 0 + (b 29).toNat * 256 ^ 0 + (b 30).toNat * 256 ^ 1 + (b 31).toNat * 256 ^ 2 = _
    omega
  rw [e3]
  have et : b_tg 545259519 = 8388607 * 256 ^ 29 := by unfold b_tg b_ma b_sz; decide +kernel
  rw [et]
  unfold q_hit at h
  generalize (b 31).toNat * 65536 + (b 30).toNat * 256 + (b 29).toNat = X at *
  generalize nv 256 (fun j => (b j).toNat) 29 = Y at *
  generalize 256 ^ 29 = Z at *
  have h1 : Z * (X + 1) ≤ Z * 8388607 := Nat.mul_le_mul_left Z (by omega)
  have h2 : Z * (X + 1) = Z * X + Z := Nat.mul_succ Z X
  have h3 : 8388607 * Z = Z * 8388607 := Nat.mul_comm _ _
  omega
/-! Coins. -/
theorem r_fd_none {nm : List UInt8} {ix : Nat} : ∀ {cs : List w_cn} {i : Nat}, (∀ c ∈ cs, c.1 ≠ nm) → w_fd cs nm ix i = none
  | [], _, _ => rfl
  | c :: r, i, h => by
    unfold w_fd
    rw [if_neg fun w => h c List.mem_cons_self w.1]
    exact r_fd_none fun c' hc => h c' (List.mem_cons_of_mem _ hc)
theorem r_fd_app {nm : List UInt8} {ix : Nat} {r : List w_cn} : ∀ {cs : List w_cn} {i : Nat}, w_fd cs nm ix i = none → w_fd (cs ++ r) nm ix i = w_fd r nm ix (i + cs.length)
  | [], i, _ => rfl
  | c :: t, i, h => by
    unfold w_fd at h
    by_cases e : c.1 = nm ∧ c.2.1 = ix
    · rw [if_pos e] at h
      cases h
    · rw [if_neg e] at h
      show (if c.1 = nm ∧ c.2.1 = ix then some i else w_fd (t ++ r) nm ix (i + 1)) = _
      rw [if_neg e, r_fd_app h, List.length_cons]
      rw [show i + 1 + t.length = i + (t.length + 1) by omega]
/-- the coins of a chain of so many blocks -/
def r_cs (l : List Nat) (h : Nat) (q : List w_cn × Nat) : Prop := q.1.length = h ∧ q.2 = 0 ∧ w_sumc q.1 = Int64.ofNat (5000000000 * h) ∧ ∀ c ∈ q.1, q_nv (b_fn c.1) ∈ l
theorem r_app {tag h : Nat} {q : List w_cn × Nat} : b_app h true [r_x tag] q = (q.1 ++ [(b_hs (q_tb tag), 0, q_tb tag, r_y, h)], q.2) := rfl
theorem r_cs_new {l : List Nat} {tag h : Nat} {q : List w_cn × Nat} (ht : tag < 28) (hl : q_nv (q_tn tag) ∈ l) (hq : r_cs l h q) : r_cs l (h + 1) (b_app (h + 1) true [r_x tag] q) := by
  obtain ⟨a1, a2, a3, a4⟩ := hq
  rw [r_app]
  refine ⟨by rw [List.length_append, a1]; rfl, a2, ?_, fun c hc => ?_⟩
  · show w_sumc (q.1 ++ _) = _
    rw [w_sumc_app, a3]
    show _ + (w_cv (b_hs (q_tb tag), 0, q_tb tag, r_y, h + 1) + 0) = _
    rw [r_cv ht, show 5000000000 * (h + 1) = 5000000000 * h + 5000000000 by omega, ← lo_add]
    rfl
  · rcases List.mem_append.mp hc with c1 | c1
    · exact a4 c c1
    · rw [List.mem_singleton.mp c1]
      show q_nv (b_fn (b_hs (q_tb tag))) ∈ l
      rw [r_hs, q_nv_ls]
      exact hl
def r_txs (l : List Nat) (bs : List b_k) : Prop := ∀ j, 1 ≤ j → j < bs.length → ∃ tag, tag < 28 ∧ b_tx bs j = [r_x tag] ∧ q_nv (q_tn tag) ∈ l
theorem r_co {l : List Nat} {bs : List b_k} (hw : b_wf bs) (hx : r_txs l bs) {j : Nat} (hj : j < bs.length) : ∀ {h : Nat}, h ≤ b_ht bs j → r_cs l h (b_co bs j h)
  | 0, _ => ⟨rfl, rfl, rfl, fun c hc => by cases hc⟩
  | h + 1, hh => by
    obtain ⟨a1, a2, a3⟩ := b_at_ok hw hj hh
    obtain ⟨tag, t1, t2, t3⟩ := hx _ (b_ht_pos hw a3 (by omega)) a3
    show r_cs l (h + 1) (b_app (h + 1) true (b_tx bs (b_at bs j (h + 1))) (b_co bs j h))
    rw [t2]
    exact r_cs_new t1 t3 (r_co hw hx hj (by omega))
theorem r_sub {h : Nat} (hh : h < 32) : b_sub h = 5000000000 := by
  unfold b_sub
  rw [show h / 32 = 0 by omega]
  decide
/-- a block of the law is right behind such coins -/
theorem r_all {tag h : Nat} {cs : List w_cn} (ht : tag < 28) (hh : h < 32) (hl : cs.length ≤ 40) (hn : ∀ c ∈ cs, c.1 ≠ b_hs (q_tb tag)) : (b_all h [r_x tag] cs 0).1 = 0 := by
  have m0 : b_mk cs (r_x tag) 0 0 = 0 := by
    unfold b_mk
    rw [b_neg fun ⟨j, _, w⟩ => w (r_fd_none hn)]
    unfold w_mk37
    have e1 : ¬ (1500 : Int32) < Int32.ofNat cs.length - Int32.ofNat 0 + Int32.ofNat (r_x tag).2.2.2.1.length := by
      rw [jo_sub (Nat.zero_le _), jo_add, show (1500 : Int32) = Int32.ofNat 1500 from rfl]
      have : (r_x tag).2.2.2.1.length = 1 := rfl
      rw [this, jo_lt (by omega) (by omega)]
      omega
    rw [if_neg e1]
    rfl
  have o1 : b_one h true (r_x tag) (cs, 0, 0, 24) = (0, b_nxt h true (r_x tag) (cs, 0, 0, 24) 24) := by
    unfold b_one
    rw [if_pos rfl, if_pos m0]
  have s1 : b_seq h true [r_x tag] (cs, 0, 0, 24) = (0, b_nxt h true (r_x tag) (cs, 0, 0, 24) 24) := by
    unfold b_seq
    rw [o1, if_pos rfl]
    rfl
  unfold b_all
  rw [s1, if_pos rfl]
  have c : w_sum (([r_x tag] : List b_t).getD 0 ([], [], ([], [], 0))).2.1 (([r_x tag] : List b_t).getD 0 ([], [], ([], [], 0))).2.2 ≤ b_sub h + ((0 : Int32), b_nxt h true (r_x tag) (cs, 0, 0, 24) 24).2.2.2.1 := by
    show w_sum (q_tb tag) r_y ≤ b_sub h + 0
    rw [r_sum tag ht, r_sub hh]
    decide
  rw [if_pos c]
theorem r_cnt : ∀ {n : Nat} {bad : Nat → Bool}, (∀ k, bad k = false) → b_cnt bad n = 0
  | 0, _, _ => rfl
  | n + 1, bad, h => by
    show b_cnt bad n + (if bad n = true then 1 else 0) = 0
    rw [r_cnt h, h n]
    rfl
