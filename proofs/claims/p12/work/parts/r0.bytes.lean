/-! The law's blocks, as they are read. -/
/-- eight bits of a long -/
theorem lo_byte {k s : Nat} (hs : s ≤ 56) : jbu (ji2b (Int64.toInt32 (jshrL (Int64.ofNat k) (Int32.ofNat s)))) = w_b (k / 2 ^ s % 256) := by
  have h : jshrL (Int64.ofNat k) (Int32.ofNat s) &&& 255 = Int64.ofNat (k / 2 ^ s % 256) := by
    have h1 : ∀ c, c < 64 → ((Int32.ofNat c).toInt64 &&& 63) = Int64.ofNat c := by decide
    unfold jshrL
    rw [h1 s (by omega)]
    refine Int64.toBitVec_inj.mp ?_
    have e2 : (Int64.ofNat s).toBitVec.smod 64 = BitVec.ofNat 64 s := by
      have : ∀ c, c < 64 → (Int64.ofNat c).toBitVec.smod 64 = BitVec.ofNat 64 c := by decide
      exact this s (by omega)
    have e3 : ∀ k, (Int64.ofNat k).toBitVec = BitVec.ofNat 64 k := fun _ => rfl
    rw [Int64.toBitVec_and, Int64.toBitVec_shiftRight, e2, e3, e3]
    have e4 : (BitVec.ofNat 64 k).sshiftRight' (BitVec.ofNat 64 s) = (BitVec.ofNat 64 k).sshiftRight s := by
      show (BitVec.ofNat 64 k).sshiftRight (BitVec.ofNat 64 s).toNat = _
      rw [BitVec.toNat_ofNat, Nat.mod_eq_of_lt (by omega)]
    rw [e4]
    refine BitVec.eq_of_getLsbD_eq fun i hi => ?_
    have e5 : (Int64.toBitVec 255).getLsbD i = decide (i < 8) := by
      have : ∀ i, i < 64 → (Int64.toBitVec 255).getLsbD i = decide (i < 8) := by decide
      exact this i hi
    rw [BitVec.getLsbD_and, BitVec.getLsbD_sshiftRight, e5, BitVec.getLsbD_ofNat, BitVec.getLsbD_ofNat]
    rw [show (256 : Nat) = 2 ^ 8 from rfl, Nat.testBit_mod_two_pow, Nat.testBit_div_two_pow]
    by_cases h8 : i < 8
    · rw [if_pos (by omega)]
      simp [h8, hi, Nat.add_comm, (by omega : s + i < 64), (by omega : i + s < 64)]
    · simp [h8]
  unfold w_b
  refine jbu_i2b _ _ ?_
  have e6 : (Int64.toInt32 (jshrL (Int64.ofNat k) (Int32.ofNat s))) &&& 255 = Int64.toInt32 (jshrL (Int64.ofNat k) (Int32.ofNat s) &&& 255) := by
    rw [Int64.toInt32_and]
    rfl
  have e7 : Int32.ofNat (k / 2 ^ s % 256) &&& 255 = Int32.ofNat (k / 2 ^ s % 256) := by
    have := jo_mask (m := k / 2 ^ s % 256) (k := 8) (by decide)
    rw [show (255 : Int32) = Int32.ofNat (2 ^ 8 - 1) from rfl, this, Nat.mod_mod]
  rw [e6, h, e7, lw_i32, Nat.mod_eq_of_lt (a := k / 2 ^ s % 256) (by omega)]
def r_y : w_y := ([(5, 4)], [(51, 1)], 65)
theorem r_ztx : ∀ tag, tag < 28 → ztx (fun i => (q_tb tag).getD i 0) 0 (q_tb tag).length = some r_y := fun _ _ => rfl
theorem r_rt : ∀ tag, tag < 28 → w_rt (q_tb tag) r_y = 1 := by decide +kernel
theorem r_sum : ∀ tag, tag < 28 → w_sum (q_tb tag) r_y = 5000000000 := by decide +kernel
theorem r_zho : ∀ tag, tag < 28 → zho (fun i => (q_tb tag).getD i 0) 59 8 = 5000000000 := by decide +kernel
theorem r_ztm : ∀ tag, tag < 28 → ztm (zvs (fun i => (q_tb tag).getD i 0) r_y.2.1) 0 = false := by decide +kernel
def r_x (tag : Nat) : b_t := (b_hs (q_tb tag), q_tb tag, r_y)
theorem r_ty {tag : Nat} (h : tag < 28) : w_ty (q_tb tag) r_y := ⟨r_ztx tag h, rfl, by rw [q_tb_len]; decide⟩
theorem r_cv {nm : List UInt8} {tag h : Nat} (ht : tag < 28) : w_cv (nm, 0, q_tb tag, r_y, h) = 5000000000 := by
  show Int64.ofNat (zho (fun i => (q_tb tag).getD i 0) (51 + 8) 8) = _
  rw [r_zho tag ht]
  rfl
theorem r_shp {tag : Nat} (ht : tag < 28) : b_shp [r_x tag] = true := by
  show (decide (r_y.1.length = 1) && decide (w_rt (q_tb tag) r_y ≠ 0) && decide (2 ≤ (r_y.1.getD 0 (0, 0)).2) && decide ((r_y.1.getD 0 (0, 0)).2 ≤ 100) && true) = true
  rw [r_rt tag ht]
  rfl
theorem r_flf {tag : Nat} (ht : tag < 28) : b_flf 0 [r_x tag] = false := by
  show ((decide (r_y.2.1.length = 0) || ztm (zvs (fun i => (q_tb tag).getD i 0) r_y.2.1) 0) || false) = false
  rw [r_ztm tag ht]
  rfl
theorem b_hs_ls {l : List UInt8} : b_hs l = q_ls (znm (b_fn l) l.length) 32 := rfl
theorem r_hs {tag : Nat} : b_hs (q_tb tag) = q_ls (q_tn tag) 32 := rfl
theorem q_lo_b {m n k : Nat} (hk : k < n) (hn : n ≤ 8) : (b_fn (q_lo (Int64.ofNat m) n) k).toNat = m / 2 ^ (8 * k) % 256 := by
  have e : b_fn (q_lo (Int64.ofNat m) n) k = jbu (Int64.toInt32 (jshrL (Int64.ofNat m) (Int32.ofNat (8 * k)))) := by
    unfold b_fn q_lo
    rw [List.getD_eq_getElem?_getD, List.getElem?_map, List.getElem?_range hk]
    rfl
  rw [e, ← jbu_ji2b, lo_byte (by omega)]
  unfold w_b
  rw [jbu_ji2b, jbu_toNat, q_ofN (Nat.lt_trans (Nat.mod_lt _ (by decide)) (by decide))]
  exact Nat.mod_eq_of_lt (Nat.mod_lt _ (by decide))
theorem b_fn_r {l r : List UInt8} {n i : Nat} (h : l.length = n) : b_fn (l ++ r) (n + i) = b_fn r i := by
  unfold b_fn
  rw [List.getD_eq_getElem?_getD, List.getD_eq_getElem?_getD, List.getElem?_append_right (by omega), h, Nat.add_sub_cancel_left]
section BB
variable {pb : Nat → UInt8} {tag : Nat} {t no : Int32}
theorem q_bb_len : (q_bb pb tag t no).length = 146 := by
  unfold q_bb
  rw [List.length_append, List.length_append, q_hd_len, q_tb_len]
  rfl
theorem r_take : (q_bb pb tag t no).take 80 = q_hd pb (q_tn tag) t 545259519 no := by
  unfold q_bb
  rw [List.append_assoc, List.take_append_of_le_length (by rw [q_hd_len]; exact Nat.le_refl _), List.take_of_length_le (by rw [q_hd_len]; exact Nat.le_refl _)]
theorem r_bn : b_hs ((q_bb pb tag t no).take 80) = q_ls (q_bn pb tag t no) 32 := by
  rw [r_take, b_hs_ls, q_hd_len]
  rfl
theorem r_drop : (q_bb pb tag t no).drop 81 = q_tb tag := by
  unfold q_bb
  have l : (q_hd pb (q_tn tag) t 545259519 no ++ [1]).length = 81 := by rw [List.length_append, q_hd_len]; rfl
  rw [List.drop_append_of_le_length (by rw [l]; exact Nat.le_refl _), List.drop_of_length_le (by rw [l]; exact Nat.le_refl _)]
  rfl
theorem r_80 : ((q_bb pb tag t no).getD 80 0).toNat = 1 := by
  have e : b_fn (q_hd pb (q_tn tag) t 545259519 no ++ ([1] ++ q_tb tag)) (80 + 0) = b_fn ([1] ++ q_tb tag) 0 := b_fn_r q_hd_len
  unfold q_bb
  rw [List.append_assoc]
  show (b_fn (q_hd pb (q_tn tag) t 545259519 no ++ ([1] ++ q_tb tag)) (80 + 0)).toNat = 1
  rw [e]
  rfl
theorem r_lay : b_lay (q_bb pb tag t no) [r_x tag] := ⟨by rw [q_bb_len]; decide, by rw [q_bb_len]; decide, by show 1 ≤ 12; decide, r_80, by rw [r_drop]; show q_tb tag = q_tb tag ++ []; rw [List.append_nil]⟩
theorem r_isb (ht : tag < 28) : s_isb (q_bb pb tag t no) [r_x tag] := ⟨r_lay, fun x hx => by
  rw [List.mem_singleton.mp hx]
  exact ⟨r_ty ht, rfl⟩⟩
theorem r_isb_u (ht : tag < 28) {txs : List b_t} (h : s_isb (q_bb pb tag t no) txs) : txs = [r_x tag] := by
  obtain ⟨⟨-, -, -, h4, h5⟩, h6⟩ := h
  rw [r_80] at h4
  match txs, h4 with
  | [x], _ =>
    obtain ⟨a, b⟩ := h6 x (List.mem_singleton.mpr rfl)
    rw [r_drop] at h5
    have e : q_tb tag = x.2.1 := by
      have : b_fl [x] = x.2.1 ++ [] := rfl
      rw [this, List.append_nil] at h5
      exact h5
    have ey : x.2.2 = r_y := by
      have a1 := a.1
      rw [← e, r_ztx tag ht] at a1
      exact (Option.some.inj a1).symm
    obtain ⟨x1, x2, x3⟩ := x
    have e1 : x1 = b_hs x2 := b
    have e2 : q_tb tag = x2 := e
    have e3 : x3 = r_y := ey
    rw [e1, ← e2, e3]
    rfl
theorem r_pa : w_sl (q_bb pb tag t no) 4 32 = q_ls pb 32 := by
  unfold w_sl q_bb q_hd
  simp only [List.append_assoc]
  rw [List.drop_append_of_le_length (by rw [q_lo_len]; exact Nat.le_refl _), List.drop_of_length_le (by rw [q_lo_len]; exact Nat.le_refl _), List.nil_append, List.take_append_of_le_length (by rw [q_ls_len]; exact Nat.le_refl _), List.take_of_length_le (by rw [q_ls_len]; exact Nat.le_refl _)]
theorem r_ro : w_sl (q_bb pb tag t no) 36 32 = q_ls (q_tn tag) 32 := by
  unfold w_sl q_bb q_hd
  have l : (q_lo 1 4 ++ q_ls pb 32).length = 36 := by rw [List.length_append, q_lo_len, q_ls_len]
  rw [List.append_assoc (q_lo 1 4 ++ q_ls pb 32)]
  simp only [List.append_assoc (q_lo 1 4 ++ q_ls pb 32)]
  rw [List.drop_append_of_le_length (by rw [l]; exact Nat.le_refl _), List.drop_of_length_le (by rw [l]; exact Nat.le_refl _), List.nil_append]
  simp only [List.append_assoc]
  rw [List.take_append_of_le_length (by rw [q_ls_len]; exact Nat.le_refl _), List.take_of_length_le (by rw [q_ls_len]; exact Nat.le_refl _)]
theorem r_num {l r : List UInt8} {n m : Nat} (hl : l.length = n) (hm : m < 4294967296) : zho (b_fn (l ++ (q_lo (Int64.ofNat m) 4 ++ r))) (n + 4) 4 = m := by
  have g : ∀ k, k < 4 → (b_fn (l ++ (q_lo (Int64.ofNat m) 4 ++ r)) (n + k)).toNat = m / 2 ^ (8 * k) % 256 := fun k hk => by
    rw [b_fn_r hl, b_fn_app (by rw [q_lo_len]; exact hk), q_lo_b hk (by decide)]
  have g0 := g 0 (by decide)
  have g1 := g 1 (by decide)
  have g2 := g 2 (by decide)
  have g3 := g 3 (by decide)
  simp only [Nat.reduceMul, Nat.reducePow] at g0 g1 g2 g3
  unfold zho zho zho zho zho
  rw [show n + 4 - (0 + 1) = n + 3 by omega, show n + 4 - (0 + 1 + 1) = n + 2 by omega, show n + 4 - (0 + 1 + 1 + 1) = n + 1 by omega, show n + 4 - (3 + 1) = n + 0 by omega, g0, g1, g2, g3]
  omega
theorem r_t4 {m : Nat} (hm : m < 2147483648) : b_t4 (q_bb pb tag (Int32.ofNat m) no) = m := by
  unfold b_t4 q_bb q_hd
  rw [lo_of hm]
  have l : (q_lo 1 4 ++ q_ls pb 32 ++ q_ls (q_tn tag) 32).length = 68 := by rw [List.length_append, List.length_append, q_lo_len, q_ls_len, q_ls_len]
  simp only [List.append_assoc (q_lo 1 4 ++ q_ls pb 32 ++ q_ls (q_tn tag) 32), List.append_assoc (q_lo (Int64.ofNat m) 4)]
  exact r_num l (by omega)
theorem r_b4 : b_b4 (q_bb pb tag t no) = 545259519 := by
  unfold b_b4 q_bb q_hd
  have e : Int32.toInt64 545259519 = Int64.ofNat 545259519 := rfl
  rw [e]
  have l : (q_lo 1 4 ++ q_ls pb 32 ++ q_ls (q_tn tag) 32 ++ q_lo (Int32.toInt64 t) 4).length = 72 := by rw [List.length_append, List.length_append, List.length_append, q_lo_len, q_ls_len, q_ls_len, q_lo_len]
  simp only [List.append_assoc (q_lo 1 4 ++ q_ls pb 32 ++ q_ls (q_tn tag) 32 ++ q_lo (Int32.toInt64 t) 4), List.append_assoc (q_lo (Int64.ofNat 545259519) 4)]
  exact r_num l (by decide)
theorem r_rtd : b_rtd (q_bb pb tag t no) [r_x tag] = true := by
  unfold b_rtd
  rw [r_ro]
  have e : b_mkr 12 (b_nms [r_x tag]) = (false, b_hs (q_tb tag)) := rfl
  rw [e, r_hs]
  show (true && decide (q_ls (q_tn tag) 32 = q_ls (q_tn tag) 32)) = true
  rw [decide_eq_true rfl]
  rfl
end BB
/-- the message that the law sends -/
theorem r_drop1 {pb : Nat → UInt8} {tag : Nat} {t no : Int32} : ([2] ++ q_bb pb tag t no).drop 1 = q_bb pb tag t no := rfl
theorem r_step {pb : Nat → UInt8} {tag : Nat} {t no : Int32} {p : Nat} {S S' : s_S} (ht : tag < 28) (h : s_step p ([2] ++ q_bb pb tag t no) S S') : s_blk p S (q_bb pb tag t no) [r_x tag] S' := by
  have e : (([2] ++ q_bb pb tag t no : List UInt8).getD 0 0).toNat = 2 := rfl
  rcases h with ⟨a, -⟩ | ⟨-, h⟩ | ⟨a, -⟩ | ⟨a, -⟩ | ⟨a, -⟩ | ⟨⟨-, a, -⟩, -⟩
  · rw [e] at a
    omega
  · rw [r_drop1] at h
    rcases h with ⟨txs, h1, h2⟩ | ⟨h, -⟩
    · rw [r_isb_u ht h1] at h2
      exact h2
    · exact absurd (fun x hx => ((r_isb (pb := pb) (t := t) (no := no) ht).2 x hx).1) (h [r_x tag] r_lay)
  · rw [e] at a
    omega
  · rw [e] at a
    omega
  · rw [e] at a
    omega
  · exact absurd e a
