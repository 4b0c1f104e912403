/-! The reference: the scripts of all inputs. -/
theorem w_ag {H : jH} {row s : Nat} {tb : List UInt8} (h : zRow H row s tb) : zag (fun i => tb.getD i 0) 0 (jB H row) s tb.length := fun i hi => by
  rw [Nat.zero_add]
  exact h i _ (getD_of hi)
theorem w_zho {H : jH} {row s q k : Nat} {tb : List UInt8} (h : zRow H row s tb) (hq : q ≤ tb.length) (hk : k ≤ q) : zho (jB H row) (s + q) k = zho (fun i => tb.getD i 0) q k := by
  have := zho_move (w_ag h) hq k hk
  rw [Nat.zero_add] at this
  exact this
/-- the coin that an input names -/
def w_in1 (tb : List UInt8) (y : w_y) (i : Nat) : List UInt8 := w_sl tb (y.1.getD i (0, 0)).1 32
def w_in2 (tb : List UInt8) (y : w_y) (i : Nat) : Nat := zho (fun i => tb.getD i 0) ((y.1.getD i (0, 0)).1 + 36) 4
theorem w_CB_fr {cs : List w_cn} {T : Nat → Nat → Prop} {H H' : jH} (h : w_CB cs H) (hf : jfr T H H') (hT : ∀ a j, T a j → a < 445 ∧ ¬ (a = 421 ∧ j = 17)) : w_CB cs H' := by
  obtain ⟨h1, h2, h3⟩ := h
  have n : ∀ a j, 445 ≤ a → ¬ T a j := fun a j q w => by have := hT a j w; omega
  refine ⟨(jfr_I hf fun w => (hT _ _ w).2 ⟨rfl, rfl⟩).trans h1, h2, fun k c hk => ?_⟩
  obtain ⟨a1, a2, a3, a4, a5, a6, a7, la, llen, a8, ⟨b1, b2, b3, b4, b5, b6⟩, b7⟩ := h3 k c hk
  exact ⟨a1, zRow_eq a2 fun i _ => jfr_B hf (n 482 _ (by decide)), (jfr_L hf (n 483 _ (by decide))).trans a3, (jfr_L hf (n 484 _ (by decide))).trans a4, (jfr_I hf (n 485 _ (by decide))).trans a5, (jfr_I hf (n 486 _ (by decide))).trans a6, (jfr_I hf (n 488 _ (by decide))).trans a7, la, llen, (jfr_I hf (n 487 _ (by decide))).trans a8, ⟨(jfr_K hf 474).trans b1, b2, b3, zRow_eq b4 fun i _ => jfr_B hf (n 474 _ (by decide)), b5, b6⟩, by rw [jfr_I hf (n 445 1 (by decide))]; exact b7⟩
section WR18
variable {row s len : Nat} {tb : List UInt8} {y : w_y} {lks : Nat → List UInt8} {cs : List w_cn} {Q : Int32 → jH → Prop} {fit : Nat → List UInt8 → List UInt8 → Bool}
theorem z17_sumx {H : jH} (hs : jsh H) (hy : w_ty tb y) (h : w_rx row s len tb y H) : F_17_sum 456 H = some (w_sum tb y, H) := by
  obtain ⟨⟨c1, c2, c3, c4, c5, c6⟩, ⟨d1, d2, d3, d4⟩, e1, e2⟩ := h
  have lv : (zvs (fun i => tb.getD i 0) y.2.1).length = y.2.1.length := List.length_map _
  have l8 : y.2.1.length ≤ 8 := (ztx_spec hy.1).2.1
  refine z17_sum (t := 456) (vs := zvs (fun i => tb.getD i 0) y.2.1) (by unfold zT; decide) hs (by rw [lv]; exact d4) (by omega) fun k v hkv => ?_
  unfold zvs at hkv
  rw [List.getElem?_map] at hkv
  obtain ⟨w, hw, rfl⟩ := Option.map_eq_some_iff.mp hkv
  obtain ⟨hl, hw2⟩ := List.getElem?_eq_some_iff.mp hw
  have eg : y.2.1.getD k (0, 0) = w := by rw [List.getD_eq_getElem?_getD, hw]; rfl
  obtain ⟨m1, m2, m3, m4⟩ := w_out y tb hy hl
  have := (e2 k hl).1
  rw [eg] at this m1 m2
  rw [Nat.add_assoc, w_zho c6 (by omega) (by omega)] at this
  exact this.trans (zle_zho _ _ _).symm
theorem z18_165 (hy : w_ty tb y) (hfit : ∀ i sg ky, fit i sg ky = true ↔ w_fit tb y i (lks i) sg ky) (hks : ∀ i, i < y.1.length → ∃ k c, w_fd cs (w_in1 tb y i) (w_in2 tb y i) 0 = some k ∧ cs[k]? = some c ∧ lks i = w_ck c) {a2 : Int64} {Hs : jH} (V : Option Nat)
    (hk1 : ∀ lf' fu H', V = some lf' → lf' < 1000 → jsh H' → w_rx row s len tb y H' → w_p13 H' → w_CB cs H' → jI H' 437 8 = Int32.ofNat lf' → jfr w_FI Hs H' → jT (F_18_wrong_165 (fu + 1) 421 a2 (Int32.ofNat y.1.length) H') Q)
    (hk0 : ∀ H', V = none → jsh H' → w_p13 H' → w_CB cs H' → jfr w_FI Hs H' → Q 34 H') :
    ∀ (d i lf fu : Nat) (H : jH), i + d = y.1.length → d < fu → lf < 1000 → jsh H → w_rx row s len tb y H → w_p13 H → w_CB cs H → jI H 437 8 = Int32.ofNat lf → jfr w_FI Hs H → V = w_pas fit tb y lks d i lf → jT (F_18_wrong_165 fu 421 a2 (Int32.ofNat i) H) Q := by
  have l8 : y.1.length ≤ 8 := (ztx_spec hy.1).1
  have t2000 := hy.2.2
  intro d
  induction d with
  | zero =>
    intro i lf fu H hi hfu hlf hs hx hp hCB h8 hf hV
    obtain ⟨fu, rfl⟩ : ∃ k, fu = k + 1 := ⟨fu - 1, by omega⟩
    obtain rfl : i = y.1.length := by omega
    exact hk1 lf fu H hV hlf hs hx hp hCB h8 hf
  | succ d ih =>
    intro i lf fu H hi hfu hlf hs hx hp hCB h8 hf hV
    obtain ⟨fu, rfl⟩ : ∃ k, fu = k + 1 := ⟨fu - 1, by omega⟩
    have hii : i < y.1.length := by omega
    obtain ⟨k, c, hfd, hck, hlk⟩ := hks i hii
    have hx' := hx
    obtain ⟨⟨c1, c2, c3, c4, c5, c6⟩, ⟨d1, d2, d3, d4⟩, e1, e2⟩ := hx
    obtain ⟨g1, g2, g3, g4, g5⟩ := e1 i hii
    obtain ⟨m1, m2, m3, m4⟩ := w_in y tb hy hii
    have k421 : (jK H 421).1 = 18 := gT (sK_421 hs)
    have k456 : (jK H 456).1 = 17 := gT (sK_456 hs)
    have e1' : Int32.ofNat i + 1 = Int32.ofNat (i + 1) := jo_add (a := i) (b := 1)
    have nl : (w_in1 tb y i).length = 32 := w_sl_len (by omega)
    have hz : zRow H row (s + (y.1.getD i (0, 0)).1) (w_in1 tb y i) := w_sl_row c6 rfl
    rw [Nat.add_assoc, w_zho c6 (by omega) (by omega)] at g5
    have hlt := (w_fd_lt hfd).2
    have hcn := hCB.2.1
    have hco := z18_coin hs hCB c2 (by omega) (by omega) hz nl (zho_lt _ _ 4) (ix := w_in2 tb y i)
    rw [hfd] at hco
    obtain ⟨ok, b1, b2, b3, b4, b5, b6, la, llen, b7, b8, -⟩ := hCB.2.2 k c hck
    unfold F_18_wrong_165 B_18_wrong_165
    rw [sR_421_4 hs, d3, sR_456_7 hs, sR_456_8 hs, jo_nat (n := i) (by omega), c1, g1, g5]
    refine jT_g k421 (jT_g k456 (jT_neg (by rw [jo_le (by omega) (by omega)]; omega) (jT_g k421 (jT_g k456 (jT_g k421 (jT_g k456 (jT_g (gA (sK_457 hs) (jo_in (by omega) (by omega))) (jT_g k421 (jT_g k456 (jT_g (gA (sK_458 hs) (jo_in (by omega) (by omega))) (jT_g k421 ?_)))))))))))
    show jT (jb (F_18_coin 421 row (Int32.ofNat (s + (y.1.getD i (0, 0)).1)) (Int64.ofNat (w_in2 tb y i)) H) _) Q
    rw [hco, jb_ok]
    show jT (jg ((jK H 421).1 = 18) _) Q
    have kv : w_fv (some k) = Int32.ofNat k := rfl
    rw [kv, sR_421_25 hs, sR_421_26 hs, sR_421_4 hs, sR_421_6 hs, jo_nat (n := k) (by omega), b7, b6]
    refine jT_g k421 (jT_g k421 (jT_g k421 (jT_g (gA (sK_487 hs) (jo_in (by omega) (by omega))) (jT_g k421 (jT_g (gA (sK_488 hs) (jo_in (by omega) (by omega))) (jT_g k421 ?_))))))
    have nI : ∀ a j, 445 ≤ a → ¬ w_FI a j := fun a j q w => by unfold w_FI w_FS w_F14 w_S15 at w; omega
    have nI2 : ∀ a j, w_FI a j → a < 445 ∧ ¬ (a = 421 ∧ j = 17) := fun a j w => by unfold w_FI w_FS w_F14 w_S15 at w; omega
    rw [← hlk] at b8 ⊢
    refine z18_fails hs hy hx' hp hii b8 h8 hlf (hfit i) (fun lf' H' ew hl' hs' hp' hf' h8' => ?_) fun H' ew hs' hp' hf' => ?_
    · rw [e1']
      refine jT_pos rfl (jT_l (ih (i + 1) lf' fu H' (by omega) (by omega) hl' hs' (w_rx_fr hx' hf' nI) hp' (w_CB_fr hCB hf' nI2) h8' (jfr_trans hf hf') ?_))
      rw [hV, w_pas, ew]
      rfl
    · refine jT_neg (by decide) (jT_ret (hk0 H' ?_ hs' hp' (w_CB_fr hCB hf' nI2) (jfr_trans hf hf')))
      rw [hV, w_pas, ew]
      rfl
end WR18
