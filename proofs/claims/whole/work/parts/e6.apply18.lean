/-! Coins: the reference drops those that are spent. -/
theorem w_rx_q {row s len : Nat} {tb : List UInt8} {y : w_y} {H H' : jH} (h : w_rx row s len tb y H) (hf : jfr w_Tq H H') (hr : row < 482) : w_rx row s len tb y H' := by
  obtain ⟨⟨c1, c2, c3, c4, c5, c6⟩, ⟨d1, d2, d3, d4⟩, e1, e2⟩ := h
  have hT : ∀ a j, 445 ≤ a → a < 482 → ¬ w_Tq a j := fun a j q1 q2 w => by unfold w_Tq at w; omega
  have eB : jB H' row = jB H row := funext fun j => jfr_B hf (hT row j c5 hr)
  refine ⟨⟨(jfr_R hf (hT 456 0 (by decide) (by decide))).trans c1, by rw [jfr_K hf]; exact c2, c3, c4, c5, zRow_eq c6 fun i _ => by rw [eB]⟩, ⟨(jfr_I hf (hT 456 1 (by decide) (by decide))).trans d1, (jfr_I hf (hT 456 3 (by decide) (by decide))).trans d2, (jfr_I hf (hT 456 4 (by decide) (by decide))).trans d3, (jfr_I hf (hT 456 5 (by decide) (by decide))).trans d4⟩, fun k hk => ?_, fun k hk => ?_⟩
  · obtain ⟨a, b, c, d, e⟩ := e1 k hk
    rw [eB]
    exact ⟨(jfr_I hf (hT 457 k (by decide) (by decide))).trans a, (jfr_I hf (hT 459 k (by decide) (by decide))).trans b, (jfr_I hf (hT 460 k (by decide) (by decide))).trans c, (jfr_I hf (hT 461 k (by decide) (by decide))).trans d, (jfr_L hf (hT 458 k (by decide) (by decide))).trans e⟩
  · rw [eB]
    obtain ⟨a, b, c⟩ := e2 k hk
    exact ⟨(jfr_L hf (hT 462 k (by decide) (by decide))).trans a, (jfr_I hf (hT 463 k (by decide) (by decide))).trans b, (jfr_I hf (hT 464 k (by decide) (by decide))).trans c⟩
/-- every input finds its coin when its turn comes -/
def w_dok (tb : List UInt8) (y : w_y) : Nat → Nat → List w_cn → Prop
  | 0, _, _ => True
  | d + 1, i, cs => ∃ k, w_fd cs (w_in1 tb y i) (w_in2 tb y i) 0 = some k ∧ w_dok tb y d (i + 1) (w_dc cs k)
section AP18
variable {row s len : Nat} {tb : List UInt8} {y : w_y} {Hs : jH} {ht : Int32} {Q : Unit → jH → Prop}
theorem z18_drops (hy : w_ty tb y) (hr : row < 482) : ∀ (d i fu m : Nat) (cs : List w_cn) (H : jH), i + d = y.1.length → d < fu → jsh H → jfr w_Tq Hs H → w_rx row s len tb y H → w_CB cs H → jI H 421 18 = Int32.ofNat m → w_dok tb y d i cs →
    (∀ H', jsh H' → jfr w_Tq Hs H' → w_rx row s len tb y H' → w_CB (w_drp tb y d i cs m).1 H' → jI H' 421 18 = Int32.ofNat (w_drp tb y d i cs m).2 → jT (B_18_apply_56 421 ht 0 H') Q) → jT (F_18_apply_2 fu 421 ht 0 (Int32.ofNat i) H) Q := by
  have l8 : y.1.length ≤ 8 := (ztx_spec hy.1).1
  intro d
  induction d with
  | zero =>
    intro i fu m cs H hi hfu hs hf hx hCB h18 hok hk
    obtain ⟨fu, rfl⟩ : ∃ k, fu = k + 1 := ⟨fu - 1, by omega⟩
    unfold F_18_apply_2 B_18_apply_2
    rw [sR_421_4 hs, hx.2.1.2.2.1]
    exact jT_g (gT (sK_421 hs)) (jT_g (gT (sK_456 hs)) (jT_pos (by rw [jo_le (by omega) (by omega)]; omega) (hk H hs hf hx hCB h18)))
  | succ d ih =>
    intro i fu m cs H hi hfu hs hf hx hCB h18 hok hk
    obtain ⟨fu, rfl⟩ : ∃ k, fu = k + 1 := ⟨fu - 1, by omega⟩
    have hii : i < y.1.length := by omega
    obtain ⟨k, hfk, hok2⟩ := hok
    have edrp : w_drp tb y (d + 1) i cs m = w_drp tb y d (i + 1) (w_dc cs k) (m + 1) := by
      rw [w_drp, hfk]
    rw [edrp] at hk
    obtain ⟨c, hck, -⟩ := w_fd_at hfk
    rw [Nat.sub_zero] at hck
    have k421 : (jK H 421).1 = 18 := gT (sK_421 hs)
    have k456 : (jK H 456).1 = 17 := gT (sK_456 hs)
    have e1 : Int32.ofNat i + 1 = Int32.ofNat (i + 1) := jo_add (a := i) (b := 1)
    have kv : w_fv (some k) = Int32.ofNat k := rfl
    unfold F_18_apply_2 B_18_apply_2
    rw [sR_421_4 hs, hx.2.1.2.2.1, sR_456_7 hs, sR_456_8 hs, jo_nat (n := i) (by omega), hx.1.1, z18_cn hs hy hx hCB hii, jb_ok, hfk, kv, e1]
    refine jT_g k421 (jT_g k456 (jT_neg (by rw [jo_le (by omega) (by omega)]; omega) (jT_neg (fun q => q rfl) (jT_g k421 (jT_g k456 (jT_g k421 (jT_g k456 (jT_g (gA (sK_457 hs) (jo_in (by omega) (by omega))) (jT_g k421 (jT_g k456 (jT_g (gA (sK_458 hs) (jo_in (by omega) (by omega))) (jT_g k421 (jT_g k421 ?_)))))))))))))
    exact w_drop18 hs hCB h18 hck fun H' s' f' cb' h18' => jT_l (ih (i + 1) fu (m + 1) (w_dc cs k) H' (by omega) (by omega) s' (jfr_trans hf f') (w_rx_q hx f' hr) cb' h18' hok2 hk)
end AP18
