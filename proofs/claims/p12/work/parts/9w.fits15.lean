/-! Whether a signature fits a key: the reference's Signing.fits. -/
theorem ky_pt_c {b : Nat → UInt8} {n : Nat} {q : ef × ef} (h : ky_pt b n = some q) : eg_c e7 q := by
  have hm : ∀ x : ef, (-x) * (-x) = x * x := fun x => by grind
  unfold ky_pt at h
  split at h
  · split at h
    · next hc =>
      obtain rfl := Option.some.inj h
      unfold eg_c
      show (if _ then _ else _) * (if _ then _ else _) = ky_c (bgn b 1 32)
      split
      · exact hc.2
      · rw [hm]
        exact hc.2
    · cases h
  · split at h
    · split at h
      · next hc =>
        obtain rfl := Option.some.inj h
        exact hc.2.2
      · cases h
    · cases h
/-- the number that is signed -/
def w_z (tb : List UInt8) (y : w_y) (inp : Nat) (lk : List UInt8) (kd : Nat) : Nat :=
  if kd % 32 = 3 ∧ y.2.1.length ≤ inp then 1 else bgn (fun i => znm (fun j => (w_msg tb y inp lk kd).getD j 0) (w_msg tb y inp lk kd).length i) 0 32
def w_fit (tb : List UInt8) (y : w_y) (inp : Nat) (lk sg ky : List UInt8) : Prop :=
  ∃ q, ky_pt (fun i => ky.getD i 0) ky.length = some q ∧ sg_b (fun i => sg.getD i 0) sg.length ∧ sg_in (sg_r fun i => sg.getD i 0) (sg_s fun i => sg.getD i 0) ∧
    sg_ok (sg_r fun i => sg.getD i 0) (sg_s fun i => sg.getD i 0) (w_z tb y inp lk (sg.getD (sg.length - 1) 0).toNat) q
theorem sg_b_len {b : Nat → UInt8} {n : Nat} (h : sg_b b n) : 9 ≤ n ∧ n ≤ 73 := by
  obtain ⟨⟨q0, q1, q2, q3, q4, q5, q6, q7, q8⟩, -⟩ := h
  omega
section FITS15
variable {Q : Int32 → jH → Prop} {row s len lr la llen inp : Nat} {tb lk sg ky : List UInt8} {y : w_y} {H0 : jH}
theorem w_msg_len {kd : Nat} (hy : w_ty tb y) (hlk : lk.length ≤ 200) (h3 : kd % 32 = 3 → inp < y.2.1.length) : (w_msg tb y inp lk kd).length ≤ 2300 ∧ 1 ≤ (w_msg tb y inp lk kd).length := by
  have lt := hy.2.2
  have h10 : 10 ≤ y.2.2 := by have := (ztx_spec hy.1).2.2.1; omega
  have hty := hy.2.1
  have hl := w_len (inp := inp) (lk := lk) (al := decide (128 ≤ kd)) (ba := w_ba kd) (b3 := decide (kd % 32 = 3)) hy (Nat.le_refl y.1.length) (w_no_le (kd := kd) h3)
  have p4 : (w_sl tb 0 4).length = 4 := w_sl_len (by omega)
  have p5 : (w_sl tb (tb.length - 4) 4).length = 4 := w_sl_len (by omega)
  unfold w_msg w_m3 w_m2 w_m1
  simp only [List.length_append, p4, p5, List.length_cons, List.length_nil, List.length_replicate]
  omega
end FITS15
