/-! The reference reads a row as a number. -/
theorem jI_sLx {H : jH} {a i b j : Nat} {v : Int64} : jI (jsL H a i v) b j = jI H b j := rfl
theorem jL_one {H : jH} {a i : Nat} {v : Int64} : jL (jsL H a i v) a i = v := if_pos ⟨rfl, rfl⟩
theorem lo_mul {a b : Nat} : Int64.ofNat a * Int64.ofNat b = Int64.ofNat (a * b) := (Int64.ofNat_mul a b).symm
theorem lo_add {a b : Nat} : Int64.ofNat a + Int64.ofNat b = Int64.ofNat (a + b) := (Int64.ofNat_add a b).symm
section READS
variable {m : Nat} {it : List UInt8}
theorem z14_reads50 {Q : Int32 → jH → Prop} {H0 : jH} (hm : m < 140) (hl : it.length ≤ 4) (h1 : jI H0 439 m = Int32.ofNat it.length) (h2 : ∀ (j : Nat) (u : UInt8), it[j]? = some u → jI H0 438 (120 * m + j) = Int32.ofNat u.toNat)
    (hk : ∀ H', jsh H' → jL H' 437 11 = zno it → jfr (fun a j => a = 437 ∧ j = 11) H0 H' → Q 1 H') :
    ∀ (j f : Nat) (H : jH), j ≤ it.length → j < f → jsh H → jfr (fun a j => a = 437 ∧ j = 11) H0 H → jL H 437 11 = Int64.ofNat (zhi it j (it.length - j)) → jT (F_14_reads_50 f 437 (Int32.ofNat m) (Int32.ofNat j + (-1)) H) Q := by
  have em : ∀ j : Nat, (120 : Int32) * Int32.ofNat m + Int32.ofNat j = Int32.ofNat (120 * m + j) := fun j => by
    rw [show (120 : Int32) = Int32.ofNat 120 from rfl, jo_mul, jo_add]
  have ep : ∀ j : Nat, Int32.ofNat (j + 1) + (-1) = Int32.ofNat j := fun j => by
    rw [← jo_add, Int32.add_assoc, show Int32.ofNat 1 + (-1) = 0 from by decide, Int32.add_zero]
  intro j
  induction j with
  | zero =>
    intro f H hj hf hs hfr hL
    obtain ⟨f, rfl⟩ : ∃ k, f = k + 1 := ⟨f - 1, by omega⟩
    unfold F_14_reads_50 B_14_reads_50 B_14_reads_151 B_14_reads_155
    have k0 : (jK H 437).1 = 14 := by rw [sK_437 hs]
    have i1 : jI H 439 m = Int32.ofNat it.length := (jfr_I hfr (by omega)).trans h1
    have hz := zhi_zlo it it.length 0
    have hz0 : zlo it 0 = 0 := rfl
    rw [hz0, Nat.zero_add, Nat.zero_add, Nat.pow_zero, Nat.mul_one] at hz
    rw [Nat.sub_zero, hz] at hL
    refine jT_pos (by decide) (jT_g k0 ?_)
    rw [sR_437_1 hs, sK_439 hs, jo_nat (n := m) (by omega), i1, sR_437_0 hs, sK_438 hs]
    refine jT_g ⟨rfl, jo_in (by omega) (by show m < 140; omega)⟩ ?_
    have hpos : (it.length = 0 ∨ (it.getD (it.length - 1) 0).toNat < 128) → jT (jg ((jK H 437).1 = 14) (jl (jsL H 437 11 (jL H 437 11)) fun h3 => jg ((1 : Int32) = 0 ∨ (1 : Int32) = 1) (some ((1 : Int32), h3)))) Q := fun hc => by
      refine jT_g k0 (jT_l (jT_g (by decide) (jT_ret (hk _ (jsh_sL hs) ?_ (jfr_sL hfr ⟨rfl, rfl⟩)))))
      rw [jL_one, hL]
      exact (if_pos hc).symm
    by_cases hz : it.length = 0
    · exact jT_pos (by rw [hz]; decide) (jT_g k0 (hpos (Or.inl hz)))
    · have e1 : Int32.ofNat (120 * m + it.length) - 1 = Int32.ofNat (120 * m + (it.length - 1)) := (jo_sub (a := 120 * m + it.length) (b := 1) (by omega)).trans (by rw [show 120 * m + it.length - 1 = 120 * m + (it.length - 1) by omega])
      have i2 : jI H 438 (120 * m + (it.length - 1)) = Int32.ofNat (it.getD (it.length - 1) 0).toNat := (jfr_I hfr (by omega)).trans (h2 _ _ (getD_of (by omega)))
      have hu := UInt8.toNat_lt (it.getD (it.length - 1) 0)
      rw [em, e1, jo_nat (n := 120 * m + (it.length - 1)) (by omega), i2]
      refine jT_neg (by rw [show (0 : Int32) = Int32.ofNat 0 from rfl, jo_le (by omega) (by omega)]; omega) (jT_g k0 (jT_g k0 (jT_g ⟨rfl, jo_in (by omega) (by show m < 140; omega)⟩ (jT_g ⟨rfl, jo_in (by omega) (by show 120 * m + (it.length - 1) < 16800; omega)⟩ ?_))))
      by_cases hg : (it.getD (it.length - 1) 0).toNat < 128
      · exact jT_pos (by rw [show (127 : Int32) = Int32.ofNat 127 from rfl, jo_le (by omega) (by omega)]; omega) (jT_g k0 (hpos (Or.inr hg)))
      · refine jT_neg (by rw [show (127 : Int32) = Int32.ofNat 127 from rfl, jo_le (by omega) (by omega)]; omega) (jT_g k0 (jT_g k0 (jT_l (jT_g (by decide) (jT_ret (hk _ (jsh_sL hs) ?_ (jfr_sL hfr ⟨rfl, rfl⟩)))))))
        rw [jL_one, hL]
        exact (if_neg fun w => w.elim hz hg).symm
  | succ j ih =>
    intro f H hj hf hs hfr hL
    obtain ⟨f, rfl⟩ : ∃ k, f = k + 1 := ⟨f - 1, by omega⟩
    unfold F_14_reads_50 B_14_reads_50 B_14_reads_99
    have k0 : (jK H 437).1 = 14 := by rw [sK_437 hs]
    have i1 : jI H 439 m = Int32.ofNat it.length := (jfr_I hfr (by omega)).trans h1
    have i2 : jI H 438 (120 * m + j) = Int32.ofNat (it.getD j 0).toNat := (jfr_I hfr (by omega)).trans (h2 _ _ (getD_of (by omega)))
    have hu := UInt8.toNat_lt (it.getD j 0)
    have e1 : Int32.ofNat it.length - 1 = Int32.ofNat (it.length - 1) := jo_sub (a := it.length) (b := 1) (by omega)
    have e3 : jrem (Int32.ofNat (it.getD j 0).toNat) 128 = Int32.ofNat ((it.getD j 0).toNat % 128) := jo_rem (a := (it.getD j 0).toNat) (b := 128) (by omega) (by omega)
    have hgo : ∀ x : Int32, x = Int32.ofNat (zdg it j) → jT (jg ((jK H 437).1 = 14) (jl (jsL H 437 11 (jL H 437 11 * 256 + Int32.toInt64 x)) fun h1 => jl (Int32.ofNat j + (-1)) fun x2 => F_14_reads_50 f 437 (Int32.ofNat m) x2 h1)) Q := fun x hx => by
      have hd := zdg_lt it j
      refine jT_g k0 (jT_l (jT_l (ih f _ (by omega) (by omega) (jsh_sL hs) (jfr_sL hfr ⟨rfl, rfl⟩) ?_)))
      rw [jL_one, hL, hx, lo_of (by omega), show (256 : Int64) = Int64.ofNat 256 from rfl, lo_mul, lo_add, show it.length - j = it.length - (j + 1) + 1 by omega]
      rfl
    rw [ep, sR_437_1 hs, sK_439 hs, jo_nat (n := m) (by omega), i1, sR_437_0 hs, sK_438 hs, em j, jo_nat (n := 120 * m + j) (by omega), i2, e1]
    refine jT_neg (by rw [show (0 : Int32) = Int32.ofNat 0 from rfl, jo_lt (by omega) (by omega)]; omega) (jT_g k0 (jT_g ⟨rfl, jo_in (by omega) (by show 120 * m + j < 16800; omega)⟩ (jT_l (jT_g k0 (jT_g k0 (jT_g ⟨rfl, jo_in (by omega) (by show m < 140; omega)⟩ ?_))))))
    by_cases hlast : j = it.length - 1
    · refine jT_neg (fun w => w (by rw [hlast])) (jT_g (by decide) (hgo _ ?_))
      unfold zdg
      rw [if_pos (by omega), e3]
    · refine jT_pos (fun w => hlast ((jo_eq (by omega) (by omega)).mp w)) (hgo _ ?_)
      unfold zdg
      rw [if_neg (by omega)]
end READS
