/-! Points.put of the reference (a byte at a time) and write. -/
theorem put_byte (u : UInt8) : Int64.toInt32 (jshrL (Int32.toInt64 (jbs u)) (8 * 0) &&& 255) = Int32.ofNat u.toNat :=
  jb_u8 (fun u => Int64.toInt32 (jshrL (Int32.toInt64 (jbs u)) (8 * 0) &&& 255) = Int32.ofNat u.toNat) (by decide +kernel) u
section PUT13
variable {Q : Int32 → jH → Prop} {H : jH}
theorem z13_put1 {m : Nat} {u : UInt8} (hs : jsh H) (hm : m < 100) (hl : jI H 428 6 = Int32.ofNat m) (hQ : Q 1 (jsI (jsI H 434 m (Int32.ofNat u.toNat)) 428 6 (Int32.ofNat (m + 1)))) : jT (F_13_put 428 (Int32.toInt64 (jbs u)) 1 H) Q := by
  unfold F_13_put
  refine jT_neg (by decide) (jT_neg (by decide) (jT_g (k13 hs) ?_))
  have e1 : Int32.ofNat m + 1 = Int32.ofNat (m + 1) := jo_add (a := m) (b := 1)
  rw [hl, e1]
  refine jT_pos (by rw [show (100 : Int32) = Int32.ofNat 100 from rfl, jo_le (by omega) (by decide)]; omega) (jT_l ?_)
  obtain ⟨fu, hfu⟩ : ∃ fu, jfuel = fu + 1 + 1 := ⟨jfuel - 2, by unfold jfuel; omega⟩
  have go : ∀ fu, jT (F_13_put_29 (fu + 1 + 1) 428 (Int32.toInt64 (jbs u)) 0 H) Q := fun fu => by
    unfold F_13_put_29 B_13_put_29
    rw [put_byte, hl, sR_428_5 hs, jo_nat (n := m) (by omega)]
    have s1 : jsh (jsI H 434 m (Int32.ofNat u.toNat)) := jsh_sI hs (by decide)
    have l1 : jI (jsI H 434 m (Int32.ofNat u.toNat)) 428 6 = Int32.ofNat m := (jI_sIa (by decide)).trans hl
    refine jT_neg (by decide) (jT_g (k13 hs) (jT_g (k13 hs) (jT_g ⟨by rw [sK_434 hs], by decide, by rw [sK_434 hs]; exact jo_in (by omega) hm⟩ (jT_l (jT_g (k13 s1) (jT_g (k13 s1) (jT_l (jT_l ?_))))))))
    rw [l1, e1]
    unfold F_13_put_29 B_13_put_29
    exact jT_pos (by decide) (jT_g (by decide) (jT_ret hQ))
  have := go fu
  rw [← hfu] at this
  exact this
end PUT13
theorem lo_bit {k s : Nat} (hs : s < 64) : Int64.toInt32 (jshrL (Int64.ofNat k) (Int32.ofNat s) &&& 1) = Int32.ofNat (k / 2 ^ s % 2) := by
  have h : jshrL (Int64.ofNat k) (Int32.ofNat s) &&& 1 = Int64.ofNat (k / 2 ^ s % 2) := by
    have h1 : ∀ c, c < 64 → ((Int32.ofNat c).toInt64 &&& 63) = Int64.ofNat c := by decide
    unfold jshrL
    rw [h1 s hs]
    refine Int64.toBitVec_inj.mp ?_
    have e2 : (Int64.ofNat s).toBitVec.smod 64 = BitVec.ofNat 64 s := by
      have : ∀ c, c < 64 → (Int64.ofNat c).toBitVec.smod 64 = BitVec.ofNat 64 c := by decide
      exact this s hs
    have e3 : ∀ k, (Int64.ofNat k).toBitVec = BitVec.ofNat 64 k := fun _ => rfl
    rw [Int64.toBitVec_and, Int64.toBitVec_shiftRight, e2, e3, e3]
    have e4 : (BitVec.ofNat 64 k).sshiftRight' (BitVec.ofNat 64 s) = (BitVec.ofNat 64 k).sshiftRight s := by
      show (BitVec.ofNat 64 k).sshiftRight (BitVec.ofNat 64 s).toNat = _
      rw [BitVec.toNat_ofNat, Nat.mod_eq_of_lt (by omega)]
    rw [e4]
    refine BitVec.eq_of_getLsbD_eq fun i hi => ?_
    have e5 : (Int64.toBitVec 1).getLsbD i = decide (i = 0) := by
      have : ∀ i, i < 64 → (Int64.toBitVec 1).getLsbD i = decide (i = 0) := by decide
      exact this i hi
    rw [BitVec.getLsbD_and, BitVec.getLsbD_sshiftRight, e5, BitVec.getLsbD_ofNat, BitVec.getLsbD_ofNat]
    by_cases hi0 : i = 0
    · rw [hi0, Nat.add_zero, if_pos hs, Nat.testBit_eq_decide_div_mod_eq, Nat.testBit_eq_decide_div_mod_eq, Nat.pow_zero, Nat.div_one, Nat.mod_mod]
      simp [hs]
    · have : (k / 2 ^ s % 2).testBit i = false := Nat.testBit_lt_two_pow (Nat.lt_of_lt_of_le (Nat.mod_lt _ (by decide)) (Nat.pow_le_pow_right (n := 2) (by decide) (by omega : 1 ≤ i)))
      rw [this, decide_eq_false hi0, Bool.and_false, Bool.and_false]
  rw [h, lw_i32, Nat.mod_eq_of_lt (by omega)]
