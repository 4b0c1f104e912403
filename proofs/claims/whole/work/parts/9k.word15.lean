/-! Points.set and Signing.word of the reference. -/
section ST13
variable {Q : Int32 → jH → Prop} {H0 : jH} {a : Nat} {w : Nat → Nat}
theorem z13_set {a' : Int32} {x0 x1 x2 x3 : Int64} (ea : a' = Int32.ofNat a) (e3 : x3 = Int64.ofNat (w 3)) (e2 : x2 = Int64.ofNat (w 2)) (e1 : x1 = Int64.ofNat (w 1)) (e0 : x0 = Int64.ofNat (w 0)) (hw : ∀ i, i < 4 → w i < 18446744073709551616) (ha : a < 8) (hs : jsh H0)
    (hk : ∀ H', jsh H' → jf3 (· = a) H0 H' → zr H' a (nv 18446744073709551616 w 4) → Q 1 H') : jT (F_13_set 428 a' x3 x2 x1 x0 H0) Q := by
  unfold F_13_set
  refine jT_b (z13_isReg ea ha (jT_pos (by decide) (jT_g (k13 hs) (jT_b (z13_write ea e3 e2 e1 e0 hw (by omega) hs fun H' s' f' z' => jT_g (by decide) (jT_ret (hk H' s' f' z')))))))
end ST13
theorem bgn_next (b : Nat → UInt8) (f i : Nat) : bgn b f (i + 1) = bgn b f i * 2 ^ 8 + (b (f + i)).toNat := by
  have h := nv_cut (b := 256) (w := fun k => (b (f + (i + 1) - 1 - k)).toNat) (m := 1) i
  have e0 : nv 256 (fun k => (b (f + (i + 1) - 1 - k)).toNat) 1 = (b (f + i)).toNat := by
    rw [nv_succ, nv_nil, Nat.zero_add, Nat.pow_zero, Nat.mul_one]
    rfl
  have e1 : nv 256 (fun k => (b (f + (i + 1) - 1 - (1 + k))).toNat) i = bgn b f i := nv_ext fun k hk => by
    rw [show f + (i + 1) - 1 - (1 + k) = f + i - 1 - k by omega]
  rw [e0, e1, Nat.add_comm 1 i] at h
  unfold bgn at h ⊢
  rw [h]
  omega
section WD15
variable {Q : Int64 → jH → Prop} {H0 : jH}
theorem z15_word {k : Nat} {k' : Int32} (ek : k' = Int32.ofNat k) (hk4 : k < 4) (hs : jsh H0) (hQ : Q (Int64.ofNat (bgn (jB H0 436) (8 * k) 8)) H0) : jT (F_15_word 427 k' H0) Q := by
  subst ek
  have loop : ∀ (d i fu : Nat), i + d = 8 → d < fu → jT (F_15_word_5 fu 427 (Int32.ofNat k) (Int64.ofNat (bgn (jB H0 436) (8 * k) i)) (Int32.ofNat i) H0) Q := by
    intro d
    induction d with
    | zero =>
      intro i fu hi hfu
      obtain ⟨fu, rfl⟩ : ∃ k, fu = k + 1 := ⟨fu - 1, by omega⟩
      obtain rfl : i = 8 := by omega
      unfold F_15_word_5 B_15_word_5
      exact jT_pos (by decide) (jT_ret hQ)
    | succ d ih =>
      intro i fu hi hfu
      obtain ⟨fu, rfl⟩ : ∃ k, fu = k + 1 := ⟨fu - 1, by omega⟩
      unfold F_15_word_5 B_15_word_5
      have e1 : Int32.ofNat i + 1 = Int32.ofNat (i + 1) := jo_add (a := i) (b := 1)
      have e8 : (8 : Int32) * Int32.ofNat k + Int32.ofNat i = Int32.ofNat (8 * k + i) := by rw [show (8 : Int32) = Int32.ofNat 8 from rfl, jo_mul, jo_add]
      have hb := u8_lt (jB H0 436 (8 * k + i))
      refine jT_neg (by rw [show (8 : Int32) = Int32.ofNat 8 from rfl, jo_le (by omega) (by omega)]; omega) (jT_g (by rw [sK_427 hs]) ?_)
      rw [sR_427_9 hs, e8, jo_nat (n := 8 * k + i) (by omega), jb_and, lo_of (by omega), show (8 : Int32) = Int32.ofNat 8 from rfl, lo_shl (by decide), lo_or hb, ← bgn_next, e1]
      exact jT_g (by rw [sK_436 hs]; exact ⟨rfl, jo_in (by omega) (by show 8 * k + i < 32; omega)⟩) (jT_l (jT_l (ih (i + 1) fu (by omega) (by omega))))
  unfold F_15_word
  exact loop 8 0 jfuel rfl (by unfold jfuel; omega)
end WD15
