/-! Points.write and set of the reference: four words become a number. -/
theorem nv64_bit {w : Nat → Nat} (hw : ∀ i, i < 4 → w i < 18446744073709551616) {p : Nat} (hp : p < 256) : nv 18446744073709551616 w 4 / 2 ^ p % 2 = w (p / 64) / 2 ^ (p % 64) % 2 := by
  have hd := nv_digit (b := 18446744073709551616) (w := w) (n := 4) (i := p / 64) hw (by decide) (by omega)
  rw [← hd]
  have e1 : (2 : Nat) ^ p = 18446744073709551616 ^ (p / 64) * 2 ^ (p % 64) := by
    rw [show (18446744073709551616 : Nat) = 2 ^ 64 by decide, ← Nat.pow_mul, ← Nat.pow_add, Nat.div_add_mod]
  rw [e1, ← Nat.div_div_eq_div_mul]
  generalize nv 18446744073709551616 w 4 / 18446744073709551616 ^ (p / 64) = z
  have h64 : p % 64 < 64 := Nat.mod_lt _ (by decide)
  generalize p % 64 = s at h64
  have e2 : (18446744073709551616 : Nat) = 2 ^ s * 2 ^ (64 - s) := by rw [← Nat.pow_add, show s + (64 - s) = 64 by omega]
  rw [e2, Nat.mod_mul_right_div_self]
  have e3 : (2 : Nat) ^ (64 - s) = 2 * 2 ^ (63 - s) := by rw [Nat.mul_comm, ← Nat.pow_succ, show (63 - s).succ = 64 - s by omega]
  rw [e3, Nat.mod_mul_right_mod]
theorem nv64_lt {w : Nat → Nat} (hw : ∀ i, i < 4 → w i < 18446744073709551616) : nv 18446744073709551616 w 4 < 2 ^ 256 := Nat.lt_of_lt_of_le (nv_lt hw) (by decide +kernel)
section WR13
variable {Q : Unit → jH → Prop} {H0 : jH} {a : Nat} {w : Nat → Nat}
theorem z13_wordOf {R : Int64 → jH → Prop} {k : Nat} {H : jH} (hk : k < 4) (h : R (Int64.ofNat (w k)) H) : jT (F_13_wordOf (Int32.ofNat k) (Int64.ofNat (w 3)) (Int64.ofNat (w 2)) (Int64.ofNat (w 1)) (Int64.ofNat (w 0)) H) R := by
  unfold F_13_wordOf B_13_wordOf_29
  rcases (show k = 0 ∨ k = 1 ∨ k = 2 ∨ k = 3 by omega) with rfl | rfl | rfl | rfl
  · exact jT_neg (by decide) (jT_ret h)
  · exact jT_pos (by decide) (jT_neg (by decide) (jT_ret h))
  · exact jT_pos (by decide) (jT_pos (by decide) (jT_neg (by decide) (jT_ret h)))
  · exact jT_pos (by decide) (jT_pos (by decide) (jT_pos (by decide) (jT_ret h)))
theorem z13_write {a' : Int32} {x0 x1 x2 x3 : Int64} (ea : a' = Int32.ofNat a) (e3 : x3 = Int64.ofNat (w 3)) (e2 : x2 = Int64.ofNat (w 2)) (e1 : x1 = Int64.ofNat (w 1)) (e0 : x0 = Int64.ofNat (w 0)) (hw : ∀ i, i < 4 → w i < 18446744073709551616) (ha : a < 48) (hs : jsh H0)
    (hk : ∀ H', jsh H' → jf3 (· = a) H0 H' → zr H' a (nv 18446744073709551616 w 4) → Q () H') : jT (F_13_write 428 a' x3 x2 x1 x0 H0) Q := by
  subst ea
  subst e3
  subst e2
  subst e1
  subst e0
  obtain ⟨N, hN⟩ : ∃ N, N = nv 18446744073709551616 w 4 := ⟨_, rfl⟩
  have loop : ∀ (d p fu : Nat) (H : jH), p + d = 256 → d < fu → jf3 (· = a) H0 H → zb13 H a (fun q => if q < p then N / 2 ^ q % 2 else 0) → jT (F_13_write_8 fu 428 (Int32.ofNat a) (Int64.ofNat (w 3)) (Int64.ofNat (w 2)) (Int64.ofNat (w 1)) (Int64.ofNat (w 0)) (Int32.ofNat p) H) Q := by
    intro d
    induction d with
    | zero =>
      intro p fu H hp hfu hfr hz
      obtain ⟨fu, rfl⟩ : ∃ k, fu = k + 1 := ⟨fu - 1, by omega⟩
      obtain rfl : p = 256 := by omega
      unfold F_13_write_8 B_13_write_8
      refine jT_pos (by decide) (jT_ret (hk H (jsh_f3 hs hfr) hfr ?_))
      have hlt : N < 2 ^ 256 := by rw [hN]; exact nv64_lt hw
      rw [← hN]
      refine zb13_r hlt ?_
      have e : (fun q => if q < 256 then N / 2 ^ q % 2 else 0) = fun q => N / 2 ^ q % 2 := funext fun q => by
        by_cases h : q < 256
        · rw [if_pos h]
        · rw [if_neg h, Nat.div_eq_of_lt (Nat.lt_of_lt_of_le hlt (Nat.pow_le_pow_right (by decide) (by omega)))]
      rw [← e]
      exact hz
    | succ d ih =>
      intro p fu H hp hfu hfr hz
      obtain ⟨fu, rfl⟩ : ∃ k, fu = k + 1 := ⟨fu - 1, by omega⟩
      unfold F_13_write_8 B_13_write_8
      have hsH := jsh_f3 hs hfr
      have ep1 : Int32.ofNat p + 1 = Int32.ofNat (p + 1) := jo_add (a := p) (b := 1)
      have ebit := nv64_bit hw (p := p) (by omega)
      rw [← hN] at ebit
      have hdig := hz (p / 26) (by omega)
      rw [show (64 : Int32) = Int32.ofNat 64 from rfl, show (26 : Int32) = Int32.ofNat 26 from rfl, jo_div (by omega) (by decide), jo_div (by omega) (by decide), jo_rem (by omega) (by decide), jo_rem (by omega) (by decide), e10, ep1, jo_nat (n := 10 * a + p / 26) (by omega)]
      refine jT_neg (by rw [show (256 : Int32) = Int32.ofNat 256 from rfl, jo_le (by omega) (by omega)]; omega) (jT_g (by decide) (jT_b (z13_wordOf (w := w) (k := p / 64) (by omega) (jT_g (by decide) (jT_l (jT_g (k13 hsH) ?_))))))
      rw [sR_428_0 hsH, hdig, lo_bit (Nat.mod_lt _ (by decide)), jo_shl (Nat.lt_trans (Nat.mod_lt _ (by decide)) (by decide : 26 < 32)), ← ebit]
      refine jT_g (by decide) (jT_g (g429 hsH (by omega)) (jT_g (by decide) (jT_g (g429w hsH (by omega)) (jT_l (jT_l (ih (p + 1) fu _ (by omega) (by omega) (jf3_sI hfr (show (10 * a + p / 26) / 10 = a by omega)) ?_))))))
      have hset := zb13_set (p := p) (b := N / 2 ^ p % 2) hz (fun q => by
        show (if _ then _ else _) < 2
        split
        · exact Nat.mod_lt _ (by decide)
        · decide) (if_neg (by omega)) (by omega) (by omega)
      have e : nup (fun q => if q < p then N / 2 ^ q % 2 else 0) p (N / 2 ^ p % 2) = fun q => if q < p + 1 then N / 2 ^ q % 2 else 0 := funext fun q => by
        unfold nup
        by_cases h : q = p
        · rw [if_pos h, if_pos (by omega), h]
        · rw [if_neg h]
          show (if q < p then N / 2 ^ q % 2 else 0) = _
          by_cases h2 : q < p
          · rw [if_pos h2, if_pos (by omega)]
          · rw [if_neg h2, if_neg (by omega)]
      rw [← e]
      exact hset
  unfold F_13_write
  refine jT_g (k13 hs) (jT_b ?_)
  unfold F_13_nothing
  refine z13_nothing2 (H0 := H0) (a := a) ha hs (fun H1 f1 v1 => loop 256 0 jfuel H1 rfl (by unfold jfuel; omega) f1 ?_) 10 0 jfuel H0 rfl (by unfold jfuel; omega) jf3_refl fun j hj => absurd hj (Nat.not_lt_zero j)
  exact zb13_0 v1
end WR13
