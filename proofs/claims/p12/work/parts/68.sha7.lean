section SHA
variable {N : Nat}
/-- bytes with what is laid behind them -/
def zpad (b : Nat → UInt8) (n i : Nat) : UInt8 := if i < n then b i else if i = n then 128 else 0
theorem jB_cp {H : jH} {a sp b dp n j : Nat} (h1 : dp ≤ j) (h2 : j < dp + n) : jB (jcpB H a sp b dp n) b j = jB H a (sp + (j - dp)) := jcpf_in h1 h2
theorem jsh_cpB {H : jH} {a sp b dp n : Nat} (h : jsp N H) : jsp N (jcpB H a sp b dp n) := h
theorem z3_46 {Q : Unit → jH → Prop} (b : Nat → UInt8) (sz : Nat) (hsz : sz + 72 ≤ 2560) (H0 : jH)
    (hk : ∀ H', jsp N H' → jfr (fun a j => a = 44 ∨ (a = 43 ∧ j = 1)) H0 H' → jI H' 43 1 = Int32.ofNat sz → (∀ i, i < sz + 72 → jB H' 44 i = zpad b sz i) → Q () H') :
    ∀ (d i n : Nat) (H : jH), i + d = sz + 72 → sz ≤ i → d < n → jsp N H → jfr (fun a j => a = 44 ∨ (a = 43 ∧ j = 1)) H0 H → (∀ j, j < i → jB H 44 j = if j < sz then b j else 0) → jT (F_3_take_46 n 43 (Int32.ofNat sz) (Int32.ofNat i) H) Q := by
  intro d
  induction d with
  | zero =>
    intro i n H hi hsi hn hs hf hw
    obtain rfl : i = sz + 72 := by omega
    obtain ⟨n, rfl⟩ : ∃ k, n = k + 1 := ⟨n - 1, by omega⟩
    unfold F_3_take_46 B_3_take_46
    have e : Int32.ofNat sz + 72 = Int32.ofNat (sz + 72) := jo_add (a := sz) (b := 72)
    rw [e, sR_43_0 hs, sK_43 hs, sK_44 hs, jo_nat (n := sz) (by omega)]
    refine jT_pos (by rw [jo_le (by omega) (by omega)]; omega) (jT_g rfl (jT_g ⟨rfl, jo_in (by omega) (by omega)⟩ (jT_l (jT_g (by rw [sK_43 (jsh_sB hs)]) (jT_l (jT_ret ?_))))))
    refine hk _ (jsh_sI (jsh_sB hs) (by omega)) (jfr_sI (jfr_sB hf (Or.inl rfl)) (Or.inr ⟨rfl, rfl⟩)) jI_sIe fun i hi => ?_
    show jB (jsB H 44 sz (jbu (-128))) 44 i = _
    unfold zpad
    by_cases h : i = sz
    · subst h
      rw [jB_sBe, if_neg (Nat.lt_irrefl i), if_pos rfl]
      decide
    · rw [jB_sBn h, hw i hi, if_neg h]
  | succ d ih =>
    intro i n H hi hsi hn hs hf hw
    obtain ⟨n, rfl⟩ : ∃ k, n = k + 1 := ⟨n - 1, by omega⟩
    unfold F_3_take_46 B_3_take_46
    have e : Int32.ofNat sz + 72 = Int32.ofNat (sz + 72) := jo_add (a := sz) (b := 72)
    have ei : Int32.ofNat i + 1 = Int32.ofNat (i + 1) := jo_add (a := i) (b := 1)
    rw [e, ei, sR_43_0 hs, sK_43 hs, sK_44 hs, jo_nat (n := i) (by omega)]
    refine jT_neg (by rw [jo_le (by omega) (by omega)]; omega) (jT_g rfl (jT_g ⟨rfl, jo_in (by omega) (by omega)⟩ (jT_l (jT_l ?_))))
    refine ih (i + 1) n _ (by omega) (by omega) (by omega) (jsh_sB hs) (jfr_sB hf (Or.inl rfl)) fun j hj => ?_
    by_cases h : j = i
    · subst h
      rw [jB_sBe, if_neg (by omega)]
      decide
    · rw [jB_sBn h]
      exact hw j (by omega)
/-- the class lays bytes ready -/
theorem z3_take {Q : Unit → jH → Prop} (a1 len f sz : Nat) (hf : f + sz ≤ len) (hlen : len < 2147483648) (hsz : sz + 72 ≤ 2560) (H : jH) (hs : jsp N H) (hkd : jK H a1 = (101, len))
    (hk : ∀ H', jsp N H' → jfr (fun a j => a = 44 ∨ (a = 43 ∧ j = 1)) H H' → jI H' 43 1 = Int32.ofNat sz → (∀ i, i < sz + 72 → jB H' 44 i = zpad (fun i => jB H a1 (f + i)) sz i) → Q () H') : jT (F_3_take 43 a1 (Int32.ofNat f) (Int32.ofNat sz) H) Q := by
  unfold F_3_take
  have e : Int32.ofNat sz + 72 = Int32.ofNat (sz + 72) := jo_add (a := sz) (b := 72)
  have ef : Int32.ofNat f + Int32.ofNat sz = Int32.ofNat (f + sz) := jo_add
  refine jT_g (by rw [sK_43 hs]) (jT_l ?_)
  have hs1 : jsp N (jsI H 43 1 0) := jsh_sI hs (by omega)
  have hk1 : jK (jsI H 43 1 0) a1 = (101, len) := hkd
  rw [e, ef, sR_43_0 hs1]
  refine jT_neg (by rw [show (0 : Int32) = Int32.ofNat 0 from rfl, jo_lt (by omega) (by omega)]; omega) ?_
  refine jT_neg (by rw [show (0 : Int32) = Int32.ofNat 0 from rfl, jo_lt (by omega) (by omega)]; omega) ?_
  refine jT_neg (by rw [show (2560 : Int32) = Int32.ofNat 2560 from rfl, jo_lt (by omega) (by omega)]; omega) ?_
  refine jT_g (by rw [hk1]) (jT_pos (by rw [hk1, jo_le (by omega) (by omega)]; exact hf) ?_)
  refine jT_g (by rw [sK_43 hs1]) (jT_g ⟨by rw [hk1], by rw [sK_44 hs1], by unfold jF0; omega, by rw [jo_int (by omega)]; omega, by decide, by rw [jo_int (by omega)]; omega, by rw [hk1, jo_int (by omega), jo_int (by omega)]; show (f : Int) + sz ≤ len; omega, by rw [sK_44 hs1, jo_int (by omega)]; show (0 : Int) + sz ≤ 2560; omega⟩ (jT_l ?_))
  rw [jo_nat (n := f) (by omega), jo_nat (n := sz) (by omega)]
  refine z3_46 (fun i => jB H a1 (f + i)) sz hsz H hk 72 sz jfuel _ rfl (Nat.le_refl _) (by unfold jfuel; omega) (jsh_cpB hs1) (jfr_cpB (jfr_sI jfr_refl (Or.inr ⟨rfl, rfl⟩)) fun j _ _ => Or.inl rfl) fun j hj => ?_
  rw [if_pos hj]
  refine (jB_cp (H := jsI H 43 1 0) (a := a1) (sp := f) (b := 44) (dp := 0) (n := sz) (Nat.zero_le j) (by omega)).trans ?_
  rw [Nat.sub_zero]
  rfl
end SHA
