/-! fetch: seven bytes of a box. -/
/-- so many bytes taken, then seven bytes, zeros behind the last one -/
def zft (b : Nat → UInt8) (n : Nat) : Nat → Int64
  | 0 => Int32.toInt64 (Int32.ofNat n)
  | i + 1 => jshlL (zft b n i) 8 ||| Int32.toInt64 (if i < n then jbs (b i) &&& 255 else 0)
theorem sR_35 {H : jH} (h : jsh H) {p : Nat} (hp : p < 4) : jR H 35 p = 36 + p := by
  rcases (show p = 0 ∨ p = 1 ∨ p = 2 ∨ p = 3 by omega) with rfl | rfl | rfl | rfl
  · exact sR_35_0 h
  · exact sR_35_1 h
  · exact sR_35_2 h
  · exact sR_35_3 h
theorem sK_box {H : jH} (h : jsh H) {p : Nat} (hp : p < 4) : jK H (36 + p) = (101, 8000) := by
  rcases (show p = 0 ∨ p = 1 ∨ p = 2 ∨ p = 3 by omega) with rfl | rfl | rfl | rfl
  · exact sK_36 h
  · exact sK_37 h
  · exact sK_38 h
  · exact sK_39 h
theorem z11_fetch_29 {Q : Int64 → jH → Prop} {p s w n : Nat} {H : jH} (hs : jsh H) (hp : p < 4) (hS : s < 8000) (hw : w ≤ 8000) (hn : n ≤ w ∧ n ≤ 7) (h1 : jI H 40 p = Int32.ofNat s) (h2 : jI H 41 p = Int32.ofNat w)
    (hk : ∀ H', jsh H' → jfr (fun a j => (a = 40 ∨ a = 41) ∧ j = p) H H' → jI H' 40 p = Int32.ofNat ((s + n) % 8000) → jI H' 41 p = Int32.ofNat (w - n) → Q (zft (fun i => jB H (36 + p) ((s + i) % 8000)) n 7) H') :
    ∀ (d i f : Nat), i + d = 7 → d < f → jT (F_11_fetch_29 f 32 (Int32.ofNat p) (Int32.ofNat n) (zft (fun i => jB H (36 + p) ((s + i) % 8000)) n i) (Int32.ofNat i) H) Q := by
  intro d
  induction d with
  | zero =>
    intro i f hi hf
    obtain rfl : i = 7 := by omega
    obtain ⟨f, rfl⟩ : ∃ k, f = k + 1 := ⟨f - 1, by omega⟩
    unfold F_11_fetch_29 B_11_fetch_29
    have e1 : Int32.ofNat s + Int32.ofNat n = Int32.ofNat (s + n) := jo_add
    have e2 : jrem (Int32.ofNat (s + n)) 8000 = Int32.ofNat ((s + n) % 8000) := jo_rem (a := s + n) (b := 8000) (by omega) (by omega)
    have e3 : Int32.ofNat w - Int32.ofNat n = Int32.ofNat (w - n) := jo_sub hn.1
    refine jT_pos (by decide) ?_
    rw [sR_32_5 hs, sK_32 hs, sK_40 hs, jo_nat (n := p) (by omega), h1, e1, e2]
    refine jT_g rfl (jT_g rfl (jT_g ⟨rfl, jo_in (by omega) (by show p < 4; omega)⟩ (jT_g (by decide) (jT_g ⟨rfl, by decide, jo_in (by omega) (by show p < 4; omega)⟩ (jT_l ?_)))))
    have hs2 : jsh (jsI H 40 p (Int32.ofNat ((s + n) % 8000))) := jsh_sI hs (by decide)
    rw [sR_32_6 hs2, sK_32 hs2, sK_41 hs2, show jI (jsI H 40 p (Int32.ofNat ((s + n) % 8000))) 41 p = Int32.ofNat w from (jI_sIa (by decide)).trans h2, e3]
    refine jT_g rfl (jT_g ⟨rfl, jo_in (by omega) (by show p < 4; omega)⟩ (jT_g ⟨rfl, by decide, jo_in (by omega) (by show p < 4; omega)⟩ (jT_l (jT_ret ?_))))
    exact hk _ (jsh_sI hs2 (by decide)) (jfr_sI (jfr_sI jfr_refl ⟨Or.inl rfl, rfl⟩) ⟨Or.inr rfl, rfl⟩) ((jI_sIa (by decide)).trans jI_sIe) jI_sIe
  | succ d ih =>
    intro i f hi hf
    obtain ⟨f, rfl⟩ : ∃ k, f = k + 1 := ⟨f - 1, by omega⟩
    unfold F_11_fetch_29 B_11_fetch_29 B_11_fetch_80
    have e1 : Int32.ofNat s + Int32.ofNat i = Int32.ofNat (s + i) := jo_add
    have e2 : jrem (Int32.ofNat (s + i)) 8000 = Int32.ofNat ((s + i) % 8000) := jo_rem (a := s + i) (b := 8000) (by omega) (by omega)
    have e_i : Int32.ofNat i + 1 = Int32.ofNat (i + 1) := jo_add (a := i) (b := 1)
    refine jT_neg (by rw [show (7 : Int32) = Int32.ofNat 7 from rfl, jo_le (by omega) (by omega)]; omega) ?_
    rw [sR_32_5 hs, sR_32_4 hs, sK_32 hs, sK_35 hs, sK_40 hs, jo_nat (n := p) (by omega), h1, e1, e2, e_i, sR_35 hs hp, sK_box hs hp]
    refine jT_g rfl (jT_g ⟨rfl, jo_in (by omega) (by show p < 4; omega)⟩ (jT_g (by decide) (jT_l ?_)))
    have h8 : (s + i) % 8000 < 8000 := Nat.mod_lt _ (by decide)
    by_cases hin : i < n
    · refine jT_neg (by rw [jo_le (by omega) (by omega)]; omega) (jT_neg (by rw [show (0 : Int32) = Int32.ofNat 0 from rfl, jo_lt (by omega) (by omega)]; omega) (jT_g rfl (jT_g ⟨rfl, jo_in (by omega) (by show p < 4; omega)⟩ (jT_g ⟨rfl, jo_in (by omega) h8⟩ ?_))))
      rw [jo_nat (n := (s + i) % 8000) (by omega)]
      refine jT_l (jT_l (jT_l ?_))
      have := ih (i + 1) f (by omega) (by omega)
      unfold zft at this
      rw [if_pos hin] at this
      exact this
    · refine jT_pos (by rw [jo_le (by omega) (by omega)]; omega) (jT_l (jT_l ?_))
      have := ih (i + 1) f (by omega) (by omega)
      unfold zft at this
      rw [if_neg hin] at this
      exact this
theorem z11_fetch {Q : Int64 → jH → Prop} {p s w : Nat} {H : jH} (hs : jsh H) (hp : p < 4) (hS : s < 8000) (hw : w ≤ 8000) (h1 : jI H 40 p = Int32.ofNat s) (h2 : jI H 41 p = Int32.ofNat w)
    (hk : ∀ H', jsh H' → jfr (fun a j => (a = 40 ∨ a = 41) ∧ j = p) H H' → jI H' 40 p = Int32.ofNat ((s + min 7 w) % 8000) → jI H' 41 p = Int32.ofNat (w - min 7 w) → Q (zft (fun i => jB H (36 + p) ((s + i) % 8000)) (min 7 w) 7) H') :
    jT (F_11_fetch 32 (Int32.ofNat p) H) Q := by
  unfold F_11_fetch
  refine jT_neg (by rw [show (0 : Int32) = Int32.ofNat 0 from rfl, jo_lt (by omega) (by omega)]; omega) (jT_pos (by rw [show (4 : Int32) = Int32.ofNat 4 from rfl, jo_lt (by omega) (by omega)]; omega) ?_)
  rw [sR_32_6 hs, sK_32 hs, sK_41 hs, jo_nat (n := p) (by omega), h2]
  have em : jminI 7 (Int32.ofNat w) = Int32.ofNat (min 7 w) := by
    unfold jminI
    by_cases h : w < 7
    · rw [if_pos (by rw [show (7 : Int32) = Int32.ofNat 7 from rfl, jo_lt (by omega) (by omega)]; exact h), Nat.min_eq_right (by omega)]
    · rw [if_neg (by rw [show (7 : Int32) = Int32.ofNat 7 from rfl, jo_lt (by omega) (by omega)]; exact h), Nat.min_eq_left (by omega)]
      rfl
  rw [em]
  refine jT_g rfl (jT_g ⟨rfl, jo_in (by omega) (by show p < 4; omega)⟩ (jT_l (jT_l ?_)))
  exact z11_fetch_29 hs hp hS hw ⟨Nat.min_le_right 7 w, Nat.min_le_left 7 w⟩ h1 h2 hk 7 0 jfuel rfl (by unfold jfuel; omega)
theorem z11_fetch_no {Q : Int64 → jH → Prop} {p : Int32} {H : jH} (h : p < 0 ∨ 4 ≤ p) (hQ : Q 0 H) : jT (F_11_fetch 32 p H) Q := by
  unfold F_11_fetch B_11_fetch_9
  refine jT_if (fun _ => jT_ret hQ) (fun h1 => jT_neg ?_ (jT_ret hQ))
  rcases h with h | h
  · exact absurd h h1
  · exact Int32.not_lt.mpr h
