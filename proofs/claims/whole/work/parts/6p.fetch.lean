/-! fetch: seven bytes of a box. -/
/-- so many bytes taken, then seven bytes, zeros behind the last one -/
def zft (b : Nat → UInt8) (n : Nat) : Nat → Int64
  | 0 => Int32.toInt64 (Int32.ofNat n)
  | i + 1 => jshlL (zft b n i) 8 ||| Int32.toInt64 (if i < n then jbs (b i) &&& 255 else 0)
theorem sR_35 {H : jH} (h : jsh H) {p : Nat} (hp : p < 4) : jR H 35 p = 36 + p := by
  rcases (show p = 0 ∨ p = 1 ∨ p = 2 ∨ p = 3 by omega) with rfl | rfl | rfl | rfl
  · exact sR_35_0 h
  · exact sR_35_1 h
  · exact sR_35_2 h
  · exact sR_35_3 h
theorem sK_box {H : jH} (h : jsh H) {p : Nat} (hp : p < 4) : jK H (36 + p) = (101, 8000) := by
  rcases (show p = 0 ∨ p = 1 ∨ p = 2 ∨ p = 3 by omega) with rfl | rfl | rfl | rfl
  · exact sK_36 h
  · exact sK_37 h
  · exact sK_38 h
  · exact sK_39 h
theorem z11_fetch_29 {Q : Int64 → jH → Prop} {p s w n : Nat} {H : jH} (hs : jsh H) (hp : p < 4) (hS : s < 8000) (hw : w ≤ 8000) (hn : n ≤ w ∧ n ≤ 7) (h1 : jI H 40 p = Int32.ofNat s) (h2 : jI H 41 p = Int32.ofNat w)
    (hk : ∀ H', jsh H' → jfr (fun a j => (a = 40 ∨ a = 41) ∧ j = p) H H' → jI H' 40 p = Int32.ofNat ((s + n) % 8000) → jI H' 41 p = Int32.ofNat (w - n) → Q (zft (fun i => jB H (36 + p) ((s + i) % 8000)) n 7) H') :
    ∀ (d i f : Nat), i + d = 7 → d < f → jT (F_11_fetch_29 f 32 (Int32.ofNat p) (Int32.ofNat n) (zft (fun i => jB H (36 + p) ((s + i) % 8000)) n i) (Int32.ofNat i) H) Q := by
  intro d
  induction d with
  | zero =>
    intro i f hi hf
    obtain rfl : i = 7 := by omega
    obtain ⟨f, rfl⟩ : ∃ k, f = k + 1 := ⟨f - 1, by omega⟩
    unfold F_11_fetch_29 B_11_fetch_29
    have e1 : Int32.ofNat s + Int32.ofNat n = Int32.ofNat (s + n) := jo_add
    have e2 : jrem (Int32.ofNat (s + n)) 8000 = Int32.ofNat ((s + n) % 8000) := jo_rem (a := s + n) (b := 8000) (by omega) (by omega)
    have e3 : Int32.ofNat w - Int32.ofNat n = Int32.ofNat (w - n) := jo_sub hn.1
    refine jT_pos (by decide) ?_
    rw [sR_32_5 hs, sK_32 hs, sK_40 hs, jo_nat (n := p) (by omega), h1, e1, e2]
    refine jT_g rfl (jT_g rfl (jT_g ⟨rfl, jo_in (by omega) (by show p < 4; omega)⟩ (jT_g (by decide) (jT_g ⟨rfl, by decide, jo_in (by omega) (by show p < 4; omega)⟩ (jT_l ?_)))))
    have hs2 : jsh (jsI H 40 p (Int32.ofNat ((s + n) % 8000))) := jsh_sI hs (by decide)
    rw [sR_32_6 hs2, sK_32 hs2, sK_41 hs2, show jI (jsI H 40 p (Int32.ofNat ((s + n) % 8000))) 41 p = Int32.ofNat w from (jI_sIa (by decide)).trans h2, e3]
    refine jT_g rfl (jT_g ⟨rfl, jo_in (by omega) (by show p < 4; omega)⟩ (jT_g ⟨rfl, by decide, jo_in (by omega) (by show p < 4; omega)⟩ (jT_l (jT_ret ?_))))
    exact hk _ (jsh_sI hs2 (by decide)) (jfr_sI (jfr_sI jfr_refl ⟨Or.inl rfl, rfl⟩) ⟨Or.inr rfl, rfl⟩) ((jI_sIa (by decide)).trans jI_sIe) jI_sIe
  | succ d ih =>
    intro i f hi hf
    obtain ⟨f, rfl⟩ : ∃ k, f = k + 1 := ⟨f - 1, by omega⟩
    unfold F_11_fetch_29 B_11_fetch_29 B_11_fetch_80
    have e1 : Int32.ofNat s + Int32.ofNat i = Int32.ofNat (s + i) := jo_add
    have e2 : jrem (Int32.ofNat (s + i)) 8000 = Int32.ofNat ((s + i) % 8000) := jo_rem (a := s + i) (b := 8000) (by omega) (by omega)
    have e_i : Int32.ofNat i + 1 = Int32.ofNat (i + 1) := jo_add (a := i) (b := 1)
    refine jT_neg (by rw [show (7 : Int32) = Int32.ofNat 7 from rfl, jo_le (by omega) (by omega)]; omega) ?_
    rw [sR_32_5 hs, sR_32_4 hs, sK_32 hs, sK_35 hs, sK_40 hs, jo_nat (n := p) (by omega), h1, e1, e2, e_i, sR_35 hs hp, sK_box hs hp]
    refine jT_g rfl (jT_g ⟨rfl, jo_in (by omega) (by show p < 4; omega)⟩ (jT_g (by decide) (jT_l ?_)))
    have h8 : (s + i) % 8000 < 8000 := Nat.mod_lt _ (by decide)
    by_cases hin : i < n
    · refine jT_neg (by rw [jo_le (by omega) (by omega)]; omega) (jT_neg (by rw [show (0 : Int32) = Int32.ofNat 0 from rfl, jo_lt (by omega) (by omega)]; omega) (jT_g rfl (jT_g ⟨rfl, jo_in (by omega) (by show p < 4; omega)⟩ (jT_g ⟨rfl, jo_in (by omega) h8⟩ ?_))))
      rw [jo_nat (n := (s + i) % 8000) (by omega)]
      refine jT_l (jT_l (jT_l ?_))
      have := ih (i + 1) f (by omega) (by omega)
      unfold zft at this
      rw [if_pos hin] at this
      exact this
    · refine jT_pos (by rw [jo_le (by omega) (by omega)]; omega) (jT_l (jT_l ?_))
      have := ih (i + 1) f (by omega) (by omega)
      unfold zft at this
      rw [if_neg hin] at this
      exact this
theorem zft_0 (b : Nat → UInt8) : zft b 0 7 = 0 := by
  unfold zft zft zft zft zft zft zft zft
  simp only [Nat.not_lt_zero, if_false]
  decide
theorem z11_fetch {Q : Int64 → jH → Prop} {p s w : Nat} {H : jH} (hs : jsh H) (hp : p < 4) (hS : s < 8000) (hw : w ≤ 8000) (h1 : jI H 40 p = Int32.ofNat s) (h2 : jI H 41 p = Int32.ofNat w)
    (hk : ∀ H', jsh H' → jfr (fun a j => (a = 40 ∨ a = 41) ∧ j = p) H H' → jI H' 40 p = Int32.ofNat ((s + min 7 w) % 8000) → jI H' 41 p = Int32.ofNat (w - min 7 w) → Q (zft (fun i => jB H (36 + p) ((s + i) % 8000)) (min 7 w) 7) H') :
    jT (F_11_fetch 32 (Int32.ofNat p) H) Q := by
  unfold F_11_fetch
  refine jT_neg (by rw [show (0 : Int32) = Int32.ofNat 0 from rfl, jo_lt (by omega) (by omega)]; omega) (jT_pos (by rw [show (4 : Int32) = Int32.ofNat 4 from rfl, jo_lt (by omega) (by omega)]; omega) ?_)
  rw [sR_32_6 hs, sK_32 hs, sK_41 hs, jo_nat (n := p) (by omega), h2]
  have em : jminI 7 (Int32.ofNat w) = Int32.ofNat (min 7 w) := by
    unfold jminI
    by_cases h : w < 7
    · rw [if_pos (by rw [show (7 : Int32) = Int32.ofNat 7 from rfl, jo_lt (by omega) (by omega)]; exact h), Nat.min_eq_right (by omega)]
    · rw [if_neg (by rw [show (7 : Int32) = Int32.ofNat 7 from rfl, jo_lt (by omega) (by omega)]; exact h), Nat.min_eq_left (by omega)]
      rfl
  rw [em]
  refine jT_g rfl (jT_g ⟨rfl, jo_in (by omega) (by show p < 4; omega)⟩ (jT_l (jT_l ?_)))
  exact z11_fetch_29 hs hp hS hw ⟨Nat.min_le_right 7 w, Nat.min_le_left 7 w⟩ h1 h2 hk 7 0 jfuel rfl (by unfold jfuel; omega)
theorem z11_fetch_no {Q : Int64 → jH → Prop} {p : Int32} {H : jH} (h : p < 0 ∨ 4 ≤ p) (hQ : Q 0 H) : jT (F_11_fetch 32 p H) Q := by
  unfold F_11_fetch B_11_fetch_9
  refine jT_if (fun _ => jT_ret hQ) (fun h1 => jT_neg ?_ (jT_ret hQ))
  rcases h with h | h
  · exact absurd h h1
  · exact Int32.not_lt.mpr h
theorem z18_fetch_no {Q : Int64 → jH → Prop} {p : Int32} {H : jH} (h : p < 0 ∨ 4 ≤ p) (hQ : Q 0 H) : jT (F_18_fetch 421 p H) Q := by
  unfold F_18_fetch B_18_fetch_16
  rw [z18_isPeer, jb_ok]
  refine jT_pos ?_ (jT_ret hQ)
  by_cases h1 : p < 0
  · rw [if_pos h1]
  · rw [if_neg h1]
    rcases h with h | h
    · exact absurd h h1
    · rw [if_pos h]
/-- the rest of a box comes to its front -/
theorem z18_fetch_97 {Q : Int64 → jH → Prop} {p w n : Nat} {v : Int64} {H0 : jH} (hp : p < 4) (hw : w ≤ 8000) (hn : n ≤ w) (h2 : jI H0 511 p = Int32.ofNat w)
    (hk : ∀ H', jsh H' → jfr (fun a j => (a = 511 ∧ j = p) ∨ (a = 510 ∧ 8000 * p ≤ j ∧ j < 8000 * p + 8000)) H0 H' → jI H' 511 p = Int32.ofNat (w - n) → (∀ i, i < w - n → jB H' 510 (8000 * p + i) = jB H0 510 (8000 * p + (i + n))) → Q v H') :
    ∀ (d k f : Nat) (H : jH), k + d = w → n ≤ k → d < f → jsh H → jfr (fun a j => a = 510 ∧ 8000 * p ≤ j ∧ j < 8000 * p + (k - n)) H0 H → (∀ i, i < k - n → jB H 510 (8000 * p + i) = jB H0 510 (8000 * p + (i + n))) → (0 < n ∨ k = w) → jT (F_18_fetch_97 f 421 (Int32.ofNat p) (Int32.ofNat n) v (Int32.ofNat k) H) Q := by
  intro d
  induction d with
  | zero =>
    intro k f H hi hnk hf hs hfr hb hn0
    obtain rfl : k = w := by omega
    obtain ⟨f, rfl⟩ : ∃ k, f = k + 1 := ⟨f - 1, by omega⟩
    unfold F_18_fetch_97 B_18_fetch_97
    have hz : jI H 511 p = Int32.ofNat k := (jfr_I hfr (fun h => absurd h.1 (by decide))).trans h2
    have e3 : Int32.ofNat k - Int32.ofNat n = Int32.ofNat (k - n) := jo_sub hn
    rw [sR_421_54 hs, sK_421 hs, sK_511 hs, jo_nat (n := p) (by omega), hz, e3]
    refine jT_g rfl (jT_g ⟨rfl, jo_in (by omega) (by show p < 4; omega)⟩ (jT_pos (by rw [jo_le (by omega) (by omega)]; omega) (jT_g rfl (jT_g ⟨rfl, jo_in (by omega) (by show p < 4; omega)⟩ (jT_g ⟨rfl, by decide, jo_in (by omega) (by show p < 4; omega)⟩ (jT_l (jT_ret ?_)))))))
    exact hk _ (jsh_sI hs (by decide)) (jfr_sI (jfr_mono hfr fun a j h => Or.inr ⟨h.1, h.2.1, by omega⟩) (Or.inl ⟨rfl, rfl⟩)) jI_sIe hb
  | succ d ih =>
    intro k f H hi hnk hf hs hfr hb hn0
    obtain ⟨f, rfl⟩ : ∃ k, f = k + 1 := ⟨f - 1, by omega⟩
    unfold F_18_fetch_97 B_18_fetch_97
    have hz : jI H 511 p = Int32.ofNat w := (jfr_I hfr (fun h => absurd h.1 (by decide))).trans h2
    have e1 : (8000 : Int32) * Int32.ofNat p + Int32.ofNat k = Int32.ofNat (8000 * p + k) := by
      rw [show (8000 : Int32) = Int32.ofNat 8000 from rfl, jo_mul, jo_add]
    have e3 : Int32.ofNat (8000 * p + k) - Int32.ofNat n = Int32.ofNat (8000 * p + k - n) := jo_sub (by omega)
    have e_k : Int32.ofNat k + 1 = Int32.ofNat (k + 1) := jo_add (a := k) (b := 1)
    rw [sR_421_54 hs, sR_421_53 hs, sK_421 hs, sK_511 hs, sK_510 hs, jo_nat (n := p) (by omega), hz, e1, e3, e_k, jo_nat (n := 8000 * p + k) (by omega), jo_nat (n := 8000 * p + k - n) (by omega)]
    refine jT_g rfl (jT_g ⟨rfl, jo_in (by omega) (by show p < 4; omega)⟩ (jT_neg (by rw [jo_le (by omega) (by omega)]; omega) (jT_g rfl (jT_g rfl (jT_g ⟨rfl, jo_in (by omega) (by show 8000 * p + k < 32000; omega)⟩ (jT_g ⟨rfl, jo_in (by omega) (by show 8000 * p + k - n < 32000; omega)⟩ (jT_l (jT_l ?_))))))))
    have hold : jB H 510 (8000 * p + k) = jB H0 510 (8000 * p + k) := jfr_B hfr (by omega)
    have hbb : jbu (jbs (jB H 510 (8000 * p + k))) = jB H 510 (8000 * p + k) := jb_u8 (fun u => jbu (jbs u) = u) (by decide +kernel) _
    refine ih (k + 1) f _ (by omega) (by omega) (by omega) (jsh_sB hs) (jfr_sB (jfr_mono hfr fun a j h => ⟨h.1, h.2.1, by omega⟩) ⟨rfl, by omega, by omega⟩) (fun i hi2 => ?_) (Or.inl (by omega))
    by_cases h : i = k - n
    · subst h
      rw [show 8000 * p + (k - n) = 8000 * p + k - n by omega, jB_sBe, hbb, hold, show k - n + n = k by omega]
    · rw [jB_sBn (by omega)]
      exact hb i (by omega)
theorem z18_fetch_47 {Q : Int64 → jH → Prop} {p w n : Nat} {H : jH} (hs : jsh H) (hp : p < 4) (hw : w ≤ 8000) (hn : n ≤ w ∧ n ≤ 7 ∧ 0 < n) (h2 : jI H 511 p = Int32.ofNat w)
    (hk : ∀ H', jsh H' → jfr (fun a j => (a = 511 ∧ j = p) ∨ (a = 510 ∧ 8000 * p ≤ j ∧ j < 8000 * p + 8000)) H H' → jI H' 511 p = Int32.ofNat (w - n) → (∀ i, i < w - n → jB H' 510 (8000 * p + i) = jB H 510 (8000 * p + (i + n))) → Q (zft (fun i => jB H 510 (8000 * p + i)) n 7) H') :
    ∀ (d i f : Nat), i + d = 7 → d < f → jT (F_18_fetch_47 f 421 (Int32.ofNat p) (Int32.ofNat n) (zft (fun i => jB H 510 (8000 * p + i)) n i) (Int32.ofNat i) H) Q := by
  intro d
  induction d with
  | zero =>
    intro i f hi hf
    obtain rfl : i = 7 := by omega
    obtain ⟨f, rfl⟩ : ∃ k, f = k + 1 := ⟨f - 1, by omega⟩
    unfold F_18_fetch_47 B_18_fetch_47
    refine jT_pos (by decide) ?_
    refine z18_fetch_97 hp hw hn.1 h2 hk (w - n) n jfuel H (by omega) (Nat.le_refl n) (by unfold jfuel; omega) hs jfr_refl (fun i hi => absurd hi (by omega)) (Or.inl hn.2.2)
  | succ d ih =>
    intro i f hi hf
    obtain ⟨f, rfl⟩ : ∃ k, f = k + 1 := ⟨f - 1, by omega⟩
    unfold F_18_fetch_47 B_18_fetch_47 B_18_fetch_85
    have e1 : (8000 : Int32) * Int32.ofNat p + Int32.ofNat i = Int32.ofNat (8000 * p + i) := by
      rw [show (8000 : Int32) = Int32.ofNat 8000 from rfl, jo_mul, jo_add]
    have e_i : Int32.ofNat i + 1 = Int32.ofNat (i + 1) := jo_add (a := i) (b := 1)
    refine jT_neg (by rw [show (7 : Int32) = Int32.ofNat 7 from rfl, jo_le (by omega) (by omega)]; omega) ?_
    rw [e1, e_i, sR_421_53 hs, sK_421 hs, sK_510 hs, jo_nat (n := 8000 * p + i) (by omega)]
    by_cases hin : i < n
    · refine jT_neg (by rw [jo_le (by omega) (by omega)]; omega) (jT_g rfl (jT_g ⟨rfl, jo_in (by omega) (by show 8000 * p + i < 32000; omega)⟩ (jT_l (jT_l ?_))))
      have := ih (i + 1) f (by omega) (by omega)
      unfold zft at this
      rw [if_pos hin] at this
      exact this
    · refine jT_pos (by rw [jo_le (by omega) (by omega)]; omega) (jT_l (jT_l ?_))
      have := ih (i + 1) f (by omega) (by omega)
      unfold zft at this
      rw [if_neg hin] at this
      exact this
theorem z18_fetch {Q : Int64 → jH → Prop} {p w : Nat} {H : jH} (hs : jsh H) (hp : p < 4) (hw : w ≤ 8000) (h2 : jI H 511 p = Int32.ofNat w)
    (hk : ∀ H', jsh H' → jfr (fun a j => (a = 511 ∧ j = p) ∨ (a = 510 ∧ 8000 * p ≤ j ∧ j < 8000 * p + 8000)) H H' → jI H' 511 p = Int32.ofNat (w - min 7 w) → (∀ i, i < w - min 7 w → jB H' 510 (8000 * p + i) = jB H 510 (8000 * p + (i + min 7 w))) → Q (zft (fun i => jB H 510 (8000 * p + i)) (min 7 w) 7) H') :
    jT (F_18_fetch 421 (Int32.ofNat p) H) Q := by
  unfold F_18_fetch
  have n1 : ¬ (Int32.ofNat p < 0) := by
    rw [show (0 : Int32) = Int32.ofNat 0 from rfl, jo_lt (by omega) (by omega)]
    omega
  have n2 : ¬ ((4 : Int32) ≤ Int32.ofNat p) := by
    rw [show (4 : Int32) = Int32.ofNat 4 from rfl, jo_le (by omega) (by omega)]
    omega
  rw [z18_isPeer, jb_ok, if_neg n1, if_neg n2]
  refine jT_neg (by decide) ?_
  rw [sR_421_54 hs, sK_421 hs, sK_511 hs, jo_nat (n := p) (by omega), h2]
  refine jT_g rfl (jT_g ⟨rfl, jo_in (by omega) (by show p < 4; omega)⟩ ?_)
  by_cases h0 : w = 0
  · subst h0
    refine jT_neg (by decide) ?_
    unfold B_18_fetch_16
    refine jT_ret ?_
    have := hk H hs jfr_refl h2 (fun i hi => absurd hi (Nat.not_lt_zero i))
    rw [Nat.min_zero, zft_0] at this
    exact this
  · refine jT_pos (by rw [show (0 : Int32) = Int32.ofNat 0 from rfl, jo_eq (by omega) (by omega)]; exact h0) ?_
    refine jT_g rfl (jT_g ⟨rfl, jo_in (by omega) (by show p < 4; omega)⟩ ?_)
    by_cases h7 : w ≤ 7
    · refine jT_pos (by rw [show (7 : Int32) = Int32.ofNat 7 from rfl, jo_le (by omega) (by omega)]; omega) (jT_g rfl (jT_g ⟨rfl, jo_in (by omega) (by show p < 4; omega)⟩ ?_))
      unfold B_18_fetch_40
      rw [Nat.min_eq_right h7] at hk
      exact jT_l (z18_fetch_47 hs hp hw ⟨Nat.le_refl w, h7, by omega⟩ h2 hk 7 0 jfuel rfl (by unfold jfuel; omega))
    · refine jT_neg (by rw [show (7 : Int32) = Int32.ofNat 7 from rfl, jo_le (by omega) (by omega)]; omega) ?_
      unfold B_18_fetch_40
      rw [Nat.min_eq_left (by omega)] at hk
      exact jT_l (z18_fetch_47 (n := 7) hs hp hw ⟨by omega, by omega, by omega⟩ h2 hk 7 0 jfuel rfl (by unfold jfuel; omega))
