/-! The class reads a transaction: its loops. -/
def zcxi (b : Nat → UInt8) (len : Nat) : Nat → Nat → Option (List Nat × Nat)
  | 0, p => some ([], p)
  | k + 1, p => if p + 36 < len ∧ (b (p + 36)).toNat ≤ 200 then (zcxi b len k (p + 41 + (b (p + 36)).toNat)).map (fun q => (p :: q.1, q.2)) else none
def zcxo (b : Nat → UInt8) (len : Nat) : Nat → Nat → Option (List Nat × Nat)
  | 0, p => some ([], p)
  | k + 1, p => if p + 8 < len ∧ (b (p + 8)).toNat ≤ 200 then (zcxo b len k (p + 9 + (b (p + 8)).toNat)).map (fun q => (p :: q.1, q.2)) else none
/-- the places that an array holds -/
def zPl (H : jH) (a : Nat) (l : List Nat) : Prop := ∀ (k q : Nat), l[k]? = some q → jI H a k = Int32.ofNat q
theorem zPl_snoc {H : jH} {a p : Nat} {l : List Nat} (h : ∀ (k q : Nat), l[k]? = some q → jI H a k = Int32.ofNat q) (hp : jI H a l.length = Int32.ofNat p) : zPl H a (l ++ [p]) := by
  intro k q hk
  by_cases hki : k < l.length
  · rw [List.getElem?_append_left hki] at hk
    exact h k q hk
  · rw [List.getElem?_append_right (by omega)] at hk
    have hki2 : k = l.length := by
      by_cases h0 : k - l.length = 0
      · omega
      · obtain ⟨w, hw⟩ : ∃ w, k - l.length = w + 1 := ⟨k - l.length - 1, by omega⟩
        rw [hw] at hk
        exact absurd hk (by simp)
    rw [hki2, Nat.sub_self] at hk
    have hq : p = q := Option.some.inj hk
    rw [hki2, ← hq]
    exact hp
theorem jo_ne1 {u : Nat} (h : u < 256) : ¬ Int32.ofNat u = -1 := by
  intro q
  have := congrArg Int32.toInt q
  rw [jo_int (by omega)] at this
  have h1 : (-1 : Int32).toInt = -1 := rfl
  omega
def zany (b : Nat → UInt8) (len : Nat) (l : List Nat) : Int32 := if l.any (zrt b len) = true then 1 else 0
def zsumv (b : Nat → UInt8) (len : Nat) (l : List Nat) : Int64 := l.foldl (fun s p => s + zv2 b len p) 0
section CTX
variable {t row len n ai : Nat} {b : Nat → UInt8} {H0 : jH}
theorem zO10_I {a i : Nat} {v : Int32} {H : jH} (h : zO10 t row len H) (ha : 18 ≤ a) : zO10 t row len (jsI H a i v) := by
  obtain ⟨hs, hr⟩ := h
  exact ⟨jsh_sI hs ha, hr⟩
theorem z10_in32 (hai : 422 ≤ ai ∧ ai ≠ t) (hn : n ≤ 8) : ∀ (d i f p : Nat) (dn : List Nat) (H : jH), i + d = n → d < f → p + 300 * d < 2900000 → zO10 t row len H → jR H t 4 = ai → jK H ai = (100, n) → jB H row = b → dn.length = i → zPl H ai dn → jI H t 7 = zany b len dn → jfr (fun a j => a = ai ∨ (a = t ∧ j = 7)) H0 H →
    jT (F_10_readInputs_32 f t (Int32.ofNat n) (Int32.ofNat p) (Int32.ofNat i) H) (fun r h => zO10 t row len h ∧ jfr (fun a j => a = ai ∨ (a = t ∧ j = 7)) H0 h ∧ ((∃ l q, zcxi b len d p = some (l, q) ∧ r = Int32.ofNat q ∧ q < 2900000 ∧ zPl h ai (dn ++ l) ∧ jI h t 7 = zany b len (dn ++ l)) ∨ (zcxi b len d p = none ∧ r = -1))) := by
  intro d
  induction d with
  | zero =>
    intro i f p dn H hi hf hp h h4 hk hb hdn hpl hany hfr
    obtain rfl : i = n := by omega
    obtain ⟨f, rfl⟩ : ∃ k, f = k + 1 := ⟨f - 1, by omega⟩
    unfold F_10_readInputs_32 B_10_readInputs_32
    refine jT_pos (by rw [jo_le (by omega) (by omega)]; omega) (jT_ret ⟨h, hfr, Or.inl ⟨[], p, rfl, rfl, by omega, ?_, ?_⟩⟩)
    · rw [List.append_nil]
      exact hpl
    · rw [List.append_nil]
      exact hany
  | succ d ih =>
    intro i f p dn H hi hf hp h h4 hk hb hdn hpl hany hfr
    obtain ⟨f, rfl⟩ : ∃ k, f = k + 1 := ⟨f - 1, by omega⟩
    unfold F_10_readInputs_32 B_10_readInputs_32
    obtain ⟨hs, h1, h2, h3, hlen, h5, h6⟩ := h
    have e36 : Int32.ofNat p + 36 = Int32.ofNat (p + 36) := jo_add (a := p) (b := 36)
    have hsz := z10_sizeAt (at_ := p + 36) (most := 200) h3 (by omega) (by omega) (by omega)
    have hu := UInt8.toNat_lt (b (p + 36))
    rw [h2, e36]
    refine jT_neg (by rw [jo_le (by omega) (by omega)]; omega) (jT_g h1 (jT_b (jT_eq hsz (jT_ret ?_))))
    rw [hb]
    unfold zsz
    by_cases hc : p + 36 < len ∧ (b (p + 36)).toNat ≤ 200
    · rw [if_pos hc]
      generalize hU : (b (p + 36)).toNat = u at *
      have e_i : Int32.ofNat i + 1 = Int32.ofNat (i + 1) := jo_add (a := i) (b := 1)
      refine jT_pos (jo_ne1 hu) (jT_g h1 ?_)
      rw [h4, hk, jo_nat (n := i) (by omega), e_i]
      refine jT_g ⟨rfl, by unfold jF0; omega, jo_in (by omega) (by show i < n; omega)⟩ (jT_l (jT_g h1 (jT_g h1 ?_)))
      have hO : zO10 t row len (jsI H ai i (Int32.ofNat p)) := zO10_I ⟨hs, h1, h2, h3, hlen, h5, h6⟩ (by omega)
      have hrt := z10_isRootInput (p := p) hO (by omega)
      refine jT_b (jT_eq hrt (jT_ret ?_))
      have eB : jB (jsI H ai i (Int32.ofNat p)) row = b := hb
      have e7 : jI (jsI H ai i (Int32.ofNat p)) t 7 = zany b len dn := (jI_sIa (by omega)).trans hany
      have eor : (zany b len dn ||| if zrt b len p = true then 1 else 0) = zany b len (dn ++ [p]) := by
        unfold zany
        rw [List.any_append]
        cases dn.any (zrt b len) <;> cases hz : zrt b len p <;> simp [hz] <;> decide
      have hor : (zany b len (dn ++ [p]) = 0 ∨ zany b len (dn ++ [p]) = 1) := by
        unfold zany
        by_cases q : (dn ++ [p]).any (zrt b len) = true
        · exact Or.inr (if_pos q)
        · exact Or.inl (if_neg q)
      have e41 : Int32.ofNat p + ((37 + Int32.ofNat u) + 4) = Int32.ofNat (p + 41 + u) := by
        rw [show (37 : Int32) = Int32.ofNat 37 from rfl, show (4 : Int32) = Int32.ofNat 4 from rfl, jo_add, jo_add, jo_add]
        congr 1
        omega
      rw [eB, e7, eor, e41]
      refine jT_g ⟨h1, hor⟩ (jT_l (jT_l (jT_l ?_)))
      have := ih (i + 1) f (p + 41 + u) (dn ++ [p]) (jsI (jsI H ai i (Int32.ofNat p)) t 7 (zany b len (dn ++ [p]))) (by omega) (by omega) (by omega) (zO10_I hO (by omega)) h4 hk hb (by rw [List.length_append, hdn]; rfl) ?_ jI_sIe (jfr_sI (jfr_sI hfr (Or.inl rfl)) (Or.inr ⟨rfl, rfl⟩))
      · refine jT_imp this fun r h' q => ⟨q.1, q.2.1, ?_⟩
        unfold zcxi
        rw [hU, if_pos hc]
        rcases q.2.2 with ⟨l, q1, a1, a2, a3, a4, a5⟩ | ⟨a1, a2⟩
        · refine Or.inl ⟨p :: l, q1, by rw [a1]; rfl, a2, a3, ?_, ?_⟩
          · rw [List.append_assoc] at a4
            exact a4
          · rw [List.append_assoc] at a5
            exact a5
        · exact Or.inr ⟨by rw [a1]; rfl, a2⟩
      · refine zPl_snoc (fun k q hk => ?_) ?_
        · have hkl : k < dn.length := by
            by_cases q2 : k < dn.length
            · exact q2
            · rw [List.getElem?_eq_none (by omega)] at hk
              exact absurd hk (by simp)
          exact (jI_sIa (by omega)).trans ((jI_sIn (by omega)).trans (hpl k q hk))
        · rw [hdn]
          exact (jI_sIa (by omega)).trans jI_sIe
    · rw [if_neg hc]
      refine jT_neg (fun q => q rfl) (jT_ret ⟨⟨hs, h1, h2, h3, hlen, h5, h6⟩, hfr, Or.inr ⟨?_, rfl⟩⟩)
      unfold zcxi
      rw [if_neg hc]
theorem z10_out32 (hai : 422 ≤ ai ∧ ai ≠ t) (hn : n ≤ 8) : ∀ (d i f p : Nat) (dn : List Nat) (H : jH), i + d = n → d < f → p + 300 * d < 2900000 → zO10 t row len H → jR H t 5 = ai → jK H ai = (100, n) → jB H row = b → dn.length = i → zPl H ai dn → jL H t 6 = zsumv b len dn → jfr (fun a j => a = ai ∨ (a = t ∧ j = 6)) H0 H →
    jT (F_10_readOutputs_32 f t (Int32.ofNat n) (Int32.ofNat p) (Int32.ofNat i) H) (fun r h => zO10 t row len h ∧ jfr (fun a j => a = ai ∨ (a = t ∧ j = 6)) H0 h ∧ ((∃ l q, zcxo b len d p = some (l, q) ∧ r = Int32.ofNat q ∧ q < 2900000 ∧ zPl h ai (dn ++ l) ∧ jL h t 6 = zsumv b len (dn ++ l)) ∨ (zcxo b len d p = none ∧ r = -1))) := by
  intro d
  induction d with
  | zero =>
    intro i f p dn H hi hf hp h h4 hk hb hdn hpl hany hfr
    obtain rfl : i = n := by omega
    obtain ⟨f, rfl⟩ : ∃ k, f = k + 1 := ⟨f - 1, by omega⟩
    unfold F_10_readOutputs_32 B_10_readOutputs_32
    refine jT_pos (by rw [jo_le (by omega) (by omega)]; omega) (jT_ret ⟨h, hfr, Or.inl ⟨[], p, rfl, rfl, by omega, ?_, ?_⟩⟩)
    · rw [List.append_nil]
      exact hpl
    · rw [List.append_nil]
      exact hany
  | succ d ih =>
    intro i f p dn H hi hf hp h h4 hk hb hdn hpl hany hfr
    obtain ⟨f, rfl⟩ : ∃ k, f = k + 1 := ⟨f - 1, by omega⟩
    unfold F_10_readOutputs_32 B_10_readOutputs_32
    obtain ⟨hs, h1, h2, h3, hlen, h5, h6⟩ := h
    have e8 : Int32.ofNat p + 8 = Int32.ofNat (p + 8) := jo_add (a := p) (b := 8)
    have hsz := z10_sizeAt (at_ := p + 8) (most := 200) h3 (by omega) (by omega) (by omega)
    have hu := UInt8.toNat_lt (b (p + 8))
    rw [h2, e8]
    refine jT_neg (by rw [jo_le (by omega) (by omega)]; omega) (jT_g h1 (jT_b (jT_eq hsz (jT_ret ?_))))
    rw [hb]
    unfold zsz
    by_cases hc : p + 8 < len ∧ (b (p + 8)).toNat ≤ 200
    · rw [if_pos hc]
      generalize hU : (b (p + 8)).toNat = u at *
      have e_i : Int32.ofNat i + 1 = Int32.ofNat (i + 1) := jo_add (a := i) (b := 1)
      refine jT_pos (jo_ne1 hu) (jT_g h1 ?_)
      rw [h4, hk, jo_nat (n := i) (by omega), e_i]
      refine jT_g ⟨rfl, by unfold jF0; omega, jo_in (by omega) (by show i < n; omega)⟩ (jT_l (jT_g h1 (jT_g h1 ?_)))
      have hO : zO10 t row len (jsI H ai i (Int32.ofNat p)) := zO10_I ⟨hs, h1, h2, h3, hlen, h5, h6⟩ (by omega)
      have hrt := z10_worth (ao := ai) (m := n) (k := i) (p := p) hO h4 hk hn (by omega) jI_sIe (by omega)
      refine jT_b (jT_eq hrt (jT_ret ?_))
      have eB : jB (jsI H ai i (Int32.ofNat p)) row = b := hb
      have e6 : jL (jsI H ai i (Int32.ofNat p)) t 6 = zsumv b len dn := hany
      have eor : zsumv b len dn + zv2 b len p = zsumv b len (dn ++ [p]) := by
        unfold zsumv
        rw [List.foldl_append]
        rfl
      have e41 : Int32.ofNat p + (9 + Int32.ofNat u) = Int32.ofNat (p + 9 + u) := by
        rw [show (9 : Int32) = Int32.ofNat 9 from rfl, jo_add, jo_add]
        congr 1
        omega
      rw [eB, e6, eor, e41]
      refine jT_g h1 (jT_l (jT_l (jT_l ?_)))
      have := ih (i + 1) f (p + 9 + u) (dn ++ [p]) (jsL (jsI H ai i (Int32.ofNat p)) t 6 (zsumv b len (dn ++ [p]))) (by omega) (by omega) (by omega) hO h4 hk hb (by rw [List.length_append, hdn]; rfl) ?_ jL_sLe (jfr_sL (jfr_sI hfr (Or.inl rfl)) (Or.inr ⟨rfl, rfl⟩))
      · refine jT_imp this fun r h' q => ⟨q.1, q.2.1, ?_⟩
        unfold zcxo
        rw [hU, if_pos hc]
        rcases q.2.2 with ⟨l, q1, a1, a2, a3, a4, a5⟩ | ⟨a1, a2⟩
        · refine Or.inl ⟨p :: l, q1, by rw [a1]; rfl, a2, a3, ?_, ?_⟩
          · rw [List.append_assoc] at a4
            exact a4
          · rw [List.append_assoc] at a5
            exact a5
        · exact Or.inr ⟨by rw [a1]; rfl, a2⟩
      · refine zPl_snoc (fun k q hk => ?_) ?_
        · have hkl : k < dn.length := by
            by_cases q2 : k < dn.length
            · exact q2
            · rw [List.getElem?_eq_none (by omega)] at hk
              exact absurd hk (by simp)
          exact (jI_sIn (H := H) (a := ai) (b := ai) (by omega)).trans (hpl k q hk)
        · rw [hdn]
          exact jI_sIe (H := H) (a := ai)
    · rw [if_neg hc]
      refine jT_neg (fun q => q rfl) (jT_ret ⟨⟨hs, h1, h2, h3, hlen, h5, h6⟩, hfr, Or.inr ⟨?_, rfl⟩⟩)
      unfold zcxo
      rw [if_neg hc]
end CTX
