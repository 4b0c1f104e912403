/-! Signature.multiply, on: the fold, the end. -/
theorem nv_zero {b : Nat} {w : Nat → Nat} : ∀ {n : Nat}, (∀ i, i < n → w i = 0) → nv b w n = 0
  | 0, _ => rfl
  | n + 1, h => by
    show nv b w n + w n * b ^ n = 0
    rw [nv_zero (n := n) fun i hi => h i (by omega), h n (by omega), Nat.zero_mul]
def wOv (j : Nat) : Nat := if j < 5 then wC j else 0
theorem wOv_nv : ∀ n, nv 4294967296 wOv (5 + n) = nC
  | 0 => by decide +kernel
  | n + 1 => by
    show nv 4294967296 wOv (5 + n) + wOv (5 + n) * _ = nC
    rw [wOv_nv n]
    unfold wOv
    rw [if_neg (by omega), Nat.zero_mul]
    rfl
theorem wOv_lt (j : Nat) : wOv j < 4294967296 := by
  unfold wOv
  split
  · exact wC_lt j
  · decide
section MULN2
variable {Q : Unit → jH → Prop} {to : Nat} {h : Nat → Nat} {H0 : jH}
def zS56 : Nat → Prop := fun a => a = 56
/-- one high word comes back -/
theorem z8_mul222 {k204 : Nat → Nat → Int32 → Int32 → Int32 → jH → Option (Unit × jH)} {a4 a5 : Int32} {i : Nat} {w0 : Nat → Nat} (hi : i < 8) (hs : jsh H0) (hh : zw8 H0 57 8 h) (hbd : nv 4294967296 w0 16 + h i * nC * 4294967296 ^ i < 4294967296 ^ 16)
    (hk : ∀ H' w, jfJ zS56 H0 H' → zw8 H' 56 16 w → nv 4294967296 w 16 = nv 4294967296 w0 16 + h i * nC * 4294967296 ^ i → jT (k204 50 to a4 a5 (Int32.ofNat (i + 1)) H') Q) :
    ∀ (d j fu c : Nat) (w : Nat → Nat) (H : jH), i + j + d = 16 → d < fu → jfJ zS56 H0 H → zw8 H 56 16 w → c < 4294967296 → nv 4294967296 w 16 + c * 4294967296 ^ (i + j) = nv 4294967296 w0 16 + h i * nv 4294967296 wOv j * 4294967296 ^ i → (h i = 0 → j = 0 ∧ c = 0) →
      jT (F_8_multiply_222 k204 fu 50 to a4 a5 (Int32.ofNat i) (Int64.ofNat c) (Int32.ofNat j) H) Q := by
  intro d
  induction d with
  | zero =>
    intro j fu c w H hj hfu hfr hw hc hv hj0
    obtain ⟨fu, rfl⟩ : ∃ k, fu = k + 1 := ⟨fu - 1, by omega⟩
    unfold F_8_multiply_222 B_8_multiply_222
    have eij : Int32.ofNat i + Int32.ofNat j = Int32.ofNat (i + j) := jo_add
    have e1 : Int32.ofNat i + 1 = Int32.ofNat (i + 1) := jo_add (a := i) (b := 1)
    rw [eij]
    have hC := wOv_nv (j - 5)
    rw [show 5 + (j - 5) = j by omega] at hC
    rw [hC] at hv
    have hc0 : c = 0 := by
      refine Classical.byContradiction fun q => ?_
      have h1 : 1 * 4294967296 ^ (i + j) ≤ c * 4294967296 ^ (i + j) := Nat.mul_le_mul_right _ (by omega)
      rw [show i + j = 16 by omega] at h1 hv
      omega
    rw [hc0, Nat.zero_mul, Nat.add_zero] at hv
    refine jT_pos (by rw [show (16 : Int32) = Int32.ofNat 16 from rfl, jo_le (by omega) (by omega)]; omega) ?_
    unfold B_8_multiply_346
    rw [e1]
    exact jT_l (hk H w hfr hw hv)
  | succ d ih =>
    intro j fu c w H hj hfu hfr hw hc hv hj0
    obtain ⟨fu, rfl⟩ : ∃ k, fu = k + 1 := ⟨fu - 1, by omega⟩
    unfold F_8_multiply_222 B_8_multiply_222
    have eij : Int32.ofNat i + Int32.ofNat j = Int32.ofNat (i + j) := jo_add
    have e1 : Int32.ofNat i + 1 = Int32.ofNat (i + 1) := jo_add (a := i) (b := 1)
    have ej1 : Int32.ofNat j + 1 = Int32.ofNat (j + 1) := jo_add (a := j) (b := 1)
    have hsH := jsh_fJ hs hfr (fun a ha q => by unfold zS56 at q; omega)
    have vH := zw8_fJ hh hfr (by unfold zS56; decide) i (by omega)
    have vW := hw (i + j) (by omega)
    have k57 := sK_57 hsH
    have k56 := sK_56 hsH
    have r57 := sR_50_7 hsH
    have r56 := sR_50_6 hsH
    have k50 : (jK H 50).1 = 8 := by rw [sK_50 hsH]
    have k9 : jK H 9 = (100, 5) := sK hsH (a := 9) rfl (by decide) (by decide)
    have hend : nv 4294967296 w 16 = nv 4294967296 w0 16 + h i * nC * 4294967296 ^ i → jT (B_8_multiply_346 k204 50 to a4 a5 (Int32.ofNat i) H) Q := fun e => by
      unfold B_8_multiply_346
      rw [e1]
      exact jT_l (hk H w hfr hw e)
    have hgo : ∀ s0 : Nat, h i ≠ 0 → s0 = wOv j → jT (B_8_multiply_282 (F_8_multiply_222 k204 fu) 50 to a4 a5 (Int32.ofNat i) (Int64.ofNat c) (Int32.ofNat j) (Int64.ofNat s0) H) Q := fun s0 hh0 hs0 => by
      unfold B_8_multiply_282
      have hbd2 : c + (h i * s0 + w (i + j)) < 18446744073709551616 := by
        have h1 := wOv_lt j
        rw [← hs0] at h1
        have h2 : h i * s0 ≤ 4294967295 * 4294967295 := Nat.mul_le_mul (by omega) (by omega)
        omega
      refine jT_g k50 ?_
      rw [r57, r56, eij, jo_nat (n := i) (by omega), jo_nat (n := i + j) (by omega), vH.1, vW.1, lw_of vH.2, lw_of vW.2, lo_mul, lo_add, lo_add, ej1]
      refine jT_g (gI k57 (jo_in (by omega) (by omega))) (jT_g k50 (jT_g (gI k56 (jo_in (by omega) (by omega))) (jT_l (jT_g k50 (jT_g (gIw k56 (by decide) (jo_in (by omega) (by omega))) (jT_l (jT_l (jT_l ?_))))))))
      rw [show (32 : Int32) = Int32.ofNat 32 from rfl, lw_ushr hbd2 (by decide), lw_i32]
      obtain ⟨x, hx⟩ : ∃ x, x = c + (h i * s0 + w (i + j)) := ⟨_, rfl⟩
      rw [← hx] at hbd2 ⊢
      refine ih (j + 1) fu (x / 4294967296) (nup w (i + j) (x % 4294967296)) _ (by omega) (by omega) (jfJ_sI hfr rfl) (zw8_up hw (Nat.mod_lt _ (by decide))) (by omega) ?_ (fun e => absurd e hh0)
      have hup := nv_up (b := 4294967296) (w := w) (i := i + j) (v := x % 4294967296) (n := 16) (by omega)
      rw [hs0] at hx
      have := mn_inner (B := 4294967296) (Ei := 4294967296 ^ i) (Ej := 4294967296 ^ j) hx (Nat.pow_add ..) hup hv
      rw [show i + (j + 1) = i + j + 1 by omega, Nat.pow_succ]
      exact this
    have hgo2 : h i ≠ 0 → jT (B_8_multiply_258 (F_8_multiply_222 k204 fu) 50 to a4 a5 (Int32.ofNat i) (Int64.ofNat c) (Int32.ofNat j) H) Q := fun hh0 => by
      unfold B_8_multiply_258
      rw [k9]
      refine jT_g rfl ?_
      by_cases h5 : j < 5
      · refine jT_neg (by show ¬ Int32.ofNat 5 ≤ _; rw [jo_le (by omega) (by omega)]; omega) (jT_g ⟨rfl, jo_in (by omega) (by show j < 5; omega)⟩ ?_)
        rw [jo_nat (n := j) (by omega), sSt9 hsH j h5, lw_of (wC_lt j)]
        exact hgo _ hh0 (by unfold wOv; rw [if_pos h5])
      · refine jT_pos (by show Int32.ofNat 5 ≤ _; rw [jo_le (by omega) (by omega)]; omega) ?_
        exact hgo 0 hh0 (by unfold wOv; rw [if_neg h5])
    refine jT_neg (by rw [eij, show (16 : Int32) = Int32.ofNat 16 from rfl, jo_le (by omega) (by omega)]; omega) (jT_g k50 ?_)
    rw [r57, jo_nat (n := i) (by omega), vH.1, k9]
    refine jT_g (gI k57 (jo_in (by omega) (by omega))) ?_
    by_cases hh0 : h i = 0
    · refine jT_pos (by rw [hh0]; rfl) (hend ?_)
      rw [hh0, Nat.zero_mul, Nat.zero_mul] at hv ⊢
      rw [(hj0 hh0).2] at hv
      omega
    · refine jT_neg (fun e => hh0 ((jw_eq vH.2 (by decide)).mp (e.trans (show (0 : Int32) = Int32.ofNat 0 from rfl)))) (jT_g rfl ?_)
      by_cases h5 : j < 5
      · exact jT_pos (by show Int32.ofNat j < Int32.ofNat 5; rw [jo_lt (by omega) (by omega)]; omega) (hgo2 hh0)
      · refine jT_neg (by show ¬ Int32.ofNat j < Int32.ofNat 5; rw [jo_lt (by omega) (by omega)]; omega) ?_
        by_cases hc0 : c = 0
        · refine jT_pos (by rw [hc0]; rfl) (hend ?_)
          have hC := wOv_nv (j - 5)
          rw [show 5 + (j - 5) = j by omega] at hC
          rw [hC, hc0, Nat.zero_mul, Nat.add_zero] at hv
          exact hv
        · exact jT_neg (fun e => hc0 ((lo_eq (by omega) (by decide)).mp (e.trans (show (0 : Int64) = Int64.ofNat 0 from rfl)))) (hgo2 hh0)
end MULN2
section MULN3
variable {Q : Unit → jH → Prop} {to : Nat} {h : Nat → Nat} {H0 : jH}
theorem z8_mul204 {k122 : Nat → Nat → Int32 → Int32 → jH → Option (Unit × jH)} {a4 a5 : Int32} {w0 : Nat → Nat} (ha4 : a4 ≠ 0) (hs : jsh H0) (hh : zw8 H0 57 8 h) (hbd : nv 4294967296 w0 16 + nv 4294967296 h 8 * nC < 4294967296 ^ 16)
    (hk : ∀ H' w, jfJ zS56 H0 H' → zw8 H' 56 16 w → nv 4294967296 w 16 = nv 4294967296 w0 16 + nv 4294967296 h 8 * nC → jT (k122 50 to a4 (a5 + 1) H') Q) :
    ∀ (d i fu : Nat) (w : Nat → Nat) (H : jH), i + d = 8 → d < fu → jfJ zS56 H0 H → zw8 H 56 16 w → nv 4294967296 w 16 = nv 4294967296 w0 16 + nv 4294967296 h i * nC →
      jT (F_8_multiply_204 k122 fu 50 to a4 a5 (Int32.ofNat i) H) Q := by
  intro d
  induction d with
  | zero =>
    intro i fu w H hi hfu hfr hw hv
    obtain ⟨fu, rfl⟩ : ∃ k, fu = k + 1 := ⟨fu - 1, by omega⟩
    obtain rfl : i = 8 := by omega
    unfold F_8_multiply_204 B_8_multiply_204 B_8_multiply_352
    exact jT_pos (by decide) (jT_l (hk H w hfr hw hv))
  | succ d ih =>
    intro i fu w H hi hfu hfr hw hv
    obtain ⟨fu, rfl⟩ : ∃ k, fu = k + 1 := ⟨fu - 1, by omega⟩
    unfold F_8_multiply_204 B_8_multiply_204
    have hsH := jsh_fJ hs hfr (fun a ha q => by unfold zS56 at q; omega)
    have hcut := nv_cut (b := 4294967296) (w := h) (m := i) (8 - i)
    rw [show i + (8 - i) = 8 by omega] at hcut
    have hstep : nv 4294967296 h (i + 1) ≤ nv 4294967296 h 8 := by
      have := nv_cut (b := 4294967296) (w := h) (m := i + 1) (8 - (i + 1))
      rw [show i + 1 + (8 - (i + 1)) = 8 by omega] at this
      omega
    have e : nv 4294967296 h (i + 1) * nC = nv 4294967296 h i * nC + h i * nC * 4294967296 ^ i := by
      show (nv 4294967296 h i + h i * 4294967296 ^ i) * nC = _
      rw [Nat.add_mul, Nat.mul_assoc, Nat.mul_comm (4294967296 ^ i), ← Nat.mul_assoc]
    have hle : nv 4294967296 h (i + 1) * nC ≤ nv 4294967296 h 8 * nC := Nat.mul_le_mul_right _ hstep
    refine jT_neg (by rw [show (8 : Int32) = Int32.ofNat 8 from rfl, jo_le (by omega) (by omega)]; omega) (jT_neg ha4 ?_)
    refine z8_mul222 (h := h) (w0 := w) (H0 := H) (by omega) hsH (zw8_fJ hh hfr (by unfold zS56; decide)) ?_ (fun H' w' hf' hw' hv' => ?_) (16 - i) 0 jfuel 0 w H (by omega) (by unfold jfuel; omega) jfJ_refl hw (by decide) ?_ (fun _ => ⟨rfl, rfl⟩)
    · rw [hv]
      omega
    · refine ih (i + 1) fu w' H' (by omega) (by omega) (jfJ_trans hfr hf') hw' ?_
      rw [hv', hv, e]
      omega
    · show nv 4294967296 w 16 + 0 * _ = nv 4294967296 w 16 + h i * 0 * _
      rw [Nat.zero_mul, Nat.mul_zero, Nat.zero_mul]
/-- the high words go aside -/
theorem z8_mul140 {k122 : Nat → Nat → Int32 → Int32 → jH → Option (Unit × jH)} {a5 : Int32} {w0 : Nat → Nat} (hs : jsh H0)
    (hk : ∀ H' h w f, jfJ zSm H0 H' → zw8 H' 57 8 h → zw8 H' 56 16 w → (∀ i, i < 8 → h i = w0 (8 + i)) → (∀ i, i < 8 → w i = w0 i) → (∀ i, i < 8 → w (8 + i) = 0) → (f = 0 ↔ ∀ i, i < 8 → h i = 0) → jT (F_8_multiply_204 k122 jfuel 50 to f a5 0 H') Q) :
    ∀ (d i fu : Nat) (f : Int32) (h w : Nat → Nat) (H : jH), i + d = 8 → d < fu → jfJ zSm H0 H → zw8 H 57 i h → zw8 H 56 16 w → (∀ j, j < i → h j = w0 (8 + j)) → (∀ j, j < 8 → w j = w0 j) → (∀ j, j < i → w (8 + j) = 0) → (∀ j, i ≤ j → j < 8 → w (8 + j) = w0 (8 + j)) → (f = 0 ↔ ∀ j, j < i → h j = 0) →
      jT (F_8_multiply_140 k122 fu 50 to f a5 (Int32.ofNat i) H) Q := by
  intro d
  induction d with
  | zero =>
    intro i fu f h w H hi hfu hfr hh hw h1 h2 h3 h4 h5
    obtain ⟨fu, rfl⟩ : ∃ k, fu = k + 1 := ⟨fu - 1, by omega⟩
    obtain rfl : i = 8 := by omega
    unfold F_8_multiply_140 B_8_multiply_140
    exact jT_pos (by decide) (hk H h w f hfr hh hw h1 h2 h3 h5)
  | succ d ih =>
    intro i fu f h w H hi hfu hfr hh hw h1 h2 h3 h4 h5
    obtain ⟨fu, rfl⟩ : ∃ k, fu = k + 1 := ⟨fu - 1, by omega⟩
    unfold F_8_multiply_140 B_8_multiply_140
    have hsH := jsh_fJ hs hfr (fun a ha q => by rcases q with q | q <;> omega)
    have e8 : Int32.ofNat i + 8 = Int32.ofNat (i + 8) := jo_add (a := i) (b := 8)
    have e1 : Int32.ofNat i + 1 = Int32.ofNat (i + 1) := jo_add (a := i) (b := 1)
    have k50 : (jK H 50).1 = 8 := by rw [sK_50 hsH]
    have vW := hw (i + 8) (by omega)
    refine jT_neg (by rw [show (8 : Int32) = Int32.ofNat 8 from rfl, jo_le (by omega) (by omega)]; omega) (jT_g k50 (jT_g k50 ?_))
    rw [sR_50_7 hsH, sR_50_6 hsH, e8, jo_nat (n := i) (by omega), jo_nat (n := i + 8) (by omega), vW.1]
    refine jT_g (gI (sK_56 hsH) (jo_in (by omega) (by omega))) (jT_g (gIw (sK_57 hsH) (by decide) (jo_in (by omega) (by omega))) (jT_l ?_))
    have f1 := jfJ_sI (a := 57) (i := i) (v := Int32.ofNat (w (i + 8))) hfr (Or.inr rfl)
    have g57 : zw8 (jsI H 57 i (Int32.ofNat (w (i + 8)))) 57 (i + 1) (nup h i (w (i + 8))) := fun j hj => by
      unfold nup
      by_cases e : j = i
      · rw [if_pos e, e]
        exact ⟨jI_sIe, vW.2⟩
      · rw [if_neg e]
        exact ⟨(jI_sIn e).trans (hh j (by omega)).1, (hh j (by omega)).2⟩
    have g56 : zw8 (jsI H 57 i (Int32.ofNat (w (i + 8)))) 56 16 w := zw8_ne hw (by decide)
    generalize jsI H 57 i (Int32.ofNat (w (i + 8))) = H1 at f1 g57 g56
    have hs1 := jsh_fJ hs f1 (fun a ha q => by rcases q with q | q <;> omega)
    refine jT_g (by rw [sK_50 hs1]) ?_
    rw [sR_50_6 hs1]
    refine jT_g (gIw (sK_56 hs1) (by decide) (jo_in (by omega) (by omega))) (jT_l ?_)
    have f2 := jfJ_sI (a := 56) (i := i + 8) (v := (0 : Int32)) f1 (Or.inl rfl)
    have g56b : zw8 (jsI H1 56 (i + 8) 0) 56 16 (nup w (i + 8) 0) := zw8_up g56 (by decide)
    have g57b : zw8 (jsI H1 56 (i + 8) 0) 57 (i + 1) (nup h i (w (i + 8))) := zw8_ne g57 (by decide)
    generalize jsI H1 56 (i + 8) 0 = H2 at f2 g56b g57b
    have hs2 := jsh_fJ hs f2 (fun a ha q => by rcases q with q | q <;> omega)
    refine jT_g (by rw [sK_50 hs2]) ?_
    rw [sR_50_7 hs2]
    refine jT_g (gI (sK_57 hs2) (jo_in (by omega) (by omega))) ?_
    have v57 := g57b i (by omega)
    have hn : nup h i (w (i + 8)) i = w (i + 8) := if_pos rfl
    rw [hn] at v57
    rw [v57.1]
    have w0i : w (i + 8) = w0 (8 + i) := by
      rw [show i + 8 = 8 + i by omega]
      exact h4 i (Nat.le_refl i) (by omega)
    have next : ∀ g : Int32, (g = 0 ↔ ∀ j, j < i + 1 → nup h i (w (i + 8)) j = 0) → jT (F_8_multiply_140 k122 fu 50 to g a5 (Int32.ofNat (i + 1)) H2) Q := fun g hg => by
      refine ih (i + 1) fu g _ _ H2 (by omega) (by omega) f2 g57b g56b (fun j hj => ?_) (fun j hj => ?_) (fun j hj => ?_) (fun j hj hj2 => ?_) hg
      · unfold nup
        by_cases e : j = i
        · rw [if_pos e, e, w0i]
        · rw [if_neg e]
          exact h1 j (by omega)
      · unfold nup
        rw [if_neg (by omega)]
        exact h2 j hj
      · unfold nup
        by_cases e : j = i
        · rw [if_pos (by omega)]
        · rw [if_neg (by omega)]
          exact h3 j (by omega)
      · unfold nup
        rw [if_neg (by omega)]
        exact h4 j (by omega) hj2
    unfold B_8_multiply_192
    rw [e1]
    by_cases hz : w (i + 8) = 0
    · refine jT_pos (by rw [hz]; rfl) (jT_l (jT_l (next _ ?_)))
      rw [show f ||| (0 : Int32) = f from Int32.or_zero, h5]
      refine ⟨fun q j hj => ?_, fun q j hj => ?_⟩
      · unfold nup
        by_cases e : j = i
        · rw [if_pos e, hz]
        · rw [if_neg e]
          exact q j (by omega)
      · have := q j (by omega)
        unfold nup at this
        rw [if_neg (by omega)] at this
        exact this
    · refine jT_neg (fun e => hz ((jw_eq vW.2 (by decide)).mp (e.trans (show (0 : Int32) = Int32.ofNat 0 from rfl)))) (jT_l (jT_l (next _ ?_)))
      refine ⟨fun q => ?_, fun q => ?_⟩
      · have : (f ||| (1 : Int32)).toBitVec = 0 := by rw [q]; rfl
        rw [Int32.toBitVec_or] at this
        have := (BitVec.or_eq_zero_iff.mp this).2
        exact absurd this (by decide)
      · have := q i (by omega)
        rw [hn] at this
        exact absurd this hz
end MULN3
/-- how large it may be before a turn -/
def mB (k : Nat) : Nat := if k = 0 then 4294967296 ^ 16 else if k = 1 then 2 ^ 386 else if k = 2 then 2 ^ 260 else if k = 3 then 2 ^ 256 + 2 ^ 134 else 2 ^ 256
theorem mB_next {k lo hi : Nat} (hlo : lo < 4294967296 ^ 8) (h : lo + 4294967296 ^ 8 * hi < mB k) : lo + hi * nC < mB (k + 1) ∧ lo + hi * nC < 4294967296 ^ 16 := by
  unfold mB at *
  have e8 : (4294967296 : Nat) ^ 8 = 115792089237316195423570985008687907853269984665640564039457584007913129639936 := by decide
  have e16 : (4294967296 : Nat) ^ 16 = 13407807929942597099574024998205846127479365820592393377723561443721764030073546976801874298166903427690031858186486050853753882811946569946433649006084096 := by decide
  have e386 : (2 : Nat) ^ 386 = 157608024785577916849116160400574455220318957081861786671793173616982887085988842445657065019539662563226511961227264 := by decide
  have e260 : (2 : Nat) ^ 260 = 1852673427797059126777135760139006525652319754650249024631321344126610074238976 := by decide
  have e256 : (2 : Nat) ^ 256 = 115792089237316195423570985008687907853269984665640564039457584007913129639936 := by decide
  have e134 : (2 : Nat) ^ 134 = 21778071482940061661655974875633165533184 := by decide
  have eC : nC = 432420386565659656852420866394968145599 := rfl
  rw [e8] at hlo h
  rw [e16, e386, e260, e256, e134] at *
  rw [eC]
  rcases (show k = 0 ∨ k = 1 ∨ k = 2 ∨ k = 3 ∨ 4 ≤ k by omega) with rfl | rfl | rfl | rfl | h4
  · simp (decide := true) only [reduceIte] at *
    omega
  · simp (decide := true) only [reduceIte] at *
    omega
  · simp (decide := true) only [reduceIte] at *
    omega
  · simp (decide := true) only [reduceIte] at *
    omega
  · rw [if_neg (by omega), if_neg (by omega), if_neg (by omega), if_neg (by omega)] at *
    omega
theorem nC_mod (lo hi : Nat) : (lo + hi * nC) % nN = (lo + 4294967296 ^ 8 * hi) % nN := by
  have e : (4294967296 : Nat) ^ 8 = nC + nN := by decide
  rw [e, Nat.add_mul, Nat.mul_comm nC hi, ← Nat.add_assoc, Nat.add_mul_mod_self_left]
section MULN4
variable {Q : Unit → jH → Prop} {to : Nat} {H0 : jH}
/-- the order is taken off once, if it can be -/
theorem z8_mul364 {X : Nat} {w : Nat → Nat} (hs : jsh H0) (kt : jK H0 to = (100, 8)) (ht : 31 ≤ to) (nt : ¬ zSm to) (hw : zw8 H0 56 16 w) (hlt : nv 4294967296 w 8 < 4294967296 ^ 8)
    (hk : ∀ H' v, jfJ (· = to) H0 H' → zw8 H' to 8 v → nv 4294967296 v 8 = nv 4294967296 w 8 % nN → Q () H') :
    ∀ (d i fu : Nat) (db : Int) (z : Int64) (v : Nat → Nat) (H : jH), z = Int64.ofInt db → i + d = 8 → d < fu → jfJ (· = to) H0 H → zw8 H to i v → (db = 0 ∨ db = -1) → (nv 4294967296 w i : Int) - nv 4294967296 wN i = nv 4294967296 v i + db * 4294967296 ^ i →
      jT (F_8_multiply_364 fu 50 to z (Int32.ofNat i) H) Q := by
  have e8 : (4294967296 : Nat) ^ 8 = nC + nN := by decide
  have nt56 : (56 : Nat) ≠ to := fun e => nt (Or.inl e.symm)
  intro d
  induction d with
  | zero =>
    intro i fu db z v H hz0 hi hfu hfr hv hdb he
    subst hz0
    obtain ⟨fu, rfl⟩ : ∃ k, fu = k + 1 := ⟨fu - 1, by omega⟩
    obtain rfl : i = 8 := by omega
    unfold F_8_multiply_364 B_8_multiply_364 B_8_multiply_439
    have hsH := jsh_fJ hs hfr (fun a ha q => by omega)
    have hvl : nv 4294967296 v 8 < 4294967296 ^ 8 := nv_lt fun j hj => (hv j hj).2
    rw [wN_nv] at he
    have e8i : ((4294967296 : Int) ^ 8) = ((4294967296 ^ 8 : Nat) : Int) := by decide
    rw [e8i] at he
    have hCN : nC < nN := by decide
    refine jT_pos (by decide) ?_
    rcases hdb with rfl | rfl
    · refine jT_pos rfl (jT_ret (hk H v hfr hv ?_))
      have h1 : nv 4294967296 w 8 = nv 4294967296 v 8 + nN := by omega
      rw [h1, Nat.add_mod_right]
      exact (Nat.mod_eq_of_lt (by omega)).symm
    · refine jT_neg (by decide) (jT_g (by rw [sK_50 hsH]) ?_)
      rw [sR_50_6 hsH]
      have ktH : jK H to = (100, 8) := by rw [hfr.1, kt]
      have hwH : zw8 H 56 16 w := zw8_fJ hw hfr nt56
      refine jT_g ⟨by rw [sK_56 hsH], by rw [ktH], ht, by decide, by decide, by decide, by rw [sK_56 hsH]; decide, by rw [ktH]; decide⟩ (jT_l (jT_ret (hk _ w ?_ ?_ ?_)))
      · refine jfJ_trans hfr ⟨rfl, rfl, rfl, rfl, rfl, fun a ha j => ⟨rfl, jcpf_ne fun q => ha q.1⟩⟩
      · intro j hj
        have := hwH j (by omega)
        refine ⟨?_, this.2⟩
        show jcpf (jI H) 56 0 to 0 8 to j = _
        rw [jcpf_in (by omega) (by omega)]
        show jI H 56 (0 + (j - 0)) = _
        rw [show 0 + (j - 0) = j by omega]
        exact this.1
      · refine (Nat.mod_eq_of_lt ?_).symm
        omega
  | succ d ih =>
    intro i fu db z v H hz0 hi hfu hfr hv hdb he
    subst hz0
    obtain ⟨fu, rfl⟩ : ∃ k, fu = k + 1 := ⟨fu - 1, by omega⟩
    unfold F_8_multiply_364 B_8_multiply_364
    have hsH := jsh_fJ hs hfr (fun a ha q => by omega)
    have e1 : Int32.ofNat i + 1 = Int32.ofNat (i + 1) := jo_add (a := i) (b := 1)
    have ktH : jK H to = (100, 8) := by rw [hfr.1, kt]
    have vW := (zw8_fJ hw hfr nt56) i (by omega)
    have hN := wN_lt i
    refine jT_neg (by rw [show (8 : Int32) = Int32.ofNat 8 from rfl, jo_le (by omega) (by omega)]; omega) (jT_g (by rw [sK_50 hsH]) ?_)
    rw [sR_50_6 hsH, jo_nat (n := i) (by omega), vW.1, sSt8 hsH i (by omega), lw_of vW.2, lw_of hN]
    refine jT_g (gI (sK_56 hsH) (jo_in (by omega) (by omega))) (jT_g (gI (sK hsH (a := 8) (q := (100, 8)) rfl (by decide) (by decide)) (jo_in (by omega) (by omega))) ?_)
    obtain ⟨x, hx⟩ : ∃ x, x = db + ((w i : Int) - wN i) := ⟨_, rfl⟩
    have hw2 := vW.2
    refine jT_lo (e' := Int64.ofInt x) (by rw [hx, ← Int64.ofInt_eq_ofNat, ← Int64.ofInt_eq_ofNat, li_sub, li_add]) ?_
    have hq : x / 4294967296 = 0 ∨ x / 4294967296 = -1 := by omega
    have hi32 : Int64.toInt32 (Int64.ofInt x) = Int32.ofNat (x % 4294967296).toNat := by
      rw [Int64.toInt32_ofInt]
      refine Int32.toBitVec_inj.mp ?_
      show BitVec.ofInt 32 x = BitVec.ofNat 32 (x % 4294967296).toNat
      refine BitVec.eq_of_toNat_eq ?_
      rw [BitVec.toNat_ofInt, BitVec.toNat_ofNat]
      omega
    rw [hi32, li_shr32 (by omega) (by omega), e1]
    refine jT_g (gIw ktH ht (jo_in (by omega) (by omega))) (jT_l (jT_l (jT_l (ih (i + 1) fu (x / 4294967296) _ (nup v i (x % 4294967296).toNat) _ rfl (by omega) (by omega) (jfJ_sI hfr rfl) ?_ hq ?_))))
    · intro j hj
      unfold nup
      by_cases e : j = i
      · rw [if_pos e, e]
        exact ⟨jI_sIe, by omega⟩
      · rw [if_neg e]
        exact ⟨(jI_sIn e).trans (hv j (by omega)).1, (hv j (by omega)).2⟩
    · have e3 : nv 4294967296 (nup v i (x % 4294967296).toNat) (i + 1) = nv 4294967296 v i + (x % 4294967296).toNat * 4294967296 ^ i := by
        show nv 4294967296 (nup v i (x % 4294967296).toNat) i + nup v i (x % 4294967296).toNat i * 4294967296 ^ i = _
        rw [nv_ext (u := v) fun j hj => by unfold nup; rw [if_neg (by omega)], show nup v i (x % 4294967296).toNat i = (x % 4294967296).toNat from if_pos rfl]
      rw [e3]
      show ((nv 4294967296 w i + w i * 4294967296 ^ i : Nat) : Int) - ((nv 4294967296 wN i + wN i * 4294967296 ^ i : Nat) : Int) = _
      rw [Int.natCast_add, Int.natCast_add, Int.natCast_add, Int.natCast_mul, Int.natCast_mul, Int.natCast_mul, Int.toNat_of_nonneg (Int.emod_nonneg _ (by decide)), Int.pow_succ]
      have e4 : ((4294967296 ^ i : Nat) : Int) = 4294967296 ^ i := by rw [Int.natCast_pow]; rfl
      rw [e4]
      generalize (4294967296 : Int) ^ i = E at he ⊢
      have e5 := Int.emod_add_mul_ediv x 4294967296
      have e6 : x * E = (x % 4294967296) * E + x / 4294967296 * (E * 4294967296) := by
        have : x * E = (x % 4294967296 + 4294967296 * (x / 4294967296)) * E := by rw [e5]
        rw [this, Int.add_mul]
        congr 1
        rw [Int.mul_comm E, ← Int.mul_assoc, Int.mul_comm (x / 4294967296)]
      have e7 : x * E = db * E + w i * E - wN i * E := by
        rw [hx, Int.add_mul, Int.sub_mul]
        omega
      omega
theorem nv_high {w : Nat → Nat} (hlt : nv 4294967296 w 16 < 4294967296 ^ 8) : nv 4294967296 w 8 = nv 4294967296 w 16 := by
  have hcut : nv 4294967296 w 16 = nv 4294967296 w 8 + 4294967296 ^ 8 * nv 4294967296 (fun i => w (8 + i)) 8 := nv_cut (b := 4294967296) (w := w) (m := 8) 8
  generalize nv 4294967296 (fun i => w (8 + i)) 8 = x at hcut
  generalize nv 4294967296 w 8 = y at hcut ⊢
  generalize nv 4294967296 w 16 = z at hcut hlt ⊢
  rcases Nat.eq_zero_or_pos x with e | e
  · rw [e] at hcut
    omega
  · have h1 : 4294967296 ^ 8 * 1 ≤ 4294967296 ^ 8 * x := Nat.mul_le_mul_left _ e
    rw [Nat.mul_one] at h1
    generalize 4294967296 ^ 8 * x = q at hcut h1
    generalize 4294967296 ^ 8 = p at hlt h1
    omega
theorem z8_mul358 {X : Nat} (hs : jsh H0) (kt : jK H0 to = (100, 8)) (ht : 31 ≤ to) (nt : ¬ zSm to)
    (hk : ∀ H' v, jfJ (fun a => zSm a ∨ a = to) H0 H' → zw8 H' to 8 v → nv 4294967296 v 8 = X % nN → Q () H') (w : Nat → Nat) (H : jH) (hfr : jfJ zSm H0 H) (hw : zw8 H 56 16 w) (hX : nv 4294967296 w 16 % nN = X % nN) (hlt : nv 4294967296 w 16 < 4294967296 ^ 8) : jT (B_8_multiply_358 50 to H) Q := by
  unfold B_8_multiply_358
  have hsH := jsh_fJ hs hfr (fun a ha q => by rcases q with q | q <;> omega)
  have hlo := nv_high hlt
  refine z8_mul364 (X := X) hsH (by rw [hfr.1]; exact kt) ht nt hw (by rw [hlo]; exact hlt) (fun H' v hf hv he => hk H' v (jfJ_trans (jfJ_mono hfr fun a ha => Or.inl ha) (jfJ_mono hf fun a ha => Or.inr ha)) hv (by rw [he, hlo, hX])) 8 0 jfuel 0 0 (fun _ => 0) H (by decide) rfl (by unfold jfuel; omega) jfJ_refl (fun j hj => absurd hj (Nat.not_lt_zero j)) (Or.inl rfl) ?_
  exact rfl
theorem mB_8 {x : Nat} (h : x < mB 8) : x < 4294967296 ^ 8 := by
  have e : mB 8 = 4294967296 ^ 8 := by decide +kernel
  rw [e] at h
  exact h
/-- one turn's numbers -/
theorem mn_turn {t : Nat} {w h w1 : Nat → Nat} (hw : ∀ j, j < 16 → w j < 4294967296) (q1 : ∀ i, i < 8 → h i = w (8 + i)) (q2 : ∀ i, i < 8 → w1 i = w i) (q3 : ∀ i, i < 8 → w1 (8 + i) = 0) (hB : nv 4294967296 w 16 < mB t) :
    nv 4294967296 w1 16 + nv 4294967296 h 8 * nC < mB (t + 1) ∧ nv 4294967296 w1 16 + nv 4294967296 h 8 * nC < 4294967296 ^ 16 ∧ (nv 4294967296 w1 16 + nv 4294967296 h 8 * nC) % nN = nv 4294967296 w 16 % nN ∧ nv 4294967296 w1 16 < 4294967296 ^ 8 := by
  have hcut : nv 4294967296 w 16 = nv 4294967296 w 8 + 4294967296 ^ 8 * nv 4294967296 (fun i => w (8 + i)) 8 := nv_cut (b := 4294967296) (w := w) (m := 8) 8
  have hlo : nv 4294967296 w 8 < 4294967296 ^ 8 := nv_lt fun j hj => hw j (by omega)
  have eh : nv 4294967296 h 8 = nv 4294967296 (fun i => w (8 + i)) 8 := nv_ext q1
  have hcut1 : nv 4294967296 w1 16 = nv 4294967296 w1 8 + 4294967296 ^ 8 * nv 4294967296 (fun i => w1 (8 + i)) 8 := nv_cut (b := 4294967296) (w := w1) (m := 8) 8
  have ew1 : nv 4294967296 w1 16 = nv 4294967296 w 8 := by
    rw [hcut1, nv_zero (w := fun i => w1 (8 + i)) q3, nv_ext (w := w1) (u := w) q2, Nat.mul_zero, Nat.add_zero]
  rw [hcut, ← eh] at hB
  obtain ⟨n1, n2⟩ := mB_next (k := t) hlo hB
  rw [ew1, hcut, ← eh]
  exact ⟨n1, n2, nC_mod _ _, hlo⟩
theorem z8_mulg0 {k122 : Nat → Nat → Int32 → Int32 → jH → Option (Unit × jH)} {f t : Int32} {H : jH} (hf : f = 0) (h : jT (k122 50 to f (t + 1) H) Q) : jT (F_8_multiply_204 k122 jfuel 50 to f t 0 H) Q := by
  obtain ⟨fu2, efu⟩ : ∃ f, jfuel = f + 1 := ⟨4294967295, rfl⟩
  rw [efu]
  unfold F_8_multiply_204 B_8_multiply_204 B_8_multiply_352
  exact jT_neg (by decide) (jT_pos hf (jT_l h))
/-- the turns -/
theorem z8_mul122 {X : Nat} (hs : jsh H0) (kt : jK H0 to = (100, 8)) (ht : 31 ≤ to) (nt : ¬ zSm to)
    (hk : ∀ H' v, jfJ (fun a => zSm a ∨ a = to) H0 H' → zw8 H' to 8 v → nv 4294967296 v 8 = X % nN → Q () H') :
    ∀ (d t fu : Nat) (f : Int32) (w : Nat → Nat) (H : jH), t + d = 8 → d < fu → jfJ zSm H0 H → zw8 H 56 16 w → nv 4294967296 w 16 % nN = X % nN → nv 4294967296 w 16 < mB t → (f = 0 → nv 4294967296 w 16 < 4294967296 ^ 8) →
      jT (F_8_multiply_122 fu 50 to f (Int32.ofNat t) H) Q := by
  intro d
  induction d with
  | zero =>
    intro t fu f w H htd hfu hfr hw hX hB hf
    obtain ⟨fu, rfl⟩ : ∃ k, fu = k + 1 := ⟨fu - 1, by omega⟩
    obtain rfl : t = 8 := by omega
    unfold F_8_multiply_122 B_8_multiply_122
    exact jT_pos (by decide) (z8_mul358 hs kt ht nt hk w H hfr hw hX (mB_8 hB))
  | succ d ih =>
    intro t fu f w H htd hfu hfr hw hX hB hf
    obtain ⟨fu, rfl⟩ : ∃ k, fu = k + 1 := ⟨fu - 1, by omega⟩
    unfold F_8_multiply_122 B_8_multiply_122
    have hsH := jsh_fJ hs hfr (fun a ha q => by rcases q with q | q <;> omega)
    have e1 : Int32.ofNat t + 1 = Int32.ofNat (t + 1) := jo_add (a := t) (b := 1)
    refine jT_neg (by rw [show (8 : Int32) = Int32.ofNat 8 from rfl, jo_le (by omega) (by omega)]; omega) ?_
    by_cases hf0 : f = 0
    · exact jT_pos hf0 (z8_mul358 hs kt ht nt hk w H hfr hw hX (hf hf0))
    · refine jT_neg hf0 ?_
      refine z8_mul140 (w0 := w) hsH (fun H1 h w1 g f1 hh hw1 q1 q2 q3 q4 => ?_) 8 0 jfuel 0 (fun _ => 0) w H rfl (by unfold jfuel; omega) jfJ_refl (fun j hj => absurd hj (Nat.not_lt_zero j)) hw (fun j hj => absurd hj (Nat.not_lt_zero j)) (fun _ _ => rfl) (fun j hj => absurd hj (Nat.not_lt_zero j)) (fun _ _ _ => rfl) ⟨fun _ j hj => absurd hj (Nat.not_lt_zero j), fun _ => rfl⟩
      have hs1 := jsh_fJ hsH f1 (fun a ha q => by rcases q with q | q <;> omega)
      obtain ⟨n1, n2, n3, n4⟩ := mn_turn (t := t) (fun j hj => (hw j hj).2) q1 q2 q3 hB
      by_cases hg : g = 0
      · have hh0 : nv 4294967296 h 8 = 0 := nv_zero (q4.mp hg)
        rw [hh0, Nat.zero_mul, Nat.add_zero] at n1 n3
        refine z8_mulg0 hg ?_
        rw [e1]
        exact ih (t + 1) fu g w1 H1 (by omega) (by omega) (jfJ_trans hfr f1) hw1 (n3.trans hX) n1 (fun _ => n4)
      · refine z8_mul204 (w0 := w1) hg hs1 hh n2 (fun H2 w2 f2 hw2 hv2 => ?_) 8 0 jfuel w1 H1 rfl (by unfold jfuel; omega) jfJ_refl hw1 (by rw [show nv 4294967296 h 0 = 0 from rfl, Nat.zero_mul, Nat.add_zero])
        rw [e1]
        refine ih (t + 1) fu g w2 H2 (by omega) (by omega) (jfJ_trans hfr (jfJ_trans f1 (jfJ_mono f2 fun a ha => Or.inl ha))) hw2 ?_ ?_ (fun q => absurd q hg)
        · rw [hv2, n3, hX]
        · rw [hv2]
          exact n1
/-- the product modulo the order -/
theorem z8_mul {ra rb t ta tb : Nat} {A B : Nat → Nat} (e0 : t = to) (e1 : ta = ra) (e2 : tb = rb) (hs : jsh H0) (kt : jK H0 to = (100, 8)) (ht : 31 ≤ to) (nt : ¬ zSm to) (kA : jK H0 ra = (100, 8)) (kB : jK H0 rb = (100, 8)) (nA : ¬ zSm ra) (nB : ¬ zSm rb) (hA : zw8 H0 ra 8 A) (hB : zw8 H0 rb 8 B)
    (hk : ∀ H' v, jfJ (fun a => zSm a ∨ a = to) H0 H' → zw8 H' to 8 v → nv 4294967296 v 8 = nv 4294967296 A 8 * nv 4294967296 B 8 % nN → Q () H') : jT (F_8_multiply 50 t ta tb H0) Q := by
  subst e0
  subst e1
  subst e2
  unfold F_8_multiply
  have fill : ∀ H1, jfJ (· = 56) H0 H1 → (∀ j, j < 16 → jI H1 56 j = 0) → jT (F_8_multiply_11 jfuel 50 t ta tb 0 H1) Q := fun H1 f1 z1 => by
    have fm1 : jfJ zSm H0 H1 := jfJ_mono f1 fun a ha => Or.inl ha
    have loop : ∀ (d i fu : Nat) (w : Nat → Nat) (H : jH), i + d = 8 → d < fu → jfJ zSm H0 H → zw8 H 56 16 w → nv 4294967296 w 16 = nv 4294967296 A i * nv 4294967296 B 8 → (∀ k, i + 8 ≤ k → w k = 0) → jT (F_8_multiply_11 fu 50 t ta tb (Int32.ofNat i) H) Q := by
      intro d
      induction d with
      | zero =>
        intro i fu w H hi hfu hfr hw hv hz
        obtain ⟨fu, rfl⟩ : ∃ k, fu = k + 1 := ⟨fu - 1, by omega⟩
        obtain rfl : i = 8 := by omega
        unfold F_8_multiply_11 B_8_multiply_11
        have hsH := jsh_fJ hs hfr (fun a ha q => by rcases q with q | q <;> omega)
        have hlt : nv 4294967296 w 16 < 4294967296 ^ 16 := nv_lt fun j hj => (hw j hj).2
        exact jT_pos (by decide) (z8_mul122 (X := nv 4294967296 A 8 * nv 4294967296 B 8) hsH (by rw [hfr.1]; exact kt) ht nt (fun H' v hf hv' he => hk H' v (jfJ_trans (jfJ_mono hfr fun a ha => Or.inl ha) hf) hv' he) 8 0 jfuel 1 w H rfl (by unfold jfuel; omega) jfJ_refl hw (by rw [hv]) (by unfold mB; rw [if_pos rfl]; exact hlt) (fun q => absurd q (by decide)))
      | succ d ih =>
        intro i fu w H hi hfu hfr hw hv hz
        obtain ⟨fu, rfl⟩ : ∃ k, fu = k + 1 := ⟨fu - 1, by omega⟩
        unfold F_8_multiply_11 B_8_multiply_11
        have hsH := jsh_fJ hs hfr (fun a ha q => by rcases q with q | q <;> omega)
        refine jT_neg (by rw [show (8 : Int32) = Int32.ofNat 8 from rfl, jo_le (by omega) (by omega)]; omega) ?_
        refine z8_mul24 (w0 := w) (H0 := H) (by omega) hsH (by rw [hfr.1]; exact kA) (by rw [hfr.1]; exact kB) (zw8_fJ hA hfr nA) (zw8_fJ hB hfr nB) nA nB (fun k hk2 => hz k (by omega)) (fun H' w' hf hw' hv' hz' => ih (i + 1) fu w' H' (by omega) (by omega) (jfJ_trans hfr hf) hw' ?_ (fun k hk2 => hz' k (by omega))) 8 0 jfuel 0 w H rfl (by unfold jfuel; omega) jfJ_refl hw (by decide) ?_ (fun _ _ => rfl)
        · rw [hv', hv]
          show _ = (nv 4294967296 A i + A i * 4294967296 ^ i) * nv 4294967296 B 8
          rw [Nat.add_mul, Nat.mul_assoc (A i), Nat.mul_assoc (A i), Nat.mul_comm (4294967296 ^ i)]
        · show _ + 0 * _ = _ + A i * 0 * _
          rw [Nat.zero_mul, Nat.mul_zero, Nat.zero_mul]
    exact loop 8 0 jfuel (fun _ => 0) H1 rfl (by unfold jfuel; omega) fm1 (fun j hj => ⟨z1 j hj, show 0 < 4294967296 by decide⟩) (by rw [nv_zero fun _ _ => rfl]; show 0 = 0 * _; omega) (fun _ _ => rfl)
  refine jT_g (by rw [sK_50 hs]) (jT_b (zA_fillI (r := 56) (n := 16) (sR_50_6 hs) (sK_56 hs) (by decide) (by decide) fill))
end MULN4
