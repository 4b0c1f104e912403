/-! The reference's numbers: scaled; 2 to the power of 256 divided. -/
/-- what stands from the i-th digit on -/
def b_hi (w : Nat → Nat) (n i : Nat) : Nat := nv 256 (fun j => w (i + j)) (n - i)
theorem b_hi_0 {w : Nat → Nat} {n : Nat} : b_hi w n 0 = nv 256 w n := by
  unfold b_hi
  rw [Nat.sub_zero]
  exact nv_ext fun j _ => by rw [Nat.zero_add]
theorem b_hi_n {w : Nat → Nat} {n : Nat} : b_hi w n n = 0 := by
  unfold b_hi
  rw [Nat.sub_self]
  rfl
theorem b_hi_s {w : Nat → Nat} {n i : Nat} (h : i < n) : b_hi w n i = w i + 256 * b_hi w n (i + 1) := by
  unfold b_hi
  rw [show n - i = 1 + (n - (i + 1)) by omega, nv_cut]
  show (0 + w (i + 0) * 256 ^ 0) + 256 ^ 1 * _ = _
  rw [Nat.pow_zero, Nat.pow_one, Nat.zero_add, Nat.mul_one]
  congr 2
  exact nv_ext fun j _ => by rw [show i + (1 + j) = i + 1 + j by omega]
theorem b_hi_ext {w v : Nat → Nat} {n i : Nat} (h : ∀ j, i ≤ j → j < n → w j = v j) : b_hi w n i = b_hi v n i := by
  unfold b_hi
  exact nv_ext fun j hj => h (i + j) (by omega) (by omega)
theorem b_sc_alg {q z r l e : Nat} (h : 4800 * q + r = l * 256 + e) : (q + 256 * z) * 4800 + r = e + 256 * (z * 4800 + l) := by omega
section SC16
variable {α : Type} {Q : Unit → jH → Prop} {H0 : jH}
theorem y16_scale63 {e : Nat → Nat} (hz : zK16 H0) (he : ∀ i, i < 40 → e i < 256) (hk : ∀ H', jfr (b_Ta 452) H0 H' → r40 H' 452 (nv 256 e 40 / 4800) → Q () H') :
    ∀ (i fu l : Nat) (q : Nat → Nat) (H : jH), i ≤ 40 → i < fu → l < 4800 → jfr (b_Ta 452) H0 H → (∀ j, j < 40 → jI H 452 j = Int32.ofNat (if j < i then e j else q j)) → (∀ j, j < 40 → q j < 256) → b_hi q 40 i * 4800 + l = b_hi e 40 i → jT (F_16_scale_63 fu 445 4800 (Int64.ofNat l) (Int32.ofNat i - 1) H) Q := by
  intro i
  induction i with
  | zero =>
    intro fu l q H hi hfu hl hf hv hq hh
    obtain ⟨fu, rfl⟩ : ∃ k, fu = k + 1 := ⟨fu - 1, by omega⟩
    unfold F_16_scale_63 B_16_scale_63
    rw [b_hi_0, b_hi_0] at hh
    refine jT_pos (by decide) (jT_ret (hk H hf ⟨q, fun j hj => ⟨(hv j hj).trans (congrArg Int32.ofNat (if_neg (Nat.not_lt_zero j))), hq j hj⟩, ?_⟩))
    rw [← hh, Nat.mul_comm, Nat.mul_add_div (by decide), Nat.div_eq_of_lt hl, Nat.add_zero]
  | succ i ih =>
    intro fu l q H hi hfu hl hf hv hq hh
    obtain ⟨fu, rfl⟩ : ∃ k, fu = k + 1 := ⟨fu - 1, by omega⟩
    obtain ⟨a1, a2, a3, a4, a5, a6, a7, a8, a9⟩ := zK16_fr hz (jfr_mono hf (b_Ta16 (Or.inl rfl)))
    have e1 : Int32.ofNat (i + 1) - 1 = Int32.ofNat i := jo_sub (a := i + 1) (b := 1) (by omega)
    have e2 : Int32.ofNat i + (-1) = Int32.ofNat i - 1 := (Int32.sub_eq_add_neg _ _).symm
    have hei := he i (by omega)
    have ev : jI H 452 i = Int32.ofNat (e i) := (hv i (by omega)).trans (congrArg Int32.ofNat (if_pos (by omega)))
    have ex : Int64.ofNat l * 256 + Int32.toInt64 (Int32.ofNat (e i)) = Int64.ofNat (l * 256 + e i) := by
      rw [lo_of (by omega), show (256 : Int64) = Int64.ofNat 256 from rfl, lo_mul, lo_add]
    have g : jin (Int32.ofNat i) 40 := jo_in (by omega) (by omega)
    have eq : Int64.toInt32 (Int64.ofNat (l * 256 + e i) / 4800) = Int32.ofNat ((l * 256 + e i) / 4800) := by
      rw [show (4800 : Int64) = Int64.ofNat 4800 from rfl, lo_div (by omega) (by decide), lo_to32 (by omega)]
    have er : jremL (Int64.ofNat (l * 256 + e i)) 4800 = Int64.ofNat ((l * 256 + e i) % 4800) := lo_rem (b := 4800) (by omega) (by decide)
    unfold F_16_scale_63 B_16_scale_63
    rw [e1, a3, a7, jo_nat (n := i) (by omega), ev, e2]
    refine jT_neg (by show ¬ _ < Int32.ofNat 0; rw [jo_lt (by omega) (by decide)]; omega) (jT_g a1 (jT_g ⟨rfl, g⟩ (jT_l (jT_g a1 (jT_g (by decide) (jT_g ⟨rfl, by decide, g⟩ ?_))))))
    rw [ex, eq, er]
    refine jT_l (jT_g (by decide) (jT_l (jT_l (ih fu _ (nup q i ((l * 256 + e i) / 4800)) _ (by omega) (by omega) (Nat.mod_lt _ (by decide)) (jfr_sI hf rfl) (fun j hj => ?_) (fun j hj => ?_) ?_))))
    · by_cases c : j = i
      · rw [c, if_neg (Nat.lt_irrefl _)]
        unfold nup
        rw [if_pos rfl]
        exact jI_sIe
      · refine (jI_sIn c).trans ((hv j hj).trans ?_)
        unfold nup
        rw [if_neg c]
        by_cases c2 : j < i
        · rw [if_pos c2, if_pos (by omega)]
        · rw [if_neg c2, if_neg (by omega)]
    · unfold nup
      split
      · omega
      · exact hq j hj
    · have h1 := b_hi_s (w := nup q i ((l * 256 + e i) / 4800)) (n := 40) (i := i) (by omega)
      have h2 := b_hi_s (w := e) (n := 40) (i := i) (by omega)
      have h3 : b_hi (nup q i ((l * 256 + e i) / 4800)) 40 (i + 1) = b_hi q 40 (i + 1) := b_hi_ext fun j h1 h2 => by
        unfold nup
        rw [if_neg (by omega)]
      have h4 : nup q i ((l * 256 + e i) / 4800) i = (l * 256 + e i) / 4800 := by
        unfold nup
        rw [if_pos rfl]
      rw [h1, h2, h3, h4, ← hh]
      exact b_sc_alg (Nat.div_add_mod (l * 256 + e i) 4800)
theorem y16_scale {by_ n : Nat} (hz : zK16 H0) (hb : by_ < 65536) (hn : r40 H0 452 n) (hlt : n * by_ < 256 ^ 40) (hk : ∀ H', jfr (b_Ta 452) H0 H' → r40 H' 452 (n * by_ / 4800) → Q () H') : jT (F_16_scale 445 (Int64.ofNat by_) 4800 H0) Q := by
  obtain ⟨d, d1, d2⟩ := hn
  have loop : ∀ (dd i fu c : Nat) (e : Nat → Nat) (H : jH), i + dd = 40 → dd < fu → c < 65536 → jfr (b_Ta 452) H0 H → (∀ j, j < 40 → jI H 452 j = Int32.ofNat (if j < i then e j else d j)) → (∀ j, j < i → e j < 256) → nv 256 e i + c * 256 ^ i = nv 256 d i * by_ → jT (F_16_scale_6 fu 445 (Int64.ofNat by_) 4800 (Int64.ofNat c) (Int32.ofNat i) H) Q := by
    intro dd
    induction dd with
    | zero =>
      intro i fu c e H hi hfu hc hf hv he hh
      obtain ⟨fu, rfl⟩ : ∃ k, fu = k + 1 := ⟨fu - 1, by omega⟩
      obtain rfl : i = 40 := by omega
      rw [d2] at hh
      have c0 : c = 0 := by
        cases c with
        | zero => rfl
        | succ c =>
          rw [Nat.add_mul, Nat.one_mul] at hh
          generalize 256 ^ 40 = z at hh hlt
          generalize c * z = y at hh
          omega
      rw [c0, Nat.zero_mul, Nat.add_zero] at hh
      unfold F_16_scale_6 B_16_scale_6
      refine jT_pos (by decide) ?_
      have h0 : b_hi (fun _ => 0) 40 40 * 4800 + 0 = b_hi e 40 40 := by rw [b_hi_n, b_hi_n]
      refine y16_scale63 (H0 := H0) (e := e) hz (fun j hj => he j hj) (fun H' f' r' => hk H' f' (by rw [← hh]; exact r')) 40 jfuel 0 (fun _ => 0) H (Nat.le_refl _) (by unfold jfuel; omega) (by decide) hf (fun j hj => (hv j hj).trans (by rw [if_pos hj, if_pos hj])) (fun _ _ => by decide) h0
    | succ dd ih =>
      intro i fu c e H hi hfu hc hf hv he hh
      obtain ⟨fu, rfl⟩ : ∃ k, fu = k + 1 := ⟨fu - 1, by omega⟩
      obtain ⟨a1, a2, a3, a4, a5, a6, a7, a8, a9⟩ := zK16_fr hz (jfr_mono hf (b_Ta16 (Or.inl rfl)))
      have e1 : Int32.ofNat i + 1 = Int32.ofNat (i + 1) := jo_add (a := i) (b := 1)
      have hdi := (d1 i (by omega)).2
      have ev : jI H 452 i = Int32.ofNat (d i) := (hv i (by omega)).trans (congrArg Int32.ofNat (if_neg (Nat.lt_irrefl _)))
      have hm : d i * by_ ≤ 255 * 65535 := Nat.mul_le_mul (by omega) (by omega)
      have ex : Int32.toInt64 (Int32.ofNat (d i)) * Int64.ofNat by_ + Int64.ofNat c = Int64.ofNat (d i * by_ + c) := by
        rw [lo_of (by omega), lo_mul, lo_add]
      have g : jin (Int32.ofNat i) 40 := jo_in (by omega) (by omega)
      have er : Int64.toInt32 (jremL (Int64.ofNat (d i * by_ + c)) 256) = Int32.ofNat ((d i * by_ + c) % 256) := by
        have : jremL (Int64.ofNat (d i * by_ + c)) 256 = Int64.ofNat ((d i * by_ + c) % 256) := lo_rem (b := 256) (by omega) (by decide)
        rw [this, lo_to32 (by omega)]
      have eq : Int64.ofNat (d i * by_ + c) / 256 = Int64.ofNat ((d i * by_ + c) / 256) := lo_div (b := 256) (by omega) (by decide)
      unfold F_16_scale_6 B_16_scale_6
      rw [a3, a7, jo_nat (n := i) (by omega), ev, e1]
      refine jT_neg (by show ¬ Int32.ofNat 40 ≤ _; rw [jo_le (by decide) (by omega)]; omega) (jT_g a1 (jT_g ⟨rfl, g⟩ (jT_l (jT_g a1 (jT_g (by decide) (jT_g ⟨rfl, by decide, g⟩ ?_))))))
      rw [ex, er, eq]
      refine jT_l (jT_g (by decide) (jT_l (jT_l (ih (i + 1) fu _ (nup e i ((d i * by_ + c) % 256)) _ (by omega) (by omega) (by omega) (jfr_sI hf rfl) (fun j hj => ?_) (fun j hj => ?_) ?_))))
      · by_cases cj : j = i
        · rw [cj, if_pos (Nat.lt_succ_self _)]
          unfold nup
          rw [if_pos rfl]
          exact jI_sIe
        · refine (jI_sIn cj).trans ((hv j hj).trans ?_)
          unfold nup
          rw [if_neg cj]
          by_cases c2 : j < i
          · rw [if_pos c2, if_pos (by omega)]
          · rw [if_neg c2, if_neg (by omega)]
      · unfold nup
        split
        · omega
        · exact he j (by omega)
      · have h1 : nv 256 (nup e i ((d i * by_ + c) % 256)) (i + 1) = nv 256 e i + (d i * by_ + c) % 256 * 256 ^ i := by
          have hx : nv 256 (nup e i ((d i * by_ + c) % 256)) i = nv 256 e i := nv_ext fun j hj => by
            unfold nup
            rw [if_neg (by omega)]
          show nv 256 (nup e i ((d i * by_ + c) % 256)) i + nup e i ((d i * by_ + c) % 256) i * 256 ^ i = _
          rw [hx]
          unfold nup
          rw [if_pos rfl]
        have h2 : nv 256 d (i + 1) = nv 256 d i + d i * 256 ^ i := rfl
        rw [h1, h2, Nat.add_mul, ← hh, Nat.pow_succ]
        have hdm := Nat.div_add_mod (d i * by_ + c) 256
        have e3 : d i * 256 ^ i * by_ = d i * by_ * 256 ^ i := by rw [Nat.mul_right_comm]
        rw [e3]
        generalize d i * by_ = x at hdm ⊢
        generalize (x + c) / 256 = y at hdm ⊢
        generalize (x + c) % 256 = z at hdm ⊢
        have e4 : (256 * y + z) * 256 ^ i = (x + c) * 256 ^ i := by rw [hdm]
        rw [Nat.add_mul, Nat.add_mul] at e4
        have e5 : y * (256 ^ i * 256) = 256 * y * 256 ^ i := by
          rw [Nat.mul_comm (256 ^ i) 256, ← Nat.mul_assoc, Nat.mul_comm y 256]
        rw [e5]
        omega
  unfold F_16_scale
  refine loop 40 0 jfuel 0 (fun _ => 0) H0 rfl (by unfold jfuel; omega) (by decide) jfr_refl (fun j hj => (d1 j hj).1.trans (congrArg Int32.ofNat (if_neg (Nat.not_lt_zero j)).symm)) (fun j hj => absurd hj (Nat.not_lt_zero j)) ?_
  show 0 + 0 * 256 ^ 0 = 0 * by_
  rw [Nat.zero_mul, Nat.zero_mul]
end SC16
