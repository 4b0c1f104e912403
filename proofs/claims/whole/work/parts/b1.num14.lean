/-! The reference's scripts: a number comes to the top. -/
theorem lo_div {a b : Nat} (ha : a < 9223372036854775808) (hb : b < 9223372036854775808) : Int64.ofNat a / Int64.ofNat b = Int64.ofNat (a / b) := by
  refine Int64.toInt_inj.mp ?_
  have e : ∀ {n : Nat}, n < 9223372036854775808 → (Int64.ofNat n).toInt = n := fun h => Int64.toInt_ofNat_of_lt h
  have hne : Int64.ofNat a ≠ Int64.minValue := by
    intro h
    have h2 := congrArg Int64.toInt h
    rw [e ha] at h2
    have h3 : Int64.minValue.toInt = -9223372036854775808 := rfl
    omega
  rw [Int64.toInt_div_of_ne_left _ _ hne, e ha, e hb, e (Nat.lt_of_le_of_lt (Nat.div_le_self a b) ha)]
  exact (Int.ofNat_tdiv a b).symm
theorem lo_sub {a b : Nat} (h : b ≤ a) : Int64.ofNat a - Int64.ofNat b = Int64.ofNat (a - b) := by
  obtain ⟨c, rfl⟩ := Nat.le.dest h
  rw [← lo_add, Nat.add_sub_cancel_left, Int64.add_comm, Int64.add_sub_cancel]
theorem lo_rem {a b : Nat} (ha : a < 9223372036854775808) (hb : b < 9223372036854775808) : jremL (Int64.ofNat a) (Int64.ofNat b) = Int64.ofNat (a % b) := by
  unfold jremL
  rw [lo_div ha hb, lo_mul, lo_sub (Nat.div_mul_le_self a b)]
  congr 1
  have := Nat.div_add_mod a b
  rw [Nat.mul_comm] at this
  omega
section NUM14
variable {scr : List UInt8} {S : w_S4} {lf : Nat} {H0 H : jH} {α : Type} {Q : α → jH → Prop}
/-- the bytes of a row that is being written -/
def w_br (H : jH) (k : Nat) (l : List UInt8) : Prop := ∀ (j : Nat) (u : UInt8), l[j]? = some u → jI H 438 (120 * k + j) = Int32.ofNat u.toNat
theorem w_br_snoc {H : jH} {k n : Nat} {l : List UInt8} {u : UInt8} {v : Int32} (h : w_br H k l) (hv : v = Int32.ofNat u.toNat) (hn : n = 120 * k + l.length) : w_br (jsI H 438 n v) k (l ++ [u]) := fun j w hj => by
  by_cases c : j < l.length
  · rw [List.getElem?_append_left c] at hj
    rw [jI_sIn (by omega)]
    exact h j w hj
  · rw [List.getElem?_append_right (by omega)] at hj
    obtain ⟨q1, -⟩ := List.getElem?_eq_some_iff.mp hj
    have q3 : j - l.length < 1 := q1
    obtain rfl : j = l.length := by omega
    rw [Nat.sub_self] at hj
    have q4 : u = w := Option.some.inj hj
    rw [← hn, jI_sIe, hv, q4]
def w_Rk (k : Nat) : Nat → Nat → Prop := fun a j => a = 438 ∧ 120 * k ≤ j ∧ j < 120 * k + 120
theorem z14_num130 {H1 : jH} {it : List UInt8} {k : Unit → jH → Option (α × jH)} (h : w_Z scr S lf H0 H) (hs : jsh H1) (hf : jfr (w_Rk S.1.length) H H1) (hi : it.length ≤ 120) (hl : S.1.length < 66) (hr : w_br H1 S.1.length it) (hk : ∀ H', w_Z scr (S.1 ++ [it], S.2) lf H0 H' → jT (k () H') Q) : jT (B_14_pushNumber_130 437 (Int32.ofNat it.length) H1) (fun x h => jT (k x h) Q) := by
  have e2 : jI H1 437 2 = Int32.ofNat S.1.length := (jfr_I hf (by unfold w_Rk; omega)).trans h.2.1.1
  have e3 : jI H1 437 3 = Int32.ofNat S.2.1.length := (jfr_I hf (by unfold w_Rk; omega)).trans h.2.1.2.1
  have l2 := h.2.2.1.2.2.2
  have e5 : Int32.ofNat S.1.length + 1 = Int32.ofNat (S.1.length + 1) := jo_add (a := S.1.length) (b := 1)
  unfold B_14_pushNumber_130
  simp only [e2, sR_437_1 hs, jo_nat (n := S.1.length) (by omega)]
  have s1 : jsh (jsI H1 439 S.1.length (Int32.ofNat it.length)) := jsh_sI hs (by decide)
  have e6 : jI (jsI H1 439 S.1.length (Int32.ofNat it.length)) 437 2 = Int32.ofNat S.1.length := (jI_sIa (by decide)).trans e2
  refine jT_g (k14 hs) (jT_g (k14 hs) (jT_g (gIw (sK_439 hs) (by decide) (jo_in (by omega) (by omega))) (jT_l ?_)))
  rw [e6, e5]
  have f2 : jfr (fun a j => w_Cf S.1.length a j ∨ (a = 437 ∧ j = 2)) H (jsI (jsI H1 439 S.1.length (Int32.ofNat it.length)) 437 2 (Int32.ofNat (S.1.length + 1))) := jfr_sI (jfr_sI (jfr_mono hf fun a j q => Or.inl (Or.inr q)) (Or.inl (Or.inl ⟨rfl, rfl⟩))) (Or.inr ⟨rfl, rfl⟩)
  refine jT_g (k14 s1) (jT_g (k14 s1) (jT_l (jT_ret (hk _ (w_Z_rows h (jsh_sI s1 (by decide)) f2 (fun a j q => by unfold w_Cf at q; omega) ?_ ?_ (zIts_snoc (zIts_fr h.2.2.1.1 f2 fun a j k hkl q => by unfold w_Cf at q; omega) ?_) (zIts_fr h.2.2.1.2.1 f2 fun a j k hkl q => by unfold w_Cf at q; omega) ?_ l2)))))
  · rw [jI_sIe, List.length_append]
    rfl
  · exact (jI_sIn (by decide)).trans ((jI_sIa (by decide)).trans e3)
  · rw [Nat.zero_add]
    exact ⟨hi, (jI_sIa (by decide)).trans jI_sIe, fun j u hj => (jI_sIa (by decide)).trans ((jI_sIa (by decide)).trans (hr j u hj))⟩
  · rw [List.length_append]
    show S.1.length + 1 ≤ 66
    omega
theorem w_num14 {k : Unit → jH → Option (α × jH)} {x : Int64} (hx : x.toInt.natAbs < 1099511627776) (h : w_Z scr S lf H0 H) (hl : S.1.length < 66) (hk : ∀ H', w_Z scr (S.1 ++ [w_en x], S.2) lf H0 H' → jT (k () H') Q) : jT (jb (F_14_pushNumber 437 x H) k) Q := by
  obtain ⟨a1, a2, a3, a4, a5, a6⟩ := lo_abs rfl hx
  have em : ∀ m j : Nat, (120 : Int32) * Int32.ofNat m + Int32.ofNat j = Int32.ofNat (120 * m + j) := fun m j => by rw [show (120 : Int32) = Int32.ofNat 120 from rfl, jo_mul, jo_add]
  have i2 : ∀ H1, jfr (w_Rk S.1.length) H H1 → jI H1 437 2 = Int32.ofNat S.1.length := fun H1 hf => (jfr_I hf (by unfold w_Rk; omega)).trans h.2.1.1
  -- the sign
  have g101 : ∀ (H1 : jH) (L : List UInt8), jsh H1 → jfr (w_Rk S.1.length) H H1 → L.length ≤ 7 → w_br H1 S.1.length L → (0 ≤ x → w_en x = L) → (x < 0 → L ≠ [] ∧ w_hi L < 128 ∧ w_en x = L.take (L.length - 1) ++ [UInt8.ofNat (w_hi L + 128)]) → jT (B_14_pushNumber_101 437 x (Int32.ofNat L.length) H1) (fun x h => jT (k x h) Q) := by
    intro H1 L hs hf hL hr hp hn
    unfold B_14_pushNumber_101
    by_cases cx : 0 ≤ x
    · have := hp cx
      rw [this] at hk
      exact jT_pos cx (z14_num130 h hs hf (by omega) hl hr hk)
    · have cx2 : x < 0 := by rw [a2] at cx; exact Classical.not_not.mp cx
      obtain ⟨n1, n2, n3⟩ := hn cx2
      have hpos : 0 < L.length := List.length_pos_iff.mpr n1
      have ej : (120 : Int32) * Int32.ofNat S.1.length + Int32.ofNat L.length - 1 = Int32.ofNat (120 * S.1.length + (L.length - 1)) := by
        rw [em, show (1 : Int32) = Int32.ofNat 1 from rfl, jo_sub (by omega), show 120 * S.1.length + L.length - 1 = 120 * S.1.length + (L.length - 1) by omega]
      have ev : jI H1 438 (120 * S.1.length + (L.length - 1)) = Int32.ofNat (w_hi L) := hr _ _ (getD_of (by omega))
      have e128 : Int32.ofNat (w_hi L) + 128 = Int32.ofNat (w_hi L + 128) := jo_add (a := w_hi L) (b := 128)
      simp only [i2 H1 hf, sR_437_0 hs, ej, jo_nat (n := 120 * S.1.length + (L.length - 1)) (by omega), ev, e128]
      refine jT_neg cx (jT_g (k14 hs) (jT_g (k14 hs) (jT_g (gA (sK_438 hs) (jo_in (by omega) (by omega))) (jT_g (gIw (sK_438 hs) (by decide) (jo_in (by omega) (by omega))) (jT_l ?_)))))
      have ll : (L.take (L.length - 1) ++ [UInt8.ofNat (w_hi L + 128)]).length = L.length := by
        rw [List.length_append, List.length_take]
        show min (L.length - 1) L.length + 1 = L.length
        omega
      rw [n3] at hk
      rw [← ll]
      refine z14_num130 h (jsh_sI hs (by decide)) (jfr_sI hf ⟨rfl, by omega, by omega⟩) (by omega) hl (w_br_snoc (fun j u hj => ?_) ?_ ?_) hk
      · rw [List.getElem?_take] at hj
        split at hj
        · exact hr j u hj
        · cases hj
      · rw [UInt8.toNat_ofNat', Nat.mod_eq_of_lt (by show w_hi L + 128 < 256; omega)]
      · rw [ll, List.length_take]
        omega
  -- the digits are written
  have fin : ∀ (H1 : jH) (L : List UInt8) (fu : Nat), L.length ≤ 6 → (x < 0 → L ≠ []) → jsh H1 → jfr (w_Rk S.1.length) H H1 → w_br H1 S.1.length L → w_en x = w_enc (decide (x < 0)) L → jT (F_14_pushNumber_16 (fu + 1) 437 x (Int64.ofNat 0) (Int32.ofNat L.length) H1) (fun x h => jT (k x h) Q) := by
    intro H1 L fu hL hne hs hf hr hE
    unfold F_14_pushNumber_16 B_14_pushNumber_16
    refine jT_pos (by decide) ?_
    have hh := w_hi_lt L
    by_cases c0 : L.length = 0
    · have hnil : L = [] := List.length_eq_zero_iff.mp c0
      have hxp : ¬ x < 0 := fun q => hne q hnil
      refine jT_pos (by rw [c0]; decide) (g101 H1 L hs hf (by omega) hr (fun _ => ?_) fun q => absurd q hxp)
      rw [hE, hnil]
      unfold w_enc
      rw [w_hi_nil, if_neg (by decide), if_neg (fun q => q.2 rfl)]
    · have ej : (120 : Int32) * Int32.ofNat S.1.length + Int32.ofNat L.length - 1 = Int32.ofNat (120 * S.1.length + (L.length - 1)) := by
        rw [em, show (1 : Int32) = Int32.ofNat 1 from rfl, jo_sub (by omega), show 120 * S.1.length + L.length - 1 = 120 * S.1.length + (L.length - 1) by omega]
      have ev : jI H1 438 (120 * S.1.length + (L.length - 1)) = Int32.ofNat (w_hi L) := hr _ _ (getD_of (by omega))
      simp only [i2 H1 hf, sR_437_0 hs, ej, jo_nat (n := 120 * S.1.length + (L.length - 1)) (by omega), ev]
      refine jT_neg (by rw [show (0 : Int32) = Int32.ofNat 0 from rfl, jo_le (by omega) (by omega)]; omega) (jT_g (k14 hs) (jT_g (k14 hs) (jT_g (gA (sK_438 hs) (jo_in (by omega) (by omega))) ?_)))
      by_cases c : w_hi L ≤ 127
      · refine jT_pos (by rw [show (127 : Int32) = Int32.ofNat 127 from rfl, jo_le (by omega) (by omega)]; exact c) (g101 H1 L hs hf (by omega) hr (fun q => ?_) fun q => ⟨hne q, by omega, ?_⟩)
        · rw [hE]
          unfold w_enc
          rw [if_neg (by omega), if_neg fun w => (a2.mp q) (of_decide_eq_true w.1)]
        · rw [hE]
          unfold w_enc
          rw [if_neg (by omega), if_pos ⟨decide_eq_true q, hne q⟩]
      · have e1 : Int32.ofNat L.length + 1 = Int32.ofNat (L.length + 1) := jo_add (a := L.length) (b := 1)
        rw [em, jo_nat (n := 120 * S.1.length + L.length) (by omega), e1]
        refine jT_neg (by rw [show (127 : Int32) = Int32.ofNat 127 from rfl, jo_le (by omega) (by omega)]; exact c) (jT_g (k14 hs) (jT_g (k14 hs) (jT_g (gIw (sK_438 hs) (by decide) (jo_in (by omega) (by omega))) (jT_l (jT_l ?_)))))
        have ll : (L ++ [(0 : UInt8)]).length = L.length + 1 := List.length_append
        rw [← ll]
        refine g101 _ (L ++ [(0 : UInt8)]) (jsh_sI hs (by decide)) (jfr_sI hf ⟨rfl, by omega, by omega⟩) (by omega) (w_br_snoc hr rfl rfl) (fun q => ?_) fun q => ⟨by simp, by rw [w_hi_snoc]; decide, ?_⟩
        · rw [hE]
          unfold w_enc
          rw [if_pos (by omega), if_neg fun w => (a2.mp q) (of_decide_eq_true w)]
        · rw [hE]
          unfold w_enc
          rw [if_pos (by omega), if_pos (decide_eq_true q), ll, w_hi_snoc, Nat.add_sub_cancel, List.take_left]
          rfl
  have loop : ∀ (f r fu : Nat) (l : List UInt8) (H1 : jH), r < 256 ^ f → l.length + f ≤ 6 → f + 1 < fu → (x < 0 → 0 < r ∨ l ≠ []) → jsh H1 → jfr (w_Rk S.1.length) H H1 → w_br H1 S.1.length l → w_en x = w_enc (decide (x < 0)) (l ++ w_by f r) → jT (F_14_pushNumber_16 fu 437 x (Int64.ofNat r) (Int32.ofNat l.length) H1) (fun x h => jT (k x h) Q) := by
    intro f
    induction f with
    | zero =>
      intro r fu l H1 hr hl6 hfu hne hs hf hz hE
      obtain ⟨fu, rfl⟩ : ∃ k, fu = k + 1 := ⟨fu - 1, by omega⟩
      obtain rfl : r = 0 := by rw [Nat.pow_zero] at hr; omega
      have : w_by 0 0 = [] := rfl
      rw [this, List.append_nil] at hE
      exact fin H1 l fu (by omega) (fun q => (hne q).resolve_left (by omega)) hs hf hz hE
    | succ f ih =>
      intro r fu l H1 hr hl6 hfu hne hs hf hz hE
      obtain ⟨fu, rfl⟩ : ∃ k, fu = k + 1 := ⟨fu - 1, by omega⟩
      have hr2 : r < 9223372036854775808 := by
        have : (256 : Nat) ^ (f + 1) ≤ 256 ^ 6 := Nat.pow_le_pow_right (by decide) (by omega)
        have e : (256 : Nat) ^ 6 = 281474976710656 := by decide +kernel
        omega
      by_cases c : r = 0
      · have : w_by (f + 1) r = [] := by unfold w_by; rw [if_pos c]
        rw [this, List.append_nil] at hE
        rw [c]
        exact fin H1 l fu (by omega) (fun q => (hne q).resolve_left (by omega)) hs hf hz hE
      · have eb : w_by (f + 1) r = UInt8.ofNat (r % 256) :: w_by f (r / 256) := by rw [w_by, if_neg c]
        have e1 : Int32.ofNat l.length + 1 = Int32.ofNat (l.length + 1) := jo_add (a := l.length) (b := 1)
        have erem : Int64.toInt32 (jremL (Int64.ofNat r) 256) = Int32.ofNat (r % 256) := by
          rw [show (256 : Int64) = Int64.ofNat 256 from rfl, lo_rem hr2 (by decide), lw_i32]
          congr 1
          omega
        have ediv : Int64.ofNat r / 256 = Int64.ofNat (r / 256) := lo_div (b := 256) hr2 (by decide)
        unfold F_14_pushNumber_16 B_14_pushNumber_16
        simp only [i2 H1 hf, sR_437_0 hs, em, erem, ediv, e1, jo_nat (n := 120 * S.1.length + l.length) (show 120 * S.1.length + l.length < 2147483648 by omega)]
        refine jT_neg (fun q => c ((lo_le0 hr2).mp q)) (jT_g (k14 hs) (jT_g (k14 hs) (jT_g (by decide) (jT_g (gIw (sK_438 hs) (by decide) (jo_in (by omega) (by omega))) (jT_l (jT_g (by decide) (jT_l (jT_l ?_))))))))
        have hlen : (l ++ [UInt8.ofNat (r % 256)]).length = l.length + 1 := List.length_append
        have hp256 : r / 256 < 256 ^ f := by
          rw [Nat.pow_succ] at hr
          omega
        have hE2 : w_en x = w_enc (decide (x < 0)) (l ++ [UInt8.ofNat (r % 256)] ++ w_by f (r / 256)) := by
          rw [hE, eb, List.append_assoc]
          rfl
        have := ih (r / 256) fu (l ++ [UInt8.ofNat (r % 256)]) (jsI H1 438 (120 * S.1.length + l.length) (Int32.ofNat (r % 256))) hp256 (by omega) (by omega) (fun _ => Or.inr (by simp)) (jsh_sI hs (by decide)) (jfr_sI hf ⟨rfl, by omega, by omega⟩) (w_br_snoc hz (by rw [u8_of]) rfl) hE2
        rw [hlen] at this
        exact this
  have go := loop 6 x.toInt.natAbs jfuel [] H (by have e : (256 : Nat) ^ 6 = 281474976710656 := by decide +kernel
                                                  omega) (by decide) (by unfold jfuel; omega) (fun q => Or.inl (a6 q)) h.1.1 jfr_refl (fun j u hj => by rw [List.getElem?_nil] at hj; cases hj) rfl
  unfold F_14_pushNumber B_14_pushNumber_12
  refine jT_b ?_
  by_cases cx : 0 ≤ x
  · refine jT_pos cx ?_
    have e := a4 cx
    have go2 : jT (F_14_pushNumber_16 jfuel 437 x (Int64.ofNat x.toInt.natAbs) 0 H) (fun x h => jT (k x h) Q) := go
    rw [← e] at go2
    exact go2
  · refine jT_neg cx ?_
    rw [a5 cx]
    exact go
theorem w_truth14 {k : Unit → jH → Option (α × jH)} {P : Prop} [Decidable P] {x : Int32} (ex : x = if P then 1 else 0) (h : w_Z scr S lf H0 H) (hl : S.1.length < 66) (hk : ∀ H', w_Z scr (S.1 ++ [w_en (if P then 1 else 0)], S.2) lf H0 H' → jT (k () H') Q) : jT (jb (F_14_pushTruth 437 x H) k) Q := by
  unfold F_14_pushTruth B_14_pushTruth_10
  refine jT_b ?_
  by_cases c : P
  · rw [if_pos c] at ex hk
    exact jT_neg (by rw [ex]; decide) (jT_g (w_Zk h) (w_num14 (by decide) h hl fun H' h' => jT_ret (hk H' h')))
  · rw [if_neg c] at ex hk
    exact jT_pos ex (jT_g (w_Zk h) (w_num14 (by decide) h hl fun H' h' => jT_ret (hk H' h')))
end NUM14
