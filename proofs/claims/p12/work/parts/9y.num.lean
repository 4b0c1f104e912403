/-! Numbers as rows: the pure encoding; the class puts one. -/
def w_by : Nat → Nat → List UInt8
  | 0, _ => []
  | f + 1, r => if r = 0 then [] else UInt8.ofNat (r % 256) :: w_by f (r / 256)
def w_hi (l : List UInt8) : Nat := (l.getD (l.length - 1) 0).toNat
def w_enc (neg : Bool) (l : List UInt8) : List UInt8 :=
  if 128 ≤ w_hi l then l ++ [if neg = true then 128 else 0] else if neg = true ∧ l ≠ [] then l.take (l.length - 1) ++ [UInt8.ofNat (w_hi l + 128)] else l
def w_en (x : Int64) : List UInt8 := w_enc (decide (x < 0)) (w_by 6 x.toInt.natAbs)
theorem w_hi_lt (l : List UInt8) : w_hi l < 256 := u8_lt _
theorem w_hi_snoc {l : List UInt8} {u : UInt8} : w_hi (l ++ [u]) = u.toNat := by
  unfold w_hi
  rw [List.length_append, List.getD_eq_getElem?_getD, List.getElem?_append_right (by show l.length ≤ l.length + 1 - 1; omega), show l.length + [u].length - 1 - l.length = 0 by show l.length + 1 - 1 - l.length = 0; omega]
  rfl
theorem bm64 {v : Int} (h1 : -9223372036854775808 ≤ v) (h2 : v < 9223372036854775808) : v.bmod (2 ^ 64) = v :=
  (Int64.toInt_ofInt (n := v)).symm.trans (Int64.toInt_ofInt_of_le h1 h2)
/-- what a long is, by its number -/
theorem lo_pos {x : Int64} {m : Nat} (h : x.toInt = m) : x = Int64.ofNat m := by
  have hb := x.toInt_lt
  refine Int64.toInt_inj.mp ?_
  rw [h, Int64.toInt_ofNat_of_lt (by omega)]
theorem lo_abs {x : Int64} {m : Nat} (h : x.toInt.natAbs = m) (hm : m < 1099511627776) : jabsL x = Int64.ofNat m ∧ (0 ≤ x ↔ ¬ x < 0) ∧ (x < 0 ↔ x.toInt < 0) ∧ (0 ≤ x → x = Int64.ofNat m) ∧ (¬ 0 ≤ x → -x = Int64.ofNat m) ∧ (x < 0 → 0 < m) := by
  have e0 : (0 : Int64).toInt = 0 := rfl
  have hn : x.toInt < 0 → (-x).toInt = m := fun hx => by
    rw [Int64.toInt_neg, bm64 (by omega) (by omega)]
    omega
  have hp : 0 ≤ x.toInt → x = Int64.ofNat m := fun hx => lo_pos (by omega)
  have h1 : (x < 0 ↔ x.toInt < 0) := by rw [Int64.lt_iff_toInt_lt, e0]
  have h2 : (0 ≤ x ↔ 0 ≤ x.toInt) := by rw [Int64.le_iff_toInt_le, e0]
  have h3 : (0 < x ↔ 0 < x.toInt) := by rw [Int64.lt_iff_toInt_lt, e0]
  refine ⟨?_, ?_, h1, fun hx => hp (h2.mp hx), fun hx => lo_pos (hn (by rw [h2] at hx; omega)), fun hx => by rw [h1] at hx; omega⟩
  · unfold jabsL
    by_cases c : 0 < x
    · rw [if_pos c]
      exact hp (by have := h3.mp c; omega)
    · rw [if_neg c]
      by_cases c2 : x.toInt = 0
      · obtain rfl : x = 0 := Int64.toInt_inj.mp (c2.trans e0.symm)
        have : m = 0 := by rw [← h]; rfl
        rw [this]
        rfl
      · exact lo_pos (hn (by rw [h3] at c; omega))
  · rw [h1, h2]
    omega
theorem w_or128 {h : Nat} (hh : h < 128) : jbu (ji2b (Int32.ofNat h ||| 128)) = UInt8.ofNat (h + 128) := by
  have : ∀ k, k < 128 → jbu (ji2b (Int32.ofNat k ||| 128)) = UInt8.ofNat (k + 128) := by decide +kernel
  exact this h hh
theorem w_by_b {r : Nat} : jbu (ji2b (Int32.ofNat (r % 256))) = UInt8.ofNat (r % 256) := by
  have : ∀ k, k < 256 → jbu (ji2b (Int32.ofNat k)) = UInt8.ofNat k := by decide +kernel
  exact this _ (by omega)
theorem u8_of {r : Nat} : (UInt8.ofNat (r % 256)).toNat = r % 256 := by
  rw [UInt8.toNat_ofNat']
  exact Nat.mod_mod _ _
theorem zRow_snoc {H : jH} {r q n : Nat} {l : List UInt8} {v : UInt8} (h : zRow H r 0 l) (hq : q = l.length) (hn : n = q) : zRow (jsB H r n v) r 0 (l ++ [v]) := by
  subst hn
  subst hq
  have := zRow_set (v := v) h
  rw [Nat.zero_add] at this
  exact this
theorem zRow_pre {H : jH} {r q : Nat} {l k : List UInt8} (h : zRow H r q (l ++ k)) : zRow H r q l := fun i u hi => h i u (by
  obtain ⟨h1, -⟩ := List.getElem?_eq_some_iff.mp hi
  rw [List.getElem?_append_left h1]
  exact hi)
theorem w_last {l : List UInt8} (h : l ≠ []) : l.take (l.length - 1) ++ [l.getD (l.length - 1) 0] = l := by
  have hp : 0 < l.length := List.length_pos_iff.mpr h
  refine List.ext_getElem? fun i => ?_
  by_cases c : i < l.length - 1
  · rw [List.getElem?_append_left (by rw [List.length_take]; omega), List.getElem?_take, if_pos c]
  · rw [List.getElem?_append_right (by rw [List.length_take]; omega), List.length_take]
    by_cases c2 : i = l.length - 1
    · have e : l[l.length - 1]? = some (l.getD (l.length - 1) 0) := getD_of (by omega)
      rw [c2, show l.length - 1 - min (l.length - 1) l.length = 0 by omega, e]
      rfl
    · rw [List.getElem?_eq_none (by show 1 ≤ _; omega), List.getElem?_eq_none (by omega)]
section PUTN
variable {S : Nat} {st : List (List UInt8)} {H0 : jH} {Q : Unit → jH → Prop}
/-- what a put on a stack writes -/
def w_Sk (S : Nat) : Nat → Nat → Prop := fun a j => (a = S ∧ j = 2) ∨ (S + 2 ≤ a ∧ a ≤ S + 72)
theorem z9_num131 {H : jH} {it : List UInt8} (hs : jsh H) (hS : zS3 S) (h : zStk S st H0) (hl : st.length < 70) (hi : it.length ≤ 120) (hf : jfr (fun a _ => a = jR H0 (S + 1) st.length) H0 H) (hr : zRow H (jR H0 (S + 1) st.length) 0 it)
    (hk : ∀ H', jsh H' → zStk S (st ++ [it]) H' → jfr (w_Sk S) H0 H' → Q () H') : jT (B_9_putNumber_131 S (Int32.ofNat it.length) H) Q := by
  obtain ⟨k0, r0, r1, k1, k2, k3⟩ := sSt hs hS
  have h18 : 18 ≤ S ∧ S + 72 < 422 := by unfold zS3 at hS; omega
  obtain ⟨h1, h2, h3, h4, h5⟩ := h
  have hro := h3 st.length hl
  have i2 : jI H S 2 = Int32.ofNat st.length := (jfr_I hf (by omega)).trans h2
  have e1 : Int32.ofNat st.length + 1 = Int32.ofNat (st.length + 1) := jo_add (a := st.length) (b := 1)
  unfold B_9_putNumber_131
  simp only [i2, r1, jo_nat (n := st.length) (by omega)]
  have s1 : jsh (jsI H (S + 72) st.length (Int32.ofNat it.length)) := jsh_sI hs (by omega)
  have i3 : jI (jsI H (S + 72) st.length (Int32.ofNat it.length)) S 2 = Int32.ofNat st.length := (jI_sIa (by omega)).trans i2
  refine jT_g k0 (jT_g k0 (jT_g (gIw k2 (by omega) (jo_in (by omega) hl)) (jT_l ?_)))
  rw [i3, e1]
  refine jT_g (sSt s1 hS).1 (jT_g (sSt s1 hS).1 (jT_l (jT_ret (hk _ (jsh_sI s1 (by omega)) (zStk_snoc ⟨h1, h2, h3, h4, h5⟩ hl hi (fun k => jfr_R hf (by omega)) jI_sIe (fun k hkl => ?_) (fun k j hkl => ?_) ?_ ?_) ?_))))
  · exact (jI_sIa (by omega)).trans ((jI_sIn (by omega)).trans (jfr_I hf (by omega)))
  · exact jfr_B hf fun q => by have := h4 k st.length (by omega) hl q; omega
  · exact (jI_sIa (by omega)).trans jI_sIe
  · exact hr
  · exact jfr_sI (jfr_sI (jfr_mono hf fun a j q => Or.inr (by omega)) (Or.inr ⟨by omega, by omega⟩)) (Or.inl ⟨rfl, rfl⟩)
theorem z9_putNumber {x : Int64} (hx : x.toInt.natAbs < 1099511627776) (hs : jsh H0) (hS : zS3 S) (h : zStk S st H0) (hl : st.length < 70)
    (hk : ∀ H', jsh H' → zStk S (st ++ [w_en x]) H' → jfr (w_Sk S) H0 H' → Q () H') : jT (F_9_putNumber S x H0) Q := by
  obtain ⟨a1, a2, a3, a4, a5, a6⟩ := lo_abs rfl hx
  have h18 : 18 ≤ S ∧ S + 72 < 422 := by unfold zS3 at hS; omega
  have hro := h.2.2.1 st.length hl
  obtain ⟨k0, r0, r1, k1, k2, k3⟩ := sSt hs hS
  -- the end, with all digits written
  have fin : ∀ (H : jH) (L : List UInt8), L.length ≤ 6 → (x < 0 → L ≠ []) → jsh H → jfr (fun a _ => a = jR H0 (S + 1) st.length) H0 H → zRow H (jR H0 (S + 1) st.length) 0 L → (w_en x = w_enc (decide (x < 0)) L) → jT (B_9_putNumber_75 S x (jR H0 (S + 1) st.length) (Int32.ofNat L.length) (Int32.ofNat (w_hi L)) H) Q := by
    intro H L hL hne hsH hf hr hE
    have hh := w_hi_lt L
    have kr : jK H (jR H0 (S + 1) st.length) = (101, 120) := (sSt hsH hS).2.2.2.2.2 _ hro.1 hro.2
    have e128 : Int32.ofNat (w_hi L) < 128 ↔ w_hi L < 128 := by rw [show (128 : Int32) = Int32.ofNat 128 from rfl, jo_lt (by omega) (by omega)]
    unfold B_9_putNumber_75
    by_cases c : w_hi L < 128
    · refine jT_pos (e128.mpr c) ?_
      by_cases cx : 0 ≤ x
      · refine jT_pos cx (z9_num131 hsH hS h hl (by omega) hf hr fun H' s' z' f' => hk H' s' ?_ f')
        rw [hE]
        unfold w_enc
        rw [if_neg (by omega), if_neg fun q => (a2.mp cx) (of_decide_eq_true q.1)]
        exact z'
      · have cx2 : x < 0 := by rw [a2] at cx; exact Classical.not_not.mp cx
        have hn0 := hne cx2
        have hp : 0 < L.length := List.length_pos_iff.mpr hn0
        have em : Int32.ofNat L.length - 1 = Int32.ofNat (L.length - 1) := jo_sub (a := L.length) (b := 1) hp
        refine jT_neg cx (jT_neg (by rw [show (0 : Int32) = Int32.ofNat 0 from rfl, jo_le (by omega) (by omega)]; omega) ?_)
        rw [em, jo_nat (n := L.length - 1) (by omega), w_or128 c]
        refine jT_g (gA kr (jo_in (by omega) (by omega))) (jT_l ?_)
        have hlen : (L.take (L.length - 1) ++ [UInt8.ofNat (w_hi L + 128)]).length = L.length := by
          rw [List.length_append, List.length_take]
          show min (L.length - 1) L.length + 1 = L.length
          omega
        rw [← hlen]
        refine z9_num131 (it := L.take (L.length - 1) ++ [UInt8.ofNat (w_hi L + 128)]) (jsh_sB hsH) hS h hl (by omega) (jfr_sB hf rfl) ?_ fun H' s' z' f' => hk H' s' ?_ f'
        · rw [hlen]
          refine zRow_snoc (q := L.length - 1) ?_ (by rw [List.length_take]; omega) rfl
          rw [← w_last hn0] at hr
          exact zRow_pre hr
        · rw [hE]
          unfold w_enc
          rw [if_neg (by omega), if_pos ⟨decide_eq_true cx2, hn0⟩]
          exact z'
    · refine jT_neg (fun q => c (e128.mp q)) ?_
      have e1 : Int32.ofNat L.length + 1 = Int32.ofNat (L.length + 1) := jo_add (a := L.length) (b := 1)
      have go : ∀ (v : Int32) (u : UInt8), jbu (ji2b v) = u → u = (if decide (x < 0) = true then 128 else 0) → jT (B_9_putNumber_99 S (Int32.ofNat L.length) (jR H0 (S + 1) st.length) (Int32.ofNat L.length) v H) Q := fun v u hv hu => by
        unfold B_9_putNumber_99
        rw [jo_nat (n := L.length) (by omega), hv, e1]
        refine jT_g (gA kr (jo_in (by omega) (by omega))) (jT_l (jT_l ?_))
        have hlen : (L ++ [u]).length = L.length + 1 := List.length_append
        rw [← hlen]
        refine z9_num131 (it := L ++ [u]) (jsh_sB hsH) hS h hl (by omega) (jfr_sB hf rfl) (zRow_snoc hr rfl rfl) fun H' s' z' f' => hk H' s' ?_ f'
        rw [hE]
        unfold w_enc
        rw [if_pos (by omega), ← hu]
        exact z'
      by_cases cx : 0 ≤ x
      · exact jT_pos cx (go 0 0 (by decide) (by rw [if_neg fun q => (a2.mp cx) (of_decide_eq_true q)]))
      · have cx2 : x < 0 := by rw [a2] at cx; exact Classical.not_not.mp cx
        exact jT_neg cx (go 128 128 (by decide) (by rw [if_pos (decide_eq_true cx2)]))
  have loop : ∀ (f r fu : Nat) (l : List UInt8) (H : jH), r < 256 ^ f → l.length + f ≤ 6 → f < fu → (x < 0 → 0 < r ∨ l ≠ []) → jsh H → jfr (fun a _ => a = jR H0 (S + 1) st.length) H0 H → zRow H (jR H0 (S + 1) st.length) 0 l → (w_en x = w_enc (decide (x < 0)) (l ++ w_by f r)) → jT (F_9_putNumber_32 fu S x (jR H0 (S + 1) st.length) (Int64.ofNat r) (Int32.ofNat l.length) (Int32.ofNat (w_hi l)) H) Q := by
    intro f
    induction f with
    | zero =>
      intro r fu l H hr hl6 hfu hne hsH hf hz hE
      obtain ⟨fu, rfl⟩ : ∃ k, fu = k + 1 := ⟨fu - 1, by omega⟩
      obtain rfl : r = 0 := by rw [Nat.pow_zero] at hr; omega
      unfold F_9_putNumber_32 B_9_putNumber_32
      have : w_by 0 0 = [] := rfl
      rw [this, List.append_nil] at hE
      exact jT_pos (by decide) (fin H l (by omega) (fun q => (hne q).resolve_left (by omega)) hsH hf hz hE)
    | succ f ih =>
      intro r fu l H hr hl6 hfu hne hsH hf hz hE
      obtain ⟨fu, rfl⟩ : ∃ k, fu = k + 1 := ⟨fu - 1, by omega⟩
      unfold F_9_putNumber_32 B_9_putNumber_32
      have hr2 : r < 9223372036854775808 := by
        have : (256 : Nat) ^ (f + 1) ≤ 256 ^ 6 := Nat.pow_le_pow_right (by decide) (by omega)
        have e : (256 : Nat) ^ 6 = 281474976710656 := by decide +kernel
        omega
      by_cases c : r = 0
      · have : w_by (f + 1) r = [] := by unfold w_by; rw [if_pos c]
        rw [this, List.append_nil] at hE
        exact jT_pos ((lo_le0 hr2).mpr c) (fin H l (by omega) (fun q => (hne q).resolve_left (by omega)) hsH hf hz hE)
      · have eb : w_by (f + 1) r = UInt8.ofNat (r % 256) :: w_by f (r / 256) := by
          rw [w_by, if_neg c]
        have kr : jK H (jR H0 (S + 1) st.length) = (101, 120) := (sSt hsH hS).2.2.2.2.2 _ hro.1 hro.2
        have e1 : Int32.ofNat l.length + 1 = Int32.ofNat (l.length + 1) := jo_add (a := l.length) (b := 1)
        have e255 : Int64.toInt32 (Int64.ofNat r) &&& 255 = Int32.ofNat (r % 256) := by
          rw [lw_i32, show (255 : Int32) = Int32.ofNat (2 ^ 8 - 1) from rfl, jo_mask (by decide)]
          congr 1
          omega
        have esh : jushrL (Int64.ofNat r) 8 = Int64.ofNat (r / 256) := by
          rw [show (8 : Int32) = Int32.ofNat 8 from rfl, lw_ushr (by omega) (by decide)]
        refine jT_neg (fun q => c ((lo_le0 hr2).mp q)) (jT_neg (by rw [show (8 : Int32) = Int32.ofNat 8 from rfl, jo_le (by omega) (by omega)]; omega) ?_)
        rw [e255, jo_nat (n := l.length) (by omega), e1, esh]
        refine jT_l ?_
        rw [w_by_b]
        refine (jT_g (gA kr (jo_in (by omega) (by omega))) (jT_l (jT_l (jT_l ?_))))
        have hlen : (l ++ [UInt8.ofNat (r % 256)]).length = l.length + 1 := List.length_append
        have hh : w_hi (l ++ [UInt8.ofNat (r % 256)]) = r % 256 := by rw [w_hi_snoc, u8_of]
        have hp256 : r / 256 < 256 ^ f := by
          rw [Nat.pow_succ] at hr
          omega
        have hE2 : w_en x = w_enc (decide (x < 0)) (l ++ [UInt8.ofNat (r % 256)] ++ w_by f (r / 256)) := by
          rw [hE, eb, List.append_assoc]
          rfl
        have := ih (r / 256) fu (l ++ [UInt8.ofNat (r % 256)]) (jsB H (jR H0 (S + 1) st.length) l.length (UInt8.ofNat (r % 256))) hp256 (by omega) (by omega) (fun _ => Or.inr (by simp)) (jsh_sB hsH) (jfr_sB hf rfl) (zRow_snoc hz rfl rfl) hE2
        rw [hlen, hh] at this
        exact this
  unfold F_9_putNumber
  rw [h.2.1, r0, jo_nat (n := st.length) (by omega), a1]
  refine jT_g k0 (jT_pos (by rw [show (70 : Int32) = Int32.ofNat 70 from rfl, jo_lt (by omega) (by omega)]; exact hl) (jT_g k0 (jT_g k0 (jT_g (gA k1 (jo_in (by omega) hl)) (jT_l (jT_l ?_))))))
  exact loop 6 x.toInt.natAbs jfuel [] H0 (by have e : (256 : Nat) ^ 6 = 281474976710656 := by decide +kernel
                                              omega) (by decide) (by unfold jfuel; omega) (fun q => Or.inl (a6 q)) hs jfr_refl (fun i u hi => by rw [List.getElem?_nil] at hi; cases hi) rfl
end PUTN
