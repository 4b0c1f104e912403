/-! The reference's scripts: several signatures. -/
theorem w_ops_cons {st : w_R} {f n : Nat} : w_ops st f (n + 1) = w_tp st f :: w_ops st (f + 1) n := by
  unfold w_ops
  rw [List.range_succ_eq_map, List.map_cons, List.map_map]
  have e : (List.range n).map ((fun i => w_tp st (f + i)) ∘ Nat.succ) = (List.range n).map fun i => w_tp st (f + 1 + i) := List.map_congr_left fun i _ => by
    show w_tp st (f + (i + 1)) = w_tp st (f + 1 + i)
    rw [show f + (i + 1) = f + 1 + i by omega]
  rw [e]
  rfl
theorem w_mul_nil {fit : List UInt8 → List UInt8 → Bool} {ks : w_R} {left : Nat} : w_mul fit ks [] left = some (true, left) := by
  cases ks <;> rfl
theorem w_mul_cons {fit : List UInt8 → List UInt8 → Bool} {ks ss : w_R} {k s : List UInt8} {left : Nat} : w_mul fit (k :: ks) (s :: ss) left = if ks.length < ss.length then some (false, left) else if left = 0 then none else if fit s k = true then w_mul fit ks ss (left - 1) else w_mul fit ks (s :: ss) (left - 1) := by
  rw [w_mul]
section SEV14
variable {tb lk scr : List UInt8} {y : w_y} {inp : Nat} {S : w_S4} {lf : Nat} {Hs H : jH} {α : Type} {Q : α → jH → Prop} {fit : List UInt8 → List UInt8 → Bool}
theorem w_206V {k : Unit → jH → Option (α × jH)} {a1 a2 a3 a5 : Int32} (hy : w_V tb y inp lk Hs H) (hk : jT (k () H) Q) : jT (B_14_several_206 437 a1 a2 a3 a5 H) (fun x h => jT (k x h) Q) := by
  obtain ⟨f, f1, f2, f3⟩ := w_V6 hy
  unfold B_14_several_206
  refine jT_g (w_Vk hy) (jT_neg ?_ (jT_ret hk))
  rw [f3]
  intro q
  have := (jo_le (a := f) (b := 0) (by omega) (by decide)).mp q
  omega
theorem w_V6n (hy : w_V tb y inp lk Hs H) : ¬ jI H 437 6 = 0 := by
  obtain ⟨f, f1, f2, f3⟩ := w_V6 hy
  rw [f3]
  intro q
  have := (jo_eq (a := f) (b := 0) (by omega) (by decide)).mp q
  omega
theorem w_206 {k : Unit → jH → Option (α × jH)} {a1 : Int32} {n m a5 : Nat} (must b : Bool) (em : a1 = if must = true then 1 else 0) (hb5 : b = true ↔ a5 = 0) (h5 : a5 < 1000) (h : w_U tb y inp lk scr S lf Hs H) (hl : n + m + 3 ≤ S.1.length) (hb : S.1.length + S.2.1.length ≤ 60) (hk1 : (must = true → b = true) → ∀ H', w_U tb y inp lk scr (if must = true then w_dr S.1 (n + m + 3) else w_dr S.1 (n + m + 3) ++ [w_en (if b = true then 1 else 0)], S.2) lf Hs H' → jT (k () H') Q) (hk0 : must = true → b = false → ∀ H', w_V tb y inp lk Hs H' → jT (k () H') Q) : jT (B_14_several_206 437 a1 (Int32.ofNat n) (Int32.ofNat m) (Int32.ofNat a5) H) (fun x h => jT (k x h) Q) := by
  have e6 := h.1.2.1.2.2.2.1
  have e2 := h.1.2.1.1
  have h2 := w_U_Z h (w_Z_take (n := S.1.length - (n + m + 3)) h.1 (by omega))
  have es : Int32.ofNat S.1.length - (Int32.ofNat n + Int32.ofNat m + 3) = Int32.ofNat (S.1.length - (n + m + 3)) := by
    rw [show (3 : Int32) = Int32.ofNat 3 from rfl, jo_add, jo_add, jo_sub hl]
  unfold B_14_several_206 B_14_several_239 B_14_several_250
  rw [e6, e2, es]
  refine jT_g (w_Uk h) (jT_pos (by decide) (jT_g (w_Uk h) (jT_g (w_Uk h) (jT_l ?_))))
  generalize jsI H 437 2 (Int32.ofNat (S.1.length - (n + m + 3))) = H2 at *
  have l2 : (S.1.take (S.1.length - (n + m + 3))).length < 66 := by rw [List.length_take]; omega
  by_cases c : a5 = 0
  · refine jT_neg (fun q => q (by rw [c]; rfl)) ?_
    have ebt := hb5.mpr c
    exact w_end14 (k := fun _ h => some ((), h)) must b em (by rw [if_pos ebt]) h2 l2 (fun hm H3 h3 => jT_ret (hk1 hm H3 h3)) fun hm hf H3 hy => jT_ret (hk0 hm hf H3 hy)
  · refine jT_pos (fun q => c ((jo_eq (a := a5) (b := 0) (by omega) (by decide)).mp q)) ?_
    have ebt : ¬ b = true := fun q => c (hb5.mp q)
    exact w_end14 (k := fun _ h => some ((), h)) must b em (by rw [if_neg ebt]) h2 l2 (fun hm H3 h3 => jT_ret (hk1 hm H3 h3)) fun hm hf H3 hy => jT_ret (hk0 hm hf H3 hy)
/-- keys and signatures one after another -/
theorem w_sevL {k : Unit → jH → Option (α × jH)} {a1 : Int32} {n m : Nat} (must : Bool) (em : a1 = if must = true then 1 else 0) (hfit : ∀ sg ky, fit sg ky = true ↔ w_fit tb y inp lk sg ky) (hn : n ≤ 8) (hm : m ≤ 8) (hl : n + m + 3 ≤ S.1.length) (hb : S.1.length + S.2.1.length ≤ 60) :
    ∀ (a4 a5 lf fu : Nat) (H : jH), a4 ≤ n → a5 ≤ m → a4 + 1 < fu → w_U tb y inp lk scr S lf Hs H →
      (∀ b lf' H', w_mul fit (w_ops S.1 (2 + (n - a4)) a4) (w_ops S.1 (n + 3 + (m - a5)) a5) lf = some (b, lf') → (must = true → b = true) → w_U tb y inp lk scr (if must = true then w_dr S.1 (n + m + 3) else w_dr S.1 (n + m + 3) ++ [w_en (if b = true then 1 else 0)], S.2) lf' Hs H' → jT (k () H') Q) →
      (∀ H', (w_mul fit (w_ops S.1 (2 + (n - a4)) a4) (w_ops S.1 (n + 3 + (m - a5)) a5) lf = none ∨ (must = true ∧ ∃ lf', w_mul fit (w_ops S.1 (2 + (n - a4)) a4) (w_ops S.1 (n + 3 + (m - a5)) a5) lf = some (false, lf'))) → w_V tb y inp lk Hs H' → jT (k () H') Q) →
      jT (F_14_several_139 fu 437 a1 (Int32.ofNat n) (Int32.ofNat m) (Int32.ofNat a4) (Int32.ofNat a5) H) (fun x h => jT (k x h) Q) := by
  intro a4
  induction a4 with
  | zero =>
    intro a5 lf fu H h4 h5 hfu h hk1 hk0
    obtain ⟨fu, rfl⟩ : ∃ k, fu = k + 1 := ⟨fu - 1, by omega⟩
    unfold F_14_several_139 B_14_several_139
    have le0 : (Int32.ofNat a5 ≤ 0) ↔ a5 ≤ 0 := jo_le (a := a5) (b := 0) (by omega) (by decide)
    cases a5 with
    | zero =>
      have ew : w_mul fit (w_ops S.1 (2 + (n - 0)) 0) (w_ops S.1 (n + 3 + (m - 0)) 0) lf = some (true, lf) := w_mul_nil
      exact jT_pos (by decide) (w_206 must true em ⟨fun _ => rfl, fun _ => rfl⟩ (by decide) h hl hb (fun hm H' h' => hk1 true lf H' ew hm h') fun _ q => by cases q)
    | succ a5 =>
      have ew : w_mul fit (w_ops S.1 (2 + (n - 0)) 0) (w_ops S.1 (n + 3 + (m - (a5 + 1))) (a5 + 1)) lf = some (false, lf) := by
        rw [w_ops_cons]
        rfl
      refine jT_neg (by rw [le0]; omega) (jT_pos (by rw [jo_lt (by omega) (by omega)]; omega) (w_206 must false em ⟨fun q => (by cases q), fun q => (by omega)⟩ (by omega) h hl hb (fun hm H' h' => hk1 false lf H' ew hm h') fun hm _ H' hy => hk0 H' (Or.inr ⟨hm, lf, ew⟩) hy))
  | succ a4 ih =>
    intro a5 lf fu H h4 h5 hfu h hk1 hk0
    obtain ⟨fu, rfl⟩ : ∃ k, fu = k + 1 := ⟨fu - 1, by omega⟩
    unfold F_14_several_139 B_14_several_139
    have le0 : (Int32.ofNat a5 ≤ 0) ↔ a5 ≤ 0 := jo_le (a := a5) (b := 0) (by omega) (by decide)
    cases a5 with
    | zero =>
      have ew : w_mul fit (w_ops S.1 (2 + (n - (a4 + 1))) (a4 + 1)) (w_ops S.1 (n + 3 + (m - 0)) 0) lf = some (true, lf) := w_mul_nil
      exact jT_pos (by decide) (w_206 must true em ⟨fun _ => rfl, fun _ => rfl⟩ (by decide) h hl hb (fun hm H' h' => hk1 true lf H' ew hm h') fun _ q => by cases q)
    | succ a5 =>
      have ew : w_mul fit (w_ops S.1 (2 + (n - (a4 + 1))) (a4 + 1)) (w_ops S.1 (n + 3 + (m - (a5 + 1))) (a5 + 1)) lf = if a4 < a5 then some (false, lf) else if lf = 0 then none else if fit (w_tp S.1 (n + 3 + (m - (a5 + 1)))) (w_tp S.1 (2 + (n - (a4 + 1)))) = true then w_mul fit (w_ops S.1 (2 + (n - a4)) a4) (w_ops S.1 (n + 3 + (m - a5)) a5) (lf - 1) else w_mul fit (w_ops S.1 (2 + (n - a4)) a4) (w_ops S.1 (n + 3 + (m - (a5 + 1))) (a5 + 1)) (lf - 1) := by
        rw [w_ops_cons, w_ops_cons, w_mul_cons, w_ops_len, w_ops_len, show 2 + (n - (a4 + 1)) + 1 = 2 + (n - a4) by omega, show n + 3 + (m - (a5 + 1)) + 1 = n + 3 + (m - a5) by omega]
      refine jT_neg (by rw [le0]; omega) ?_
      by_cases c1 : a4 < a5
      · rw [if_pos c1] at ew
        refine jT_pos (by rw [jo_lt (by omega) (by omega)]; omega) (w_206 must false em ⟨fun q => (by cases q), fun q => (by omega)⟩ (by omega) h hl hb (fun hm H' h' => hk1 false lf H' ew hm h') fun hm _ H' hy => hk0 H' (Or.inr ⟨hm, lf, ew⟩) hy)
      · rw [if_neg c1] at ew
        have e6 := h.1.2.1.2.2.2.1
        have t1 : Int32.ofNat n + 1 + Int32.ofNat m - Int32.ofNat (a5 + 1) + 1 = Int32.ofNat (n + 1 + m - (a5 + 1) + 1) := by
          rw [show (1 : Int32) = Int32.ofNat 1 from rfl, jo_add, jo_add, jo_sub (by omega), jo_add]
        have t2 : Int32.ofNat n - Int32.ofNat (a4 + 1) + 1 = Int32.ofNat (n - (a4 + 1) + 1) := by
          rw [show (1 : Int32) = Int32.ofNat 1 from rfl, jo_sub (by omega), jo_add]
        have t3 : Int32.ofNat (a4 + 1) + -1 = Int32.ofNat a4 := by
          rw [← Int32.sub_eq_add_neg, w_sub1 (by omega), Nat.add_sub_cancel]
        have t4 : Int32.ofNat (a5 + 1) - 1 = Int32.ofNat a5 := by rw [w_sub1 (by omega), Nat.add_sub_cancel]
        rw [e6, t1, t2]
        refine jT_neg (by rw [jo_lt (by omega) (by omega)]; omega) (jT_g (w_Uk h) (jT_neg (fun q => q rfl) (jT_g (w_Uk h) ?_)))
        rw [z14_top (k := n + 1 + m - (a5 + 1) + 1) h.1 rfl (by omega), jb_ok]
        refine jT_g (w_Uk h) ?_
        rw [z14_top (k := n - (a4 + 1) + 1) h.1 rfl (by omega), jb_ok]
        have r1 := w_rowA h.1 (w_tp0 (S := S) (k := n + 1 + m - (a5 + 1) + 1) (by omega))
        have r2 := w_rowA h.1 (w_tp0 (S := S) (k := n - (a4 + 1) + 1) (by omega))
        rw [show n + 1 + m - (a5 + 1) + 1 + 1 = n + 3 + (m - (a5 + 1)) by omega] at r1
        rw [show n - (a4 + 1) + 1 + 1 = 2 + (n - (a4 + 1)) by omega] at r2
        refine jT_g (w_Uk h) (w_fit14 hfit h rfl rfl (by omega) (by omega) r1 r2 (fun lf0 x H1 ex h1 => ?_) fun lf0 H1 hy => ?_)
        · rw [if_neg (by omega)] at ew
          unfold B_14_several_198
          rw [t3, t4]
          cases hf : fit (w_tp S.1 (n + 3 + (m - (a5 + 1)))) (w_tp S.1 (2 + (n - (a4 + 1)))) with
          | true =>
            rw [if_pos hf] at ew
            rw [if_pos hf] at ex
            refine jT_neg (by rw [ex]; decide) (jT_l (ih a5 (lf - 1) fu H1 (by omega) (by omega) (by omega) h1 (fun b lf' H' e hm h' => hk1 b lf' H' (ew.trans e) hm h') fun H' e hy => hk0 H' ?_ hy))
            rcases e with e | ⟨e1, lf', e2⟩
            · exact Or.inl (ew.trans e)
            · exact Or.inr ⟨e1, lf', ew.trans e2⟩
          | false =>
            rw [if_neg (by rw [hf]; decide)] at ew
            rw [if_neg (by rw [hf]; decide)] at ex
            refine jT_pos ex (jT_l (ih (a5 + 1) (lf - 1) fu H1 (by omega) (by omega) (by omega) h1 (fun b lf' H' e hm h' => hk1 b lf' H' (ew.trans e) hm h') fun H' e hy => hk0 H' ?_ hy))
            rcases e with e | ⟨e1, lf', e2⟩
            · exact Or.inl (ew.trans e)
            · exact Or.inr ⟨e1, lf', ew.trans e2⟩
        · rw [if_pos lf0] at ew
          have fin := hk0 H1 (Or.inl ew) hy
          obtain ⟨fu, rfl⟩ : ∃ k, fu = k + 1 := ⟨fu - 1, by omega⟩
          unfold B_14_several_198 F_14_several_139 B_14_several_139
          refine jT_pos rfl (jT_l (jT_if (fun _ => w_206V hy fin) fun _ => jT_if (fun _ => w_206V hy fin) fun _ => jT_g (w_Vk hy) (jT_pos (w_V6n hy) (w_206V hy fin))))
end SEV14
