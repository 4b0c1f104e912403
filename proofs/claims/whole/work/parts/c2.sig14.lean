/-! The reference's scripts: signatures that are asked for. -/
def w_an (fit : List UInt8 → List UInt8 → Bool) (ks ss : w_R) (must : Bool) (n : Nat) (st : w_R) (left : Nat) : Option (w_R × Nat) :=
  (w_mul fit ks ss left).bind fun q => if must = true then (if q.1 = true then some (w_dr st n, q.2) else none) else some (w_dr st n ++ [w_en (if q.1 = true then 1 else 0)], q.2)
theorem w_ans_an {fit : List UInt8 → List UInt8 → Bool} {ks ss : w_R} {must : Bool} {n : Nat} {st : w_R} {left : Nat} {k : w_R → Nat → Option (w_R × Nat)} : w_ans fit ks ss must n st left k = (w_an fit ks ss must n st left).bind fun q => k q.1 q.2 := by
  unfold w_ans w_an
  cases w_mul fit ks ss left with
  | none => rfl
  | some q =>
    cases must with
    | false => rfl
    | true =>
      cases hq : q.1 with
      | false => simp [hq]
      | true => simp [hq]
theorem w_mul_1 {fit : List UInt8 → List UInt8 → Bool} {ky sg : List UInt8} {left : Nat} : w_mul fit [ky] [sg] left = if left = 0 then none else some (fit sg ky, left - 1) := by
  rw [w_mul]
  rw [if_neg (by decide)]
  by_cases c : left = 0
  · rw [if_pos c, if_pos c]
  · rw [if_neg c, if_neg c]
    cases hf : fit sg ky with
    | true =>
      rw [if_pos rfl]
      rfl
    | false =>
      rw [if_neg (by decide)]
      rfl
section SIG14
variable {tb lk scr : List UInt8} {y : w_y} {inp : Nat} {S : w_S4} {lf : Nat} {Hs H : jH} {α : Type} {Q : α → jH → Prop} {fit : List UInt8 → List UInt8 → Bool}
theorem w_Uk (h : w_U tb y inp lk scr S lf Hs H) : (jK H 437).1 = 14 := w_Zk h.1
theorem w_Vk (h : w_V tb y inp lk Hs H) : (jK H 437).1 = 14 := w_Yk h.1
theorem w_V6 (h : w_V tb y inp lk Hs H) : ∃ f : Nat, 1 ≤ f ∧ f ≤ 13 ∧ jI H 437 6 = Int32.ofNat f := h.1.2
/-- the truth is put, or must be -/
theorem w_end14 {k : Unit → jH → Option (α × jH)} {a1 x : Int32} (must b : Bool) (em : a1 = if must = true then 1 else 0) (ex : x = if b = true then 1 else 0) (h : w_U tb y inp lk scr S lf Hs H) (hl : S.1.length < 66) (hk1 : (must = true → b = true) → ∀ H', w_U tb y inp lk scr (if must = true then S.1 else S.1 ++ [w_en (if b = true then 1 else 0)], S.2) lf Hs H' → jT (k () H') Q) (hk0 : must = true → b = false → ∀ H', w_V tb y inp lk Hs H' → jT (k () H') Q) : jT (jg ((jK H 437).1 = 14) (jb (F_14_pushTruth 437 x H) fun _ h7 => if a1 = 0 then k () h7 else jg ((jK h7 437).1 = 14) (jb (F_14_mustBeTrue 437 h7) fun _ h9 => k () h9))) Q := by
  refine jT_g (w_Uk h) (w_truth14 (P := b = true) ex h.1 hl fun H2 h2 => ?_)
  have hU := w_U_Z h h2
  cases must with
  | false => exact jT_pos em (hk1 (fun q => by cases q) H2 hU)
  | true =>
    refine jT_neg (by rw [em]; decide) (jT_g (w_Uk hU) (w_must14 hU.1 (fun _ t H3 h3 => ?_) fun t H3 hy => ?_))
    · have t' : ztrue (w_tp (S.1 ++ [w_en (if b = true then 1 else 0)]) 1) = true := t
      have h3' : w_Z scr (w_dr (S.1 ++ [w_en (if b = true then 1 else 0)]) 1, S.2) lf H2 H3 := h3
      rw [w_tp_snoc] at t'
      rw [w_dr_snoc] at h3'
      cases b with
      | true => exact hk1 (fun _ => rfl) H3 (w_U_Z hU h3')
      | false =>
        rw [if_neg (by decide), w_en_t.2] at t'
        cases t'
    · cases b with
      | false => exact hk0 rfl rfl H3 (w_U_Y hU hy)
      | true =>
        exfalso
        refine t ⟨by show 1 ≤ (S.1 ++ [_]).length; rw [List.length_append]; exact Nat.le_add_left 1 _, ?_⟩
        show ztrue (w_tp (S.1 ++ [w_en (if True then 1 else 0)]) 1) = true
        rw [w_tp_snoc, if_pos trivial]
        exact w_en_t.1
theorem w_one15 {k : Unit → jH → Option (α × jH)} {a1 : Int32} (must : Bool) (em : a1 = if must = true then 1 else 0) (hfit : ∀ sg ky, fit sg ky = true ↔ w_fit tb y inp lk sg ky) (h : w_U tb y inp lk scr S lf Hs H) (hb : S.1.length + S.2.1.length ≤ 60)
    (hk1 : 2 ≤ S.1.length → ∀ st' lf' H', w_an fit [w_tp S.1 1] [w_tp S.1 2] must 2 S.1 lf = some (st', lf') → w_U tb y inp lk scr (st', S.2) lf' Hs H' → jT (k () H') Q) (hk0 : (S.1.length < 2 ∨ w_an fit [w_tp S.1 1] [w_tp S.1 2] must 2 S.1 lf = none) → ∀ H', w_V tb y inp lk Hs H' → jT (k () H') Q) : jT (jb (F_14_one 437 a1 H) k) Q := by
  unfold F_14_one B_14_one_55
  refine jT_b (jT_g (w_Uk h) (w_has14 (n := 2) h.1 rfl (by decide) (fun hl => ?_) fun hl H' hy => jT_neg (fun q => q rfl) (jT_ret (hk0 (Or.inl hl) H' (w_U_Y h hy)))))
  have ean : w_an fit [w_tp S.1 1] [w_tp S.1 2] must 2 S.1 lf = if lf = 0 then none else if must = true then (if fit (w_tp S.1 2) (w_tp S.1 1) = true then some (w_dr S.1 2, lf - 1) else none) else some (w_dr S.1 2 ++ [w_en (if fit (w_tp S.1 2) (w_tp S.1 1) = true then 1 else 0)], lf - 1) := by
    unfold w_an
    rw [w_mul_1]
    by_cases c : lf = 0
    · rw [if_pos c, if_pos c]
      rfl
    · rw [if_neg c, if_neg c]
      rfl
  refine jT_pos (by decide) (jT_g (w_Uk h) ?_)
  rw [z14_top (k := 1) (k' := 1) h.1 rfl (by omega), jb_ok]
  refine jT_g (w_Uk h) ?_
  rw [z14_top (k := 0) (k' := 0) h.1 rfl (by omega), jb_ok]
  refine jT_g (w_Uk h) (w_fit14 hfit h rfl rfl (by omega) (by omega) (w_rowA h.1 (w_tp0 (k := 1) (by omega))) (w_rowA h.1 (w_tp0 (k := 0) (by omega))) (fun lf0 x H1 ex h1 => ?_) fun lf0 H1 hy => ?_)
  rotate_left
  · obtain ⟨f, f1, f2, f3⟩ := w_V6 hy
    refine jT_g (w_Vk hy) (jT_neg ?_ (jT_ret (hk0 (Or.inr (by rw [ean, if_pos lf0])) H1 hy)))
    rw [f3]
    intro q
    have := (jo_le (a := f) (b := 0) (by omega) (by decide)).mp q
    omega
  rw [if_neg (by omega)] at ean
  have e6 := h1.1.2.1.2.2.2.1
  have e2 := h1.1.2.1.1
  have h2 := w_U_Z h1 (w_Z_take (n := S.1.length - 2) h1.1 (by omega))
  rw [e6, e2, w_sub2 hl]
  refine jT_g (w_Uk h1) (jT_pos (by decide) (jT_g (w_Uk h1) (jT_g (w_Uk h1) (jT_l ?_))))
  generalize jsI H1 437 2 (Int32.ofNat (S.1.length - 2)) = H2 at *
  refine w_end14 (k := fun _ h => some ((), h)) must (fit (w_tp S.1 2) (w_tp S.1 1)) em ex h2 (by show (S.1.take (S.1.length - 2)).length < 66; rw [List.length_take]; omega) (fun hm H3 h3 => jT_ret ?_) fun hm hf H3 hy => jT_ret (hk0 (Or.inr ?_) H3 hy)
  · cases must with
    | true =>
      have := hm rfl
      exact hk1 hl _ _ H3 (by rw [ean, if_pos rfl, if_pos this]; rfl) h3
    | false => exact hk1 hl _ _ H3 (by rw [ean, if_neg (by decide)]; rfl) h3
  · rw [ean, if_pos hm, if_neg (by rw [hf]; decide)]
end SIG14
