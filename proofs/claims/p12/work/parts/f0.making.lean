/-! Coins that are made twice, or too many of them: both. -/
def w_mk37 (cs : List w_cn) (d : Int32) (outs m : Nat) : Int32 := if 1500 < Int32.ofNat cs.length - d + Int32.ofNat outs then 37 else if Int32.ofNat m + d ≤ 3000 then 0 else 37
section F0
variable {o row s len m : Nat} {tb nm : List UInt8} {y : w_y} {cs : List w_cn} {H : jH} {d : Int32}
theorem z2_making {α : Type} {Q : α → jH → Prop} {k : Int32 → jH → Option (α × jH)} (hs : jsh H) (hy : w_ty tb y) (hx : w_x o row s len tb y nm H) (hCA : w_CA cs H) (h4 : jI H 392 4 = Int32.ofNat m) (hk1 : (∃ j, j < y.2.1.length ∧ w_fd cs nm j 0 ≠ none) → jT (k 36 H) Q) (hk0 : (∀ j, j < y.2.1.length → w_fd cs nm j 0 = none) → jT (k (w_mk37 cs d y.2.1.length m) H) Q) : jT (jb (F_2_faultOfMaking 392 o d H) k) Q := by
  have l8 : y.2.1.length ≤ 8 := (ztx_spec hy.1).2.1
  have k2 : (jK H 392).1 = 2 := gT (sK_392 hs)
  have h32 : nm.length = 32 := hx.2.2.2.2.2.2.2.1
  have r3 : jR H o 3 = o + 1 := hx.2.2.2.2.1
  have kn : jK H (o + 1) = (101, 32) := hx.2.2.2.2.2.1
  have hz : zRow H (o + 1) 0 nm := hx.2.2.2.2.2.2.1
  obtain ⟨⟨k10, -⟩, ⟨-, -, -, -, b5, b6⟩, -⟩ := hx
  have loop : ∀ (dd j fu : Nat), j + dd = y.2.1.length → dd < fu → (∀ i, i < j → w_fd cs nm i 0 = none) → jT (F_2_faultOfMaking_2 fu 392 o d (Int32.ofNat j) H) (fun x h => jT (k x h) Q) := by
    intro dd
    induction dd with
    | zero =>
      intro j fu hj hfu hp
      obtain ⟨fu, rfl⟩ : ∃ k, fu = k + 1 := ⟨fu - 1, by omega⟩
      have fin := hk0 fun i hi => hp i (by omega)
      unfold w_mk37 at fin
      unfold F_2_faultOfMaking_2 B_2_faultOfMaking_2 B_2_faultOfMaking_63 B_2_faultOfMaking_69
      rw [b5, b6, hCA.1, h4]
      refine jT_g k10 (jT_g rfl (jT_pos (by show Int32.ofNat y.2.1.length ≤ Int32.ofNat j; rw [jo_le (by omega) (by omega)]; omega) (jT_g k2 (jT_g k10 (jT_g rfl ?_)))))
      by_cases c1 : 1500 < Int32.ofNat cs.length - d + Int32.ofNat y.2.1.length
      · rw [if_pos c1] at fin
        exact jT_pos c1 (jT_ret fin)
      · rw [if_neg c1] at fin
        refine jT_neg c1 (jT_g k2 ?_)
        by_cases c2 : Int32.ofNat m + d ≤ 3000
        · rw [if_pos c2] at fin
          exact jT_pos c2 (jT_ret fin)
        · rw [if_neg c2] at fin
          exact jT_neg c2 (jT_ret fin)
    | succ dd ih =>
      intro j fu hj hfu hp
      obtain ⟨fu, rfl⟩ : ∃ k, fu = k + 1 := ⟨fu - 1, by omega⟩
      have e1 : Int32.ofNat j + 1 = Int32.ofNat (j + 1) := jo_add (a := j) (b := 1)
      have hf := z2_find (p := 0) (ix := j) hs hCA kn (by decide) (by decide) hz h32 (by omega)
      have hf' : F_2_find 392 (o + 1) 0 (Int32.ofNat j) H = some (w_fv (w_fd cs nm j 0), H) := hf
      unfold F_2_faultOfMaking_2 B_2_faultOfMaking_2
      rw [b5, b6, r3, hf', jb_ok, e1]
      refine jT_g k10 (jT_g rfl (jT_neg (by show ¬ Int32.ofNat y.2.1.length ≤ Int32.ofNat j; rw [jo_le (by omega) (by omega)]; omega) (jT_g k10 (jT_g k2 ?_))))
      cases hfd : w_fd cs nm j 0 with
      | none =>
        refine jT_pos (by decide) (jT_l (ih (j + 1) fu (by omega) (by omega) fun i hi => ?_))
        by_cases c : i = j
        · rw [c]
          exact hfd
        · exact hp i (by omega)
      | some q =>
        have := (w_fd_lt hfd).2
        have := hCA.2.1
        exact jT_neg (fun w => absurd ((jo_lt (a := q) (b := 0) (by omega) (by decide)).mp w) (by omega)) (jT_ret (hk1 ⟨j, by omega, by rw [hfd]; exact fun w => by cases w⟩))
  unfold F_2_faultOfMaking
  exact jT_b (loop y.2.1.length 0 jfuel (Nat.zero_add _) (by unfold jfuel; omega) fun i hi => absurd hi (Nat.not_lt_zero i))
end F0
