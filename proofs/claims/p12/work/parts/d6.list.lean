/-! Lists in messages: both ways of checking them. -/
def w_isl (b : Nat → UInt8) (n lo hi wd : Nat) : Prop := 2 ≤ n ∧ lo ≤ (b 1).toNat ∧ (b 1).toNat ≤ hi ∧ n = 2 + wd * (b 1).toNat ∧ (wd = 33 → ∀ k, k < (b 1).toNat → (b (2 + 33 * k)).toNat = 1 ∨ (b (2 + 33 * k)).toNat = 2)
theorem jbs_small (u : UInt8) : (u.toNat < 128 ∧ jbs u = Int32.ofNat u.toNat) ∨ (128 ≤ u.toNat ∧ jbs u < 0) :=
  jb_u8 (fun u => (u.toNat < 128 ∧ jbs u = Int32.ofNat u.toNat) ∨ (128 ≤ u.toNat ∧ jbs u < 0)) (by decide +kernel) u
theorem jbs_12 (u : UInt8) : (jbs u = 1 ↔ u.toNat = 1) ∧ (jbs u = 2 ↔ u.toNat = 2) :=
  jb_u8 (fun u => (jbs u = 1 ↔ u.toNat = 1) ∧ (jbs u = 2 ↔ u.toNat = 2)) (by decide +kernel) u
section LIST
variable {H : jH} {Q : Int32 → jH → Prop}
theorem z11_isList {r len : Nat} (hk : jK H r = (101, len)) (hlen : len < 2147483648) (h1 : w_isl (jB H r) len 1 8 33 → Q 1 H) (h0 : ¬ w_isl (jB H r) len 1 8 33 → Q 0 H) : jT (F_11_isList r H) Q := by
  have k1 : (jK H r).1 = 101 := gT hk
  have k2 : Int32.ofNat (jK H r).2 = Int32.ofNat len := by rw [hk]
  have no : ¬ w_isl (jB H r) len 1 8 33 → jT (B_11_isList_36 H) Q := fun h => by
    unfold B_11_isList_36
    exact jT_g (Or.inl rfl) (jT_ret (h0 h))
  unfold F_11_isList
  rw [k2]
  refine jT_g k1 ?_
  by_cases c2 : 2 ≤ len
  rotate_left
  · refine jT_neg (by rw [show (2 : Int32) = Int32.ofNat 2 from rfl, jo_le (by decide) (by omega)]; exact c2) ?_
    unfold B_11_isList_13
    exact jT_pos (by decide) (no fun w => c2 w.1)
  refine jT_pos (by rw [show (2 : Int32) = Int32.ofNat 2 from rfl, jo_le (by decide) (by omega)]; exact c2) (jT_g (gA hk (jo_in (n := 1) (by decide) (by omega))) ?_)
  unfold B_11_isList_13
  rw [show (1 : Int32).toNatClampNeg = 1 from rfl]
  rcases jbs_small (jB H r 1) with ⟨b1, b2⟩ | ⟨b1, b2⟩
  rotate_left
  · refine jT_pos ?_ (no fun w => by have := w.2.2.1; omega)
    rw [Int32.lt_iff_toInt_lt] at b2 ⊢
    have e0 : (0 : Int32).toInt = 0 := rfl
    have e1 : (1 : Int32).toInt = 1 := rfl
    omega
  rw [b2, k2]
  by_cases c3 : (jB H r 1).toNat < 1
  · exact jT_pos (by rw [show (1 : Int32) = Int32.ofNat 1 from rfl, jo_lt (by omega) (by decide)]; exact c3) (no fun w => by have := w.2.1; omega)
  refine jT_neg (by rw [show (1 : Int32) = Int32.ofNat 1 from rfl, jo_lt (by omega) (by decide)]; exact c3) ?_
  by_cases c4 : 8 < (jB H r 1).toNat
  · exact jT_pos (by rw [show (8 : Int32) = Int32.ofNat 8 from rfl, jo_lt (by decide) (by omega)]; exact c4) (no fun w => by have := w.2.2.1; omega)
  have e33 : (2 : Int32) + 33 * Int32.ofNat (jB H r 1).toNat = Int32.ofNat (2 + 33 * (jB H r 1).toNat) := by
    rw [show (2 : Int32) = Int32.ofNat 2 from rfl, show (33 : Int32) = Int32.ofNat 33 from rfl, jo_mul, jo_add]
  rw [e33]
  refine jT_neg (by rw [show (8 : Int32) = Int32.ofNat 8 from rfl, jo_lt (by decide) (by omega)]; exact c4) (jT_g k1 ?_)
  by_cases c5 : len = 2 + 33 * (jB H r 1).toNat
  rotate_left
  · exact jT_neg (by rw [jo_eq (by omega) (by omega)]; exact c5) (no fun w => c5 w.2.2.2.1)
  refine jT_pos (by rw [← c5]) ?_
  have loop : ∀ (d k fu : Nat), k + d = (jB H r 1).toNat → d < fu → (∀ j, j < k → (jB H r (2 + 33 * j)).toNat = 1 ∨ (jB H r (2 + 33 * j)).toNat = 2) → jT (F_11_isList_40 fu r (Int32.ofNat (2 + 33 * k)) H) Q := by
    intro d
    induction d with
    | zero =>
      intro k fu hkd hfu hp
      obtain ⟨fu, rfl⟩ : ∃ k, fu = k + 1 := ⟨fu - 1, by omega⟩
      unfold F_11_isList_40 B_11_isList_40
      rw [k2]
      exact jT_g k1 (jT_pos (by rw [jo_le (by omega) (by omega)]; omega) (jT_g (Or.inr rfl) (jT_ret (h1 ⟨c2, by omega, by omega, c5, fun _ j hj => hp j (by omega)⟩))))
    | succ d ih =>
      intro k fu hkd hfu hp
      obtain ⟨fu, rfl⟩ : ∃ k, fu = k + 1 := ⟨fu - 1, by omega⟩
      have e1 : Int32.ofNat (2 + 33 * k) + 33 = Int32.ofNat (2 + 33 * (k + 1)) := by
        rw [show (33 : Int32) = Int32.ofNat 33 from rfl, jo_add, show 2 + 33 * k + 33 = 2 + 33 * (k + 1) by omega]
      have go : ((jB H r (2 + 33 * k)).toNat = 1 ∨ (jB H r (2 + 33 * k)).toNat = 2) → jT (B_11_isList_62 (F_11_isList_40 fu) r (Int32.ofNat (2 + 33 * k)) H) Q := fun hb => by
        unfold B_11_isList_62
        rw [e1]
        refine jT_l (ih (k + 1) fu (by omega) (by omega) fun j hj => ?_)
        by_cases c : j = k
        · rw [c]
          exact hb
        · exact hp j (by omega)
      obtain ⟨u1, u2⟩ := jbs_12 (jB H r (2 + 33 * k))
      unfold F_11_isList_40 B_11_isList_40
      rw [k2, jo_nat (n := 2 + 33 * k) (by omega)]
      refine jT_g k1 (jT_neg (by rw [jo_le (by omega) (by omega)]; omega) (jT_g (gA hk (jo_in (by omega) (by omega))) ?_))
      by_cases q1 : jbs (jB H r (2 + 33 * k)) = 1
      · exact jT_pos q1 (go (Or.inl (u1.mp q1)))
      · refine jT_neg q1 (jT_g (gA hk (jo_in (by omega) (by omega))) ?_)
        by_cases q2 : jbs (jB H r (2 + 33 * k)) = 2
        · exact jT_pos q2 (go (Or.inr (u2.mp q2)))
        · refine jT_neg q2 (jT_g (Or.inl rfl) (jT_ret (h0 fun w => ?_)))
          rcases w.2.2.2.2 rfl k (by omega) with w | w
          · exact q1 (u1.mpr w)
          · exact q2 (u2.mpr w)
  exact loop (jB H r 1).toNat 0 jfuel (by omega) (by unfold jfuel; omega) fun j hj => absurd hj (Nat.not_lt_zero j)
end LIST
