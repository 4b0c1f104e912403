/-! Lists in messages: both ways of checking them. -/
def w_isl (b : Nat → UInt8) (n lo hi wd : Nat) : Prop := 2 ≤ n ∧ lo ≤ (b 1).toNat ∧ (b 1).toNat ≤ hi ∧ n = 2 + wd * (b 1).toNat ∧ (wd = 33 → ∀ k, k < (b 1).toNat → (b (2 + 33 * k)).toNat = 1 ∨ (b (2 + 33 * k)).toNat = 2)
theorem jbs_small (u : UInt8) : (u.toNat < 128 ∧ jbs u = Int32.ofNat u.toNat) ∨ (128 ≤ u.toNat ∧ jbs u < 0) :=
  jb_u8 (fun u => (u.toNat < 128 ∧ jbs u = Int32.ofNat u.toNat) ∨ (128 ≤ u.toNat ∧ jbs u < 0)) (by decide +kernel) u
theorem jbs_12 (u : UInt8) : (jbs u = 1 ↔ u.toNat = 1) ∧ (jbs u = 2 ↔ u.toNat = 2) :=
  jb_u8 (fun u => (jbs u = 1 ↔ u.toNat = 1) ∧ (jbs u = 2 ↔ u.toNat = 2)) (by decide +kernel) u
section LIST
variable {H : jH} {Q : Int32 → jH → Prop}
theorem z11_isList {r len : Nat} (hk : jK H r = (101, len)) (hlen : len < 2147483648) (h1 : w_isl (jB H r) len 1 8 33 → Q 1 H) (h0 : ¬ w_isl (jB H r) len 1 8 33 → Q 0 H) : jT (F_11_isList r H) Q := by
  have k1 : (jK H r).1 = 101 := gT hk
  have k2 : Int32.ofNat (jK H r).2 = Int32.ofNat len := by rw [hk]
  have no : ¬ w_isl (jB H r) len 1 8 33 → jT (B_11_isList_36 H) Q := fun h => by
    unfold B_11_isList_36
    exact jT_g (Or.inl rfl) (jT_ret (h0 h))
  unfold F_11_isList
  rw [k2]
  refine jT_g k1 ?_
  by_cases c2 : 2 ≤ len
  rotate_left
  · refine jT_neg (by rw [show (2 : Int32) = Int32.ofNat 2 from rfl, jo_le (by decide) (by omega)]; exact c2) ?_
    unfold B_11_isList_13
    exact jT_pos (by decide) (no fun w => c2 w.1)
  refine jT_pos (by rw [show (2 : Int32) = Int32.ofNat 2 from rfl, jo_le (by decide) (by omega)]; exact c2) (jT_g (gA hk (jo_in (n := 1) (by decide) (by omega))) ?_)
  unfold B_11_isList_13
  rw [show (1 : Int32).toNatClampNeg = 1 from rfl]
  rcases jbs_small (jB H r 1) with ⟨b1, b2⟩ | ⟨b1, b2⟩
  rotate_left
  · refine jT_pos ?_ (no fun w => by have := w.2.2.1; omega)
    rw [Int32.lt_iff_toInt_lt] at b2 ⊢
    have e0 : (0 : Int32).toInt = 0 := rfl
    have e1 : (1 : Int32).toInt = 1 := rfl
    omega
  rw [b2, k2]
  by_cases c3 : (jB H r 1).toNat < 1
  · exact jT_pos (by rw [show (1 : Int32) = Int32.ofNat 1 from rfl, jo_lt (by omega) (by decide)]; exact c3) (no fun w => by have := w.2.1; omega)
  refine jT_neg (by rw [show (1 : Int32) = Int32.ofNat 1 from rfl, jo_lt (by omega) (by decide)]; exact c3) ?_
  by_cases c4 : 8 < (jB H r 1).toNat
  · exact jT_pos (by rw [show (8 : Int32) = Int32.ofNat 8 from rfl, jo_lt (by decide) (by omega)]; exact c4) (no fun w => by have := w.2.2.1; omega)
  have e33 : (2 : Int32) + 33 * Int32.ofNat (jB H r 1).toNat = Int32.ofNat (2 + 33 * (jB H r 1).toNat) := by
    rw [show (2 : Int32) = Int32.ofNat 2 from rfl, show (33 : Int32) = Int32.ofNat 33 from rfl, jo_mul, jo_add]
  rw [e33]
  refine jT_neg (by rw [show (8 : Int32) = Int32.ofNat 8 from rfl, jo_lt (by decide) (by omega)]; exact c4) (jT_g k1 ?_)
  by_cases c5 : len = 2 + 33 * (jB H r 1).toNat
  rotate_left
  · exact jT_neg (by rw [jo_eq (by omega) (by omega)]; exact c5) (no fun w => c5 w.2.2.2.1)
  refine jT_pos (by rw [← c5]) ?_
  have loop : ∀ (d k fu : Nat), k + d = (jB H r 1).toNat → d < fu → (∀ j, j < k → (jB H r (2 + 33 * j)).toNat = 1 ∨ (jB H r (2 + 33 * j)).toNat = 2) → jT (F_11_isList_40 fu r (Int32.ofNat (2 + 33 * k)) H) Q := by
    intro d
    induction d with
    | zero =>
      intro k fu hkd hfu hp
      obtain ⟨fu, rfl⟩ : ∃ k, fu = k + 1 := ⟨fu - 1, by omega⟩
      unfold F_11_isList_40 B_11_isList_40
      rw [k2]
      exact jT_g k1 (jT_pos (by rw [jo_le (by omega) (by omega)]; omega) (jT_g (Or.inr rfl) (jT_ret (h1 ⟨c2, by omega, by omega, c5, fun _ j hj => hp j (by omega)⟩))))
    | succ d ih =>
      intro k fu hkd hfu hp
      obtain ⟨fu, rfl⟩ : ∃ k, fu = k + 1 := ⟨fu - 1, by omega⟩
      have e1 : Int32.ofNat (2 + 33 * k) + 33 = Int32.ofNat (2 + 33 * (k + 1)) := by
        rw [show (33 : Int32) = Int32.ofNat 33 from rfl, jo_add, show 2 + 33 * k + 33 = 2 + 33 * (k + 1) by omega]
      have go : ((jB H r (2 + 33 * k)).toNat = 1 ∨ (jB H r (2 + 33 * k)).toNat = 2) → jT (B_11_isList_62 (F_11_isList_40 fu) r (Int32.ofNat (2 + 33 * k)) H) Q := fun hb => by
        unfold B_11_isList_62
        rw [e1]
        refine jT_l (ih (k + 1) fu (by omega) (by omega) fun j hj => ?_)
        by_cases c : j = k
        · rw [c]
          exact hb
        · exact hp j (by omega)
      obtain ⟨u1, u2⟩ := jbs_12 (jB H r (2 + 33 * k))
      unfold F_11_isList_40 B_11_isList_40
      rw [k2, jo_nat (n := 2 + 33 * k) (by omega)]
      refine jT_g k1 (jT_neg (by rw [jo_le (by omega) (by omega)]; omega) (jT_g (gA hk (jo_in (by omega) (by omega))) ?_))
      by_cases q1 : jbs (jB H r (2 + 33 * k)) = 1
      · exact jT_pos q1 (go (Or.inl (u1.mp q1)))
      · refine jT_neg q1 (jT_g (gA hk (jo_in (by omega) (by omega))) ?_)
        by_cases q2 : jbs (jB H r (2 + 33 * k)) = 2
        · exact jT_pos q2 (go (Or.inr (u2.mp q2)))
        · refine jT_neg q2 (jT_g (Or.inl rfl) (jT_ret (h0 fun w => ?_)))
          rcases w.2.2.2.2 rfl k (by omega) with w | w
          · exact q1 (u1.mpr w)
          · exact q2 (u2.mpr w)
  exact loop (jB H r 1).toNat 0 jfuel (by omega) (by unfold jfuel; omega) fun j hj => absurd hj (Nat.not_lt_zero j)
theorem z18_isList {n lo hi wd N : Nat} {n' lo' hi' wd' : Int32} (hs : jsh H) (kN : jK H 506 = (101, N)) (hN : n ≤ N) (hN2 : 2 ≤ N) (hN3 : N < 2147483648) (en : n' = Int32.ofNat n) (el : lo' = Int32.ofNat lo) (eh : hi' = Int32.ofNat hi) (ew : wd' = Int32.ofNat wd) (hlo : lo < 100) (hhi : hi < 100) (hwd : wd < 100) (hn : n < 2147483648) (h1 : w_isl (jB H 506) n lo hi wd → Q 1 H) (h0 : ¬ w_isl (jB H 506) n lo hi wd → Q 0 H) : jT (F_18_isList 421 n' lo' hi' wd' H) Q := by
  subst en
  subst el
  subst eh
  subst ew
  have k421 : (jK H 421).1 = 18 := gT (sK_421 hs)
  have no : ¬ w_isl (jB H 506) n lo hi wd → jT (B_18_isList_40 H) Q := fun h => by
    unfold B_18_isList_40
    exact jT_g (Or.inl rfl) (jT_ret (h0 h))
  unfold F_18_isList
  rw [sR_421_47 hs, show (1 : Int32).toNatClampNeg = 1 from rfl]
  by_cases c2 : n < 2
  · exact jT_pos (by rw [show (2 : Int32) = Int32.ofNat 2 from rfl, jo_lt hn (by decide)]; exact c2) (no fun w => by have := w.1; omega)
  have gB1 : (jK H 506).1 = 101 ∧ jin 1 (jK H 506).2 := gA kN (jo_in (n := 1) (by decide) (by omega))
  refine jT_neg (by rw [show (2 : Int32) = Int32.ofNat 2 from rfl, jo_lt hn (by decide)]; exact c2) (jT_g k421 (jT_g gB1 ?_))
  rcases jbs_small (jB H 506 1) with ⟨b1, b2⟩ | ⟨b1, b2⟩
  rotate_left
  · have bn : (jbs (jB H 506 1)).toInt < 0 := by
      rw [Int32.lt_iff_toInt_lt] at b2
      exact b2
    by_cases c3 : jbs (jB H 506 1) < Int32.ofNat lo
    · exact jT_pos c3 (no fun w => by have := w.2.2.1; omega)
    · exfalso
      rw [Int32.lt_iff_toInt_lt, Int32.toInt_ofNat_of_lt (by omega)] at c3
      omega
  rw [b2]
  by_cases c3 : (jB H 506 1).toNat < lo
  · exact jT_pos (by rw [jo_lt (by omega) (by omega)]; exact c3) (no fun w => by have := w.2.1; omega)
  refine jT_neg (by rw [jo_lt (by omega) (by omega)]; exact c3) (jT_g k421 (jT_g gB1 ?_))
  by_cases c4 : hi < (jB H 506 1).toNat
  · exact jT_pos (by rw [jo_lt (by omega) (by omega)]; exact c4) (no fun w => by have := w.2.2.1; omega)
  have ewd : (2 : Int32) + Int32.ofNat wd * Int32.ofNat (jB H 506 1).toNat = Int32.ofNat (2 + wd * (jB H 506 1).toNat) := by
    rw [show (2 : Int32) = Int32.ofNat 2 from rfl, jo_mul, jo_add]
  have hmul : wd * (jB H 506 1).toNat ≤ 100 * 128 := Nat.mul_le_mul (by omega) (by omega)
  rw [ewd]
  refine jT_neg (by rw [jo_lt (by omega) (by omega)]; exact c4) (jT_g k421 (jT_g gB1 ?_))
  by_cases c5 : n = 2 + wd * (jB H 506 1).toNat
  rotate_left
  · exact jT_neg (by rw [jo_eq hn (by omega)]; exact c5) (no fun w => c5 w.2.2.2.1)
  refine jT_pos (by rw [← c5]) ?_
  have ew33 : (Int32.ofNat wd = 33 ↔ wd = 33) := jo_eq (a := wd) (b := 33) (by omega) (by decide)
  have loop : ∀ (d k fu : Nat) (g : Bool), k + d = (jB H 506 1).toNat → d < fu → (wd = 33 → (g = true ↔ ∀ j, j < k → (jB H 506 (2 + 33 * j)).toNat = 1 ∨ (jB H 506 (2 + 33 * j)).toNat = 2)) → (wd ≠ 33 → g = true) → jT (F_18_isList_48 fu 421 (Int32.ofNat wd) (if g = true then 1 else 0) (Int32.ofNat k) H) Q := by
    intro d
    induction d with
    | zero =>
      intro k fu g hkd hfu hp hp2
      obtain ⟨fu, rfl⟩ : ∃ k, fu = k + 1 := ⟨fu - 1, by omega⟩
      unfold F_18_isList_48 B_18_isList_48 B_18_isList_116
      rw [sR_421_47 hs, show (1 : Int32).toNatClampNeg = 1 from rfl, b2]
      refine jT_g k421 (jT_g gB1 (jT_pos (by rw [jo_le (by omega) (by omega)]; omega) ?_))
      cases g with
      | true => exact jT_g (Or.inr rfl) (jT_ret (h1 ⟨by omega, by omega, by omega, c5, fun w j hj => (hp w).mp rfl j (by omega)⟩))
      | false =>
        refine jT_g (Or.inl rfl) (jT_ret (h0 fun w => ?_))
        by_cases q : wd = 33
        · have := (hp q).mpr fun j hj => w.2.2.2.2 q j (by omega)
          cases this
        · have := hp2 q
          cases this
    | succ d ih =>
      intro k fu g hkd hfu hp hp2
      obtain ⟨fu, rfl⟩ : ∃ k, fu = k + 1 := ⟨fu - 1, by omega⟩
      unfold F_18_isList_48 B_18_isList_48 B_18_isList_116
      rw [sR_421_47 hs, show (1 : Int32).toNatClampNeg = 1 from rfl, b2]
      refine jT_g k421 (jT_g gB1 (jT_neg (by rw [jo_le (by omega) (by omega)]; omega) ?_))
      by_cases q : wd = 33
      rotate_left
      · have eg := hp2 q
        subst eg
        exact jT_pos (fun w => q (ew33.mp w)) (jT_g (Or.inr rfl) (jT_ret (h1 ⟨by omega, by omega, by omega, c5, fun w => absurd w q⟩)))
      refine jT_neg (fun w => w (ew33.mpr q)) ?_
      have hp' := hp q
      have e1 : Int32.ofNat k + 1 = Int32.ofNat (k + 1) := jo_add (a := k) (b := 1)
      have go : ∀ (g' : Bool) (v : Int32), v = (if g' = true then 1 else 0) → (g' = true ↔ g = true ∧ ((jB H 506 (2 + 33 * k)).toNat = 1 ∨ (jB H 506 (2 + 33 * k)).toNat = 2)) → jT (B_18_isList_108 (F_18_isList_48 fu) 421 (Int32.ofNat wd) (Int32.ofNat k) v H) Q := fun g' v ev hg' => by
        unfold B_18_isList_108
        rw [e1, ev]
        refine jT_l (ih (k + 1) fu g' (by omega) (by omega) (fun _ => ?_) fun w => absurd q w)
        rw [hg', hp']
        refine ⟨fun ⟨w1, w2⟩ j hj => ?_, fun w => ⟨fun j hj => w j (by omega), w k (by omega)⟩⟩
        by_cases c : j = k
        · rw [c]
          exact w2
        · exact w1 j (by omega)
      unfold B_18_isList_107 B_18_isList_103
      cases g with
      | false => exact jT_pos (by decide) (go false 0 rfl ⟨fun w => (by cases w), fun w => (by cases w.1)⟩)
      | true =>
        have e33 : (2 : Int32) + 33 * Int32.ofNat k = Int32.ofNat (2 + 33 * k) := by
          rw [show (2 : Int32) = Int32.ofNat 2 from rfl, show (33 : Int32) = Int32.ofNat 33 from rfl, jo_mul, jo_add]
        obtain ⟨u1, u2⟩ := jbs_12 (jB H 506 (2 + 33 * k))
        have gk : (jK H 506).1 = 101 ∧ jin (Int32.ofNat (2 + 33 * k)) (jK H 506).2 := gA kN (jo_in (by omega) (by rw [q] at c5; omega))
        rw [e33, jo_nat (n := 2 + 33 * k) (by omega)]
        refine jT_neg (by decide) (jT_g k421 (jT_g gk ?_))
        by_cases q1 : jbs (jB H 506 (2 + 33 * k)) = 1
        · exact jT_pos q1 (go true 1 rfl ⟨fun _ => ⟨rfl, Or.inl (u1.mp q1)⟩, fun _ => rfl⟩)
        · refine jT_neg q1 (jT_g k421 (jT_g gk ?_))
          by_cases q2 : jbs (jB H 506 (2 + 33 * k)) = 2
          · exact jT_neg (fun w => w q2) (go true 1 rfl ⟨fun _ => ⟨rfl, Or.inr (u2.mp q2)⟩, fun _ => rfl⟩)
          · exact jT_pos q2 (go false 0 rfl ⟨fun w => (by cases w), fun w => w.2.elim (fun z => absurd (u1.mpr z) q1) fun z => absurd (u2.mpr z) q2⟩)
  exact loop (jB H 506 1).toNat 0 jfuel true (by omega) (by unfold jfuel; omega) (fun _ => ⟨fun _ j hj => absurd hj (Nat.not_lt_zero j), fun _ => rfl⟩) fun _ => rfl
end LIST
