/-! The class's stack: an element is lifted to the top; whether the top is twice there. -/
theorem jsh_sRn {H : jH} {a i v : Nat} (h : jsh H) (ha : ∀ q ∈ jRs, q.1 ≠ a) : jsh (jsR H a i v) := by
  obtain ⟨a0, a1, a2, a3, a4⟩ := h
  exact ⟨a0, a1, a2, fun q hq hc => (jup_ne (fun w => ha q hq w.1)).trans (a3 q hq hc), a4⟩
theorem zS3_n {S : Nat} (hS : zS3 S) : ∀ q ∈ jRs, q.1 ≠ S + 1 := by
  have h : ∀ q ∈ jRs, q.1 ≠ 172 ∧ q.1 ≠ 245 ∧ q.1 ≠ 318 := by decide +kernel
  intro q hq
  have := h q hq
  unfold zS3 at hS
  omega
theorem jR_sRe {H : jH} {a i v : Nat} : jR (jsR H a i v) a i = v := if_pos ⟨rfl, rfl⟩
theorem jR_sRn {H : jH} {a i b j v : Nat} (h : j ≠ i) : jR (jsR H a i v) b j = jR H b j := if_neg fun q => h q.2
theorem jR_sRa {H : jH} {a i b j v : Nat} (h : b ≠ a) : jR (jsR H a i v) b j = jR H b j := if_neg fun q => h q.1
def w_lift {α : Type} (st : List α) (i : Nat) (d : α) : List α := st.take i ++ (st.drop (i + 1) ++ [st.getD i d])
/-- where an element of the lifted stack stood -/
def w_pi (i h k : Nat) : Nat := if i ≤ k ∧ k + 1 < h then k + 1 else if k + 1 = h then i else k
theorem w_lift_len {α : Type} {st : List α} {i : Nat} {d : α} (hi : i < st.length) : (w_lift st i d).length = st.length := by
  unfold w_lift
  rw [List.length_append, List.length_append, List.length_take, List.length_drop]
  show min i st.length + (st.length - (i + 1) + 1) = st.length
  omega
theorem w_lift_at {α : Type} {st : List α} {i k : Nat} {d : α} (hi : i < st.length) (hk : k < st.length) : (w_lift st i d)[k]? = st[w_pi i st.length k]? := by
  unfold w_lift w_pi
  by_cases c1 : k < i
  · rw [List.getElem?_append_left (by rw [List.length_take]; omega), List.getElem?_take, if_pos c1, if_neg (by omega), if_neg (by omega)]
  · rw [List.getElem?_append_right (by rw [List.length_take]; omega), List.length_take, show min i st.length = i by omega]
    by_cases c2 : k + 1 < st.length
    · rw [List.getElem?_append_left (by rw [List.length_drop]; omega), List.getElem?_drop, if_pos ⟨by omega, c2⟩, show i + 1 + (k - i) = k + 1 by omega]
    · rw [List.getElem?_append_right (by rw [List.length_drop]; omega), List.length_drop, show k - i - (st.length - (i + 1)) = 0 by omega, if_neg (by omega), if_pos (by omega), List.getD_eq_getElem?_getD, List.getElem?_eq_getElem hi]
      rfl
def w_Sw (S : Nat) : Nat → Nat → Prop := fun a j => (a = S ∧ j = 2) ∨ (S + 1 ≤ a ∧ a ≤ S + 72)
theorem w_Sk_w {S a j : Nat} (h : w_Sk S a j) : w_Sw S a j := by
  unfold w_Sk at h
  unfold w_Sw
  omega
section LIFT
variable {S : Nat} {st : List (List UInt8)} {H0 : jH} {Q : Unit → jH → Prop}
theorem zStk_lift {H : jH} {i : Nat} (hi : i < st.length) (h : zStk S st H0) (h2 : jI H S 2 = jI H0 S 2) (hR : ∀ k, k < 70 → jR H (S + 1) k = jR H0 (S + 1) (w_pi i st.length k)) (hI : ∀ k, k < st.length → jI H (S + 72) k = jI H0 (S + 72) (w_pi i st.length k)) (hB : ∀ a j, S + 2 ≤ a → a < S + 72 → jB H a j = jB H0 a j) : zStk S (w_lift st i []) H := by
  obtain ⟨h1, h2', h3, h4, h5⟩ := h
  have hp : ∀ k, k < 70 → w_pi i st.length k < 70 := fun k hk => by
    unfold w_pi
    split
    · omega
    · split <;> omega
  have hinj : ∀ a b, w_pi i st.length a = w_pi i st.length b → a = b := fun a b => by
    unfold w_pi
    intro e
    split at e <;> split at e <;> (try split at e) <;> (try split at e) <;> omega
  refine ⟨by rw [w_lift_len hi]; exact h1, by rw [h2, h2', w_lift_len hi], fun k hk => by rw [hR k hk]; exact h3 _ (hp k hk), fun a b ha hb e => ?_, fun k it hk => ?_⟩
  · rw [hR a ha, hR b hb] at e
    exact hinj a b (h4 _ _ (hp a ha) (hp b hb) e)
  · obtain ⟨hkl, -⟩ := List.getElem?_eq_some_iff.mp hk
    rw [w_lift_len hi] at hkl
    rw [w_lift_at hi hkl] at hk
    obtain ⟨q1, q2, q3⟩ := h5 _ it hk
    have hr := h3 _ (hp k (by omega))
    refine ⟨q1, (hI k hkl).trans q2, ?_⟩
    rw [hR k (by omega)]
    exact zRow_eq q3 fun j _ => hB _ _ hr.1 hr.2
theorem z9_lift {i : Nat} {i' : Int32} (ei : i' = Int32.ofNat i) (hs : jsh H0) (hS : zS3 S) (h : zStk S st H0) (hi : i < st.length)
    (hk : ∀ H', jsh H' → zStk S (w_lift st i []) H' → jfr (w_Sw S) H0 H' → Q () H') : jT (F_9_lift S i' H0) Q := by
  subst ei
  obtain ⟨k0, r0, r1, k1, k2, k3⟩ := sSt hs hS
  have h18 : 18 ≤ S ∧ S + 72 < 422 := by unfold zS3 at hS; omega
  obtain ⟨h1, h2, h3, h4, h5⟩ := h
  have hz : zStk S st H0 := ⟨h1, h2, h3, h4, h5⟩
  have em : Int32.ofNat st.length - 1 = Int32.ofNat (st.length - 1) := jo_sub (a := st.length) (b := 1) (by omega)
  have kro := k3 _ (h3 i (by omega)).1 (h3 i (by omega)).2
  have loop : ∀ (d j fu : Nat) (H : jH), j + d + 1 = st.length → i ≤ j → d < fu → jsh H → jfr (w_Sw S) H0 H → jI H S 2 = jI H0 S 2 → (∀ a k, S + 2 ≤ a → a < S + 72 → jB H a k = jB H0 a k) →
      (∀ k, k < 70 → jR H (S + 1) k = jR H0 (S + 1) (if i ≤ k ∧ k < j then k + 1 else k)) → (∀ k, k < 70 → jI H (S + 72) k = jI H0 (S + 72) (if i ≤ k ∧ k < j then k + 1 else k)) →
      jT (F_9_lift_30 fu S (jR H0 (S + 1) i) (jI H0 (S + 72) i) (Int32.ofNat j) H) Q := by
    intro d
    induction d with
    | zero =>
      intro j fu H hj hij hfu hsH hf i2 bB rR rI
      obtain ⟨fu, rfl⟩ : ∃ k, fu = k + 1 := ⟨fu - 1, by omega⟩
      obtain ⟨k0', r0', r1', k1', k2', k3'⟩ := sSt hsH hS
      have kr' := k3' _ (h3 i (by omega)).1 (h3 i (by omega)).2
      unfold F_9_lift_30 B_9_lift_30
      simp only [i2, h2, em, r0', r1', jo_nat (n := st.length - 1) (by omega)]
      have s1 : jsh (jsR H (S + 1) (st.length - 1) (jR H0 (S + 1) i)) := jsh_sRn hsH (zS3_n hS)
      have e2 : jI (jsR H (S + 1) (st.length - 1) (jR H0 (S + 1) i)) S 2 = Int32.ofNat st.length := i2.trans h2
      have e3 : jR (jsR H (S + 1) (st.length - 1) (jR H0 (S + 1) i)) S 1 = S + 72 := (jR_sRa (by omega)).trans r1'
      refine jT_g k0' (jT_pos (by rw [jo_le (by omega) (by omega)]; omega) (jT_g k0' (jT_g k0' (jT_g ⟨by rw [k1'], by rw [k1']; exact jo_in (by omega) (by show st.length - 1 < 70; omega), by rw [kr']⟩ (jT_l ?_)))))
      rw [e2, e3, em, jo_nat (n := st.length - 1) (by omega)]
      refine jT_g k0' (jT_g k0' (jT_g (gIw k2' (by omega) (jo_in (by omega) (by omega))) (jT_l (jT_ret (hk _ (jsh_sI s1 (by omega)) (zStk_lift hi hz ?_ ?_ ?_ ?_) (jfr_sI (jfr_sR hf (Or.inr ⟨by omega, by omega⟩)) (Or.inr ⟨by omega, by omega⟩)))))))
      · exact (jI_sIa (by omega)).trans i2
      · intro k hk70
        show jR (jsR H (S + 1) (st.length - 1) (jR H0 (S + 1) i)) (S + 1) k = _
        unfold w_pi
        by_cases c : k = st.length - 1
        · rw [c, jR_sRe, if_neg (by omega), if_pos (by omega)]
        · rw [jR_sRn c, rR k hk70]
          by_cases c2 : i ≤ k ∧ k < j
          · rw [if_pos c2, if_pos ⟨c2.1, by omega⟩]
          · rw [if_neg c2, if_neg (by omega), if_neg (by omega)]
      · intro k hkl
        unfold w_pi
        by_cases c : k = st.length - 1
        · rw [c, jI_sIe, if_neg (by omega), if_pos (by omega)]
        · rw [jI_sIn c]
          refine (rI k (by omega)).trans ?_
          by_cases c2 : i ≤ k ∧ k < j
          · rw [if_pos c2, if_pos ⟨c2.1, by omega⟩]
          · rw [if_neg c2, if_neg (by omega), if_neg (by omega)]
      · exact bB
    | succ d ih =>
      intro j fu H hj hij hfu hsH hf i2 bB rR rI
      obtain ⟨fu, rfl⟩ : ∃ k, fu = k + 1 := ⟨fu - 1, by omega⟩
      obtain ⟨k0', r0', r1', k1', k2', k3'⟩ := sSt hsH hS
      have e1 : Int32.ofNat j + 1 = Int32.ofNat (j + 1) := jo_add (a := j) (b := 1)
      have erj : jR H (S + 1) (j + 1) = jR H0 (S + 1) (j + 1) := by rw [rR _ (by omega), if_neg (by omega)]
      have eij : jI H (S + 72) (j + 1) = jI H0 (S + 72) (j + 1) := by rw [rI _ (by omega), if_neg (by omega)]
      have krj := k3' _ (h3 (j + 1) (by omega)).1 (h3 (j + 1) (by omega)).2
      unfold F_9_lift_30 B_9_lift_30
      simp only [i2, h2, em, r0', r1', e1, jo_nat (n := j) (by omega), jo_nat (n := j + 1) (by omega), erj]
      have s1 : jsh (jsR H (S + 1) j (jR H0 (S + 1) (j + 1))) := jsh_sRn hsH (zS3_n hS)
      have e3 : jR (jsR H (S + 1) j (jR H0 (S + 1) (j + 1))) S 1 = S + 72 := (jR_sRa (by omega)).trans r1'
      have e4 : jI (jsR H (S + 1) j (jR H0 (S + 1) (j + 1))) (S + 72) (j + 1) = jI H0 (S + 72) (j + 1) := eij
      refine jT_g k0' (jT_neg (by rw [jo_le (by omega) (by omega)]; omega) (jT_g k0' (jT_g k0' (jT_g (gA k1' (jo_in (by omega) (by omega))) (jT_g ⟨by rw [k1'], by rw [k1']; exact jo_in (by omega) (by show j < 70; omega), by rw [krj]⟩ (jT_l ?_))))))
      rw [e3, e4]
      refine jT_g k0' (jT_g k0' (jT_g (gA k2' (jo_in (by omega) (by omega))) (jT_g (gIw k2' (by omega) (jo_in (by omega) (by omega))) (jT_l (jT_l (ih (j + 1) fu _ (by omega) (by omega) (by omega) (jsh_sI s1 (by omega)) (jfr_sI (jfr_sR hf (Or.inr ⟨by omega, by omega⟩)) (Or.inr ⟨by omega, by omega⟩)) ?_ bB ?_ ?_))))))
      · exact (jI_sIa (by omega)).trans i2
      · intro k hk70
        show jR (jsR H (S + 1) j (jR H0 (S + 1) (j + 1))) (S + 1) k = _
        by_cases c : k = j
        · rw [c, jR_sRe, if_pos ⟨hij, by omega⟩]
        · rw [jR_sRn c, rR k hk70]
          by_cases c2 : i ≤ k ∧ k < j
          · rw [if_pos c2, if_pos ⟨c2.1, by omega⟩]
          · rw [if_neg c2, if_neg (by omega)]
      · intro k hk70
        by_cases c : k = j
        · rw [c, jI_sIe, if_pos ⟨hij, by omega⟩]
        · rw [jI_sIn c]
          refine (rI k hk70).trans ?_
          by_cases c2 : i ≤ k ∧ k < j
          · rw [if_pos c2, if_pos ⟨c2.1, by omega⟩]
          · rw [if_neg c2, if_neg (by omega)]
  unfold F_9_lift
  simp only [h2, r0, r1, jo_nat (n := i) (by omega)]
  refine jT_neg (by rw [show (0 : Int32) = Int32.ofNat 0 from rfl, jo_lt (by omega) (by omega)]; omega) (jT_g k0 (jT_pos (by rw [jo_lt (by omega) (by omega)]; exact hi) (jT_g k0 (jT_g (gA k1 (jo_in (by omega) (by omega))) (jT_l (jT_g k0 (jT_g (gA k2 (jo_in (by omega) (by omega))) (jT_l ?_))))))))
  exact loop (st.length - 1 - i) i jfuel H0 (by omega) (Nat.le_refl i) (by unfold jfuel; omega) hs jfr_refl rfl (fun _ _ _ _ => rfl) (fun k _ => by rw [if_neg (by omega)]) (fun k _ => by rw [if_neg (by omega)])
/-- whether the two upper ones are alike -/
theorem z9_isTopTwice {H : jH} (hs : jsh H) (hS : zS3 S) (h : zStk S st H) (hl : 2 ≤ st.length) : F_9_isTopTwice S H = some ((if st.getD (st.length - 1) [] = st.getD (st.length - 2) [] then 1 else 0), H) := by
  obtain ⟨k0, r0, r1, k1, k2, k3⟩ := sSt hs hS
  obtain ⟨h1, h2, h3, h4, h5⟩ := h
  have g1 : st[st.length - 1]? = some (st.getD (st.length - 1) []) := by
    rw [List.getD_eq_getElem?_getD, List.getElem?_eq_getElem (by omega)]
    rfl
  have g2 : st[st.length - 2]? = some (st.getD (st.length - 2) []) := by
    rw [List.getD_eq_getElem?_getD, List.getElem?_eq_getElem (by omega)]
    rfl
  obtain ⟨p1, p2, p3⟩ := h5 _ _ g1
  obtain ⟨q1, q2, q3⟩ := h5 _ _ g2
  generalize st.getD (st.length - 1) [] = A at *
  generalize st.getD (st.length - 2) [] = B at *
  have m1 : Int32.ofNat st.length - 1 = Int32.ofNat (st.length - 1) := jo_sub (a := st.length) (b := 1) (by omega)
  have m2 : Int32.ofNat st.length - 2 = Int32.ofNat (st.length - 2) := jo_sub (a := st.length) (b := 2) (by omega)
  have kA := k3 _ (h3 (st.length - 1) (by omega)).1 (h3 (st.length - 1) (by omega)).2
  have kB := k3 _ (h3 (st.length - 2) (by omega)).1 (h3 (st.length - 2) (by omega)).2
  have i1 : jin (Int32.ofNat (st.length - 1)) 70 := jo_in (by omega) (by omega)
  have i2 : jin (Int32.ofNat (st.length - 2)) 70 := jo_in (by omega) (by omega)
  have loop : A.length = B.length → ∀ (d i fu : Nat), i + d = A.length → d < fu → (∀ j, j < i → A[j]? = B[j]?) → F_9_isTopTwice_37 fu S (Int32.ofNat i) H = some ((if A = B then 1 else 0), H) := by
    intro hAB d
    induction d with
    | zero =>
      intro i fu hi hfu hall
      obtain ⟨fu, rfl⟩ : ∃ k, fu = k + 1 := ⟨fu - 1, by omega⟩
      have e : A = B := List.ext_getElem? fun j => by
        by_cases c : j < i
        · exact hall j c
        · rw [List.getElem?_eq_none (by omega), List.getElem?_eq_none (by omega)]
      unfold F_9_isTopTwice_37 B_9_isTopTwice_37
      rw [jg_t k0, jg_t k0, h2, m1, r1, jg_t (gA k2 i1), jo_nat (n := st.length - 1) (by omega), p2, if_pos (by rw [jo_le (by omega) (by omega)]; omega), jg_t (by decide), if_pos e]
    | succ d ih =>
      intro i fu hi hfu hall
      obtain ⟨fu, rfl⟩ : ∃ k, fu = k + 1 := ⟨fu - 1, by omega⟩
      have eA : jB H (jR H (S + 1) (st.length - 1)) i = A.getD i 0 := by
        have := p3 i _ (getD_of (by omega))
        rw [Nat.zero_add] at this
        exact this
      have eB : jB H (jR H (S + 1) (st.length - 2)) i = B.getD i 0 := by
        have := q3 i _ (getD_of (by omega))
        rw [Nat.zero_add] at this
        exact this
      have e1 : Int32.ofNat i + 1 = Int32.ofNat (i + 1) := jo_add (a := i) (b := 1)
      unfold F_9_isTopTwice_37 B_9_isTopTwice_37
      rw [jg_t k0, jg_t k0, h2, m1, m2, r1, r0, jg_t (gA k2 i1), jo_nat (n := st.length - 1) (by omega), jo_nat (n := st.length - 2) (by omega), p2, if_neg (by rw [jo_le (by omega) (by omega)]; omega), jg_t k0, jg_t k0, jg_t (gA k1 i1), jg_t (gA kA (jo_in (by omega) (by omega))), jg_t k0, jg_t k0, jg_t (gA k1 i2), jg_t (gA kB (jo_in (by omega) (by omega))), jo_nat (n := i) (by omega), eA, eB]
      by_cases c : A.getD i 0 = B.getD i 0
      · rw [if_pos (by rw [c])]
        dsimp only [jl]
        rw [e1]
        refine ih (i + 1) fu (by omega) (by omega) fun j hj => ?_
        by_cases c2 : j = i
        · rw [c2, getD_of (l := A) (by omega), getD_of (l := B) (by omega), c]
        · exact hall j (by omega)
      · rw [if_neg (fun w => c ((jbs_eq _ _).mp w)), jg_t (by decide), if_neg (fun w => c (by rw [w]))]
  unfold F_9_isTopTwice B_9_isTopTwice_33
  rw [jg_t k0, h2, if_neg (by rw [show (2 : Int32) = Int32.ofNat 2 from rfl, jo_lt (by omega) (by omega)]; omega), jg_t k0, jg_t k0, m1, m2, r1, jg_t (gA k2 i1), jg_t k0, jg_t k0, jg_t (gA k2 i2), jo_nat (n := st.length - 1) (by omega), jo_nat (n := st.length - 2) (by omega), p2, q2]
  by_cases c : A.length = B.length
  · rw [if_pos (by rw [c])]
    exact loop c A.length 0 jfuel (by omega) (by unfold jfuel; omega) fun j hj => absurd hj (Nat.not_lt_zero j)
  · rw [if_neg (fun w => c ((jo_eq (by omega) (by omega)).mp w)), jg_t (by decide), if_neg (fun w => c (by rw [w]))]
end LIFT
