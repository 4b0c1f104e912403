/-! Small steps on the class's stack: how far it goes, drop, a short row. -/
theorem zStk_fr {S : Nat} {st : List (List UInt8)} {T : Nat → Nat → Prop} {H H' : jH} (h : zStk S st H) (hf : jfr T H H') (hT : ∀ a j, T a j → ¬ (a = S ∧ j = 2) ∧ ¬ (S + 1 ≤ a ∧ a ≤ S + 72)) : zStk S st H' := by
  obtain ⟨h1, h2, h3, h4, h5⟩ := h
  have hR : ∀ k, jR H' (S + 1) k = jR H (S + 1) k := fun k => jfr_R hf fun q => (hT _ _ q).2 ⟨by omega, by omega⟩
  refine ⟨h1, (jfr_I hf fun q => (hT _ _ q).1 ⟨rfl, rfl⟩).trans h2, fun k hk => by rw [hR]; exact h3 k hk, fun i j hi hj => by rw [hR, hR]; exact h4 i j hi hj, fun k it hk => ?_⟩
  obtain ⟨q1, q2, q3⟩ := h5 k it hk
  obtain ⟨hkl, -⟩ := List.getElem?_eq_some_iff.mp hk
  have hr := h3 k (by omega)
  refine ⟨q1, (jfr_I hf fun q => (hT _ _ q).2 ⟨by omega, by omega⟩).trans q2, ?_⟩
  rw [hR]
  exact zRow_eq q3 fun i _ => jfr_B hf fun q => (hT _ _ q).2 ⟨by omega, by omega⟩
section STACK2
variable {S : Nat} {st : List (List UInt8)} {H : jH}
theorem zStk_take (h : zStk S st H) {n : Nat} (hS : 18 ≤ S) : zStk S (st.take n) (jsI H S 2 (Int32.ofNat (st.take n).length)) := by
  obtain ⟨h1, h2, h3, h4, h5⟩ := h
  refine ⟨by rw [List.length_take]; omega, jI_sIe, h3, h4, fun k it hk => ?_⟩
  rw [List.getElem?_take] at hk
  by_cases hkn : k < n
  · rw [if_pos hkn] at hk
    obtain ⟨q1, q2, q3⟩ := h5 k it hk
    exact ⟨q1, (jI_sIa (by omega)).trans q2, q3⟩
  · rw [if_neg hkn] at hk
    exact absurd hk (by simp)
theorem z9_drop {Q : Unit → jH → Prop} (hs : jsh H) (hS : zS3 S) (h : zStk S st H) {n : Nat} (hn : n ≤ st.length) (hk : ∀ H', jsh H' → zStk S (st.take (st.length - n)) H' → jfr (fun a j => a = S ∧ j = 2) H H' → Q () H') : jT (F_9_drop S (Int32.ofNat n) H) Q := by
  obtain ⟨k0, -⟩ := sSt hs hS
  have h18 : 18 ≤ S := by
    unfold zS3 at hS
    omega
  have hl := h.1
  have e1 : Int32.ofNat st.length - Int32.ofNat n = Int32.ofNat (st.length - n) := jo_sub hn
  have e2 : jmaxI 0 (Int32.ofNat (st.length - n)) = Int32.ofNat (st.take (st.length - n)).length := by
    rw [List.length_take, show min (st.length - n) st.length = st.length - n by omega]
    unfold jmaxI
    by_cases hc : (0 : Int32) < Int32.ofNat (st.length - n)
    · rw [if_pos hc]
    · rw [if_neg hc]
      rw [show (0 : Int32) = Int32.ofNat 0 from rfl, jo_lt (by omega) (by omega)] at hc
      rw [show st.length - n = 0 by omega]
      rfl
  unfold F_9_drop
  rw [h.2.1, e1, e2]
  exact jT_g k0 (jT_g k0 (jT_l (jT_ret (hk _ (jsh_sI hs h18) (zStk_take h h18) (jfr_sI jfr_refl ⟨rfl, rfl⟩)))))
end STACK2
