/-! A row goes onto the class's stack. -/
section PUT
variable {S : Nat} {st : List (List UInt8)} {H : jH}
theorem zStk_snoc {it : List UInt8} {H' : jH} (h : zStk S st H) (hl : st.length < 70) (hi : it.length ≤ 120) (hR : ∀ k, jR H' (S + 1) k = jR H (S + 1) k) (h2 : jI H' S 2 = Int32.ofNat (st.length + 1))
    (hI : ∀ k, k < st.length → jI H' (S + 72) k = jI H (S + 72) k) (hB : ∀ k j, k < st.length → jB H' (jR H (S + 1) k) j = jB H (jR H (S + 1) k) j) (hn : jI H' (S + 72) st.length = Int32.ofNat it.length) (hr : zRow H' (jR H (S + 1) st.length) 0 it) : zStk S (st ++ [it]) H' := by
  obtain ⟨h1, h2', h3, h4, h5⟩ := h
  refine ⟨by rw [List.length_append]; show st.length + 1 ≤ 70; omega, by rw [h2, List.length_append]; rfl, fun k hk => by rw [hR]; exact h3 k hk, fun i j hi hj => by rw [hR, hR]; exact h4 i j hi hj, fun k w hk => ?_⟩
  rw [hR]
  by_cases hkl : k < st.length
  · rw [List.getElem?_append_left hkl] at hk
    obtain ⟨q1, q2, q3⟩ := h5 k w hk
    exact ⟨q1, (hI k hkl).trans q2, zRow_eq q3 fun i _ => hB k _ hkl⟩
  · rw [List.getElem?_append_right (by omega)] at hk
    obtain ⟨w1, w2⟩ := List.getElem?_eq_some_iff.mp hk
    have w3 : k - st.length < 1 := w1
    obtain rfl : k = st.length := by omega
    have w4 : ∀ (j : Nat) (hj : j < [it].length), [it][j] = it := fun j hj => by
      have : j < 1 := hj
      obtain rfl : j = 0 := by omega
      rfl
    rw [← w2, w4]
    exact ⟨hi, hn, hr⟩
theorem z9_put {Q : Unit → jH → Prop} {r len p n : Nat} (hs : jsh H) (hS : zS3 S) (h : zStk S st H) (hl : st.length < 70) (hr : jK H r = (101, len)) (hlen : len < 2147483600) (hp : p + n ≤ len) (hn : n ≤ 120)
    (hk : ∀ H', jsh H' → zStk S (st ++ [zcut (jB H r) p n]) H' → jfr (fun a j => (a = S ∧ j = 2) ∨ (S + 2 ≤ a ∧ a ≤ S + 72)) H H' → Q () H') : jT (F_9_put S r (Int32.ofNat p) (Int32.ofNat n) H) Q := by
  obtain ⟨k0, r0, r1, k1, k2, k3⟩ := sSt hs hS
  have hS18 : 100 ≤ S ∧ S ≤ 400 := by
    unfold zS3 at hS
    omega
  have h2 := h.2.1
  have hro := h.2.2.1 st.length hl
  have hinj := h.2.2.2.1
  have n0 : ∀ x, x < 2147483600 → ¬ (Int32.ofNat x < 0) := fun x hx => by
    rw [show (0 : Int32) = Int32.ofNat 0 from rfl, jo_lt (by omega) (by omega)]
    omega
  have e1 : Int32.ofNat p + Int32.ofNat n = Int32.ofNat (p + n) := jo_add
  have hne : jR H (S + 1) st.length ≠ S + 72 := by omega
  unfold F_9_put B_9_put_31
  refine jT_g k0 (jT_neg (by rw [h2, show (70 : Int32) = Int32.ofNat 70 from rfl, jo_le (by omega) (by omega)]; omega) (jT_neg (n0 _ (by omega)) (jT_neg (n0 _ (by omega)) (jT_neg (by rw [show (120 : Int32) = Int32.ofNat 120 from rfl, jo_lt (by omega) (by omega)]; omega) (jT_g (by rw [hr]) (jT_pos (by rw [hr, e1, show (Int32.ofNat ((101, len) : Nat × Nat).2) = Int32.ofNat len from rfl, jo_le (by omega) (by omega)]; exact hp) (jT_g k0 (jT_g k0 (jT_g (by rw [r0, k1, h2]; exact ⟨rfl, jo_in (by omega) hl⟩) (jT_g ?_ (jT_l ?_)))))))))))
  · unfold jcg
    rw [r0, h2, jo_nat (n := st.length) (by omega), hr, k3 _ hro.1 hro.2, jo_int (by omega), jo_int (by omega), show (0 : Int32).toInt = 0 from by decide]
    exact ⟨rfl, rfl, by show 31 ≤ _; omega, by omega, by omega, by omega, by show (p : Int) + n ≤ (len : Nat); omega, by show (0 : Int) + n ≤ (120 : Nat); omega⟩
  rw [r0, h2, jo_nat (n := st.length) (by omega), jo_nat (n := p) (by omega), jo_nat (n := n) (by omega), show (0 : Int32).toNatClampNeg = 0 from by decide]
  have s1 : jsh (jcpB H r p (jR H (S + 1) st.length) 0 n) := jsh_cpB hs
  have f1 : jfr (fun a j => (a = S ∧ j = 2) ∨ (S + 2 ≤ a ∧ a ≤ S + 72)) H (jcpB H r p (jR H (S + 1) st.length) 0 n) := jfr_cpB jfr_refl fun _ _ _ => Or.inr ⟨by omega, by omega⟩
  have b1 : ∀ i, i < n → jB (jcpB H r p (jR H (S + 1) st.length) 0 n) (jR H (S + 1) st.length) (0 + i) = jB H r (p + i) := fun i hi => by
    have : jB (jcpB H r p (jR H (S + 1) st.length) 0 n) (jR H (S + 1) st.length) (0 + i) = jB H r (p + (0 + i - 0)) := jB_cp (by omega) (by omega)
    rw [show 0 + i - 0 = i by omega] at this
    exact this
  have b2 : ∀ k j, k < st.length → jB (jcpB H r p (jR H (S + 1) st.length) 0 n) (jR H (S + 1) k) j = jB H (jR H (S + 1) k) j := fun k j hk => jcpf_ne fun q => by
    have := hinj k st.length (by omega) hl q.1
    omega
  have i1 : ∀ a j, jI (jcpB H r p (jR H (S + 1) st.length) 0 n) a j = jI H a j := fun _ _ => rfl
  have q1 : ∀ a j, jR (jcpB H r p (jR H (S + 1) st.length) 0 n) a j = jR H a j := fun _ _ => rfl
  generalize jcpB H r p (jR H (S + 1) st.length) 0 n = H1 at *
  obtain ⟨k0', r0', r1', k1', k2', -⟩ := sSt s1 hS
  rw [i1, h2, r1', k2']
  refine jT_g k0' (jT_g k0' (jT_g ⟨rfl, by show 31 ≤ _; omega, jo_in (by omega) hl⟩ (jT_l ?_)))
  rw [jo_nat (n := st.length) (by omega)]
  have s2 : jsh (jsI H1 (S + 72) st.length (Int32.ofNat n)) := jsh_sI s1 (by omega)
  obtain ⟨k0'', -⟩ := sSt s2 hS
  have i2 : jI (jsI H1 (S + 72) st.length (Int32.ofNat n)) S 2 = Int32.ofNat st.length := (jI_sIa (by omega)).trans ((i1 _ _).trans h2)
  have e3 : Int32.ofNat st.length + 1 = Int32.ofNat (st.length + 1) := jo_add (a := st.length) (b := 1)
  rw [i2, e3]
  refine jT_g k0'' (jT_g k0'' (jT_l (jT_ret (hk _ (jsh_sI s2 (by omega)) (zStk_snoc h hl (by rw [zcut_len]; exact hn) (fun k => q1 _ _) jI_sIe (fun k hkl => ?_) (fun k j hkl => b2 k j hkl) ?_ fun i u hi => ?_) (jfr_sI (jfr_sI f1 (Or.inr ⟨by omega, by omega⟩)) (Or.inl ⟨rfl, rfl⟩))))))
  · exact (jI_sIa (by omega)).trans ((jI_sIn (by omega)).trans (i1 _ _))
  · rw [zcut_len]
    exact (jI_sIa (by omega)).trans jI_sIe
  · obtain ⟨w1, w2⟩ := zcut_at hi
    exact (b1 i w1).trans w2
end PUT
