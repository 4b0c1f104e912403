/-! A copy of a row of a stack goes onto a stack; is a row a number. -/
section PUTCOPY
variable {S T : Nat} {st tt : List (List UInt8)} {H : jH}
theorem z9_putCopy {Q : Unit → jH → Prop} {i : Nat} {it : List UInt8} (hs : jsh H) (hS : zS3 S) (hT : zS3 T) (h : zStk S st H) (g : zStk T tt H) (hl : st.length < 70) (hit : tt[i]? = some it)
    (hk : ∀ H', jsh H' → zStk S (st ++ [it]) H' → jfr (fun a j => (a = S ∧ j = 2) ∨ (S + 2 ≤ a ∧ a ≤ S + 72)) H H' → Q () H') : jT (F_9_putCopy S T (Int32.ofNat i) H) Q := by
  obtain ⟨k0, r0, r1, k1, k2, k3⟩ := sSt hs hS
  obtain ⟨l0, t0, t1, l1, l2, l3⟩ := sSt hs hT
  have hS18 : 100 ≤ S ∧ S ≤ 400 := by
    unfold zS3 at hS
    omega
  have h2 := h.2.1
  have hro := h.2.2.1 st.length hl
  have hinj := h.2.2.2.1
  obtain ⟨hil, -⟩ := List.getElem?_eq_some_iff.mp hit
  have htl := g.1
  have g2 := g.2.1
  have gro := g.2.2.1 i (by omega)
  obtain ⟨m1, m2, m3⟩ := g.2.2.2.2 i it hit
  unfold F_9_putCopy B_9_putCopy_21
  refine jT_g k0 (jT_neg (by rw [h2, show (70 : Int32) = Int32.ofNat 70 from rfl, jo_le (by omega) (by omega)]; omega) (jT_neg (by rw [show (0 : Int32) = Int32.ofNat 0 from rfl, jo_lt (by omega) (by omega)]; omega) (jT_g l0 (jT_pos (by rw [g2, jo_lt (by omega) (by omega)]; exact hil) (jT_g l0 (jT_g (by rw [t0, l1]; exact ⟨rfl, jo_in (by omega) (by show i < 70; omega)⟩) (jT_g k0 (jT_g k0 (jT_g (by rw [r0, k1, h2]; exact ⟨rfl, jo_in (by omega) hl⟩) (jT_g ?_ (jT_l ?_)))))))))))
  · unfold jcg
    rw [r0, t0, h2, jo_nat (n := st.length) (by omega), jo_nat (n := i) (by omega), k3 _ hro.1 hro.2, l3 _ gro.1 gro.2, show (0 : Int32).toInt = 0 from by decide, show (120 : Int32).toInt = 120 from by decide]
    exact ⟨rfl, rfl, by show 31 ≤ _; omega, by omega, by omega, by omega, by decide, by decide⟩
  rw [r0, t0, h2, jo_nat (n := st.length) (by omega), jo_nat (n := i) (by omega), show (0 : Int32).toNatClampNeg = 0 from by decide, show (120 : Int32).toNatClampNeg = 120 from by decide]
  have s1 : jsh (jcpB H (jR H (T + 1) i) 0 (jR H (S + 1) st.length) 0 120) := jsh_cpB hs
  have f1 : jfr (fun a j => (a = S ∧ j = 2) ∨ (S + 2 ≤ a ∧ a ≤ S + 72)) H (jcpB H (jR H (T + 1) i) 0 (jR H (S + 1) st.length) 0 120) := jfr_cpB jfr_refl fun _ _ _ => Or.inr ⟨by omega, by omega⟩
  have b1 : ∀ j, j < 120 → jB (jcpB H (jR H (T + 1) i) 0 (jR H (S + 1) st.length) 0 120) (jR H (S + 1) st.length) (0 + j) = jB H (jR H (T + 1) i) (0 + j) := fun j hj => by
    have : jB (jcpB H (jR H (T + 1) i) 0 (jR H (S + 1) st.length) 0 120) (jR H (S + 1) st.length) (0 + j) = jB H (jR H (T + 1) i) (0 + (0 + j - 0)) := jB_cp (by omega) (by omega)
    rw [show 0 + (0 + j - 0) = 0 + j by omega] at this
    exact this
  have b2 : ∀ k j, k < st.length → jB (jcpB H (jR H (T + 1) i) 0 (jR H (S + 1) st.length) 0 120) (jR H (S + 1) k) j = jB H (jR H (S + 1) k) j := fun k j hk => jcpf_ne fun q => by
    have := hinj k st.length (by omega) hl q.1
    omega
  have i1 : ∀ a j, jI (jcpB H (jR H (T + 1) i) 0 (jR H (S + 1) st.length) 0 120) a j = jI H a j := fun _ _ => rfl
  have q1 : ∀ a j, jR (jcpB H (jR H (T + 1) i) 0 (jR H (S + 1) st.length) 0 120) a j = jR H a j := fun _ _ => rfl
  generalize jcpB H (jR H (T + 1) i) 0 (jR H (S + 1) st.length) 0 120 = H1 at *
  obtain ⟨k0', r0', r1', k1', k2', -⟩ := sSt s1 hS
  obtain ⟨l0', t0', t1', l1', l2', -⟩ := sSt s1 hT
  rw [i1, h2, r1', t1', k2', l2']
  refine jT_g k0' (jT_g k0' (jT_g l0' (jT_g ⟨rfl, jo_in (by omega) (by show i < 70; omega)⟩ (jT_g ⟨rfl, by show 31 ≤ _; omega, jo_in (by omega) hl⟩ (jT_l ?_)))))
  try rw [jo_nat (n := st.length) (by omega)]
  rw [i1, m2]
  have s2 : jsh (jsI H1 (S + 72) st.length (Int32.ofNat it.length)) := jsh_sI s1 (by omega)
  obtain ⟨k0'', -⟩ := sSt s2 hS
  have i2 : jI (jsI H1 (S + 72) st.length (Int32.ofNat it.length)) S 2 = Int32.ofNat st.length := (jI_sIa (by omega)).trans ((i1 _ _).trans h2)
  have e3 : Int32.ofNat st.length + 1 = Int32.ofNat (st.length + 1) := jo_add (a := st.length) (b := 1)
  rw [i2, e3]
  refine jT_g k0'' (jT_g k0'' (jT_l (jT_ret (hk _ (jsh_sI s2 (by omega)) (zStk_snoc h hl m1 (fun k => q1 _ _) jI_sIe (fun k hkl => ?_) (fun k j hkl => b2 k j hkl) ?_ fun j u hj => ?_) (jfr_sI (jfr_sI f1 (Or.inr ⟨by omega, by omega⟩)) (Or.inl ⟨rfl, rfl⟩))))))
  · exact (jI_sIa (by omega)).trans ((jI_sIn (by omega)).trans (i1 _ _))
  · exact (jI_sIa (by omega)).trans jI_sIe
  · obtain ⟨w1, -⟩ := List.getElem?_eq_some_iff.mp hj
    exact (b1 j (by omega)).trans (m3 j u hj)
theorem z9_isNumber (hs : jsh H) (hS : zS3 S) (h : zStk S st H) {n : Nat} (hn : 1 ≤ n) (hn2 : n < 1000) : F_9_isNumber S (Int32.ofNat n) H = some ((if n ≤ st.length ∧ (st.getD (st.length - n) []).length ≤ 4 then 1 else 0), H) := by
  obtain ⟨k0, r0, r1, k1, k2, k3⟩ := sSt hs hS
  obtain ⟨h1, h2, h3, h4, h5⟩ := h
  unfold F_9_isNumber B_9_isNumber_32 B_9_isNumber_33
  rw [if_neg (by rw [show (1 : Int32) = Int32.ofNat 1 from rfl, jo_lt (by omega) (by omega)]; omega), jg_t k0, h2]
  by_cases hc : n ≤ st.length
  · have e1 : Int32.ofNat st.length - Int32.ofNat n = Int32.ofNat (st.length - n) := jo_sub hc
    have hk : st.length - n < st.length := by omega
    have hit : st[st.length - n]? = some (st.getD (st.length - n) []) := by
      rw [List.getD_eq_getElem?_getD, List.getElem?_eq_getElem hk]
      rfl
    obtain ⟨q1, q2, q3⟩ := h5 _ _ hit
    rw [if_neg (by rw [jo_lt (by omega) (by omega)]; omega), e1, r1, k2, jg_t k0, jg_t k0, jg_t ⟨rfl, jo_in (by omega) (by show st.length - n < 70; omega)⟩, jo_nat (n := st.length - n) (by omega), q2]
    by_cases h4 : (st.getD (st.length - n) []).length ≤ 4
    · rw [if_neg (by rw [show (4 : Int32) = Int32.ofNat 4 from rfl, jo_lt (by omega) (by omega)]; omega), jg_t (by decide), if_pos ⟨hc, h4⟩]
    · rw [if_pos (by rw [show (4 : Int32) = Int32.ofNat 4 from rfl, jo_lt (by omega) (by omega)]; omega), jg_t (by decide), if_neg fun w => h4 w.2]
  · rw [if_pos (by rw [jo_lt (by omega) (by omega)]; omega), jg_t (by decide), if_neg fun w => hc w.1]
end PUTCOPY
