/-! Signing.fill of the reference. -/
section FL15
variable {Q : Unit → jH → Prop} {H0 : jH} {l : List UInt8}
theorem z15_fill {n : Nat} {v n' : Int32} (en : n' = Int32.ofNat n) (hs : jsh H0) (hl : l.length + n ≤ 4000) (hw : zW15 H0 l)
    (hk : ∀ H', jsh H' → jf15 H0 H' → zW15 H' (l ++ List.replicate n (jbu (ji2b v))) → Q () H') : jT (F_15_fill 427 v n' H0) Q := by
  subst en
  have loop : ∀ (d i fu : Nat) (H : jH), i + d = n → d < fu → jf15 H0 H → jI H 427 8 = Int32.ofNat l.length → (∀ j u, (l ++ List.replicate i (jbu (ji2b v)))[j]? = some u → jB H 435 j = u) → jT (F_15_fill_2 fu 427 v (Int32.ofNat n) (Int32.ofNat i) H) Q := by
    intro d
    induction d with
    | zero =>
      intro i fu H hi hfu hfr h8 hb
      obtain ⟨fu, rfl⟩ : ∃ k, fu = k + 1 := ⟨fu - 1, by omega⟩
      obtain rfl : i = n := by omega
      unfold F_15_fill_2 B_15_fill_2
      have hsH := jsh_f15 hs hfr
      rw [h8, jo_add]
      have e := zW15_end h8 hb
      rw [List.length_replicate] at e
      have f1 : jf15 H0 (jsI H 427 8 (Int32.ofNat (l.length + i))) := jf15_trans hfr ⟨rfl, rfl, rfl, rfl, rfl, fun _ _ _ => rfl, fun a j q => jup_ne q⟩
      exact jT_pos (by rw [jo_le (by omega) (by omega)]; omega) (jT_g (k15 hsH) (jT_g (k15 hsH) (jT_l (jT_ret (hk _ (jsh_f15 hs f1) f1 e)))))
    | succ d ih =>
      intro i fu H hi hfu hfr h8 hb
      obtain ⟨fu, rfl⟩ : ∃ k, fu = k + 1 := ⟨fu - 1, by omega⟩
      unfold F_15_fill_2 B_15_fill_2
      have hsH := jsh_f15 hs hfr
      have e1 : Int32.ofNat i + 1 = Int32.ofNat (i + 1) := jo_add (a := i) (b := 1)
      rw [sR_427_7 hsH, h8, jo_add (a := l.length) (b := i), e1, jo_nat (n := l.length + i) (by omega)]
      refine jT_neg (by rw [jo_le (by omega) (by omega)]; omega) (jT_g (k15 hsH) (jT_g (k15 hsH) (jT_g (by rw [sK_435 hsH]; exact ⟨rfl, jo_in (by omega) (by show l.length + i < 4000; omega)⟩) (jT_l (jT_l (ih (i + 1) fu _ (by omega) (by omega) (jf15_trans hfr ⟨rfl, rfl, rfl, rfl, rfl, fun a q j => jB_sBa q, fun _ _ _ => rfl⟩) h8 fun j u hu => ?_))))))
      rw [List.replicate_succ', ← List.append_assoc] at hu
      have hlen2 : (l ++ List.replicate i (jbu (ji2b v))).length = l.length + i := by rw [List.length_append, List.length_replicate]
      by_cases e : j = l.length + i
      · rw [List.getElem?_append_right (by omega), hlen2, e, Nat.sub_self] at hu
        have hu2 : some (jbu (ji2b v)) = some u := hu
        rw [e, jB_sBe]
        exact Option.some.inj hu2
      · by_cases e2 : j < l.length + i
        · rw [List.getElem?_append_left (by omega)] at hu
          exact (jB_sBn e).trans (hb j u hu)
        · rw [List.getElem?_eq_none (by rw [List.length_append, hlen2]; show l.length + i + 1 ≤ j; omega)] at hu
          cases hu
  unfold F_15_fill
  refine loop n 0 jfuel H0 (by omega) (by unfold jfuel; omega) jf15_refl hw.1 fun j u hu => hw.2 j u ?_
  rw [show List.replicate 0 (jbu (ji2b v)) = [] from rfl, List.append_nil] at hu
  exact hu
end FL15
