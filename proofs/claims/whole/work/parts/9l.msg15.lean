/-! What is signed, as the reference writes it: copy and fill. -/
/-- only the bytes of 435 and their count are written -/
def jf15 (H H' : jH) : Prop := jK H' = jK H ∧ jn H' = jn H ∧ js H' = js H ∧ jR H' = jR H ∧ jL H' = jL H ∧ (∀ a, a ≠ 435 → ∀ j, jB H' a j = jB H a j) ∧ ∀ a j, ¬ (a = 427 ∧ j = 8) → jI H' a j = jI H a j
theorem jf15_refl {H : jH} : jf15 H H := ⟨rfl, rfl, rfl, rfl, rfl, fun _ _ _ => rfl, fun _ _ _ => rfl⟩
theorem jf15_trans {H H1 H2 : jH} (h1 : jf15 H H1) (h2 : jf15 H1 H2) : jf15 H H2 :=
  ⟨h2.1.trans h1.1, h2.2.1.trans h1.2.1, h2.2.2.1.trans h1.2.2.1, h2.2.2.2.1.trans h1.2.2.2.1, h2.2.2.2.2.1.trans h1.2.2.2.2.1, fun a n j => (h2.2.2.2.2.2.1 a n j).trans (h1.2.2.2.2.2.1 a n j), fun a j n => (h2.2.2.2.2.2.2 a j n).trans (h1.2.2.2.2.2.2 a j n)⟩
theorem jsh_f15 {H H1 : jH} (hs : jsh H) (h : jf15 H H1) : jsh H1 := by
  obtain ⟨e1, e2, e3, e4, e5, e6, e7⟩ := h
  obtain ⟨s1, s2, s3, s4, s5⟩ := hs
  unfold jsh jsp
  rw [e1, e2, e4]
  exact ⟨s1, s2, fun a ha j => (e7 a j fun q => by omega).trans (s3 a ha j), s4, s5⟩
/-- the bytes written so far -/
def zW15 (H : jH) (l : List UInt8) : Prop := jI H 427 8 = Int32.ofNat l.length ∧ ∀ i u, l[i]? = some u → jB H 435 i = u
theorem k15 {H : jH} (hs : jsh H) : (jK H 427).1 = 15 := by rw [sK_427 hs]
section MS15
variable {Q : Unit → jH → Prop} {H0 : jH} {l : List UInt8}
theorem zW15_end {H : jH} {m : List UInt8} (hl : jI H 427 8 = Int32.ofNat l.length) (hb : ∀ i u, (l ++ m)[i]? = some u → jB H 435 i = u) : zW15 (jsI H 427 8 (Int32.ofNat (l.length + m.length))) (l ++ m) := by
  refine ⟨?_, hb⟩
  rw [List.length_append]
  exact jI_sIe
theorem z15_copy {a1 f n len : Nat} {f' n' : Int32} (ef : f' = Int32.ofNat f) (en : n' = Int32.ofNat n) (hs : jsh H0) (k1 : jK H0 a1 = (101, len)) (hlen : len < 2147483648) (hf : f + n ≤ len) (ha : a1 ≠ 435) (hl : l.length + n ≤ 4000) (hw : zW15 H0 l)
    (hk : ∀ H', jsh H' → jf15 H0 H' → zW15 H' (l ++ zcut (jB H0 a1) f n) → Q () H') : jT (F_15_copy 427 a1 f' n' H0) Q := by
  subst ef
  subst en
  have loop : ∀ (d i fu : Nat) (H : jH), i + d = n → d < fu → jf15 H0 H → jI H 427 8 = Int32.ofNat l.length → (∀ j u, (l ++ zcut (jB H0 a1) f i)[j]? = some u → jB H 435 j = u) → jT (F_15_copy_3 fu 427 a1 (Int32.ofNat f) (Int32.ofNat n) (Int32.ofNat i) H) Q := by
    intro d
    induction d with
    | zero =>
      intro i fu H hi hfu hfr h8 hb
      obtain ⟨fu, rfl⟩ : ∃ k, fu = k + 1 := ⟨fu - 1, by omega⟩
      obtain rfl : i = n := by omega
      unfold F_15_copy_3 B_15_copy_3
      have hsH := jsh_f15 hs hfr
      rw [h8, jo_add]
      have e := zW15_end h8 hb
      rw [zcut_len] at e
      have f1 : jf15 H0 (jsI H 427 8 (Int32.ofNat (l.length + i))) := jf15_trans hfr ⟨rfl, rfl, rfl, rfl, rfl, fun _ _ _ => rfl, fun a j q => jup_ne q⟩
      exact jT_pos (by rw [jo_le (by omega) (by omega)]; omega) (jT_g (k15 hsH) (jT_g (k15 hsH) (jT_l (jT_ret (hk _ (jsh_f15 hs f1) f1 e)))))
    | succ d ih =>
      intro i fu H hi hfu hfr h8 hb
      obtain ⟨fu, rfl⟩ : ∃ k, fu = k + 1 := ⟨fu - 1, by omega⟩
      unfold F_15_copy_3 B_15_copy_3
      have hsH := jsh_f15 hs hfr
      have e1 : Int32.ofNat i + 1 = Int32.ofNat (i + 1) := jo_add (a := i) (b := 1)
      have k1H : jK H a1 = (101, len) := by rw [hfr.1]; exact k1
      rw [sR_427_7 hsH, h8, jo_add (a := f) (b := i), jo_add (a := l.length) (b := i), e1, jo_nat (n := f + i) (by omega), jo_nat (n := l.length + i) (by omega), jbu_b, hfr.2.2.2.2.2.1 a1 ha (f + i)]
      refine jT_neg (by rw [jo_le (by omega) (by omega)]; omega) (jT_g (k15 hsH) (jT_g (k15 hsH) (jT_g (by rw [k1H]; exact ⟨rfl, jo_in (by omega) (by show f + i < len; omega)⟩) (jT_g (by rw [sK_435 hsH]; exact ⟨rfl, jo_in (by omega) (by show l.length + i < 4000; omega)⟩) (jT_l (jT_l (ih (i + 1) fu _ (by omega) (by omega) (jf15_trans hfr ⟨rfl, rfl, rfl, rfl, rfl, fun a q j => jB_sBa q, fun _ _ _ => rfl⟩) h8 fun j u hu => ?_)))))))
      rw [zcut_succ, ← List.append_assoc] at hu
      have hlen2 : (l ++ zcut (jB H0 a1) f i).length = l.length + i := by rw [List.length_append, zcut_len]
      by_cases e : j = l.length + i
      · rw [List.getElem?_append_right (by omega), hlen2, e, Nat.sub_self] at hu
        have hu2 : some (jB H0 a1 (f + i)) = some u := hu
        rw [e, jB_sBe]
        exact Option.some.inj hu2
      · by_cases e2 : j < l.length + i
        · rw [List.getElem?_append_left (by omega)] at hu
          exact (jB_sBn e).trans (hb j u hu)
        · rw [List.getElem?_eq_none (by rw [List.length_append, hlen2]; show l.length + i + 1 ≤ j; omega)] at hu
          cases hu
  unfold F_15_copy
  refine loop n 0 jfuel H0 (by omega) (by unfold jfuel; omega) jf15_refl hw.1 fun j u hu => hw.2 j u ?_
  rw [show zcut (jB H0 a1) f 0 = [] from rfl, List.append_nil] at hu
  exact hu
end MS15
