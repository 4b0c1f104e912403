/-! The reference tells a message: its row of boxes. -/
section TELL
variable {Q : Unit → jH → Prop} {l bx : List UInt8} {p : Nat}
theorem jB_sBx {H : jH} {a i b j : Nat} {v : Int32} : jB (jsI H a i v) b j = jB H b j := rfl
theorem zRow_set {l : List UInt8} {r q : Nat} {H : jH} {v : UInt8} (h : zRow H r q l) : zRow (jsB H r (q + l.length) v) r q (l ++ [v]) := by
  refine zRow_app (zRow_eq h fun i hi => jB_sBn (by omega)) (zRow_one jB_sBe)
theorem z18_tell63 {H0 : jH} (hp : p < 4) (hm : zM18 l H0) (hl : l.length ≤ 2000) (hfit : bx.length + 2 + l.length ≤ 8000)
    (hk : ∀ H', jsh H' → zM18 l H' → zBx18 p (bx ++ (zhd l.length ++ l)) H' → jfr (fun a j => (a = 510 ∧ 8000 * p ≤ j ∧ j < 8000 * p + 8000) ∨ (a = 511 ∧ j = p)) H0 H' → Q () H') :
    ∀ (d i f : Nat) (H : jH), i + d = l.length → d < f → jsh H → jfr (fun a j => (a = 510 ∧ 8000 * p ≤ j ∧ j < 8000 * p + 8000) ∨ (a = 511 ∧ j = p)) H0 H → jI H 511 p = Int32.ofNat bx.length → zRow H 510 (8000 * p) (bx ++ (zhd l.length ++ l.take i)) → jT (F_18_tell_63 f 421 (Int32.ofNat p) (Int32.ofNat bx.length) (Int32.ofNat i) H) Q := by
  have hn : jI H0 421 56 = Int32.ofNat l.length := hm.1
  intro d
  induction d with
  | zero =>
    intro i f H hi hf hsh hfr h41 hrow
    obtain ⟨f, rfl⟩ : ∃ k, f = k + 1 := ⟨f - 1, by omega⟩
    unfold F_18_tell_63 B_18_tell_63
    obtain rfl : i = l.length := by omega
    have k0 : (jK H 421).1 = 18 := by rw [sK_421 hsh]
    have hn2 : jI H 421 56 = Int32.ofNat l.length := (jfr_I hfr (by omega)).trans hn
    have e3 : Int32.ofNat bx.length + (2 + Int32.ofNat l.length) = Int32.ofNat (bx.length + (2 + l.length)) := by
      rw [show (2 : Int32) = Int32.ofNat 2 from rfl, jo_add, jo_add]
    rw [List.take_length] at hrow
    have hlen : (bx ++ (zhd l.length ++ l)).length = bx.length + (2 + l.length) := by
      rw [List.length_append, List.length_append]
      rfl
    rw [hn2, sR_421_54 hsh, sK_511 hsh, jo_nat (n := p) (by omega), h41, e3]
    refine jT_g k0 (jT_pos (by rw [jo_le (by omega) (by omega)]; exact Nat.le_refl _) (jT_g k0 (jT_g ⟨rfl, jo_in (by omega) (by show p < 4; omega)⟩ (jT_g k0 (jT_g ⟨rfl, by decide, jo_in (by omega) (by show p < 4; omega)⟩ (jT_l (jT_ret (hk _ (jsh_sI hsh (by decide)) ⟨?_, ?_⟩ ⟨?_, ?_, ?_⟩ (jfr_sI hfr (Or.inr ⟨rfl, rfl⟩))))))))))
    · exact (jI_sIa (by decide)).trans hn2
    · exact zRow_eq hm.2 fun i _ => jB_sBx.trans (jfr_B hfr (by omega))
    · rw [hlen]
      omega
    · rw [jI_sIe, hlen]
    · exact zRow_eq hrow fun i _ => jB_sBx
  | succ d ih =>
    intro i f H hi hf hsh hfr h41 hrow
    obtain ⟨f, rfl⟩ : ∃ k, f = k + 1 := ⟨f - 1, by omega⟩
    unfold F_18_tell_63 B_18_tell_63
    have hil : i < l.length := by omega
    have e_i : Int32.ofNat i + 1 = Int32.ofNat (i + 1) := jo_add (a := i) (b := 1)
    have k0 : (jK H 421).1 = 18 := by rw [sK_421 hsh]
    have hn2 : jI H 421 56 = Int32.ofNat l.length := (jfr_I hfr (by omega)).trans hn
    have e4 : 8000 * Int32.ofNat p + Int32.ofNat bx.length + 2 + Int32.ofNat i = Int32.ofNat (8000 * p + (bx.length + (2 + i))) := by
      rw [show (2 : Int32) = Int32.ofNat 2 from rfl, show (8000 : Int32) = Int32.ofNat 8000 from rfl, jo_mul, jo_add, jo_add, jo_add, Nat.add_assoc, Nat.add_assoc]
    have hv : jB H 512 i = l[i] := by
      have h1 := hm.2 i _ (List.getElem?_eq_getElem hil)
      rw [Nat.zero_add] at h1
      exact (jfr_B hfr (by omega)).trans h1
    have hlen : (bx ++ (zhd l.length ++ l.take i)).length = bx.length + (2 + i) := by
      rw [List.length_append, List.length_append, List.length_take]
      show bx.length + (2 + min i l.length) = _
      omega
    have r1 := zRow_set (v := l[i]) hrow
    rw [hlen] at r1
    rw [hn2, sR_421_55 hsh, sK_512 hsh, sR_421_53 hsh, sK_510 hsh, e4, jo_nat (n := i) (by omega), jo_nat (n := 8000 * p + (bx.length + (2 + i))) (by omega), hv, jbu_b]
    refine jT_g k0 (jT_neg (by rw [jo_le (by omega) (by omega)]; omega) (jT_g k0 (jT_g k0 (jT_g ⟨rfl, jo_in (by omega) (by show i < 2200; omega)⟩ (jT_g ⟨rfl, jo_in (by omega) (by show 8000 * p + (bx.length + (2 + i)) < 32000; omega)⟩ (jT_l (jT_l ?_)))))))
    rw [e_i]
    refine ih (i + 1) f _ (by omega) (by omega) (jsh_sB hsh) (jfr_sB hfr (Or.inl ⟨rfl, by omega, by omega⟩)) (jI_sBx.trans h41) ?_
    rw [List.take_succ_eq_append_getElem hil, ← List.append_assoc (zhd l.length), ← List.append_assoc bx]
    exact r1
theorem z18_tell {H0 : jH} (hs : jsh H0) (hp : p < 4) (hm : zM18 l H0) (hl : l.length ≤ 2000) (hb : zBx18 p bx H0)
    (hk : ∀ H', jsh H' → zM18 l H' → zBx18 p (zpo bx l) H' → jfr (fun a j => (a = 510 ∧ 8000 * p ≤ j ∧ j < 8000 * p + 8000) ∨ (a = 511 ∧ j = p)) H0 H' → Q () H') : jT (F_18_tell 421 (Int32.ofNat p) H0) Q := by
  unfold F_18_tell
  have k0 : (jK H0 421).1 = 18 := by rw [sK_421 hs]
  obtain ⟨b1, b2, b5⟩ := hb
  have hn : jI H0 421 56 = Int32.ofNat l.length := hm.1
  have e1 : Int32.ofNat bx.length + 2 + Int32.ofNat l.length = Int32.ofNat (bx.length + 2 + l.length) := by
    rw [show (2 : Int32) = Int32.ofNat 2 from rfl, jo_add, jo_add]
  have e2 : 8000 * Int32.ofNat p + Int32.ofNat bx.length = Int32.ofNat (8000 * p + bx.length) := by
    rw [show (8000 : Int32) = Int32.ofNat 8000 from rfl, jo_mul, jo_add]
  have e3 : Int32.ofNat (8000 * p + bx.length) + 1 = Int32.ofNat (8000 * p + (bx.length + 1)) := by
    rw [show (1 : Int32) = Int32.ofNat 1 from rfl, jo_add, Nat.add_assoc]
  rw [sR_421_54 hs, sK_511 hs, hn, jo_nat (n := p) (by omega), b2]
  refine jT_g k0 (jT_g ⟨rfl, jo_in (by omega) (by show p < 4; omega)⟩ (jT_l (jT_g k0 ?_)))
  rw [e1, e2, e3, sR_421_53 hs, sK_510 hs]
  by_cases hfit : bx.length + 2 + l.length ≤ 8000
  · have hpo : zpo bx l = bx ++ (zhd l.length ++ l) := if_pos hfit
    rw [hpo] at hk
    rw [jo_nat (n := 8000 * p + bx.length) (by omega), jo_nat (n := 8000 * p + (bx.length + 1)) (by omega)]
    refine jT_pos (by rw [show (8000 : Int32) = Int32.ofNat 8000 from rfl, jo_le (by omega) (by omega)]; omega) (jT_g k0 (jT_g k0 (jT_g ⟨rfl, jo_in (by omega) (by show 8000 * p + bx.length < 32000; omega)⟩ (jT_l ?_))))
    have r1 := zRow_set (v := jbu (ji2b (jshr (Int32.ofNat l.length) 8))) b5
    have f1 : jfr (fun a j => (a = 510 ∧ 8000 * p ≤ j ∧ j < 8000 * p + 8000) ∨ (a = 511 ∧ j = p)) H0 (jsB H0 510 (8000 * p + bx.length) (jbu (ji2b (jshr (Int32.ofNat l.length) 8)))) := jfr_sB jfr_refl (Or.inl ⟨rfl, by omega, by omega⟩)
    have s1 : jsh (jsB H0 510 (8000 * p + bx.length) (jbu (ji2b (jshr (Int32.ofNat l.length) 8)))) := jsh_sB hs
    have n1 : jI (jsB H0 510 (8000 * p + bx.length) (jbu (ji2b (jshr (Int32.ofNat l.length) 8)))) 421 56 = Int32.ofNat l.length := jI_sBx.trans hn
    have w1 : jI (jsB H0 510 (8000 * p + bx.length) (jbu (ji2b (jshr (Int32.ofNat l.length) 8)))) 511 p = Int32.ofNat bx.length := jI_sBx.trans b2
    generalize jsB H0 510 (8000 * p + bx.length) (jbu (ji2b (jshr (Int32.ofNat l.length) 8))) = H1 at *
    have k1 : (jK H1 421).1 = 18 := by rw [sK_421 s1]
    rw [n1, sR_421_53 s1, sK_510 s1]
    refine jT_g k1 (jT_g k1 (jT_g ⟨rfl, jo_in (by omega) (by show 8000 * p + (bx.length + 1) < 32000; omega)⟩ (jT_l ?_)))
    have r2 := zRow_set (v := jbu (ji2b (Int32.ofNat l.length))) r1
    have hl2 : (bx ++ [jbu (ji2b (jshr (Int32.ofNat l.length) 8))]).length = bx.length + 1 := List.length_append
    rw [hl2, List.append_assoc] at r2
    exact z18_tell63 (bx := bx) hp hm hl hfit hk l.length 0 jfuel _ (by omega) (by unfold jfuel; omega) (jsh_sB s1) (jfr_sB f1 (Or.inl ⟨rfl, by omega, by omega⟩)) (jI_sBx.trans w1) (by rw [List.take_zero, List.append_nil]; exact r2)
  · have hpo : zpo bx l = bx := if_neg hfit
    rw [hpo] at hk
    exact jT_neg (by rw [show (8000 : Int32) = Int32.ofNat 8000 from rfl, jo_le (by omega) (by omega)]; omega) (jT_ret (hk H0 hs hm ⟨b1, b2, b5⟩ jfr_refl))
end TELL
