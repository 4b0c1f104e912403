/-! A message goes into a box: the class's ring, the reference's row. -/
def zhd (n : Nat) : List UInt8 := [jbu (ji2b (jshr (Int32.ofNat n) 8)), jbu (ji2b (Int32.ofNat n))]
def zBx11 (p : Nat) (l : List UInt8) (H : jH) : Prop := l.length ≤ 8000 ∧ jI H 41 p = Int32.ofNat l.length ∧ ∃ s, s < 8000 ∧ jI H 40 p = Int32.ofNat s ∧ ∀ (i : Nat) (u : UInt8), l[i]? = some u → jB H (36 + p) ((s + i) % 8000) = u
/-- what stands in a box after a message was posted -/
def zpo (bx l : List UInt8) : List UInt8 := if bx.length + 2 + l.length ≤ 8000 then bx ++ (zhd l.length ++ l) else bx
section BOX
variable {Q : Unit → jH → Prop} {l bx : List UInt8} {p : Nat}
theorem zRing_set {l : List UInt8} {r s : Nat} {H : jH} {v : UInt8} (hl : l.length < 8000) (h : ∀ (i : Nat) (u : UInt8), l[i]? = some u → jB H r ((s + i) % 8000) = u) :
    ∀ (i : Nat) (u : UInt8), (l ++ [v])[i]? = some u → jB (jsB H r ((s + l.length) % 8000) v) r ((s + i) % 8000) = u := by
  intro i u hi
  by_cases hil : i < l.length
  · rw [List.getElem?_append_left hil] at hi
    rw [jB_sBn (by omega)]
    exact h i u hi
  · rw [List.getElem?_append_right (by omega)] at hi
    obtain ⟨h1, h2⟩ := List.getElem?_eq_some_iff.mp hi
    have h3 : i - l.length < 1 := h1
    obtain rfl : i = l.length := by omega
    rw [jB_sBe]
    have h4 : ∀ (k : Nat) (hk : k < [v].length), [v][k] = v := fun k hk => by
      have : k < 1 := hk
      obtain rfl : k = 0 := by omega
      rfl
    rw [← h2, h4]
theorem z11_88 {k : Nat → Int32 → Int32 → Int32 → jH → Option (Unit × jH)} {q : Nat} {a2 a3 v : Int32} {H : jH} (hs : jsh H) (hp : p < 4) (hq : (a2 + 2) + a3 = Int32.ofNat q) (hq2 : q < 2147483600) (hk : jT (k 32 (Int32.ofNat p) a2 (a3 + 1) (jsB H (36 + p) (q % 8000) (jbu (ji2b v)))) Q) :
    jT (B_11_post_88 k 32 (Int32.ofNat p) a2 a3 v H) Q := by
  unfold B_11_post_88
  have e2 : jrem (Int32.ofNat q) 8000 = Int32.ofNat (q % 8000) := jo_rem (a := q) (b := 8000) (by omega) (by omega)
  have h8 : q % 8000 < 8000 := Nat.mod_lt _ (by decide)
  rw [hq, e2, sR_32_4 hs, sK_35 hs, jo_nat (n := p) (by omega), jo_nat (n := q % 8000) (by omega), sR_35 hs hp, sK_box hs hp]
  exact jT_g (by rw [sK_32 hs]) (jT_g ⟨rfl, jo_in (by omega) (by show p < 4; omega)⟩ (jT_g (by decide) (jT_g ⟨rfl, jo_in (by omega) (by show q % 8000 < 8000; omega)⟩ (jT_l (jT_l hk)))))
theorem z11_post46 {s : Nat} {H0 : jH} (hp : p < 4) (hm : zM11 l H0) (hl : l.length ≤ 2000) (b3 : s < 8000) (b4 : jI H0 40 p = Int32.ofNat s) (hfit : bx.length + 2 + l.length ≤ 8000)
    (hk : ∀ H', jsh H' → zM11 l H' → zBx11 p (bx ++ (zhd l.length ++ l)) H' → jfr (fun a j => a = 36 + p ∨ (a = 41 ∧ j = p)) H0 H' → Q () H') :
    ∀ (d i f : Nat) (H : jH), i + d = l.length → d < f → jsh H → jfr (fun a j => a = 36 + p ∨ (a = 41 ∧ j = p)) H0 H → jI H 41 p = Int32.ofNat bx.length → (∀ (k : Nat) (u : UInt8), (bx ++ (zhd l.length ++ l.take i))[k]? = some u → jB H (36 + p) ((s + k) % 8000) = u) → jT (F_11_post_46 f 32 (Int32.ofNat p) (Int32.ofNat (s + bx.length)) (Int32.ofNat i) H) Q := by
  have hn : jI H0 32 8 = Int32.ofNat l.length := hm.1
  intro d
  induction d with
  | zero =>
    intro i f H hi hf hsh hfr h41 hring
    obtain ⟨f, rfl⟩ : ∃ k, f = k + 1 := ⟨f - 1, by omega⟩
    unfold F_11_post_46 B_11_post_46
    obtain rfl : i = l.length := by omega
    have k32 : (jK H 32).1 = 11 := by rw [sK_32 hsh]
    have hn2 : jI H 32 8 = Int32.ofNat l.length := (jfr_I hfr (by omega)).trans hn
    have e3 : Int32.ofNat bx.length + (2 + Int32.ofNat l.length) = Int32.ofNat (bx.length + (2 + l.length)) := by
      rw [show (2 : Int32) = Int32.ofNat 2 from rfl, jo_add, jo_add]
    rw [List.take_length] at hring
    rw [hn2, sR_32_6 hsh, sK_41 hsh, jo_nat (n := p) (by omega), h41, e3]
    refine jT_g k32 (jT_pos (by rw [jo_le (by omega) (by omega)]; exact Nat.le_refl _) (jT_g k32 (jT_g ⟨rfl, jo_in (by omega) (by show p < 4; omega)⟩ (jT_g k32 (jT_g ⟨rfl, by decide, jo_in (by omega) (by show p < 4; omega)⟩ (jT_l (jT_ret (hk _ (jsh_sI hsh (by decide)) ⟨?_, ?_⟩ ⟨?_, ?_, s, b3, ?_, hring⟩ (jfr_sI hfr (Or.inr ⟨rfl, rfl⟩))))))))))
    · exact (jI_sIa (by decide)).trans hn2
    · exact zRow_eq hm.2 fun i _ => jfr_B hfr (by omega)
    · rw [List.length_append, List.length_append]
      show bx.length + (2 + l.length) ≤ 8000
      omega
    · rw [jI_sIe, List.length_append, List.length_append]
      rfl
    · exact (jI_sIa (by decide)).trans ((jfr_I hfr (by omega)).trans b4)
  | succ d ih =>
    intro i f H hi hf hsh hfr h41 hring
    obtain ⟨f, rfl⟩ : ∃ k, f = k + 1 := ⟨f - 1, by omega⟩
    unfold F_11_post_46 B_11_post_46
    have hil : i < l.length := by omega
    have e_i : Int32.ofNat i + 1 = Int32.ofNat (i + 1) := jo_add (a := i) (b := 1)
    have k32 : (jK H 32).1 = 11 := by rw [sK_32 hsh]
    have hn2 : jI H 32 8 = Int32.ofNat l.length := (jfr_I hfr (by omega)).trans hn
    have e4 : Int32.ofNat (s + bx.length) + 2 + Int32.ofNat i = Int32.ofNat (s + bx.length + 2 + i) := by
      rw [show (2 : Int32) = Int32.ofNat 2 from rfl, jo_add, jo_add]
    have hv : jB H 42 i = l[i] := by
      have h1 := hm.2 i _ (List.getElem?_eq_getElem hil)
      rw [Nat.zero_add] at h1
      exact (jfr_B hfr (by omega)).trans h1
    rw [hn2, sR_32_7 hsh, sK_42 hsh, jo_nat (n := i) (by omega), hv]
    have ne1 : ¬ Int32.ofNat i = -1 := fun q => by
      have := congrArg Int32.toInt q
      rw [jo_int (by omega), show (-1 : Int32).toInt = -1 from by decide] at this
      omega
    have ne2 : ¬ Int32.ofNat i = -2 := fun q => by
      have := congrArg Int32.toInt q
      rw [jo_int (by omega), show (-2 : Int32).toInt = -2 from by decide] at this
      omega
    refine jT_g k32 (jT_neg (by rw [jo_le (by omega) (by omega)]; omega) (jT_pos ne2 (jT_pos ne1 (jT_g k32 (jT_g ⟨rfl, jo_in (by omega) (by show i < 2000; omega)⟩ (z11_88 hsh hp e4 (by omega) ?_))))))
    rw [e_i, jbu_ib]
    refine ih (i + 1) f _ (by omega) (by omega) (jsh_sB hsh) (jfr_sB hfr (Or.inl rfl)) h41 ?_
    have hlen : (bx ++ (zhd l.length ++ l.take i)).length = bx.length + (2 + i) := by
      rw [List.length_append, List.length_append, List.length_take]
      show bx.length + (2 + min i l.length) = _
      omega
    have := zRing_set (v := l[i]) (by omega) hring
    rw [hlen] at this
    rw [show s + bx.length + 2 + i = s + (bx.length + (2 + i)) by omega, List.take_succ_eq_append_getElem hil, ← List.append_assoc (zhd l.length), ← List.append_assoc bx]
    exact this
theorem jI_sBx {H : jH} {a i b j : Nat} {v : UInt8} : jI (jsB H a i v) b j = jI H b j := rfl
theorem zi1 : (2 : Int32) + -2 = 0 := by decide
theorem zi2 : (2 : Int32) + -1 = Int32.ofNat 1 := by decide
theorem zi3 : (-2 : Int32) + 1 = -1 := by decide
theorem zi4 : (-1 : Int32) + 1 = Int32.ofNat 0 := by decide
theorem zi5 : ¬ (-1 : Int32) = -2 := by decide
theorem zi6 : ¬ ¬ (-1 : Int32) = -1 := fun w => w rfl
theorem zi7 : ¬ ¬ (-2 : Int32) = -2 := fun w => w rfl
theorem z11_posth {s : Nat} {H0 : jH} (hs : jsh H0) (hp : p < 4) (hm : zM11 l H0) (hl : l.length ≤ 2000) (b3 : s < 8000) (b4 : jI H0 40 p = Int32.ofNat s) (b2 : jI H0 41 p = Int32.ofNat bx.length) (b5 : ∀ (i : Nat) (u : UInt8), bx[i]? = some u → jB H0 (36 + p) ((s + i) % 8000) = u) (hfit : bx.length + 2 + l.length ≤ 8000)
    (hk : ∀ H', jsh H' → zM11 l H' → zBx11 p (bx ++ (zhd l.length ++ l)) H' → jfr (fun a j => a = 36 + p ∨ (a = 41 ∧ j = p)) H0 H' → Q () H') :
    ∀ f, l.length + 2 < f → jT (F_11_post_46 f 32 (Int32.ofNat p) (Int32.ofNat (s + bx.length)) (-2) H0) Q := by
  intro f hf
  obtain ⟨g, rfl⟩ : ∃ k, f = k + 2 := ⟨f - 2, by omega⟩
  have hg2 : l.length < g := by omega
  have hn : jI H0 32 8 = Int32.ofNat l.length := hm.1
  have k32 : (jK H0 32).1 = 11 := by rw [sK_32 hs]
  have c1 : ¬ Int32.ofNat l.length ≤ -1 := by
    rw [Int32.le_iff_toInt_le, jo_int (by omega), show (-1 : Int32).toInt = -1 from by decide]
    omega
  have c2 : ¬ Int32.ofNat l.length ≤ -2 := by
    rw [Int32.le_iff_toInt_le, jo_int (by omega), show (-2 : Int32).toInt = -2 from by decide]
    omega
  have q2 : Int32.ofNat (s + bx.length) + 2 + -2 = Int32.ofNat (s + bx.length) := by
    rw [Int32.add_assoc, zi1, Int32.add_zero]
  have q1 : Int32.ofNat (s + bx.length) + 2 + -1 = Int32.ofNat (s + (bx.length + 1)) := by
    rw [Int32.add_assoc, zi2, jo_add, Nat.add_assoc]
  unfold F_11_post_46 B_11_post_46
  rw [hn]
  refine jT_g k32 (jT_neg c2 (jT_neg zi7 (jT_g k32 (z11_88 hs hp q2 (by omega) ?_))))
  have r1 := zRing_set (v := jbu (ji2b (jshr (Int32.ofNat l.length) 8))) (by omega) b5
  have f1 : jfr (fun a j => a = 36 + p ∨ (a = 41 ∧ j = p)) H0 (jsB H0 (36 + p) ((s + bx.length) % 8000) (jbu (ji2b (jshr (Int32.ofNat l.length) 8)))) := jfr_sB jfr_refl (Or.inl rfl)
  have s1 : jsh (jsB H0 (36 + p) ((s + bx.length) % 8000) (jbu (ji2b (jshr (Int32.ofNat l.length) 8)))) := jsh_sB hs
  have n1 : jI (jsB H0 (36 + p) ((s + bx.length) % 8000) (jbu (ji2b (jshr (Int32.ofNat l.length) 8)))) 32 8 = Int32.ofNat l.length := jI_sBx.trans hn
  have w1 : jI (jsB H0 (36 + p) ((s + bx.length) % 8000) (jbu (ji2b (jshr (Int32.ofNat l.length) 8)))) 41 p = Int32.ofNat bx.length := jI_sBx.trans b2
  generalize jsB H0 (36 + p) ((s + bx.length) % 8000) (jbu (ji2b (jshr (Int32.ofNat l.length) 8))) = H1 at *
  rw [zi3]
  unfold F_11_post_46 B_11_post_46
  have k1 : (jK H1 32).1 = 11 := by rw [sK_32 s1]
  rw [n1]
  refine jT_g k1 (jT_neg c1 (jT_pos zi5 (jT_neg zi6 (jT_g k1 (z11_88 s1 hp q1 (by omega) ?_)))))
  rw [zi4]
  have r2 := zRing_set (v := jbu (ji2b (Int32.ofNat l.length))) (by rw [List.length_append]; show bx.length + 1 < 8000; omega) r1
  have hl2 : (bx ++ [jbu (ji2b (jshr (Int32.ofNat l.length) 8))]).length = bx.length + 1 := List.length_append
  rw [hl2, List.append_assoc] at r2
  exact z11_post46 (bx := bx) hp hm hl b3 b4 hfit hk l.length 0 g _ (by omega) hg2 (jsh_sB s1) (jfr_sB f1 (Or.inl rfl)) (jI_sBx.trans w1) (by rw [List.take_zero, List.append_nil]; exact r2)
theorem z11_post {H0 : jH} (hs : jsh H0) (hp : p < 4) (hm : zM11 l H0) (hl : l.length ≤ 2000) (hb : zBx11 p bx H0)
    (hk : ∀ H', jsh H' → zM11 l H' → zBx11 p (zpo bx l) H' → jfr (fun a j => a = 36 + p ∨ (a = 41 ∧ j = p)) H0 H' → Q () H') : jT (F_11_post 32 (Int32.ofNat p) H0) Q := by
  unfold F_11_post B_11_post_28
  have k32 : (jK H0 32).1 = 11 := by rw [sK_32 hs]
  obtain ⟨b1, b2, s, b3, b4, b5⟩ := hb
  have hn : jI H0 32 8 = Int32.ofNat l.length := hm.1
  have e1 : Int32.ofNat bx.length + 2 + Int32.ofNat l.length = Int32.ofNat (bx.length + 2 + l.length) := by
    rw [show (2 : Int32) = Int32.ofNat 2 from rfl, jo_add, jo_add]
  refine jT_neg (by rw [show (0 : Int32) = Int32.ofNat 0 from rfl, jo_lt (by omega) (by omega)]; omega) (jT_neg (by rw [show (4 : Int32) = Int32.ofNat 4 from rfl, jo_le (by omega) (by omega)]; omega) (jT_g k32 ?_))
  rw [sR_32_6 hs, sR_32_5 hs, sK_41 hs, sK_40 hs, hn, jo_nat (n := p) (by omega), b2, b4, e1]
  refine jT_g ⟨rfl, jo_in (by omega) (by show p < 4; omega)⟩ (jT_g k32 ?_)
  by_cases hfit : bx.length + 2 + l.length ≤ 8000
  · have hpo : zpo bx l = bx ++ (zhd l.length ++ l) := if_pos hfit
    rw [hpo] at hk
    refine jT_pos (by rw [show (8000 : Int32) = Int32.ofNat 8000 from rfl, jo_le (by omega) (by omega)]; omega) (jT_g k32 (jT_g ⟨rfl, jo_in (by omega) (by show p < 4; omega)⟩ (jT_g k32 (jT_g ⟨rfl, jo_in (by omega) (by show p < 4; omega)⟩ (jT_l ?_)))))
    have e2 : Int32.ofNat s + Int32.ofNat bx.length = Int32.ofNat (s + bx.length) := jo_add
    rw [e2]
    exact z11_posth hs hp hm hl b3 b4 b2 b5 hfit hk jfuel (by unfold jfuel; omega)
  · have hpo : zpo bx l = bx := if_neg hfit
    rw [hpo] at hk
    exact jT_neg (by rw [show (8000 : Int32) = Int32.ofNat 8000 from rfl, jo_le (by omega) (by omega)]; omega) (jT_ret (hk H0 hs hm ⟨b1, b2, s, b3, b4, b5⟩ jfr_refl))
end BOX
