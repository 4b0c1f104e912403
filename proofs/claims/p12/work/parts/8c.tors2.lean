/-! No point has the order 2, 3, 5, 7 or 11. -/
noncomputable def eN : Nat → ef × ef → Option (ef × ef) := fun k Q => eg_n ef_iv k (some Q)
def e7 : ef := ef_i 7
theorem eg_k1 {α : Type} [Lean.Grind.CommRing α] {x a s c : α} (h : 4 * (x * a * (x * a) * (x * a) + s) * (x * c) = x * a * (x * a * (x * a) * (x * a) - 8 * s)) : x * (4 * (x * x * x * (a * a * a) + s) * c) = x * (a * (x * x * x * (a * a * a) + -(8 * s))) := by
  have e1 : x * (4 * (x * x * x * (a * a * a) + s) * c) = 4 * (x * a * (x * a) * (x * a) + s) * (x * c) := by
    clear h
    grind
  rw [e1, h]
  clear h e1
  grind
theorem eg_k2 {α : Type} [Lean.Grind.CommRing α] {x a b s c : α} (h : x * c * x * ((x * a - x * b) * (x * a - x * b)) = x * a * (x * b) * (x * a * (x * b)) - 4 * s * (x * a + x * b)) : x * (x * x * x * c * ((a - b) * (a - b))) = x * (x * x * x * (a * b * (a * b)) + -(4 * s) * (a + b)) := by
  have e1 : x * (x * x * x * c * ((a - b) * (a - b))) = x * c * x * ((x * a - x * b) * (x * a - x * b)) := by
    clear h
    grind
  rw [e1, h]
  clear h e1
  grind
theorem ef_y {p : ef × ef} (hp : eg_c e7 p) : p.2 ≠ 0 := fun h => by
  unfold eg_c at hp
  rw [h] at hp
  have hx : p.1 ≠ 0 := fun h1 => by
    rw [h1] at hp
    exact absurd hp (by decide +kernel)
  have h1 := ef_cube hx (e := 38597363079105398474523661669562635951089994888546854679819194669302944890554) (by decide)
  have h2 : p.1 * p.1 * p.1 = ef_i ((115792089237316195423570985008687907853269984665640564039457584007908834671656 : Nat) : Int) := by
    have : ef_i ((115792089237316195423570985008687907853269984665640564039457584007908834671656 : Nat) : Int) = -e7 := by decide +kernel
    rw [this]
    generalize e7 = s at hp ⊢
    generalize p.1 = x at hp ⊢
    grind
  rw [h2] at h1
  exact ef_pn (k := 256) (by decide) (by decide +kernel) h1
theorem ef_x {p : ef × ef} (hp : eg_c e7 p) : p.1 ≠ 0 := fun h => by
  have hy := ef_y hp
  unfold eg_c at hp
  rw [h] at hp
  have h1 := ef_square hy (e := 57896044618658097711785492504343953926634992332820282019728792003954417335831) (by decide)
  have h2 : p.2 * p.2 = ef_i ((7 : Nat) : Int) := by
    rw [hp]
    decide +kernel
  rw [h2] at h1
  exact ef_pn (k := 256) (by decide) (by decide +kernel) h1
theorem ef_x3 {p : ef × ef} (hp : eg_c e7 p) : p.1 * p.1 * p.1 ≠ ef_i (-28) := fun h => by
  have hy := ef_y hp
  unfold eg_c at hp
  rw [h] at hp
  have h1 := ef_square hy (e := 57896044618658097711785492504343953926634992332820282019728792003954417335831) (by decide)
  have h2 : p.2 * p.2 = ef_i ((115792089237316195423570985008687907853269984665640564039457584007908834671642 : Nat) : Int) := by
    rw [hp]
    decide +kernel
  rw [h2] at h1
  exact ef_pn (k := 256) (by decide) (by decide +kernel) h1
theorem ef_p3 {p : ef × ef} (hp : eg_c e7 p) : ef_p (p.1 * p.1 * p.1) 38597363079105398474523661669562635951089994888546854679819194669302944890554 = 1 := ef_cube (ef_x hp) (by decide)
def ef_fr (x : ef) (q : ef × ef) (n d : List Int) : Prop := eg_c e7 q ∧ ∃ a, q.1 = x * a ∧ pl_fr ef_i (x * x * x) a n d
theorem ef_can {x y z : ef} (hx : x ≠ 0) (h : x * y = x * z) : y = z := eg_can ef_fld hx h
theorem ef_div (x y : ef) (hx : x ≠ 0) : ∃ a, y = x * a := by
  have := ef_fld.2.1 x hx
  refine ⟨ef_iv x * y, ?_⟩
  generalize ef_iv x = i at this ⊢
  grind
theorem ef_dbl {x : ef} (hx : x ≠ 0) {q : ef × ef} {n d : List Int} (h : ef_fr x q n d) : ∃ r, eg_add ef_iv (some q) (some q) = some r ∧ ef_fr x r (pl_dn n d) (pl_dd n d) := by
  obtain ⟨hq, a, ha, hf⟩ := h
  obtain ⟨r, h1, h2, h3⟩ := eg_dbl ef_fld hq (ef_y hq)
  obtain ⟨c, hc⟩ := ef_div x r.1 hx
  refine ⟨r, h1, h2, c, hc, pl_dbl ef_hom hf (ef_can hx ?_)⟩
  have e1 : ef_i (-56) = -(8 * ef_i 7) := by decide +kernel
  have e2 : ef_i 4 = 4 := by decide +kernel
  rw [hc, ha] at h3
  rw [e1, e2]
  exact eg_k1 h3
theorem ef_sum {x : ef} (hx : x ≠ 0) {p q o : ef × ef} {n d m e : List Int} (h : ef_fr x p n d) (g : ef_fr x q m e) (hne : p.1 ≠ q.1) (ho : eg_add ef_iv (some p) (eg_neg (some q)) = some o) (hox : o.1 = x) : ∃ r, eg_add ef_iv (some p) (some q) = some r ∧ ef_fr x r (pl_sn n d m e) (pl_sd n d m e) := by
  obtain ⟨hp, a, ha, hf⟩ := h
  obtain ⟨hq, b, hb, hg⟩ := g
  obtain ⟨r, h1, h2, h3⟩ := eg_sumx ef_fld hp hq hne ho
  obtain ⟨c, hc⟩ := ef_div x r.1 hx
  refine ⟨r, h1, h2, c, hc, pl_sum ef_hom ef_1 hf hg (ef_can hx ?_)⟩
  have e1 : ef_i (-28) = -(4 * ef_i 7) := by decide +kernel
  rw [hc, ha, hb, hox] at h3
  rw [e1]
  exact eg_k2 h3
theorem ef_same {x : ef} (hx : x ≠ 0) {p q : ef × ef} {n d m e : List Int} (h : ef_fr x p n d) (g : ef_fr x q m e) (he : p.1 = q.1) : pl_e ef_i (x * x * x) (pl_mi n d m e) = 0 := by
  obtain ⟨hp, a, ha, hf⟩ := h
  obtain ⟨hq, b, hb, hg⟩ := g
  have : a = b := ef_can hx (by rw [← ha, ← hb, he])
  rw [this] at hf
  exact pl_same ef_hom ef_1 hf hg
section TORS
variable {Q : ef × ef}
theorem ef_onN (hQ : eg_c e7 Q) (k : Nat) : eg_on e7 (eN k Q) := eg_on_n ef_fld (p := some Q) hQ k
theorem ef_Nadd (hQ : eg_c e7 Q) (a b : Nat) : eN (a + b) Q = eg_add ef_iv (eN a Q) (eN b Q) := eg_n_add ef_fld (p := some Q) hQ a b
theorem ef_Nsub (hQ : eg_c e7 Q) {a b : Nat} (h : b ≤ a) : eg_add ef_iv (eN a Q) (eg_neg (eN b Q)) = eN (a - b) Q := by
  have := eg_z_sub ef_fld (p := some Q) hQ a b
  rw [show (a : Int) - b = ((a - b : Nat) : Int) by omega] at this
  exact this.symm
/-- the same first coordinates -/
theorem ef_alike (hQ : eg_c e7 Q) {a b : Nat} (h : b ≤ a) {p q : ef × ef} (hp : eN a Q = some p) (hq : eN b Q = some q) (he : p.1 = q.1) : eN (a - b) Q = none ∨ eN (a + b) Q = none := by
  have cp : eg_c e7 p := by
    have := ef_onN hQ a
    rw [hp] at this
    exact this
  have cq : eg_c e7 q := by
    have := ef_onN hQ b
    rw [hq] at this
    exact this
  have hy : (p.2 - q.2) * (p.2 + q.2) = 0 := by
    unfold eg_c at cp cq
    rw [he] at cp
    clear hp hq he hQ h
    grind
  rcases ef_dom _ _ hy with h1 | h1
  · refine Or.inl ?_
    rw [← ef_Nsub hQ h, hp, hq]
    exact eg_add_op ⟨he, by show p.2 = - -q.2; clear hp hq he hQ h cp cq hy; grind⟩
  · refine Or.inr ?_
    rw [ef_Nadd hQ, hp, hq]
    exact eg_add_op ⟨he, by clear hp hq he hQ h cp cq hy; grind⟩
/-- if so many and so many are nothing together -/
theorem ef_meet (hQ : eg_c e7 Q) {a b : Nat} {p q : ef × ef} (hp : eN a Q = some p) (hq : eN b Q = some q) (h : eN (a + b) Q = none) : p.1 = q.1 := by
  have cp := ef_onN hQ a
  have cq := ef_onN hQ b
  rw [ef_Nadd hQ, hp, hq] at h
  rw [hp] at cp
  rw [hq] at cq
  have := eg_neg_of ef_fld cp cq h
  have := Option.some.inj this
  rw [this]
  rfl
theorem ef_tors (hQ : eg_c e7 Q) : eN 2 Q ≠ none ∧ eN 3 Q ≠ none ∧ eN 5 Q ≠ none ∧ eN 7 Q ≠ none ∧ eN 11 Q ≠ none := by
  have hx := ef_x hQ
  have ht : Q.1 * Q.1 * Q.1 ≠ 0 := fun e => by
    rcases ef_dom _ _ e with e | e
    · rcases ef_dom _ _ e with e | e <;> exact hx e
    · exact hx e
  have hp3 := ef_p3 hQ
  have f1 : ef_fr Q.1 Q pl_n1 pl_n1 := ⟨hQ, 1, by generalize Q.1 = x; grind, by
    show 1 * pl_e ef_i (Q.1 * Q.1 * Q.1) pl_n1 = pl_e ef_i (Q.1 * Q.1 * Q.1) pl_n1
    generalize pl_e ef_i (Q.1 * Q.1 * Q.1) pl_n1 = x
    grind⟩
  have g1 : eN 1 Q = some Q := rfl
  obtain ⟨q2, g2, f2⟩ := ef_dbl hx f1
  change eN 2 Q = some q2 at g2
  change ef_fr Q.1 q2 pl_n2 pl_d2 at f2
  have n3 : eN 3 Q ≠ none := fun h => by
    have h1 := ef_meet hQ (a := 2) (b := 1) g2 g1 h
    have h2 := ef_same hx f2 f1 h1
    have e1 : pl_mi pl_n2 pl_d2 pl_n1 pl_n1 = [-84, -3] := by decide +kernel
    rw [e1] at h2
    refine ef_x3 hQ ?_
    change ef_i (-84) + Q.1 * Q.1 * Q.1 * (ef_i (-3) + Q.1 * Q.1 * Q.1 * 0) = 0 at h2
    have e2 : ef_i (-84) = ef_i (-3) * -ef_i (-28) := by decide +kernel
    rw [e2] at h2
    have e3 : ef_i (-3) ≠ 0 := by decide +kernel
    refine ef_can e3 ?_
    generalize ef_i (-3) = u at h2 ⊢
    generalize ef_i (-28) = v at h2 ⊢
    generalize Q.1 * Q.1 * Q.1 = w at h2 ⊢
    clear f1 f2 g1 g2 h h1 e1 e2 e3 hp3 ht hx
    grind
  have x21 : q2.1 ≠ Q.1 := fun e => by
    rcases ef_alike hQ (a := 2) (b := 1) (by omega) g2 g1 e with h | h
    · exact absurd (g1.symm.trans h) (by simp)
    · exact n3 h
  obtain ⟨q3, g3, f3⟩ := ef_sum (o := Q) hx f2 f1 x21 (by rw [← g2, ← g1]; exact ef_Nsub hQ (by omega)) rfl
  rw [← g2, ← g1, ← ef_Nadd hQ] at g3
  change eN 3 Q = some q3 at g3
  change ef_fr Q.1 q3 pl_n3 pl_d3 at f3
  have n5 : eN 5 Q ≠ none := fun h => pl_no5 ht hp3 (ef_same hx f3 f2 (ef_meet hQ (a := 3) (b := 2) g3 g2 h))
  obtain ⟨q4, g4, f4⟩ := ef_dbl hx f2
  rw [← g2, ← ef_Nadd hQ] at g4
  change eN 4 Q = some q4 at g4
  change ef_fr Q.1 q4 pl_n4 pl_d4 at f4
  have n7 : eN 7 Q ≠ none := fun h => pl_no7 ht hp3 (ef_same hx f4 f3 (ef_meet hQ (a := 4) (b := 3) g4 g3 h))
  have x32 : q3.1 ≠ q2.1 := fun e => by
    rcases ef_alike hQ (a := 3) (b := 2) (by omega) g3 g2 e with h | h
    · exact absurd (g1.symm.trans h) (by simp)
    · exact n5 h
  obtain ⟨q5, g5, f5⟩ := ef_sum (o := Q) hx f3 f2 x32 (by rw [← g3, ← g2]; exact ef_Nsub hQ (by omega)) rfl
  rw [← g3, ← g2, ← ef_Nadd hQ] at g5
  change eN 5 Q = some q5 at g5
  change ef_fr Q.1 q5 pl_n5 pl_d5 at f5
  obtain ⟨q6, g6, f6⟩ := ef_dbl hx f3
  rw [← g3, ← ef_Nadd hQ] at g6
  change eN 6 Q = some q6 at g6
  change ef_fr Q.1 q6 pl_n6 pl_d6 at f6
  have n11 : eN 11 Q ≠ none := fun h => pl_no11 ht hp3 (ef_same hx f6 f5 (ef_meet hQ (a := 6) (b := 5) g6 g5 h))
  exact ⟨by rw [g2]; simp, n3, n5, n7, n11⟩
end TORS
