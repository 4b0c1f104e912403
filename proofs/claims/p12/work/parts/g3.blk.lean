/-! The class's blocks and what leaves them as they are. -/
def b_dy (nb a : Nat) : Prop := (409 ≤ a ∧ a ≤ 413) ∨ (422 ≤ a ∧ a < nb)
/-- old cells of blocks and transactions stay, but for the flags of blocks -/
def jkp (nb : Nat) (H H' : jH) : Prop := ∀ a, b_dy nb a → jK H' a = jK H a ∧ ∀ j, ((jK H a).1 = 0 → j ≠ 7) → jI H' a j = jI H a j ∧ jL H' a j = jL H a j ∧ jR H' a j = jR H a j ∧ jB H' a j = jB H a j
section JKP
variable {nb nb' : Nat} {H H1 H2 : jH}
theorem jkp_trans (h1 : jkp nb H H1) (h2 : jkp nb H1 H2) : jkp nb H H2 := fun a ha => by
  obtain ⟨k1, q1⟩ := h1 a ha
  obtain ⟨k2, q2⟩ := h2 a ha
  refine ⟨k2.trans k1, fun j hj => ?_⟩
  obtain ⟨a1, a2, a3, a4⟩ := q1 j hj
  obtain ⟨c1, c2, c3, c4⟩ := q2 j (by rw [k1]; exact hj)
  exact ⟨c1.trans a1, c2.trans a2, c3.trans a3, c4.trans a4⟩
theorem jkp_fr {T : Nat → Nat → Prop} (hf : jfr T H H1) (hT : ∀ a j, b_dy nb a → T a j → (jK H a).1 = 0 ∧ j = 7) : jkp nb H H1 := fun a ha =>
  ⟨jfr_K hf a, fun j hj => hf.2.2.2 a j fun w => by have := hT a j ha w; exact hj this.1 this.2⟩
/-- frames that write no such cell -/
theorem jkp_lo {T : Nat → Nat → Prop} (hf : jfr T H H1) (hT : ∀ a j, T a j → a < 409 ∨ (413 < a ∧ a < 422)) : jkp nb H H1 := jkp_fr hf fun a j ha w => by
  have := hT a j w
  unfold b_dy at ha
  omega
theorem jkp_gx {T : Nat → Nat → Prop} {c s : Nat} (hf : jgx T c s H H1) (hnb : nb ≤ jn H) (h513 : 422 ≤ jn H) (hT : ∀ a j, T a j → a < 409 ∨ (413 < a ∧ a < 422) ∨ (422 ≤ a ∧ nb ≤ a)) : jkp nb H H1 := fun a ha =>
  ⟨jgx_K hf (by unfold b_dy at ha; omega), fun j _ => hf.2.2.2.2 a j (by unfold b_dy at ha; omega) fun w => by have := hT a j w; unfold b_dy at ha; omega⟩
theorem j_old (hs : jsh H) {a t n : Nat} (hk : jK H a = (t, n)) (ht : t ≠ 99) : a < jn H := by
  by_cases c : a < jn H
  · exact c
  · have := hs.2.2.2.2.2 a (by omega)
    rw [hk] at this
    exact absurd this ht
/-- a transaction of the class that stands below nb -/
def w_xn (nb o row s len : Nat) (tb : List UInt8) (y : w_y) (nm : List UInt8) (H : jH) : Prop := w_x o row s len tb y nm H ∧ o + 5 < nb ∧ row < nb
theorem w_xn_of {o row s len : Nat} {tb nm : List UInt8} {y : w_y} (hs : jsh H) (h : w_x o row s len tb y nm H) : w_xn (jn H) o row s len tb y nm H :=
  ⟨h, j_old hs h.2.1.2.2.2.2.2 (by decide), j_old hs h.1.2.2.1 (by decide)⟩
theorem w_xn_kp {o row s len : Nat} {tb nm : List UInt8} {y : w_y} (h : w_xn nb o row s len tb y nm H) (hk : jkp nb H H1) : w_xn nb o row s len tb y nm H1 := by
  obtain ⟨hx, h1, h2⟩ := h
  have ho : 422 ≤ o := hx.2.2.2.2.2.2.2.2.2.2.1
  have hr : 422 ≤ row := hx.2.2.2.2.2.2.2.2.2.2.2
  have k1 : (jK H o).1 = 10 := hx.1.1
  have k2 : jK H (o + 1) = (101, 32) := hx.2.2.2.2.2.1
  have k3 := hx.2.1.2.2.2.1
  have k4 := hx.2.1.2.2.2.2.2
  have k5 := hx.1.2.2.1
  refine ⟨w_x_fr hx fun a ha => ?_, h1, h2⟩
  have hd : b_dy nb a := by unfold b_dy; omega
  obtain ⟨q1, q2⟩ := hk a hd
  refine ⟨q1, fun j => q2 j fun w => ?_⟩
  rcases ha with rfl | rfl | rfl | rfl | rfl
  · rw [k1] at w
    exact absurd (show (10 : Nat) = 0 from w) (by decide)
  · rw [k2] at w
    exact absurd (show (101 : Nat) = 0 from w) (by decide)
  · rw [k3] at w
    exact absurd (show (100 : Nat) = 0 from w) (by decide)
  · rw [k4] at w
    exact absurd (show (100 : Nat) = 0 from w) (by decide)
  · rw [k5] at w
    exact absurd (show (101 : Nat) = 0 from w) (by decide)
/-- a block of the class below nb -/
def b_bx (nb B : Nat) (b : b_k) (pB : Nat) (H : jH) : Prop :=
  ((jK H B).1 = 0 ∧ b_dy nb B ∧ jR H B 5 = pB ∧ jI H B 6 = Int32.ofNat b.2.2.2.1 ∧ jI H B 2 = Int32.ofNat b.2.2.2.2.1 ∧ jL H B 3 = Int64.ofNat b.2.2.2.2.2.1) ∧
  (jK H (jR H B 4) = (113, b.2.2.2.2.2.2.length) ∧ b_dy nb (jR H B 4) ∧ ∀ i x, b.2.2.2.2.2.2[i]? = some x → ∃ row s len, w_xn nb (jR H (jR H B 4) i) row s len x.2.1 x.2.2 x.1 H) ∧
  (jK H (jR H B 1) = (101, 32) ∧ b_dy nb (jR H B 1) ∧ zRow H (jR H B 1) 0 b.2.1) ∧
  ((∃ len, jK H (jR H B 0) = (101, len) ∧ b.1.length + 1 ≤ len ∧ len < 2000000 ∧ (0 < b.2.2.2.1 → len = b.1.length + 1)) ∧ b_dy nb (jR H B 0) ∧ zRow H (jR H B 0) 1 b.1) ∧
  (jK H (jR H B 8) = (100, 8) ∧ b_dy nb (jR H B 8))
theorem b_bx_kp {B pB : Nat} {b : b_k} (h : b_bx nb B b pB H) (hk : jkp nb H H1) : b_bx nb B b pB H1 := by
  obtain ⟨⟨a1, a2, a3, a4, a5, a6⟩, ⟨c1, c2, c3⟩, ⟨d1, d2, d3⟩, ⟨⟨ln, e1, l1, l2, l3⟩, e2, e3⟩, f1, f2⟩ := h
  obtain ⟨k0, q0⟩ := hk B a2
  have r4 : jR H1 B 4 = jR H B 4 := (q0 4 fun _ => by decide).2.2.1
  have r1 : jR H1 B 1 = jR H B 1 := (q0 1 fun _ => by decide).2.2.1
  have r0 : jR H1 B 0 = jR H B 0 := (q0 0 fun _ => by decide).2.2.1
  have r8 : jR H1 B 8 = jR H B 8 := (q0 8 fun _ => by decide).2.2.1
  obtain ⟨k4, q4⟩ := hk _ c2
  obtain ⟨k1, q1⟩ := hk _ d2
  obtain ⟨kr, qr⟩ := hk _ e2
  obtain ⟨kw, qw⟩ := hk _ f2
  have n4 : ∀ j : Nat, (jK H (jR H B 4)).1 = 0 → j ≠ 7 := fun j w => by rw [c1] at w; exact absurd (show (113 : Nat) = 0 from w) (by decide)
  have n1 : ∀ j : Nat, (jK H (jR H B 1)).1 = 0 → j ≠ 7 := fun j w => by rw [d1] at w; exact absurd (show (101 : Nat) = 0 from w) (by decide)
  have nr : ∀ j : Nat, (jK H (jR H B 0)).1 = 0 → j ≠ 7 := fun j w => by rw [e1] at w; exact absurd (show (101 : Nat) = 0 from w) (by decide)
  refine ⟨⟨by rw [k0]; exact a1, a2, (q0 5 fun _ => by decide).2.2.1.trans a3, (q0 6 fun _ => by decide).1.trans a4, (q0 2 fun _ => by decide).1.trans a5, (q0 3 fun _ => by decide).2.1.trans a6⟩, ⟨by rw [r4, k4]; exact c1, by rw [r4]; exact c2, fun i x hx => ?_⟩, ⟨by rw [r1, k1]; exact d1, by rw [r1]; exact d2, by rw [r1]; exact zRow_eq d3 fun i _ => (q1 _ (n1 _)).2.2.2⟩, ⟨⟨ln, by rw [r0, kr]; exact e1, l1, l2, l3⟩, by rw [r0]; exact e2, by rw [r0]; exact zRow_eq e3 fun i _ => (qr _ (nr _)).2.2.2⟩, by rw [r8, kw]; exact f1, by rw [r8]; exact f2⟩
  obtain ⟨row, s, len, hw⟩ := c3 i x hx
  rw [r4, (q4 i (n4 i)).2.2.1]
  exact ⟨row, s, len, w_xn_kp hw hk⟩
theorem b_bx_mono {B pB : Nat} {b : b_k} (h : b_bx nb B b pB H) (hn : nb ≤ nb') : b_bx nb' B b pB H := by
  have m : ∀ a, b_dy nb a → b_dy nb' a := fun a w => by unfold b_dy at w ⊢; omega
  obtain ⟨⟨a1, a2, a3⟩, ⟨c1, c2, c3⟩, ⟨d1, d2, d3⟩, ⟨e1, e2, e3⟩, f1, f2⟩ := h
  refine ⟨⟨a1, m _ a2, a3⟩, ⟨c1, m _ c2, fun i x hx => ?_⟩, ⟨d1, m _ d2, d3⟩, ⟨e1, m _ e2, e3⟩, f1, m _ f2⟩
  obtain ⟨row, s, len, w1, w2, w3⟩ := c3 i x hx
  exact ⟨row, s, len, w1, by omega, by omega⟩
/-- as judging wants it -/
theorem b_bx_bt {B pB : Nat} {b : b_k} (hs : jsh H) (h : b_bx nb B b pB H) : b_bt B b.2.2.2.1 b.2.2.2.2.2.2 H ∧ (B < 414 ∨ 422 ≤ B) ∧ (jR H B 4 < 414 ∨ 422 ≤ jR H B 4) := by
  obtain ⟨⟨a1, a2, a3, a4, a5, a6⟩, ⟨c1, c2, c3⟩, -⟩ := h
  have k409 := sK_409 hs
  have n1 : B ≠ 409 := fun w => by
    rw [w, k409] at a1
    exact absurd a1 (by decide)
  have n2 : jR H B 4 ≠ 409 := fun w => by
    rw [w, k409] at c1
    exact absurd (show (101 : Nat) = 113 from congrArg Prod.fst c1) (by decide)
  have d1 := a2
  have d2 := c2
  unfold b_dy at d1 d2
  refine ⟨⟨a1, by omega, c1, by omega, a4, fun i x hx => ?_⟩, by omega, by omega⟩
  obtain ⟨row, s, len, hw⟩ := c3 i x hx
  exact ⟨row, s, len, hw.1⟩
def b_o (os : List Nat) (k : Nat) : Nat := os.getD k 0
def b_po (bs : List b_k) (os : List Nat) (k : Nat) : Nat := if k = 0 then 0 else b_o os (b_pa bs k)
/-- the class's blocks that are known -/
def b_BC (nb : Nat) (bs : List b_k) (os : List Nat) (H : jH) : Prop :=
  os.length = bs.length ∧ b_o os 0 = 410 ∧ (∀ i j, i < j → j < bs.length → b_o os i ≠ b_o os j) ∧ jI H 398 4 = Int32.ofNat bs.length ∧ ∀ k, k < bs.length → jR H 399 k = b_o os k ∧ b_bx nb (b_o os k) (b_g bs k) (b_po bs os k) H
theorem b_BC_kp {bs : List b_k} {os : List Nat} (h : b_BC nb bs os H) (hk : jkp nb H H1) (e4 : jI H1 398 4 = jI H 398 4) (e9 : ∀ k, jR H1 399 k = jR H 399 k) : b_BC nb bs os H1 := by
  obtain ⟨h1, h2, h3, h4, h5⟩ := h
  exact ⟨h1, h2, h3, e4.trans h4, fun k hk2 => ⟨(e9 k).trans (h5 k hk2).1, b_bx_kp (h5 k hk2).2 hk⟩⟩
theorem b_BC_fr {bs : List b_k} {os : List Nat} {T : Nat → Nat → Prop} (h : b_BC nb bs os H) (hf : jfr T H H1) (hT : ∀ a j, T a j → a < 398 ∨ (a = 398 ∧ j ≠ 4) ∨ (399 < a ∧ a < 409) ∨ (413 < a ∧ a < 422)) : b_BC nb bs os H1 :=
  b_BC_kp h (jkp_lo hf fun a j w => by have := hT a j w; omega) (jfr_I hf fun w => by have := hT _ _ w; omega) fun k => jfr_R hf fun w => by have := hT _ _ w; omega
theorem b_o_inj {bs : List b_k} {os : List Nat} (h : b_BC nb bs os H) {i j : Nat} (hi : i < bs.length) (hj : j < bs.length) (e : b_o os i = b_o os j) : i = j := by
  rcases Nat.lt_trichotomy i j with c | c | c
  · exact absurd e (h.2.2.1 i j c hj)
  · exact c
  · exact absurd e.symm (h.2.2.1 j i c hi)
theorem b_o_pos {bs : List b_k} {os : List Nat} (hs : jsh H) (h : b_BC nb bs os H) {i : Nat} (hi : i < bs.length) : 410 ≤ b_o os i ∧ (jK H (b_o os i)).1 = 0 :=
  ⟨(b_bx_bt hs (h.2.2.2.2 i hi).2).1.2.1, (h.2.2.2.2 i hi).2.1.1⟩
/-- which of them are bad -/
def b_bd (os : List Nat) (n : Nat) (bad : Nat → Bool) (H : jH) : Prop := ∀ k, k < n → jI H (b_o os k) 7 = if bad k = true then 1 else 0
end JKP
