/-! The points of a curve y * y = x * x * x + b over a field: sums, and that they may be put together in any order. -/
def eg_fld (α : Type) [Lean.Grind.CommRing α] (iv : α → α) (b : α) : Prop :=
  (∀ x y : α, x * y = 0 → x = 0 ∨ y = 0) ∧ (∀ x : α, x ≠ 0 → x * iv x = 1) ∧ (2 : α) ≠ 0 ∧ (3 : α) ≠ 0 ∧ b ≠ 0
/-- l is the slope of two points -/
def eg_isl {α : Type} [Lean.Grind.CommRing α] (p q : α × α) (l : α) : Prop := l * (p.1 - q.1) = p.2 - q.2 ∧ l * (p.2 + q.2) = p.1 * p.1 + p.1 * q.1 + q.1 * q.1
def eg_3 {α : Type} [Lean.Grind.CommRing α] (p q : α × α) (l : α) : α × α := (l * l - p.1 - q.1, l * (p.1 - (l * l - p.1 - q.1)) - p.2)
def eg_c {α : Type} [Lean.Grind.CommRing α] (b : α) (p : α × α) : Prop := p.2 * p.2 = p.1 * p.1 * p.1 + b
def eg_m {α : Type} [Lean.Grind.CommRing α] (p : α × α) : α × α := (p.1, -p.2)
/-- one is the other's negative -/
def eg_op {α : Type} [Lean.Grind.CommRing α] (p q : α × α) : Prop := p.1 = q.1 ∧ p.2 = -q.2
theorem eg_op_s {α : Type} [Lean.Grind.CommRing α] {p q : α × α} (h : eg_op p q) : eg_op q p := ⟨h.1.symm, by have := h.2; grind⟩
theorem eg_op_m {α : Type} [Lean.Grind.CommRing α] {p q : α × α} (h : eg_op p q) : q = eg_m p := by
  have h1 := h.1
  have h2 := h.2
  refine Prod.ext h1.symm ?_
  show q.2 = -p.2
  grind
theorem eg_mm {α : Type} [Lean.Grind.CommRing α] (p : α × α) : eg_m (eg_m p) = p := by
  refine Prod.ext rfl ?_
  show - -p.2 = p.2
  grind
theorem eg_m_c {α : Type} [Lean.Grind.CommRing α] {b : α} {p : α × α} (h : eg_c b p) : eg_c b (eg_m p) := by
  unfold eg_c at h
  show -p.2 * -p.2 = p.1 * p.1 * p.1 + b
  grind
theorem eg_3_c {α : Type} [Lean.Grind.CommRing α] {b : α} {p q : α × α} {l : α} (h : eg_c b p) (hl : eg_isl p q l) : eg_c b (eg_3 p q l) := by
  obtain ⟨x1, y1⟩ := p
  obtain ⟨x2, y2⟩ := q
  unfold eg_c at h
  obtain ⟨s1, s2⟩ := hl
  unfold eg_c eg_3
  dsimp only at *
  grind
theorem eg_isl_s {α : Type} [Lean.Grind.CommRing α] {p q : α × α} {l : α} (h : eg_isl p q l) : eg_isl q p l := by
  obtain ⟨s1, s2⟩ := h
  exact ⟨by grind, by grind⟩
theorem eg_3_s {α : Type} [Lean.Grind.CommRing α] {p q : α × α} {l : α} (h : eg_isl p q l) : eg_3 p q l = eg_3 q p l := by
  obtain ⟨s1, s2⟩ := h
  refine Prod.ext ?_ ?_
  · show l * l - p.1 - q.1 = l * l - q.1 - p.1
    grind
  · show l * (p.1 - (l * l - p.1 - q.1)) - p.2 = l * (q.1 - (l * l - q.1 - p.1)) - q.2
    grind
/-- the first point's negative, and the sum -/
theorem eg_isl_3 {α : Type} [Lean.Grind.CommRing α] {p q : α × α} {l : α} (h : eg_isl p q l) : eg_isl (eg_m p) (eg_3 p q l) (-l) := by
  obtain ⟨s1, s2⟩ := h
  refine ⟨?_, ?_⟩
  · show -l * (p.1 - (l * l - p.1 - q.1)) = -p.2 - (l * (p.1 - (l * l - p.1 - q.1)) - p.2)
    grind
  · show -l * (-p.2 + (l * (p.1 - (l * l - p.1 - q.1)) - p.2)) = p.1 * p.1 + p.1 * (l * l - p.1 - q.1) + (l * l - p.1 - q.1) * (l * l - p.1 - q.1)
    grind
theorem eg_3_back {α : Type} [Lean.Grind.CommRing α] {p q : α × α} {l : α} (h : eg_isl p q l) : eg_3 (eg_m p) (eg_3 p q l) (-l) = q := by
  obtain ⟨s1, s2⟩ := h
  refine Prod.ext ?_ ?_
  · show -l * -l - p.1 - (l * l - p.1 - q.1) = q.1
    grind
  · show -l * (p.1 - (-l * -l - p.1 - (l * l - p.1 - q.1))) - -p.2 = q.2
    grind
section EGF
variable {α : Type}
theorem eg_can [Lean.Grind.CommRing α] {iv : α → α} {b : α} (hF : eg_fld α iv b) {x y z : α} (hx : x ≠ 0) (h : x * y = x * z) : y = z := by
  rcases hF.1 x (y - z) (by grind) with e | e
  · exact absurd e hx
  · grind
theorem eg_isl_u [Lean.Grind.CommRing α] {iv : α → α} {b : α} (hF : eg_fld α iv b) {p q : α × α} {l l' : α} (hn : ¬ eg_op p q) (h : eg_isl p q l) (h' : eg_isl p q l') : l = l' := by
  obtain ⟨s1, s2⟩ := h
  obtain ⟨t1, t2⟩ := h'
  rcases hF.1 (l - l') (p.1 - q.1) (by grind) with e | e
  · grind
  · rcases hF.1 (l - l') (p.2 + q.2) (by grind) with e2 | e2
    · grind
    · exact absurd ⟨by grind, by grind⟩ hn
/-- a point that is the sum of itself and another -/
theorem eg_no [Lean.Grind.CommRing α] {iv : α → α} {b : α} (hF : eg_fld α iv b) {p q : α × α} {l : α} (hp : eg_c b p) (h : eg_isl p q l) : eg_3 p q l ≠ p := by
  intro e
  obtain ⟨s1, s2⟩ := eg_isl_3 h
  rw [e] at s1 s2
  unfold eg_c at hp
  change -l * (p.1 - p.1) = -p.2 - p.2 at s1
  change -l * (-p.2 + p.2) = p.1 * p.1 + p.1 * p.1 + p.1 * p.1 at s2
  have ey : p.2 = 0 := by
    rcases hF.1 2 p.2 (by grind) with e | e
    · exact absurd e hF.2.2.1
    · exact e
  have ex : p.1 * p.1 = 0 := by
    rcases hF.1 3 (p.1 * p.1) (by grind) with e | e
    · exact absurd e hF.2.2.2.1
    · exact e
  exact hF.2.2.2.2 (by grind)
theorem eg_as1 [Lean.Grind.CommRing α] {iv : α → α} {b : α} (hF : eg_fld α iv b) {A B C : α × α} {l m k : α} (h1 : eg_isl A B l) (h2 : eg_isl B C m) (hk : k * (C.1 - A.1) = m - l) (hne : C.1 - A.1 ≠ 0) :
    k * (B.2 + B.2 + (l + m) * (C.1 - B.1)) = C.1 - (l * l - A.1 - B.1) := by
  obtain ⟨s1, s2⟩ := h1
  obtain ⟨t1, t2⟩ := h2
  refine eg_can hF hne ?_
  grind
theorem eg_as2 [Lean.Grind.CommRing α] {A B C : α × α} {l m k j : α} (h1 : eg_isl A B l) (h2 : eg_isl B C m) (hk : k * (C.1 - A.1) = m - l) (hj : j * k = 1)
    (hr : k * (B.2 + B.2 + (l + m) * (C.1 - B.1)) = C.1 - (l * l - A.1 - B.1)) : eg_isl (eg_3 A B l) C (j - l) := by
  obtain ⟨s1, s2⟩ := h1
  obtain ⟨t1, t2⟩ := h2
  have eA : A.2 = B.2 + l * (A.1 - B.1) := by
    clear hk hj hr s2 t1 t2
    grind
  have eC : C.2 = B.2 + m * (C.1 - B.1) := by
    clear hk hj hr s1 s2 t2 eA
    grind
  have r1 : l * (B.2 + B.2 + l * (A.1 - B.1)) = A.1 * A.1 + A.1 * B.1 + B.1 * B.1 := by
    clear hk hj hr s1 t1 t2 eC
    grind
  clear s1 s2 t1 t2
  obtain ⟨S, hS⟩ : ∃ S, S = B.2 + B.2 + (l + m) * (C.1 - B.1) := ⟨_, rfl⟩
  obtain ⟨x, hx⟩ : ∃ x, x = l * l - A.1 - B.1 := ⟨_, rfl⟩
  rw [← hS, ← hx] at hr
  refine ⟨?_, ?_⟩
  · show (j - l) * (l * l - A.1 - B.1 - C.1) = l * (A.1 - (l * l - A.1 - B.1)) - A.2 - C.2
    rw [← hx]
    have e1 : (j - l) * (x - C.1) = -(j * k * S) + l * (C.1 - x) := by
      clear hS hx eA eC r1 hk hj
      grind
    rw [e1, hj, hS, eA, eC]
    clear hr e1 hS hx hk hj r1 eA eC
    grind
  · show (j - l) * (l * (A.1 - (l * l - A.1 - B.1)) - A.2 + C.2) = (l * l - A.1 - B.1) * (l * l - A.1 - B.1) + (l * l - A.1 - B.1) * C.1 + C.1 * C.1
    rw [← hx]
    have e1 : l * (A.1 - x) - A.2 + C.2 = k * (l * S + (C.1 - A.1) * (C.1 - B.1)) := by
      rw [eA, eC]
      have : k * (l * S + (C.1 - A.1) * (C.1 - B.1)) = l * (k * S) + (k * (C.1 - A.1)) * (C.1 - B.1) := by
        clear hr hS hx hk hj r1 eA eC
        grind
      rw [this, hk, hr]
      clear this hr hS hx hk hj r1 eA eC
      grind
    have e2 : (j - l) * (k * (l * S + (C.1 - A.1) * (C.1 - B.1))) = (j * k) * (l * S + (C.1 - A.1) * (C.1 - B.1)) - l * (k * (l * S + (C.1 - A.1) * (C.1 - B.1))) := by
      clear hr hS hx hk hj r1 eA eC e1
      grind
    rw [e1, e2, ← e1, hj, hS, eA, eC, hx]
    clear e1 e2 hr hS hx hk hj eA eC
    grind
end EGF
