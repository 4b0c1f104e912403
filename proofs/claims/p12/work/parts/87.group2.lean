/-! The sum of two points; the group's laws; multiples. -/
section EGA
variable {α : Type}
theorem eg_as3 [Lean.Grind.CommRing α] {A B C : α × α} {l m k j : α} (h1 : eg_isl A B l) (h2 : eg_isl B C m) (hk : k * (C.1 - A.1) = m - l) (hj : j * k = 1) :
    eg_3 (eg_3 A B l) C (j - l) = eg_3 (eg_3 C B m) A (j - m) := by
  obtain ⟨s1, s2⟩ := h1
  obtain ⟨t1, t2⟩ := h2
  have e : C.1 = A.1 + j * (m - l) := by
    clear s1 s2 t1 t2
    grind
  have ex : (j - l) * (j - l) - (l * l - A.1 - B.1) - C.1 = (j - m) * (j - m) - (m * m - C.1 - B.1) - A.1 := by
    clear s1 s2 t1 t2 hk hj
    rw [e]
    clear e
    grind
  refine Prod.ext ex ?_
  show (j - l) * ((l * l - A.1 - B.1) - ((j - l) * (j - l) - (l * l - A.1 - B.1) - C.1)) - (l * (A.1 - (l * l - A.1 - B.1)) - A.2) = (j - m) * ((m * m - C.1 - B.1) - ((j - m) * (j - m) - (m * m - C.1 - B.1) - A.1)) - (m * (C.1 - (m * m - C.1 - B.1)) - C.2)
  rw [← ex]
  have key : A.2 = C.2 + (l * (A.1 - B.1) + m * (B.1 - C.1)) := by
    clear s2 t2 hk hj e ex
    grind
  rw [key, e]
  clear s1 s2 t1 t2 hk hj e ex key
  grind
theorem eg_q0 [Lean.Grind.CommRing α] {k c : α} : c - c = k * 0 := by grind
theorem eg_q1 [Lean.Grind.CommRing α] {l m A1 B1 C1 A2 B2 C2 : α} (s1 : l * (A1 - B1) = A2 - B2) (t1 : m * (B1 - C1) = B2 - C2) (u2 : l * (A1 - C1) - A2 = -C2) : (m - l) * (C1 - B1) = 0 := by grind
theorem eg_q2 [Lean.Grind.CommRing α] {B1 C1 : α} (w : C1 - B1 = 0) : B1 = C1 := by grind
theorem eg_q3 [Lean.Grind.CommRing α] {l m B1 C1 B2 C2 : α} (w : C1 - B1 = 0) (v2 : B2 + B2 + (l + m) * (C1 - B1) = 0) (t1 : m * (B1 - C1) = B2 - C2) : B2 = -C2 := by
  rw [w] at v2
  have t2 : m * -(C1 - B1) = B2 - C2 := by grind
  rw [w] at t2
  clear t1 w
  grind
def eg_sl [Lean.Grind.CommRing α] [DecidableEq α] (iv : α → α) (p q : α × α) : α := if p.1 = q.1 then 3 * p.1 * p.1 * iv (p.2 + p.2) else (p.2 - q.2) * iv (p.1 - q.1)
def eg_add [Lean.Grind.CommRing α] [DecidableEq α] (iv : α → α) : Option (α × α) → Option (α × α) → Option (α × α)
  | none, q => q
  | some p, none => some p
  | some p, some q => if p.1 = q.1 ∧ p.2 = -q.2 then none else some (eg_3 p q (eg_sl iv p q))
def eg_neg [Lean.Grind.CommRing α] : Option (α × α) → Option (α × α)
  | none => none
  | some p => some (eg_m p)
def eg_on [Lean.Grind.CommRing α] (b : α) : Option (α × α) → Prop
  | none => True
  | some p => eg_c b p
theorem eg_sl_ok [Lean.Grind.CommRing α] [DecidableEq α] {iv : α → α} {b : α} (hF : eg_fld α iv b) {p q : α × α} (hp : eg_c b p) (hq : eg_c b q) (hn : ¬ eg_op p q) : eg_isl p q (eg_sl iv p q) := by
  unfold eg_c at hp hq
  unfold eg_sl
  by_cases hx : p.1 = q.1
  · rw [if_pos hx]
    have hy : p.2 + q.2 ≠ 0 := fun e => hn ⟨hx, by grind⟩
    have ey : p.2 = q.2 := by
      rcases hF.1 (p.2 + q.2) (p.2 - q.2) (by grind) with e | e
      · exact absurd e hy
      · grind
    have hi := hF.2.1 (p.2 + p.2) (by rw [← ey] at hy; exact hy)
    exact ⟨by grind, by grind⟩
  · rw [if_neg hx]
    have hne : p.1 - q.1 ≠ 0 := fun e => hx (by grind)
    have hi := hF.2.1 (p.1 - q.1) hne
    refine ⟨by grind, eg_can hF hne ?_⟩
    grind
theorem eg_add_l [Lean.Grind.CommRing α] [DecidableEq α] {iv : α → α} {b : α} (hF : eg_fld α iv b) {p q : α × α} {l : α} (hp : eg_c b p) (hq : eg_c b q) (hn : ¬ eg_op p q) (h : eg_isl p q l) : eg_add iv (some p) (some q) = some (eg_3 p q l) := by
  rw [eg_isl_u hF hn h (eg_sl_ok hF hp hq hn)]
  exact if_neg hn
theorem eg_add_op [Lean.Grind.CommRing α] [DecidableEq α] {iv : α → α} {p q : α × α} (h : eg_op p q) : eg_add iv (some p) (some q) = none := if_pos h
theorem eg_on_neg [Lean.Grind.CommRing α] {b : α} : ∀ {p : Option (α × α)}, eg_on b p → eg_on b (eg_neg p)
  | none, _ => trivial
  | some _, h => eg_m_c (b := b) h
theorem eg_on_add [Lean.Grind.CommRing α] [DecidableEq α] {iv : α → α} {b : α} (hF : eg_fld α iv b) : ∀ {p q : Option (α × α)}, eg_on b p → eg_on b q → eg_on b (eg_add iv p q)
  | none, _, _, h => h
  | some _, none, h, _ => h
  | some p, some q, hp, hq => by
    by_cases hn : eg_op p q
    · rw [eg_add_op hn]
      trivial
    · rw [eg_add_l hF hp hq hn (eg_sl_ok hF hp hq hn)]
      exact eg_3_c hp (eg_sl_ok hF hp hq hn)
theorem eg_add_none [Lean.Grind.CommRing α] [DecidableEq α] {iv : α → α} : ∀ (p : Option (α × α)), eg_add iv p none = p
  | none => rfl
  | some _ => rfl
theorem eg_comm [Lean.Grind.CommRing α] [DecidableEq α] {iv : α → α} {b : α} (hF : eg_fld α iv b) : ∀ {p q : Option (α × α)}, eg_on b p → eg_on b q → eg_add iv p q = eg_add iv q p
  | none, q, _, _ => (eg_add_none q).symm
  | some p, none, _, _ => rfl
  | some p, some q, hp, hq => by
    by_cases hn : eg_op p q
    · rw [eg_add_op hn, eg_add_op (eg_op_s hn)]
    · have hl := eg_sl_ok hF hp hq hn
      rw [eg_add_l hF hp hq hn hl, eg_add_l hF hq hp (fun e => hn (eg_op_s e)) (eg_isl_s hl), eg_3_s hl]
theorem eg_neg_neg [Lean.Grind.CommRing α] : ∀ (p : Option (α × α)), eg_neg (eg_neg p) = p
  | none => rfl
  | some p => congrArg some (eg_mm p)
theorem eg_op_self [Lean.Grind.CommRing α] (p : α × α) : eg_op (eg_m p) p := ⟨rfl, rfl⟩
theorem eg_neg_add [Lean.Grind.CommRing α] [DecidableEq α] {iv : α → α} : ∀ (p : Option (α × α)), eg_add iv (eg_neg p) p = none
  | none => rfl
  | some p => eg_add_op (eg_op_self p)
theorem eg_back [Lean.Grind.CommRing α] [DecidableEq α] {iv : α → α} {b : α} (hF : eg_fld α iv b) : ∀ {p q : Option (α × α)}, eg_on b p → eg_on b q → eg_add iv (eg_neg p) (eg_add iv p q) = q
  | none, q, _, _ => rfl
  | some p, none, _, _ => eg_add_op (eg_op_self p)
  | some p, some q, hp, hq => by
    by_cases hn : eg_op p q
    · rw [eg_add_op hn, eg_add_none, eg_op_m hn]
      rfl
    · have hl := eg_sl_ok hF hp hq hn
      rw [eg_add_l hF hp hq hn hl]
      have h2 := eg_isl_3 hl
      have hn2 : ¬ eg_op (eg_m p) (eg_3 p q (eg_sl iv p q)) := fun e => eg_no hF hp hl (by
        have := eg_op_m e
        rw [eg_mm] at this
        exact this)
      show eg_add iv (some (eg_m p)) (some _) = _
      rw [eg_add_l hF (eg_m_c hp) (eg_3_c hp hl) hn2 h2, eg_3_back hl]
theorem eg_assoc [Lean.Grind.CommRing α] [DecidableEq α] {iv : α → α} {b : α} (hF : eg_fld α iv b) : ∀ {p q r : Option (α × α)}, eg_on b p → eg_on b q → eg_on b r → eg_add iv (eg_add iv p q) r = eg_add iv p (eg_add iv q r)
  | none, q, r, _, _, _ => rfl
  | some p, none, r, _, _, _ => rfl
  | some p, some q, none, _, _, _ => eg_add_none _
  | some A, some B, some C, hA, hB, hC => by
    by_cases n1 : eg_op A B
    · rw [eg_add_op n1]
      have e : some A = eg_neg (some B) := congrArg some (eg_op_m (eg_op_s n1))
      rw [e, eg_back hF (p := some B) (q := some C) hB hC]
      rfl
    by_cases n2 : eg_op B C
    · rw [eg_add_op n2, eg_add_none]
      have e : some C = eg_neg (some B) := congrArg some (eg_op_m n2)
      rw [e, eg_comm hF (p := eg_add iv (some A) (some B)) (q := eg_neg (some B)) (eg_on_add hF hA hB) (eg_on_neg (p := some B) hB), eg_comm hF (p := some A) (q := some B) hA hB, eg_back hF (p := some B) (q := some A) hB hA]
    have hl := eg_sl_ok hF hA hB n1
    have hm := eg_sl_ok hF hB hC n2
    by_cases hx : C.1 = A.1
    · have hy : (C.2 - A.2) * (C.2 + A.2) = 0 := by
        have h1 : A.2 * A.2 = A.1 * A.1 * A.1 + b := hA
        have h2 : C.2 * C.2 = C.1 * C.1 * C.1 + b := hC
        grind
      rcases hF.1 _ _ hy with e | e
      · have : C = A := Prod.ext hx (by grind)
        rw [this, eg_comm hF (p := eg_add iv (some A) (some B)) (q := some A) (eg_on_add hF (p := some A) (q := some B) hA hB) hA, eg_comm hF (p := some A) (q := some B) hA hB]
      · have : some C = eg_neg (some A) := congrArg some (Prod.ext hx (by show C.2 = -A.2; grind))
        rw [this, eg_comm hF (p := eg_add iv (some A) (some B)) (q := eg_neg (some A)) (eg_on_add hF (p := some A) (q := some B) hA hB) (eg_on_neg (p := some A) hA), eg_back hF (p := some A) (q := some B) hA hB, eg_comm hF (p := some B) (q := eg_neg (some A)) hB (eg_on_neg (p := some A) hA)]
        have h := eg_back hF (p := eg_neg (some A)) (q := some B) (eg_on_neg (p := some A) hA) hB
        rw [eg_neg_neg] at h
        exact h.symm
    · have hne : C.1 - A.1 ≠ 0 := fun e => hx (by grind)
      have hne2 : A.1 - C.1 ≠ 0 := fun e => hx (by grind)
      have hi := hF.2.1 _ hne
      obtain ⟨l, el⟩ : ∃ l, eg_sl iv A B = l := ⟨_, rfl⟩
      obtain ⟨m, em⟩ : ∃ m, eg_sl iv B C = m := ⟨_, rfl⟩
      rw [el] at hl
      rw [em] at hm
      obtain ⟨k, ek⟩ : ∃ k, k = (m - l) * iv (C.1 - A.1) := ⟨_, rfl⟩
      have hk : k * (C.1 - A.1) = m - l := by grind
      have hk2 : k * (A.1 - C.1) = l - m := by grind
      have r1 := eg_as1 hF hl hm hk hne
      have r2 := eg_as1 hF (eg_isl_s hm) (eg_isl_s hl) hk2 hne2
      rw [eg_add_l hF hA hB n1 hl, eg_add_l hF hB hC n2 hm]
      have hT := eg_3_c hA hl
      have hU := eg_3_c hB hm
      by_cases hk0 : k = 0
      · have o1 : eg_op (eg_3 A B l) C := by
          obtain ⟨s1, s2⟩ := hl
          obtain ⟨t1, t2⟩ := hm
          refine ⟨?_, ?_⟩
          · show l * l - A.1 - B.1 = C.1
            grind
          · show l * (A.1 - (l * l - A.1 - B.1)) - A.2 = -C.2
            grind
        have o2 : eg_op A (eg_3 B C m) := by
          obtain ⟨s1, s2⟩ := hl
          obtain ⟨t1, t2⟩ := hm
          refine ⟨?_, ?_⟩
          · show A.1 = m * m - B.1 - C.1
            grind
          · show A.2 = -(m * (B.1 - (m * m - B.1 - C.1)) - B.2)
            grind
        rw [eg_add_op o1, eg_add_op o2]
      · have hj := hF.2.1 k hk0
        have hj2 : iv k * k = 1 := by grind
        have b1 := eg_as2 hl hm hk hj2 r1
        have b2 := eg_as2 (eg_isl_s hm) (eg_isl_s hl) hk2 hj2 r2
        have key : ∀ {A B C : α × α} {l m : α}, eg_isl A B l → eg_isl B C m → C.1 - A.1 ≠ 0 → k * (C.1 - A.1) = m - l → ¬ eg_op B C → k * (B.2 + B.2 + (l + m) * (C.1 - B.1)) = C.1 - (l * l - A.1 - B.1) → ¬ eg_op (eg_3 A B l) C := by
          intro A B C l m g1 g2 g3 g4 g5 g6 g7
          obtain ⟨s1, s2⟩ := g1
          obtain ⟨t1, t2⟩ := g2
          obtain ⟨u1, u2⟩ := g7
          change l * l - A.1 - B.1 = C.1 at u1
          change l * (A.1 - (l * l - A.1 - B.1)) - A.2 = -C.2 at u2
          have v1 : k * (B.2 + B.2 + (l + m) * (C.1 - B.1)) = k * 0 := by
            rw [g6, u1]
            exact eg_q0
          have v2 := eg_can hF hk0 v1
          rw [u1] at u2
          have v3 : (k * (C.1 - A.1)) * (C.1 - B.1) = 0 := by
            rw [g4]
            exact eg_q1 s1 t1 u2
          rcases hF.1 _ _ v3 with w | w
          · rcases hF.1 _ _ w with w | w
            · exact hk0 w
            · exact g3 w
          · exact g5 ⟨eg_q2 w, eg_q3 w v2 t1⟩
        have c1 := key hl hm hne hk n2 r1
        have c2 := key (eg_isl_s hm) (eg_isl_s hl) hne2 hk2 (fun e => n1 (eg_op_s e)) r2
        rw [eg_comm hF (p := some A) (q := some (eg_3 B C m)) hA hU, eg_3_s hm, eg_add_l hF hT hC c1 b1, eg_add_l hF (eg_3_c hC (eg_isl_s hm)) hA c2 b2, eg_as3 hl hm hk hj2]
end EGA
