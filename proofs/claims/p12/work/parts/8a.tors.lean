/-! The first coordinates of doubles, sums and differences. -/
section EGX
variable {α : Type}
theorem eg_dbl1 [Lean.Grind.CommRing α] {x y l b : α} (h : y * y = x * x * x + b) (hl : l * (y + y) = x * x + x * x + x * x) : 4 * (x * x * x + b) * (l * l - x - x) = x * (x * x * x - 8 * b) := by
  have e : (l * (y + y)) * (l * (y + y)) = 4 * (y * y) * (l * l) := by
    clear h hl
    grind
  rw [hl, h] at e
  clear h hl
  grind
theorem eg_sum1 [Lean.Grind.CommRing α] {x1 y1 x2 y2 l m b : α} (h1 : y1 * y1 = x1 * x1 * x1 + b) (h2 : y2 * y2 = x2 * x2 * x2 + b) (s : l * (x1 - x2) = y1 - y2) (t : m * (x1 - x2) = y1 + y2) :
    (x1 - x2) * (x1 - x2) * ((l * l - x1 - x2) * (m * m - x1 - x2) * ((x1 - x2) * (x1 - x2))) = (x1 - x2) * (x1 - x2) * (x1 * x2 * (x1 * x2) - 4 * b * (x1 + x2)) := by
  have e1 : (l * l - x1 - x2) * ((x1 - x2) * (x1 - x2)) = (x1 + x2) * (x1 * x2) + 2 * b - 2 * (y1 * y2) := by
    have e : (l * l - x1 - x2) * ((x1 - x2) * (x1 - x2)) = (l * (x1 - x2)) * (l * (x1 - x2)) - (x1 + x2) * ((x1 - x2) * (x1 - x2)) := by
      clear h1 h2 s t
      grind
    rw [e, s]
    have e2 : (y1 - y2) * (y1 - y2) = y1 * y1 + y2 * y2 - 2 * (y1 * y2) := by
      clear h1 h2 s t e
      grind
    rw [e2, h1, h2]
    clear h1 h2 s t e e2
    grind
  have e3 : (m * m - x1 - x2) * ((x1 - x2) * (x1 - x2)) = (x1 + x2) * (x1 * x2) + 2 * b + 2 * (y1 * y2) := by
    have e : (m * m - x1 - x2) * ((x1 - x2) * (x1 - x2)) = (m * (x1 - x2)) * (m * (x1 - x2)) - (x1 + x2) * ((x1 - x2) * (x1 - x2)) := by
      clear h1 h2 s t e1
      grind
    rw [e, t]
    have e2 : (y1 + y2) * (y1 + y2) = y1 * y1 + y2 * y2 + 2 * (y1 * y2) := by
      clear h1 h2 s t e e1
      grind
    rw [e2, h1, h2]
    clear h1 h2 s t e e2 e1
    grind
  have e4 : (x1 - x2) * (x1 - x2) * ((l * l - x1 - x2) * (m * m - x1 - x2) * ((x1 - x2) * (x1 - x2))) = ((l * l - x1 - x2) * ((x1 - x2) * (x1 - x2))) * ((m * m - x1 - x2) * ((x1 - x2) * (x1 - x2))) := by
    clear h1 h2 s t e1 e3
    grind
  rw [e4, e1, e3]
  have e5 : ((x1 + x2) * (x1 * x2) + 2 * b - 2 * (y1 * y2)) * ((x1 + x2) * (x1 * x2) + 2 * b + 2 * (y1 * y2)) = ((x1 + x2) * (x1 * x2) + 2 * b) * ((x1 + x2) * (x1 * x2) + 2 * b) - 4 * (y1 * y1) * (y2 * y2) := by
    clear h1 h2 s t e1 e3 e4
    grind
  rw [e5, h1, h2]
  clear h1 h2 s t e1 e3 e4 e5
  grind
/-- a double's first coordinate -/
theorem eg_dbl [Lean.Grind.CommRing α] [DecidableEq α] {iv : α → α} {b : α} (hF : eg_fld α iv b) {p : α × α} (hp : eg_c b p) (hy : p.2 ≠ 0) :
    ∃ q, eg_add iv (some p) (some p) = some q ∧ eg_c b q ∧ 4 * (p.1 * p.1 * p.1 + b) * q.1 = p.1 * (p.1 * p.1 * p.1 - 8 * b) := by
  have hn : ¬ eg_op p p := fun h => by
    have h2 := h.2
    have h3 : 2 * p.2 = 0 := by
      clear hp hy h hF
      grind
    rcases hF.1 _ _ h3 with e | e
    · exact hF.2.2.1 e
    · exact hy e
  have hl := eg_sl_ok hF hp hp hn
  exact ⟨_, eg_add_l hF hp hp hn hl, eg_3_c hp hl, eg_dbl1 hp hl.2⟩
/-- a sum's and a difference's first coordinates -/
theorem eg_sumx [Lean.Grind.CommRing α] [DecidableEq α] {iv : α → α} {b : α} (hF : eg_fld α iv b) {p q d : α × α} (hp : eg_c b p) (hq : eg_c b q) (hx : p.1 ≠ q.1) (hd : eg_add iv (some p) (some (eg_m q)) = some d) :
    ∃ r, eg_add iv (some p) (some q) = some r ∧ eg_c b r ∧ r.1 * d.1 * ((p.1 - q.1) * (p.1 - q.1)) = p.1 * q.1 * (p.1 * q.1) - 4 * b * (p.1 + q.1) := by
  have n1 : ¬ eg_op p q := fun h => hx h.1
  have n2 : ¬ eg_op p (eg_m q) := fun h => hx h.1
  have h1 := eg_sl_ok hF hp hq n1
  have h2 := eg_sl_ok hF hp (eg_m_c hq) n2
  have hne : p.1 - q.1 ≠ 0 := fun e => hx (by grind)
  rw [eg_add_l hF hp (eg_m_c hq) n2 h2] at hd
  refine ⟨_, eg_add_l hF hp hq n1 h1, eg_3_c hp h1, ?_⟩
  rw [← Option.some.inj hd]
  have t2 : eg_sl iv p (eg_m q) * (p.1 - q.1) = p.2 + q.2 := by
    have := h2.1
    change _ * (p.1 - q.1) = p.2 - -q.2 at this
    rw [this]
    clear this
    grind
  exact eg_can hF hne (eg_can hF hne (by
    have := eg_sum1 hp hq h1.1 t2
    rw [← Lean.Grind.Semiring.mul_assoc (p.1 - q.1), ← Lean.Grind.Semiring.mul_assoc (p.1 - q.1) (p.1 - q.1)]
    exact this))
end EGX
/-! Polynomials by their coefficients, the lowest first. -/
section PLY
variable {α : Type}
/-- a way to bring whole numbers in -/
def pl_hom [Lean.Grind.CommRing α] (ci : Int → α) : Prop := (∀ x y, ci (x + y) = ci x + ci y) ∧ (∀ x y, ci (x * y) = ci x * ci y) ∧ ci 0 = 0
def pl_e [Lean.Grind.CommRing α] (ci : Int → α) (t : α) : List Int → α
  | [] => 0
  | a :: l => ci a + t * pl_e ci t l
def pl_add : List Int → List Int → List Int
  | [], b => b
  | x :: a, [] => x :: a
  | x :: a, y :: b => (x + y) :: pl_add a b
def pl_sc (k : Int) (a : List Int) : List Int := a.map (k * ·)
def pl_mul : List Int → List Int → List Int
  | [], _ => []
  | x :: a, b => pl_add (pl_sc x b) (0 :: pl_mul a b)
theorem pl_e_add [Lean.Grind.CommRing α] {ci : Int → α} (hc : pl_hom ci) {t : α} : ∀ (a b : List Int), pl_e ci t (pl_add a b) = pl_e ci t a + pl_e ci t b
  | [], b => by
    show pl_e ci t b = 0 + pl_e ci t b
    grind
  | x :: a, [] => by
    show pl_e ci t (x :: a) = pl_e ci t (x :: a) + 0
    grind
  | x :: a, y :: b => by
    show ci (x + y) + t * pl_e ci t (pl_add a b) = ci x + t * pl_e ci t a + (ci y + t * pl_e ci t b)
    rw [pl_e_add hc a b, hc.1]
    clear hc
    grind
theorem pl_e_sc [Lean.Grind.CommRing α] {ci : Int → α} (hc : pl_hom ci) {t : α} (k : Int) : ∀ (a : List Int), pl_e ci t (pl_sc k a) = ci k * pl_e ci t a
  | [] => by
    show 0 = ci k * 0
    clear hc
    grind
  | x :: a => by
    have h := pl_e_sc hc (t := t) k a
    show ci (k * x) + t * pl_e ci t (pl_sc k a) = ci k * (ci x + t * pl_e ci t a)
    rw [h, hc.2.1]
    clear hc h
    grind
theorem pl_e_t [Lean.Grind.CommRing α] {ci : Int → α} (hc : pl_hom ci) {t : α} (a : List Int) : pl_e ci t (0 :: a) = t * pl_e ci t a := by
  show ci 0 + t * pl_e ci t a = _
  rw [hc.2.2]
  clear hc
  grind
theorem pl_e_mul [Lean.Grind.CommRing α] {ci : Int → α} (hc : pl_hom ci) {t : α} : ∀ (a b : List Int), pl_e ci t (pl_mul a b) = pl_e ci t a * pl_e ci t b
  | [], b => by
    show 0 = 0 * _
    clear hc
    grind
  | x :: a, b => by
    have h := pl_e_mul hc (t := t) a b
    show pl_e ci t (pl_add (pl_sc x b) (0 :: pl_mul a b)) = (ci x + t * pl_e ci t a) * pl_e ci t b
    rw [pl_e_add hc, pl_e_sc hc, pl_e_t hc, h]
    clear hc h
    grind
/-- one is as many times another as a fraction of polynomials says -/
def pl_fr [Lean.Grind.CommRing α] (ci : Int → α) (t a : α) (n d : List Int) : Prop := a * pl_e ci t d = pl_e ci t n
def pl_t (a : List Int) : List Int := 0 :: a
def pl_dn (n d : List Int) : List Int := pl_mul n (pl_add (pl_t (pl_mul n (pl_mul n n))) (pl_sc (-56) (pl_mul d (pl_mul d d))))
def pl_dd (n d : List Int) : List Int := pl_mul d (pl_sc 4 (pl_add (pl_t (pl_mul n (pl_mul n n))) (pl_sc 7 (pl_mul d (pl_mul d d)))))
def pl_sn (n d m e : List Int) : List Int := pl_add (pl_t (pl_mul (pl_mul n n) (pl_mul m m))) (pl_sc (-28) (pl_mul (pl_mul d e) (pl_add (pl_mul n e) (pl_mul m d))))
def pl_mi (n d m e : List Int) : List Int := pl_add (pl_mul n e) (pl_sc (-1) (pl_mul m d))
def pl_sd (n d m e : List Int) : List Int := pl_t (pl_mul (pl_mi n d m e) (pl_mi n d m e))
theorem pl_e_t2 [Lean.Grind.CommRing α] {ci : Int → α} (hc : pl_hom ci) {t : α} (a : List Int) : pl_e ci t (pl_t a) = t * pl_e ci t a := pl_e_t hc a
theorem pl_m1 [Lean.Grind.CommRing α] {ci : Int → α} (hc : pl_hom ci) (x : α) (h1 : ci 1 = 1) : ci (-1) * x = -x := by
  have h : ci (-1 + 1) = ci (-1) + ci 1 := hc.1 _ _
  have h0 : ci (-1 + 1) = 0 := hc.2.2
  rw [h0, h1] at h
  clear h0 h1 hc
  grind
theorem pl_e_mi [Lean.Grind.CommRing α] {ci : Int → α} (hc : pl_hom ci) (h1 : ci 1 = 1) {t : α} (n d m e : List Int) : pl_e ci t (pl_mi n d m e) = pl_e ci t n * pl_e ci t e - pl_e ci t m * pl_e ci t d := by
  unfold pl_mi
  rw [pl_e_add hc, pl_e_sc hc, pl_e_mul hc, pl_e_mul hc, pl_m1 hc _ h1]
  clear hc h1
  grind
theorem pl_dbl [Lean.Grind.CommRing α] {ci : Int → α} (hc : pl_hom ci) {t a c : α} {n d : List Int} (h : pl_fr ci t a n d) (he : ci 4 * (t * (a * a * a) + ci 7) * c = a * (t * (a * a * a) + ci (-56))) : pl_fr ci t c (pl_dn n d) (pl_dd n d) := by
  unfold pl_fr at *
  unfold pl_dn pl_dd
  rw [pl_e_mul hc, pl_e_mul hc, pl_e_sc hc, pl_e_add hc, pl_e_add hc, pl_e_t2 hc, pl_e_sc hc, pl_e_sc hc, pl_e_mul hc, pl_e_mul hc, pl_e_mul hc, pl_e_mul hc, ← h]
  obtain ⟨D, hD⟩ : ∃ D, D = pl_e ci t d := ⟨_, rfl⟩
  rw [← hD]
  have q : c * (D * (ci 4 * (t * (a * D * (a * D * (a * D))) + ci 7 * (D * (D * D))))) = (D * D * D * D) * (ci 4 * (t * (a * a * a) + ci 7) * c) := by
    clear hc h hD he
    grind
  rw [q, he]
  clear hc h hD he q
  grind
theorem pl_sum [Lean.Grind.CommRing α] {ci : Int → α} (hc : pl_hom ci) (h1 : ci 1 = 1) {t a b c : α} {n d m e : List Int} (h : pl_fr ci t a n d) (g : pl_fr ci t b m e) (he : t * c * ((a - b) * (a - b)) = t * (a * b * (a * b)) + ci (-28) * (a + b)) : pl_fr ci t c (pl_sn n d m e) (pl_sd n d m e) := by
  unfold pl_fr at *
  unfold pl_sn pl_sd
  rw [pl_e_add hc, pl_e_t2 hc, pl_e_t2 hc, pl_e_sc hc, pl_e_mul hc, pl_e_mul hc, pl_e_mul hc, pl_e_mul hc, pl_e_mul hc, pl_e_mul hc, pl_e_add hc, pl_e_mul hc, pl_e_mul hc, pl_e_mi hc h1, ← h, ← g]
  obtain ⟨D, hD⟩ : ∃ D, D = pl_e ci t d := ⟨_, rfl⟩
  obtain ⟨E, hE⟩ : ∃ E, E = pl_e ci t e := ⟨_, rfl⟩
  rw [← hD, ← hE]
  have q : c * (t * ((a * D * E - b * E * D) * (a * D * E - b * E * D))) = (D * D * E * E) * (t * c * ((a - b) * (a - b))) := by
    clear hc h g hD hE h1 he
    grind
  rw [q, he]
  clear hc h g hD hE h1 he q
  grind
theorem pl_same [Lean.Grind.CommRing α] {ci : Int → α} (hc : pl_hom ci) (h1 : ci 1 = 1) {t a : α} {n d m e : List Int} (h : pl_fr ci t a n d) (g : pl_fr ci t a m e) : pl_e ci t (pl_mi n d m e) = 0 := by
  unfold pl_fr at *
  rw [pl_e_mi hc h1, ← h, ← g]
  clear h g h1 hc
  grind
end PLY
