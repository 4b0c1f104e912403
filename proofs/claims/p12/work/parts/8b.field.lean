/-! The field of P; that no point has the order 2, 3, 5, 7 or 11. -/
abbrev ef : Type := Fin 115792089237316195423570985008687907853269984665640564039457584007908834671663
def ef_i (z : Int) : ef := ⟨(z % 115792089237316195423570985008687907853269984665640564039457584007908834671663).toNat, by omega⟩
theorem ef_v (z : Int) : ((ef_i z).val : Int) = z % (np_P : Int) := Int.toNat_of_nonneg (Int.emod_nonneg z (by decide))
theorem ef_ext {x y : ef} (h : (x.val : Int) = (y.val : Int)) : x = y := Fin.ext (Int.ofNat_inj.mp h)
theorem ef_addv (x y : ef) : ((x + y).val : Int) = ((x.val : Int) + y.val) % (np_P : Int) := by
  rw [Fin.val_add, Int.natCast_emod, Int.natCast_add]
  rfl
theorem ef_mulv (x y : ef) : ((x * y).val : Int) = ((x.val : Int) * y.val) % (np_P : Int) := by
  rw [Fin.val_mul, Int.natCast_emod, Int.natCast_mul]
  rfl
theorem ef_add (x y : Int) : ef_i (x + y) = ef_i x + ef_i y := by
  refine ef_ext ?_
  rw [ef_addv, ef_v, ef_v, ef_v, Int.emod_add_emod, Int.add_emod_emod]
theorem ef_mul (x y : Int) : ef_i (x * y) = ef_i x * ef_i y := by
  refine ef_ext ?_
  rw [ef_mulv, ef_v, ef_v, ef_v, ← Int.mul_emod]
theorem ef_0 : ef_i 0 = 0 := by decide +kernel
theorem ef_1 : ef_i 1 = 1 := by decide +kernel
theorem ef_hom : pl_hom ef_i := ⟨ef_add, ef_mul, ef_0⟩
theorem ef_neg (x : Int) : ef_i (-x) = -ef_i x := by
  have h := ef_add (-x) x
  rw [Int.add_left_neg, ef_0] at h
  generalize ef_i (-x) = a at h ⊢
  generalize ef_i x = c at h ⊢
  grind
theorem ef_eq {x y : Int} : ef_i x = ef_i y ↔ x % (np_P : Int) = y % (np_P : Int) := by
  refine ⟨fun h => ?_, fun h => ef_ext ?_⟩
  · rw [← ef_v, ← ef_v, h]
  · rw [ef_v, ef_v, h]
theorem ef_mod (x : Int) : ef_i (x % (np_P : Int)) = ef_i x := ef_eq.mpr (Int.emod_emod_of_dvd x (Int.dvd_refl _))
theorem ef_of (x : ef) : ef_i (x.val : Int) = x := ef_ext (by
  rw [ef_v]
  refine Int.emod_eq_of_lt (by omega) ?_
  have := x.isLt
  exact Int.ofNat_lt.mpr this)
theorem ef_dom (x y : ef) (h : x * y = 0) : x = 0 ∨ y = 0 := by
  have h1 : (x.val * y.val) % np_P = 0 := by
    have := congrArg Fin.val h
    rw [Fin.val_mul] at this
    exact this
  have key : ∀ z : ef, np_P ∣ z.val → z = 0 := fun z hz => Fin.ext (by
    have := z.isLt
    obtain ⟨c, hc⟩ := hz
    have hc0 : c = 0 := Classical.byContradiction fun hh => by
      have : np_P * 1 ≤ np_P * c := Nat.mul_le_mul_left _ (by omega)
      unfold np_P at *
      omega
    rw [hc, hc0]
    rfl)
  rcases np_mul np_P_pr (Nat.dvd_of_mod_eq_zero h1) with e | e
  · exact Or.inl (key x e)
  · exact Or.inr (key y e)
theorem ef_ndvd {x : ef} (hx : x ≠ 0) : ¬ np_P ∣ x.val := fun h => by
  have h1 := x.isLt
  have h2 : x.val ≠ 0 := fun e => hx (Fin.ext e)
  have := Nat.le_of_dvd (by omega) h
  unfold np_P at this
  omega
theorem ef_has (x : ef) (hx : x ≠ 0) : ∃ y, x * y = 1 := by
  obtain ⟨u, v, h⟩ := np_inv (q := x.val) (s := np_P) (by decide) (Nat.pos_of_ne_zero fun e => hx (Fin.ext e)) (Nat.Coprime.symm (np_cop np_P_pr (ef_ndvd hx)))
  refine ⟨ef_i u, ?_⟩
  rw [← ef_of x, ← ef_mul, ← ef_1, ef_eq]
  have : ((x.val : Int) * u) = 1 + v * (np_P : Int) := by
    rw [Int.mul_comm, ← Int.natCast_mul, h, Int.natCast_add, Int.natCast_mul]
    rfl
  rw [this, Int.add_mul_emod_self_right]
noncomputable def ef_iv (x : ef) : ef := if h : ∃ y, x * y = 1 then Classical.choose h else 0
theorem ef_fld : eg_fld ef ef_iv (ef_i 7) := by
  refine ⟨ef_dom, fun x hx => ?_, by decide +kernel, by decide +kernel, by decide +kernel⟩
  unfold ef_iv
  rw [dif_pos (ef_has x hx)]
  exact Classical.choose_spec (ef_has x hx)
/-- powers -/
def ef_p (x : ef) (e : Nat) : ef := ef_i ((x.val ^ e : Nat) : Int)
theorem ef_p0 (x : ef) : ef_p x 0 = 1 := ef_1
theorem ef_p1 (x : ef) : ef_p x 1 = x := by
  unfold ef_p
  rw [Nat.pow_one]
  exact ef_of x
theorem ef_padd (x : ef) (a b : Nat) : ef_p x (a + b) = ef_p x a * ef_p x b := by
  unfold ef_p
  rw [Nat.pow_add, Int.natCast_mul, ef_mul]
theorem ef_pint (z : Int) (e : Nat) : ef_p (ef_i z) e = ef_i (z ^ e) := by
  induction e with
  | zero => rw [ef_p0, Int.pow_zero, ef_1]
  | succ e ih => rw [ef_padd, ih, ef_p1, Int.pow_succ, ef_mul]
theorem ef_pmul (x y : ef) (e : Nat) : ef_p (x * y) e = ef_p x e * ef_p y e := by
  rw [← ef_of x, ← ef_of y, ← ef_mul, ef_pint, ef_pint, ef_pint, Int.mul_pow, ef_mul]
theorem ef_flt {x : ef} (hx : x ≠ 0) (e : Nat) (he : e = np_P - 1) : ef_p x e = 1 := by
  subst he
  unfold ef_p
  rw [← ef_1, ef_eq, ← Int.natCast_emod, np_flt1 np_P_pr (ef_ndvd hx)]
  rfl
theorem ef_cube {x : ef} (hx : x ≠ 0) {e : Nat} (he : e + e + e = np_P - 1) : ef_p (x * x * x) e = 1 := by
  rw [ef_pmul, ef_pmul, ← ef_padd, ← ef_padd]
  exact ef_flt hx _ he
theorem ef_square {x : ef} (hx : x ≠ 0) {e : Nat} (he : e + e = np_P - 1) : ef_p (x * x) e = 1 := by
  rw [ef_pmul, ← ef_padd]
  exact ef_flt hx _ he
theorem ef_pn {z : Nat} {e k : Nat} (he : e < 2 ^ k) (h : np_pw np_P z k e ≠ 1) : ef_p (ef_i z) e ≠ 1 := fun e1 => by
  rw [ef_pint, ← Int.natCast_pow, ← ef_1, ef_eq, ← Int.natCast_emod, ← np_pw_eq np_P z k e he] at e1
  refine h (Int.ofNat_inj.mp (e1.trans ?_))
  rfl
/-! Polynomials modulo one of them. -/
def pl_p (t : ef) : Nat → ef
  | 0 => 1
  | n + 1 => t * pl_p t n
theorem pl_e_mod (t : ef) : ∀ l : List Int, pl_e ef_i t (l.map (· % (np_P : Int))) = pl_e ef_i t l
  | [] => rfl
  | a :: l => by
    show ef_i (a % (np_P : Int)) + t * pl_e ef_i t (l.map (· % (np_P : Int))) = _
    rw [ef_mod, pl_e_mod t l]
    rfl
theorem pl_e_app (t : ef) : ∀ l m : List Int, pl_e ef_i t (l ++ m) = pl_e ef_i t l + pl_p t l.length * pl_e ef_i t m
  | [], m => by
    show pl_e ef_i t m = 0 + 1 * pl_e ef_i t m
    generalize pl_e ef_i t m = a
    grind
  | a :: l, m => by
    show ef_i a + t * pl_e ef_i t (l ++ m) = ef_i a + t * pl_e ef_i t l + t * pl_p t l.length * pl_e ef_i t m
    rw [pl_e_app t l m]
    generalize pl_e ef_i t m = x
    generalize pl_e ef_i t l = y
    generalize ef_i a = z
    generalize pl_p t l.length = w
    grind
theorem pl_sc_len (k : Int) (a : List Int) : (pl_sc k a).length = a.length := List.length_map _
/-- a number is worked out before one goes on -/
def pn_v {β : Type} (n : Nat) (k : Nat → β) : β := Nat.rec (k 0) (fun m _ => k (m + 1)) n
theorem pn_v_eq {β : Type} (n : Nat) (k : Nat → β) : pn_v n k = k n := by
  cases n with
  | zero => rfl
  | succ n => rfl
def pn_f {β : Type} : List Nat → (List Nat → β) → β
  | [], k => k []
  | x :: l, k => pn_v x fun v => pn_f l fun m => k (v :: m)
theorem pn_f_eq {β : Type} : ∀ (l : List Nat) (k : List Nat → β), pn_f l k = k l
  | [], k => rfl
  | x :: l, k => by
    unfold pn_f
    rw [pn_v_eq, pn_f_eq l]
def pn_e (t : ef) : List Nat → ef
  | [] => 0
  | a :: l => ef_i (a : Int) + t * pn_e t l
def pn_l : Nat → List Nat → Nat
  | p, [] => p
  | _, x :: h => pn_l x h
def pn_z (top a : Nat) : Nat → List Nat → List Nat → List Nat → List Nat
  | p, x :: h, y :: c, z :: b => ((p + top * y + a * z) % np_P) :: pn_z top a x h c b
  | _, _, _, _ => []
theorem pn_z_len {top a : Nat} : ∀ {p : Nat} {h c b : List Nat}, c.length = h.length → b.length = h.length → (pn_z top a p h c b).length = h.length
  | _, [], c, b, _, _ => by
    unfold pn_z
    rfl
  | _, x :: h, [], b, h1, _ => absurd h1 (by simp)
  | _, x :: h, y :: c, [], _, h2 => absurd h2 (by simp)
  | _, x :: h, y :: c, z :: b, h1, h2 => by
    show (pn_z top a x h c b).length + 1 = h.length + 1
    rw [pn_z_len (Nat.succ.inj h1) (Nat.succ.inj h2)]
theorem pn_z_e {t : ef} {top a : Nat} : ∀ {p : Nat} {h c b : List Nat}, c.length = h.length → b.length = h.length →
    pn_e t (pn_z top a p h c b) + pl_p t h.length * ef_i (pn_l p h : Nat) = ef_i (p : Int) + t * pn_e t h + ef_i (top : Int) * pn_e t c + ef_i (a : Int) * pn_e t b
  | p, [], [], [], _, _ => by
    show (0 : ef) + 1 * ef_i (p : Int) = ef_i (p : Int) + t * 0 + ef_i (top : Int) * 0 + ef_i (a : Int) * 0
    generalize ef_i (p : Int) = x
    generalize ef_i (top : Int) = y
    generalize ef_i (a : Int) = z
    grind
  | _, [], y :: c, b, h1, _ => absurd h1 (by simp)
  | _, [], [], z :: b, _, h2 => absurd h2 (by simp)
  | _, x :: h, [], b, h1, _ => absurd h1 (by simp)
  | _, x :: h, y :: c, [], _, h2 => absurd h2 (by simp)
  | p, x :: h, y :: c, z :: b, h1, h2 => by
    have ih := pn_z_e (t := t) (top := top) (a := a) (p := x) (Nat.succ.inj h1) (Nat.succ.inj h2)
    show ef_i (((p + top * y + a * z) % np_P : Nat) : Int) + t * pn_e t (pn_z top a x h c b) + t * pl_p t h.length * ef_i (pn_l x h : Nat) = ef_i (p : Int) + t * (ef_i (x : Int) + t * pn_e t h) + ef_i (top : Int) * (ef_i (y : Int) + t * pn_e t c) + ef_i (a : Int) * (ef_i (z : Int) + t * pn_e t b)
    rw [Int.natCast_emod, ef_mod, Int.natCast_add, Int.natCast_add, Int.natCast_mul, Int.natCast_mul, ef_add, ef_add, ef_mul, ef_mul]
    generalize pn_e t (pn_z top a x h c b) = w1 at ih ⊢
    generalize pl_p t h.length = w2 at ih ⊢
    generalize ef_i (pn_l x h : Nat) = w3 at ih ⊢
    generalize ef_i (x : Int) = w4 at ih ⊢
    generalize pn_e t h = w5 at ih ⊢
    generalize ef_i (top : Int) = w6 at ih ⊢
    generalize pn_e t c = w7 at ih ⊢
    generalize ef_i (a : Int) = w8 at ih ⊢
    generalize pn_e t b = w9 at ih ⊢
    generalize ef_i (p : Int) = w10
    generalize ef_i (y : Int) = w11
    generalize ef_i (z : Int) = w12
    have e : w10 + w6 * w11 + w8 * w12 + t * w1 + t * w2 * w3 = w10 + w6 * w11 + w8 * w12 + t * (w1 + w2 * w3) := by
      clear ih
      grind
    rw [e, ih]
    clear e ih
    grind
/-- t times h, and a times b -/
def pn_s {β : Type} (c b h : List Nat) (a : Nat) (k : List Nat → β) : β := pn_v (pn_l 0 h) fun top => pn_f (pn_z top a 0 h c b) k
def pn_ok (t : ef) (c : List Nat) : Prop := pn_e t c = pl_p t c.length
theorem pn_s_eq {β : Type} {t : ef} {c b h : List Nat} {a : Nat} {k : List Nat → β} (hc : pn_ok t c) (h1 : h.length = c.length) (h2 : b.length = c.length) :
    ∃ m, pn_s c b h a k = k m ∧ m.length = c.length ∧ pn_e t m = t * pn_e t h + ef_i (a : Int) * pn_e t b := by
  refine ⟨pn_z (pn_l 0 h) a 0 h c b, ?_, ?_, ?_⟩
  · unfold pn_s
    rw [pn_v_eq, pn_f_eq]
  · rw [pn_z_len h1.symm (h2.trans h1.symm), h1]
  · have e := pn_z_e (t := t) (top := pn_l 0 h) (a := a) (p := 0) h1.symm (h2.trans h1.symm)
    rw [h1, hc] at e
    rw [show ((0 : Nat) : Int) = 0 from rfl, ef_0] at e
    generalize pn_e t (pn_z (pn_l 0 h) a 0 h c b) = w1 at e ⊢
    generalize pl_p t c.length = w2 at e
    generalize ef_i (pn_l 0 h : Nat) = w3 at e
    generalize pn_e t h = w4 at e ⊢
    generalize ef_i (a : Int) = w5 at e ⊢
    generalize pn_e t b = w6 at e ⊢
    have : w1 = (w1 + w2 * w3) - w3 * w2 := by
      clear e
      grind
    rw [this, e]
    clear e this
    grind
def pn_q {β : Type} (c b : List Nat) : List Nat → (List Nat → β) → β
  | [], k => k (c.map fun _ => 0)
  | a :: l, k => pn_q c b l fun h => pn_s c b h a k
theorem pn_0 (t : ef) : ∀ m : List Nat, pn_e t (m.map fun _ => 0) = 0
  | [] => rfl
  | a :: m => by
    show ef_i ((0 : Nat) : Int) + t * pn_e t (m.map fun _ => 0) = 0
    rw [pn_0 t m, show ((0 : Nat) : Int) = 0 from rfl, ef_0]
    grind
theorem pn_q_eq {β : Type} {t : ef} {c b : List Nat} (hc : pn_ok t c) (hb : b.length = c.length) : ∀ (l : List Nat) (k : List Nat → β), ∃ m, pn_q c b l k = k m ∧ m.length = c.length ∧ pn_e t m = pn_e t l * pn_e t b
  | [], k => ⟨c.map fun _ => 0, rfl, List.length_map _, by
    rw [pn_0]
    show 0 = 0 * _
    generalize pn_e t b = x
    grind⟩
  | a :: l, k => by
    obtain ⟨m, e1, e2, e3⟩ := pn_q_eq hc hb l fun h => pn_s c b h a k
    obtain ⟨m', f1, f2, f3⟩ := pn_s_eq (k := k) (a := a) hc e2 hb
    refine ⟨m', e1.trans f1, f2, ?_⟩
    rw [f3, e3]
    show _ = (ef_i (a : Int) + t * pn_e t l) * pn_e t b
    generalize pn_e t b = x
    generalize pn_e t l = y
    generalize ef_i (a : Int) = z
    grind
/-- powers of t, from the highest bit on -/
def pn_w {β : Type} (c : List Nat) (E : Nat) : Nat → List Nat → (List Nat → β) → β
  | 0, h, k => k h
  | j + 1, h, k => pn_q c h h fun g => if E / 2 ^ j % 2 = 1 then pn_s c g g 0 fun m => pn_w c E j m k else pn_w c E j g k
theorem pn_w_eq {β : Type} {t : ef} {c : List Nat} {E : Nat} (hc : pn_ok t c) : ∀ (j : Nat) (h : List Nat) (k : List Nat → β), h.length = c.length → pn_e t h = ef_p t (E / 2 ^ j) → ∃ m, pn_w c E j h k = k m ∧ m.length = c.length ∧ pn_e t m = ef_p t E
  | 0, h, k, h1, h2 => ⟨h, rfl, h1, by rw [h2, Nat.pow_zero, Nat.div_one]⟩
  | j + 1, h, k, h1, h2 => by
    obtain ⟨g, e1, e2, e3⟩ := pn_q_eq (t := t) hc h1 h fun g => if E / 2 ^ j % 2 = 1 then pn_s c g g 0 fun m => pn_w c E j m k else pn_w c E j g k
    have e4 : pn_w c E (j + 1) h k = if E / 2 ^ j % 2 = 1 then pn_s c g g 0 fun m => pn_w c E j m k else pn_w c E j g k := e1
    have e5 : E / 2 ^ (j + 1) = E / 2 ^ j / 2 := by rw [Nat.pow_succ, Nat.div_div_eq_div_mul]
    rw [h2, ← ef_padd, e5] at e3
    by_cases ho : E / 2 ^ j % 2 = 1
    · rw [if_pos ho] at e4
      obtain ⟨m, f1, f2, f3⟩ := pn_s_eq (t := t) (k := fun m => pn_w c E j m k) (a := 0) hc e2 e2
      obtain ⟨r, g1, g2, g3⟩ := pn_w_eq (t := t) (E := E) hc j m k f2 (by
        rw [f3, e3, show ((0 : Nat) : Int) = 0 from rfl, ef_0, show ef_p t (E / 2 ^ j) = ef_p t (1 + (E / 2 ^ j / 2 + E / 2 ^ j / 2)) by rw [show 1 + (E / 2 ^ j / 2 + E / 2 ^ j / 2) = E / 2 ^ j by omega], ef_padd t 1, ef_p1]
        generalize ef_p t (E / 2 ^ j / 2 + E / 2 ^ j / 2) = x
        grind)
      exact ⟨r, e4.trans (f1.trans g1), g2, g3⟩
    · rw [if_neg ho] at e4
      obtain ⟨r, g1, g2, g3⟩ := pn_w_eq (t := t) (E := E) hc j g k e2 (by rw [e3, show E / 2 ^ j / 2 + E / 2 ^ j / 2 = E / 2 ^ j by omega])
      exact ⟨r, e4.trans g1, g2, g3⟩
def pn_same : List Nat → List Nat → Bool
  | [], [] => true
  | x :: a, y :: b => Nat.beq x y && pn_same a b
  | _, _ => false
theorem pn_same_eq : ∀ {a b : List Nat}, pn_same a b = true → a = b
  | [], [], _ => rfl
  | x :: a, y :: b, h => by
    unfold pn_same at h
    rw [Bool.and_eq_true] at h
    rw [Nat.eq_of_beq_eq_true h.1, pn_same_eq h.2]
  | [], y :: b, h => absurd h (by unfold pn_same; simp)
  | x :: a, [], h => absurd h (by unfold pn_same; simp)
def pn_chk (c v one : List Nat) (E k : Nat) : Bool := pn_w c E k one fun h => pn_q c h v fun g => pn_f (pn_z 0 1 0 (c.map fun _ => 0) c g) fun g2 => pn_q c one v fun v2 => pn_same g2 (pn_z 0 1 0 (c.map fun _ => 0) c (pn_z 1 1 0 (c.map fun _ => 0) v2 one))
/-- there is no such t -/
theorem pn_none {t : ef} {c v one : List Nat} {e k : Nat} (hc : pn_ok t c) (ht : ef_p t e = 1) (he : e / 2 ^ k = 0) (h1 : one.length = c.length) (h2 : pn_e t one = 1) (hv : v.length = c.length)
    (hq : pn_chk c v one e k = true) : False := by
  have z0 : ((c.map fun _ => 0) : List Nat).length = c.length := List.length_map _
  have hz : ∀ {top a : Nat} {d b : List Nat}, d.length = c.length → b.length = c.length → pn_e t (pn_z top a 0 (c.map fun _ => 0) d b) = ef_i (top : Int) * pn_e t d + ef_i (a : Int) * pn_e t b := fun {top a d b} hd hb => by
    have e := pn_z_e (t := t) (top := top) (a := a) (p := 0) (hd.trans z0.symm) (hb.trans z0.symm)
    have l0 : ∀ m : List Nat, pn_l 0 (m.map fun _ => 0) = 0 := fun m => by
      induction m with
      | nil => rfl
      | cons a m ih => exact ih
    rw [l0, pn_0, show ((0 : Nat) : Int) = 0 from rfl, ef_0] at e
    generalize pn_e t (pn_z top a 0 (c.map fun _ => 0) d b) = w1 at e ⊢
    generalize pl_p t (c.map fun _ => 0).length = w2 at e
    generalize ef_i (top : Int) * pn_e t d = w3 at e ⊢
    generalize ef_i (a : Int) * pn_e t b = w4 at e ⊢
    grind
  unfold pn_chk at hq
  obtain ⟨h, e1, e2, e3⟩ := pn_w_eq (t := t) (E := e) hc k one (fun h => pn_q c h v fun g => pn_f (pn_z 0 1 0 (c.map fun _ => 0) c g) fun g2 => pn_q c one v fun v2 => pn_same g2 (pn_z 0 1 0 (c.map fun _ => 0) c (pn_z 1 1 0 (c.map fun _ => 0) v2 one))) h1 (by rw [he, ef_p0]; exact h2)
  rw [e1] at hq
  obtain ⟨g, f1, f2, f3⟩ := pn_q_eq (t := t) hc e2 v fun g => pn_f (pn_z 0 1 0 (c.map fun _ => 0) c g) fun g2 => pn_q c one v fun v2 => pn_same g2 (pn_z 0 1 0 (c.map fun _ => 0) c (pn_z 1 1 0 (c.map fun _ => 0) v2 one))
  rw [f1, pn_f_eq] at hq
  obtain ⟨v2, g1, g2, g3⟩ := pn_q_eq (t := t) hc h1 v fun v2 => pn_same (pn_z 0 1 0 (c.map fun _ => 0) c g) (pn_z 0 1 0 (c.map fun _ => 0) c (pn_z 1 1 0 (c.map fun _ => 0) v2 one))
  rw [g1] at hq
  have e5 := congrArg (pn_e t) (pn_same_eq hq)
  have l1 : (pn_z 1 1 0 (c.map fun _ => 0) v2 one).length = c.length := by rw [pn_z_len (g2.trans z0.symm) (h1.trans z0.symm), z0]
  rw [hz rfl f2, hz rfl l1, hz g2 h1, f3, g3, e3, ht, h2, show ((0 : Nat) : Int) = 0 from rfl, show ((1 : Nat) : Int) = 1 from rfl, ef_0, ef_1] at e5
  have : (0 : ef) ≠ 1 := by decide +kernel
  refine this ?_
  generalize pn_e t v = x at e5
  generalize pn_e t c = y at e5
  grind
theorem pn_e_pl (t : ef) : ∀ l : List Nat, pn_e t l = pl_e ef_i t (l.map Int.ofNat)
  | [] => rfl
  | a :: l => by
    show _ = ef_i (a : Int) + t * pl_e ef_i t (l.map Int.ofNat)
    rw [← pn_e_pl t l]
    rfl
theorem pn_one (t : ef) (n : Nat) : pn_e t (1 :: List.replicate n 0) = 1 := by
  have : ∀ n, pn_e t (List.replicate n 0) = 0 := fun n => by
    induction n with
    | zero => rfl
    | succ n ih =>
      show ef_i ((0 : Nat) : Int) + t * pn_e t (List.replicate n 0) = 0
      rw [ih, show ((0 : Nat) : Int) = 0 from rfl, ef_0]
      grind
  show ef_i ((1 : Nat) : Int) + t * pn_e t (List.replicate n 0) = 1
  rw [this, show ((1 : Nat) : Int) = 1 from rfl, ef_1]
  grind
/-- from a polynomial that is 0 to what the highest power is -/
theorem pl_high {t : ef} {E c : List Int} {w : Int} {z : Nat} (hE : pl_e ef_i t E = 0) (h : (pl_sc w E).map (· % (np_P : Int)) = (pl_sc (-1) c ++ (1 :: List.replicate z 0)).map (· % (np_P : Int))) : pl_e ef_i t c = pl_p t c.length := by
  have h1 : pl_e ef_i t (pl_sc (-1) c ++ (1 :: List.replicate z 0)) = 0 := by
    rw [← pl_e_mod, ← h, pl_e_mod, pl_e_sc ef_hom, hE]
    generalize ef_i w = x
    grind
  have h0 : ∀ n, pl_e ef_i t (List.replicate n 0) = 0 := fun n => by
    induction n with
    | zero => rfl
    | succ n ih =>
      show ef_i 0 + t * pl_e ef_i t (List.replicate n 0) = 0
      rw [ih, ef_0]
      grind
  rw [pl_e_app, pl_e_sc ef_hom, pl_m1 ef_hom _ ef_1, pl_sc_len] at h1
  have h2 : pl_e ef_i t (1 :: List.replicate z 0) = 1 := by
    show ef_i 1 + t * pl_e ef_i t (List.replicate z 0) = 1
    rw [h0, ef_1]
    grind
  rw [h2] at h1
  generalize pl_e ef_i t c = x at h1 ⊢
  generalize pl_p t c.length = y at h1 ⊢
  grind
def pl_n1 : List Int := [1]
def pl_n2 : List Int := pl_dn pl_n1 pl_n1
def pl_d2 : List Int := pl_dd pl_n1 pl_n1
def pl_n3 : List Int := pl_sn pl_n2 pl_d2 pl_n1 pl_n1
def pl_d3 : List Int := pl_sd pl_n2 pl_d2 pl_n1 pl_n1
def pl_n4 : List Int := pl_dn pl_n2 pl_d2
def pl_d4 : List Int := pl_dd pl_n2 pl_d2
def pl_n5 : List Int := pl_sn pl_n3 pl_d3 pl_n2 pl_d2
def pl_d5 : List Int := pl_sd pl_n3 pl_d3 pl_n2 pl_d2
def pl_n6 : List Int := pl_dn pl_n3 pl_d3
def pl_d6 : List Int := pl_dd pl_n3 pl_d3
def pl_c5 : List Nat := [69475253542389717254142591005212744711961990799384338423674550404745300925929, 109760, 2352, 115792089237316195423570985008687907853269984665640564039457584007908834671131]
def pl_v5 : List Nat := [109291419246137104687927395795717164936951889755382988499583916782761052400721, 46787046032729281751067970492209969010018484441625870001933879945980319827293, 15748578231672678756928063280076856951155431051818084324720947345712132175188, 101348472174614064517258432973579664173987909307573628370626878506118395422506]
theorem pl_no5 {t : ef} (ht0 : t ≠ 0) (ht : ef_p t 38597363079105398474523661669562635951089994888546854679819194669302944890554 = 1) (h : pl_e ef_i t (pl_mi pl_n3 pl_d3 pl_n2 pl_d2) = 0) : False := by
  have hc : pn_ok t pl_c5 := by
    unfold pn_ok
    rw [pn_e_pl, pl_high (w := 46316835694926478169428394003475163141307993866256225615783033603163533868665) (z := 0) (c := pl_c5.map Int.ofNat) h (by decide +kernel), List.length_map]
  exact pn_none (v := pl_v5) (one := 1 :: List.replicate 3 0) (k := 256) hc ht (by decide +kernel) (by decide) (pn_one t 3) (by decide) (by decide +kernel)
def pl_c7 : List Nat := [115792089237316195423570985008687907853269984665640564039457584007854862957615, 94450499584, 47225249792, 3734649856, 318391808, 40655104, 300272, 115792089237316195423570985008687907853269984665640564039457584007908834667719]
def pl_v7 : List Nat := [20065837862995434184828527341628358369628010816984113272559690675388742696469, 0, 0, 0, 0, 0, 0, 0]
theorem pl_no7 {t : ef} (ht0 : t ≠ 0) (ht : ef_p t 38597363079105398474523661669562635951089994888546854679819194669302944890554 = 1) (h : pl_e ef_i t (pl_mi pl_n4 pl_d4 pl_n3 pl_d3) = 0) : False := by
  have hc : pn_ok t pl_c7 := by
    unfold pn_ok
    rw [pn_e_pl, pl_high (w := 16541727033902313631938712144098272550467140666520080577065369143986976381666) (z := 0) (c := pl_c7.map Int.ofNat) h (by decide +kernel), List.length_map]
  exact pn_none (v := pl_v7) (one := 1 :: List.replicate 7 0) (k := 256) hc ht (by decide +kernel) (by decide) (pn_one t 7) (by decide) (by decide +kernel)
def pl_c11 : List Nat := [31579660701086235115519359547823974869073632181546311331179415950891607868615, 68932697900646985492357709824, 115792089237316195423570985008687907853269984665634409334287883384204159876143, 115792089237316195423570985008687907853269984665603240148821328082728342518831, 115792089237316195423570985008687907853269984665611104954237739818970255457327, 115792089237316195423570985008687907853269984665632503591126293577460420181039, 115792089237316195423570985008687907853269984665639581096079612073948945054767, 115792089237316195423570985008687907853269984665640451800107740519674004110383, 115792089237316195423570985008687907853269984665640540685406227163134774213679, 115792089237316195423570985008687907853269984665640560368060447880863444630575, 115792089237316195423570985008687907853269984665640563754152248183065368591407, 115792089237316195423570985008687907853269984665640564031711537520835719855151, 766587078565625856, 5838821981333569536, 375851336744497152, 2497261588405248, 115792089237316195423570985008687907853269984665640564039457584004213415849519, 123819882816, 82220432, 115792089237316195423570985008687907853269984665640564039457584007908834612555]
def pl_v11 : List Nat := [18022578350160601233091701005379493914758219684596894312292118563258237643668, 40197521319166049326678372553861755209034343980872768194309012930305393924226, 8779176365463522991222568793560323493498866915029250791224683576455647534223, 89298796242578435863338056086968131998469735611657578021796587496081750734021, 110828926956230282745118716592126568046790731380069940432617017425243953769861, 92574197193907798410445588374827218573039343813923778876235657673221096261803, 41759511316622924933052050995730514330689343724837109987294658515535049024386, 78138771236438129284900087598894853454750656473249329296082364704344100006292, 6106909925954303165360739977514013624149313736159441389233468985200475482828, 110749148209124763414546889287362477130672487820028054277428942658902093830114, 35308339236489627609350682137336644000452593253175592026750529564702499272320, 15700814651949542304501038632642546598264022486979396446637274666566967789517, 20281899925935282752245765516346766818573441515526353705546794460575904578028, 1739632259372854452562592956287796073799867060293484259199760334590474821259, 99178421601831644694550680235371035445194608333733669906363674509425943187700, 2530678892604826073161199511735649093155005211997589499870079767170421160127, 52133282496965075928074310571686568755479965841294892742115628723038596766119, 581234878713920462775292052470267532176583096861872279988066709936538933992, 67905569273965516002207530915010841904619807094786873776088603705927336015031, 82755487013906971436325130089934354787617053877775180760716807101691674211822]
theorem pl_no11 {t : ef} (ht0 : t ≠ 0) (ht : ef_p t 38597363079105398474523661669562635951089994888546854679819194669302944890554 = 1) (h : pl_e ef_i t (pl_mi pl_n6 pl_d6 pl_n5 pl_d5) = 0) : False := by
  have e : pl_mi pl_n6 pl_d6 pl_n5 pl_d5 = 0 :: 0 :: (pl_mi pl_n6 pl_d6 pl_n5 pl_d5).tail.tail := by decide +kernel
  rw [e, pl_e_t ef_hom, pl_e_t ef_hom] at h
  have h := (ef_dom _ _ h).resolve_left ht0
  have h := (ef_dom _ _ h).resolve_left ht0
  have hc : pn_ok t pl_c11 := by
    unfold pn_ok
    rw [pn_e_pl, pl_high (w := 84212428536229960308051625460863932984196352484102228392332788369388243397573) (z := 0) (c := pl_c11.map Int.ofNat) h (by decide +kernel), List.length_map]
  exact pn_none (v := pl_v11) (one := 1 :: List.replicate 19 0) (k := 256) hc ht (by decide +kernel) (by decide) (pn_one t 19) (by decide) (by decide +kernel)
