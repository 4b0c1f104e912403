/-! Multiples of a point. -/
section EGM
variable {α : Type}
def eg_n [Lean.Grind.CommRing α] [DecidableEq α] (iv : α → α) : Nat → Option (α × α) → Option (α × α)
  | 0, _ => none
  | n + 1, p => eg_add iv (eg_n iv n p) p
def eg_z [Lean.Grind.CommRing α] [DecidableEq α] (iv : α → α) : Int → Option (α × α) → Option (α × α)
  | .ofNat n, p => eg_n iv n p
  | .negSucc n, p => eg_neg (eg_n iv (n + 1) p)
theorem eg_on_n [Lean.Grind.CommRing α] [DecidableEq α] {iv : α → α} {b : α} (hF : eg_fld α iv b) {p : Option (α × α)} (hp : eg_on b p) : ∀ n, eg_on b (eg_n iv n p)
  | 0 => trivial
  | n + 1 => eg_on_add hF (eg_on_n hF hp n) hp
theorem eg_on_z [Lean.Grind.CommRing α] [DecidableEq α] {iv : α → α} {b : α} (hF : eg_fld α iv b) {p : Option (α × α)} (hp : eg_on b p) : ∀ n, eg_on b (eg_z iv n p)
  | .ofNat n => eg_on_n hF hp n
  | .negSucc n => eg_on_neg (eg_on_n hF hp (n + 1))
theorem eg_n_add [Lean.Grind.CommRing α] [DecidableEq α] {iv : α → α} {b : α} (hF : eg_fld α iv b) {p : Option (α × α)} (hp : eg_on b p) (m : Nat) : ∀ n, eg_n iv (m + n) p = eg_add iv (eg_n iv m p) (eg_n iv n p)
  | 0 => (eg_add_none _).symm
  | n + 1 => by
    show eg_add iv (eg_n iv (m + n) p) p = eg_add iv _ (eg_add iv (eg_n iv n p) p)
    rw [eg_n_add hF hp m n, eg_assoc hF (eg_on_n hF hp m) (eg_on_n hF hp n) hp]
/-- a point and its negative -/
theorem eg_add_neg [Lean.Grind.CommRing α] [DecidableEq α] {iv : α → α} {b : α} (hF : eg_fld α iv b) {p : Option (α × α)} (hp : eg_on b p) : eg_add iv p (eg_neg p) = none := by
  rw [eg_comm hF hp (eg_on_neg hp)]
  exact eg_neg_add p
theorem eg_cancel [Lean.Grind.CommRing α] [DecidableEq α] {iv : α → α} {b : α} (hF : eg_fld α iv b) {p q r : Option (α × α)} (hp : eg_on b p) (hq : eg_on b q) (hr : eg_on b r) (h : eg_add iv p q = eg_add iv p r) : q = r := by
  rw [← eg_back hF hp hq, h, eg_back hF hp hr]
theorem eg_neg_of [Lean.Grind.CommRing α] [DecidableEq α] {iv : α → α} {b : α} (hF : eg_fld α iv b) {p q : Option (α × α)} (hp : eg_on b p) (hq : eg_on b q) (h : eg_add iv p q = none) : q = eg_neg p :=
  eg_cancel hF hp hq (eg_on_neg hp) (h.trans (eg_add_neg hF hp).symm)
theorem eg_sw [Lean.Grind.CommRing α] [DecidableEq α] {iv : α → α} {b : α} (hF : eg_fld α iv b) {p q r s : Option (α × α)} (hp : eg_on b p) (hq : eg_on b q) (hr : eg_on b r) (hs : eg_on b s) : eg_add iv (eg_add iv p q) (eg_add iv r s) = eg_add iv (eg_add iv p r) (eg_add iv q s) := by
  rw [eg_assoc hF hp hq (eg_on_add hF hr hs), eg_assoc hF hp hr (eg_on_add hF hq hs), ← eg_assoc hF hq hr hs, eg_comm hF hq hr, eg_assoc hF hr hq hs]
theorem eg_neg_sum [Lean.Grind.CommRing α] [DecidableEq α] {iv : α → α} {b : α} (hF : eg_fld α iv b) {p q : Option (α × α)} (hp : eg_on b p) (hq : eg_on b q) : eg_neg (eg_add iv p q) = eg_add iv (eg_neg p) (eg_neg q) := by
  refine (eg_neg_of hF (eg_on_add hF hp hq) (eg_on_add hF (eg_on_neg hp) (eg_on_neg hq)) ?_).symm
  rw [eg_sw hF hp hq (eg_on_neg hp) (eg_on_neg hq), eg_add_neg hF hp, eg_add_neg hF hq]
  rfl
theorem eg_z_sub [Lean.Grind.CommRing α] [DecidableEq α] {iv : α → α} {b : α} (hF : eg_fld α iv b) {p : Option (α × α)} (hp : eg_on b p) (m n : Nat) : eg_z iv ((m : Int) - n) p = eg_add iv (eg_n iv m p) (eg_neg (eg_n iv n p)) := by
  by_cases h : n ≤ m
  · obtain ⟨k, rfl⟩ := Nat.le.dest h
    rw [show ((n + k : Nat) : Int) - n = Int.ofNat k by rw [Int.ofNat_eq_natCast]; omega, Nat.add_comm n k, eg_n_add hF hp k n, eg_assoc hF (eg_on_n hF hp k) (eg_on_n hF hp n) (eg_on_neg (eg_on_n hF hp n)), eg_add_neg hF (eg_on_n hF hp n), eg_add_none]
    rfl
  · obtain ⟨k, rfl⟩ : ∃ k, n = m + (k + 1) := ⟨n - m - 1, by omega⟩
    rw [show (m : Int) - ((m + (k + 1) : Nat) : Int) = Int.negSucc k by omega, eg_n_add hF hp m (k + 1), eg_neg_sum hF (eg_on_n hF hp m) (eg_on_n hF hp (k + 1)), ← eg_assoc hF (eg_on_n hF hp m) (eg_on_neg (eg_on_n hF hp m)) (eg_on_neg (eg_on_n hF hp (k + 1))), eg_add_neg hF (eg_on_n hF hp m)]
    rfl
theorem eg_z_add [Lean.Grind.CommRing α] [DecidableEq α] {iv : α → α} {b : α} (hF : eg_fld α iv b) {p : Option (α × α)} (hp : eg_on b p) (x y : Int) : eg_z iv (x + y) p = eg_add iv (eg_z iv x p) (eg_z iv y p) := by
  obtain ⟨a, c, rfl⟩ : ∃ a c : Nat, x = (a : Int) - c := ⟨x.toNat, (-x).toNat, by omega⟩
  obtain ⟨d, e, rfl⟩ : ∃ d e : Nat, y = (d : Int) - e := ⟨y.toNat, (-y).toNat, by omega⟩
  rw [show (a : Int) - c + ((d : Int) - e) = ((a + d : Nat) : Int) - ((c + e : Nat) : Int) by omega, eg_z_sub hF hp, eg_z_sub hF hp, eg_z_sub hF hp, eg_n_add hF hp, eg_n_add hF hp,
    eg_neg_sum hF (eg_on_n hF hp c) (eg_on_n hF hp e), eg_sw hF (eg_on_n hF hp a) (eg_on_n hF hp d) (eg_on_neg (eg_on_n hF hp c)) (eg_on_neg (eg_on_n hF hp e))]
theorem eg_z_neg [Lean.Grind.CommRing α] [DecidableEq α] {iv : α → α} {b : α} (hF : eg_fld α iv b) {p : Option (α × α)} (hp : eg_on b p) (x : Int) : eg_z iv (-x) p = eg_neg (eg_z iv x p) := by
  refine eg_neg_of hF (eg_on_z hF hp x) (eg_on_z hF hp (-x)) ?_
  rw [← eg_z_add hF hp, Int.add_right_neg]
  rfl
theorem eg_z_twice [Lean.Grind.CommRing α] [DecidableEq α] {iv : α → α} {b : α} (hF : eg_fld α iv b) {p : Option (α × α)} (hp : eg_on b p) (x : Int) : eg_z iv (2 * x) p = eg_add iv (eg_z iv x p) (eg_z iv x p) := by
  rw [show 2 * x = x + x by omega, eg_z_add hF hp]
end EGM
