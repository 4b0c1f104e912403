/-! What a block does to the coins, as a function. -/
noncomputable def b_if {α : Type} (p : Prop) (a b : α) : α := @ite α p (Classical.propDecidable p) a b
theorem b_pos {α : Type} {p : Prop} {a b : α} (h : p) : b_if p a b = a := by
  unfold b_if
  exact if_pos h
theorem b_neg {α : Type} {p : Prop} {a b : α} (h : ¬ p) : b_if p a b = b := by
  unfold b_if
  exact if_neg h
abbrev b_t : Type := List UInt8 × List UInt8 × w_y
abbrev b_st : Type := List w_cn × Nat × Int64 × Nat
noncomputable def b_jd (ht : Int32) (cs : List w_cn) (tb : List UInt8) (y : w_y) : Int32 :=
  b_if (∃ i, i < y.1.length ∧ w_cf cs tb y i = none) 31 (b_if (∃ i c, i < y.1.length ∧ w_cf cs tb y i = some c ∧ w_unr ht c) 32 (b_if (w_sum tb y ≤ w_tot cs tb y y.1.length) 0 33))
theorem b_jgd_jd {ht : Int32} {cs : List w_cn} {tb : List UInt8} {y : w_y} {v : Int32} (h : w_jgd ht cs tb y v) : v = b_jd ht cs tb y := by
  unfold b_jd
  rcases h with ⟨rfl, h⟩ | ⟨h1, ⟨rfl, h⟩ | ⟨h2, ⟨rfl, h⟩ | ⟨rfl, h⟩⟩⟩
  · rw [b_pos h]
  · rw [b_neg (fun ⟨i, a, b⟩ => h1 i a b), b_pos h]
  · rw [b_neg (fun ⟨i, a, b⟩ => h1 i a b), b_neg (fun ⟨i, c, a, b, e⟩ => h2 i c a b e), b_neg h]
  · rw [b_neg (fun ⟨i, a, b⟩ => h1 i a b), b_neg (fun ⟨i, c, a, b, e⟩ => h2 i c a b e), b_pos h]
theorem b_jd_0 {ht : Int32} {cs : List w_cn} {tb : List UInt8} {y : w_y} (h : b_jd ht cs tb y = 0) : ∀ i, i < y.1.length → w_cf cs tb y i ≠ none := fun i hi hn => by
  unfold b_jd at h
  rw [b_pos ⟨i, hi, hn⟩] at h
  exact absurd h (by decide)
noncomputable def b_fit (tb : List UInt8) (y : w_y) (lks : Nat → List UInt8) (i : Nat) (sg ky : List UInt8) : Bool := b_if (w_fit tb y i (lks i) sg ky) true false
theorem b_fit_ok {tb : List UInt8} {y : w_y} {lks : Nat → List UInt8} : ∀ i sg ky, b_fit tb y lks i sg ky = true ↔ w_fit tb y i (lks i) sg ky := fun i sg ky => by
  unfold b_fit
  by_cases h : w_fit tb y i (lks i) sg ky
  · rw [b_pos h]
    exact ⟨fun _ => h, fun _ => rfl⟩
  · rw [b_neg h]
    exact ⟨fun w => (by cases w), fun w => absurd w h⟩
/-- what the scripts of a transaction leave of the signatures -/
noncomputable def b_scr (cs : List w_cn) (tb : List UInt8) (y : w_y) (l : Nat) : Option Nat := w_pas (b_fit tb y (w_lks cs tb y)) tb y (w_lks cs tb y) y.1.length 0 l
/-- a transaction's making: 36, 37 or nothing -/
noncomputable def b_mk (cs : List w_cn) (x : b_t) (d m : Nat) : Int32 := b_if (∃ j, j < x.2.2.2.1.length ∧ w_fd cs x.1 j 0 ≠ none) 36 (w_mk37 cs (Int32.ofNat d) x.2.2.2.1.length m)
def b_nin (rt : Bool) (x : b_t) : Nat := if rt = true then 0 else x.2.2.1.length
def b_nxt (h : Nat) (rt : Bool) (x : b_t) (S : b_st) (l : Nat) : b_st :=
  ((w_chg x.1 x.2.1 x.2.2 h rt S.1 S.2.1).1, (w_chg x.1 x.2.1 x.2.2 h rt S.1 S.2.1).2, (if rt = true then S.2.2.1 else S.2.2.1 + (w_tot S.1 x.2.1 x.2.2 x.2.2.1.length - w_sum x.2.1 x.2.2)), l)
noncomputable def b_one (h : Nat) (rt : Bool) (x : b_t) (S : b_st) : Int32 × b_st :=
  if rt = true then (if b_mk S.1 x 0 S.2.1 = 0 then (0, b_nxt h rt x S S.2.2.2) else (b_mk S.1 x 0 S.2.1, S))
  else if b_jd (Int32.ofNat h) S.1 x.2.1 x.2.2 = 0 then
    match b_scr S.1 x.2.1 x.2.2 S.2.2.2 with
    | none => (34, S)
    | some l => if b_mk S.1 x x.2.2.1.length S.2.1 = 0 then (0, b_nxt h rt x S l) else (b_mk S.1 x x.2.2.1.length S.2.1, S)
  else (b_jd (Int32.ofNat h) S.1 x.2.1 x.2.2, S)
noncomputable def b_seq (h : Nat) : Bool → List b_t → b_st → Int32 × b_st
  | _, [], S => (0, S)
  | rt, x :: r, S => if (b_one h rt x S).1 = 0 then b_seq h false r (b_one h rt x S).2 else b_one h rt x S
def b_sub (h : Nat) : Int64 := jshrL 5000000000 (Int32.ofNat (h / 32))
noncomputable def b_all (h : Nat) (txs : List b_t) (cs : List w_cn) (m : Nat) : Int32 × b_st :=
  if (b_seq h true txs (cs, m, 0, 24)).1 = 0 then
    (if w_sum (txs.getD 0 ([], [], ([], [], 0))).2.1 (txs.getD 0 ([], [], ([], [], 0))).2.2 ≤ b_sub h + (b_seq h true txs (cs, m, 0, 24)).2.2.2.1 then (0, (b_seq h true txs (cs, m, 0, 24)).2) else (35, (b_seq h true txs (cs, m, 0, 24)).2))
  else b_seq h true txs (cs, m, 0, 24)
/-- a transaction that may stand at that place of a block -/
def b_tok (rt : Bool) (x : b_t) : Prop := x.1.length = 32 ∧ w_ty x.2.1 x.2.2 ∧ (w_rt x.2.1 x.2.2 = if rt = true then 1 else 0) ∧ (rt = false → ztw (fun i => x.2.1.getD i 0) x.2.2.1 = false)
def b_toks : Bool → List b_t → Prop
  | _, [] => True
  | rt, x :: r => b_tok rt x ∧ b_toks false r
/-! How many coins there are. -/
theorem w_drp_len {tb : List UInt8} {y : w_y} : ∀ {d i : Nat} {cs : List w_cn} {m : Nat}, w_dok tb y d i cs → d ≤ cs.length ∧ (w_drp tb y d i cs m).1.length = cs.length - d ∧ (w_drp tb y d i cs m).2 = m + d
  | 0, i, cs, m, _ => ⟨Nat.zero_le _, rfl, rfl⟩
  | d + 1, i, cs, m, h => by
    obtain ⟨k, h1, h2⟩ := h
    have hl := (w_fd_lt h1).2
    obtain ⟨q1, q2, q3⟩ := w_drp_len (m := m + 1) h2
    rw [w_dc_len] at q1 q2
    rw [w_drp, h1]
    show _ ∧ (w_drp tb y d (i + 1) (w_dc cs k) (m + 1)).1.length = _ ∧ (w_drp tb y d (i + 1) (w_dc cs k) (m + 1)).2 = _
    rw [q2, q3]
    omega
theorem w_mk37_0 {cs : List w_cn} {d o m : Nat} (hc : cs.length ≤ 1500) (hd : d ≤ 8) (hm : m ≤ 3000) (hdc : d ≤ cs.length) (ho : o ≤ 8) (h : w_mk37 cs (Int32.ofNat d) o m = 0) : cs.length - d + o ≤ 1500 ∧ m + d ≤ 3000 := by
  unfold w_mk37 at h
  have e1 : ((1500 : Int32) < Int32.ofNat cs.length - Int32.ofNat d + Int32.ofNat o) ↔ 1500 < cs.length - d + o := by
    rw [jo_sub hdc, jo_add, show (1500 : Int32) = Int32.ofNat 1500 from rfl, jo_lt (by omega) (by omega)]
  have e2 : (Int32.ofNat m + Int32.ofNat d ≤ (3000 : Int32)) ↔ m + d ≤ 3000 := by
    rw [jo_add, show (3000 : Int32) = Int32.ofNat 3000 from rfl, jo_le (by omega) (by omega)]
  by_cases c1 : (1500 : Int32) < Int32.ofNat cs.length - Int32.ofNat d + Int32.ofNat o
  · rw [if_pos c1] at h
    exact absurd h (by decide)
  · rw [if_neg c1] at h
    have n1 := fun q => c1 (e1.mpr q)
    by_cases c2 : Int32.ofNat m + Int32.ofNat d ≤ (3000 : Int32)
    · exact ⟨Nat.not_lt.mp n1, e2.mp c2⟩
    · rw [if_neg c2] at h
      exact absurd h (by decide)
theorem b_mk_0 {cs : List w_cn} {x : b_t} {d m : Nat} (h : b_mk cs x d m = 0) : (∀ j, j < x.2.2.2.1.length → w_fd cs x.1 j 0 = none) ∧ w_mk37 cs (Int32.ofNat d) x.2.2.2.1.length m = 0 := by
  unfold b_mk at h
  by_cases c : ∃ j, j < x.2.2.2.1.length ∧ w_fd cs x.1 j 0 ≠ none
  · rw [b_pos c] at h
    exact absurd h (by decide)
  · rw [b_neg c] at h
    refine ⟨fun j hj => ?_, h⟩
    cases hf : w_fd cs x.1 j 0 with
    | none => rfl
    | some k => exact absurd ⟨j, hj, by rw [hf]; exact fun w => by cases w⟩ c
/-- the bounds hold behind each transaction -/
theorem b_chg_ok {h m d : Nat} {rt : Bool} {x : b_t} {cs : List w_cn} (hx : b_tok rt x) (hc : cs.length ≤ 1500) (hm : m ≤ 3000) (hd : d = b_nin rt x) (hall : rt = false → ∀ i, i < x.2.2.1.length → w_cf cs x.2.1 x.2.2 i ≠ none) (h0 : b_mk cs x d m = 0) :
    (w_chg x.1 x.2.1 x.2.2 h rt cs m).1.length ≤ 1500 ∧ (w_chg x.1 x.2.1 x.2.2 h rt cs m).2 ≤ 3000 ∧ (rt = false → w_dok x.2.1 x.2.2 x.2.2.1.length 0 cs) := by
  obtain ⟨-, h37⟩ := b_mk_0 h0
  have sp := ztx_spec hx.2.1.1
  unfold w_chg
  unfold b_nin at hd
  cases rt with
  | true =>
    rw [if_pos rfl] at hd ⊢
    rw [hd] at h37
    obtain ⟨q1, q2⟩ := w_mk37_0 hc (by decide) hm (Nat.zero_le _) sp.2.1 h37
    refine ⟨?_, hm, fun w => by cases w⟩
    show (w_ads _ _ _ _ _ _ _).length ≤ _
    rw [w_ads_len]
    omega
  | false =>
    rw [if_neg (by decide)] at hd ⊢
    rw [hd] at h37
    have hk := w_dok_all (w_hne hx.2.1 (hx.2.2.2 rfl)) (hall rfl)
    obtain ⟨p1, p2, p3⟩ := w_drp_len (m := m) hk
    obtain ⟨q1, q2⟩ := w_mk37_0 hc sp.1 hm p1 sp.2.1 h37
    refine ⟨?_, ?_, fun _ => hk⟩
    · show (w_ads _ _ _ _ _ _ _).length ≤ _
      rw [w_ads_len, p2]
      exact q1
    · show (w_drp _ _ _ _ _ _).2 ≤ _
      rw [p3]
      exact q2
