/-! The class reads a transaction: sizes, values, loops. -/
/-- growth: old cells keep their kinds, and what S doesn't name -/
def jgx (S : Nat → Nat → Prop) (c s : Nat) (H H' : jH) : Prop := jn H ≤ jn H' ∧ jn H' ≤ jn H + c ∧ js H' ≤ js H + s ∧ (∀ a, a < jn H → jK H' a = jK H a) ∧ ∀ a j, a < jn H → ¬ S a j → jI H' a j = jI H a j ∧ jL H' a j = jL H a j ∧ jR H' a j = jR H a j ∧ jB H' a j = jB H a j
section JGX
variable {S S' : Nat → Nat → Prop} {c s c' s' : Nat} {H H1 H2 : jH}
theorem jgx_refl : jgx S 0 0 H H := ⟨Nat.le_refl _, Nat.le_refl _, Nat.le_refl _, fun _ _ => rfl, fun _ _ _ _ => ⟨rfl, rfl, rfl, rfl⟩⟩
theorem jgx_fr (h : jfr S H H1) : jgx S 0 0 H H1 := ⟨Nat.le_of_eq h.2.1.symm, Nat.le_of_eq h.2.1, Nat.le_of_eq h.2.2.1, fun a _ => jfr_K h a, fun a j _ hn => h.2.2.2 a j hn⟩
theorem jgx_trans (h1 : jgx S c s H H1) (h2 : jgx S c' s' H1 H2) : jgx S (c + c') (s + s') H H2 := by
  obtain ⟨a1, a2, a3, a4, a5⟩ := h1
  obtain ⟨b1, b2, b3, b4, b5⟩ := h2
  refine ⟨by omega, by omega, by omega, fun a ha => (b4 a (by omega)).trans (a4 a ha), fun a j ha hn => ?_⟩
  obtain ⟨p1, p2, p3, p4⟩ := a5 a j ha hn
  obtain ⟨q1, q2, q3, q4⟩ := b5 a j (by omega) hn
  exact ⟨q1.trans p1, q2.trans p2, q3.trans p3, q4.trans p4⟩
theorem jgx_mono (h : jgx S c s H H1) (hS : ∀ a j, a < jn H → S a j → S' a j) (hc : c ≤ c') (hs : s ≤ s') : jgx S' c' s' H H1 :=
  ⟨h.1, by have := h.2.1; omega, by have := h.2.2.1; omega, h.2.2.2.1, fun a j ha hn => h.2.2.2.2 a j ha fun q => hn (hS a j ha q)⟩
theorem jgx_K (h : jgx S c s H H1) {a : Nat} (ha : a < jn H) : jK H1 a = jK H a := h.2.2.2.1 a ha
theorem jgx_I (h : jgx S c s H H1) {a j : Nat} (ha : a < jn H) (hn : ¬ S a j) : jI H1 a j = jI H a j := (h.2.2.2.2 a j ha hn).1
theorem jgx_L (h : jgx S c s H H1) {a j : Nat} (ha : a < jn H) (hn : ¬ S a j) : jL H1 a j = jL H a j := (h.2.2.2.2 a j ha hn).2.1
theorem jgx_R (h : jgx S c s H H1) {a j : Nat} (ha : a < jn H) (hn : ¬ S a j) : jR H1 a j = jR H a j := (h.2.2.2.2 a j ha hn).2.2.1
theorem jgx_B (h : jgx S c s H H1) {a j : Nat} (ha : a < jn H) (hn : ¬ S a j) : jB H1 a j = jB H a j := (h.2.2.2.2 a j ha hn).2.2.2
end JGX
theorem jRs_lt : ∀ q ∈ jRs, q.1 < 422 := by decide +kernel
theorem jsh_new {H : jH} {t k : Nat} (h : jsh H) : jsh (jnew H t k) := by
  obtain ⟨a0, a1, a2, a3, a4⟩ := h
  refine ⟨a0, fun a q ha hne e => (if_neg (by omega)).trans (a1 a q ha hne e), fun a ha j => (if_neg (by omega)).trans (a2 a ha j), fun q hq hc => (if_neg (by have := jRs_lt q hq; omega)).trans (a3 q hq hc), Nat.le_succ_of_le a4.1, fun a ha => ?_⟩
  have ha' : jn H + 1 ≤ a := ha
  show (if a = jn H then (t, k) else jK H a).1 = 99
  rw [if_neg (by omega)]
  exact a4.2 a (by omega)
theorem jsh_sR {H : jH} {a i v : Nat} (h : jsh H) (ha : 422 ≤ a) : jsh (jsR H a i v) := by
  obtain ⟨a0, a1, a2, a3, a4⟩ := h
  exact ⟨a0, a1, a2, fun q hq hc => (jup_ne (by have := jRs_lt q hq; omega)).trans (a3 q hq hc), a4⟩
/-- the class's size at a place; -1 if there is none -/
def zsz (b : Nat → UInt8) (len at_ most : Nat) : Int32 := if at_ < len ∧ (b at_).toNat ≤ most then Int32.ofNat (b at_).toNat else -1
theorem z10_sizeAt {row len at_ most : Nat} {H : jH} (hk : jK H row = (101, len)) (hlen : len < 2147483648) (hat : at_ < 2147483648) (hm : most < 256) : F_10_sizeAt row (Int32.ofNat at_) (Int32.ofNat most) H = some (zsz (jB H row) len at_ most, H) := by
  unfold F_10_sizeAt zsz B_10_sizeAt_10 B_10_sizeAt_30
  have n0 : ¬ (Int32.ofNat at_ < 0) := by
    rw [show (0 : Int32) = Int32.ofNat 0 from rfl, jo_lt (by omega) (by omega)]
    omega
  rw [if_neg n0, hk, jg_t rfl]
  have hu := UInt8.toNat_lt (jB H row at_)
  by_cases h1 : at_ < len
  · rw [if_pos (by rw [jo_lt (by omega) (by omega)]; exact h1), jg_t ⟨rfl, jo_in (by omega) h1⟩, jo_nat (n := at_) (by omega), jb_and]
    dsimp only [jl]
    by_cases h2 : (jB H row at_).toNat ≤ most
    · rw [if_pos (by rw [jo_le (by omega) (by omega)]; exact h2), if_pos ⟨h1, h2⟩]
    · rw [if_neg (by rw [jo_le (by omega) (by omega)]; exact h2), if_neg (fun q => h2 q.2)]
  · rw [if_neg (by rw [jo_lt (by omega) (by omega)]; exact h1), if_neg (fun q => h1 q.1)]
/-- a value of eight bytes as the class puts it together -/
def zvl (b : Nat → UInt8) (p : Nat) : Int64 := (jshlL (Int32.toInt64 (zlow b (p + 4))) 32) ||| ((Int32.toInt64 (zlow b p)) &&& 4294967295)
/-- four bytes as the class reads them: 0 where they aren't all there -/
def zlw (b : Nat → UInt8) (len p : Nat) : Int32 := if p + 4 ≤ len then zlow b p else 0
theorem z10_low2 {a len p : Nat} {H : jH} (hk : jK H a = (101, len)) (hlen : len < 2147483600) (hp : p < 2147483600) : F_10_low a (Int32.ofNat p) H = some (zlw (jB H a) len p, H) := by
  unfold zlw
  by_cases h : p + 4 ≤ len
  · rw [if_pos h]
    exact z10_low hk h (by omega)
  · rw [if_neg h]
    unfold F_10_low B_10_low_12
    have e4 : Int32.ofNat p + 4 = Int32.ofNat (p + 4) := jo_add (a := p) (b := 4)
    have n0 : ¬ (Int32.ofNat p < 0) := by
      rw [show (0 : Int32) = Int32.ofNat 0 from rfl, jo_lt (by omega) (by omega)]
      omega
    rw [if_neg n0, hk, jg_t rfl, e4, if_neg (by rw [jo_le (by omega) (by omega)]; exact h)]
/-- a transaction's object as far as its bytes go -/
def zO10 (t row len : Nat) (H : jH) : Prop := jsh H ∧ (jK H t).1 = 10 ∧ jR H t 0 = row ∧ jK H row = (101, len) ∧ len < 2000000 ∧ 422 ≤ t ∧ row ≠ t
def zv2 (b : Nat → UInt8) (len p : Nat) : Int64 := (jshlL (Int32.toInt64 (zlw b len (p + 4))) 32) ||| ((Int32.toInt64 (zlw b len p)) &&& 4294967295)
theorem z10_worth {t row len ao m k p : Nat} {H : jH} (h : zO10 t row len H) (ha : jR H t 5 = ao) (hk : jK H ao = (100, m)) (hm : m ≤ 8) (hkm : k < m) (hv : jI H ao k = Int32.ofNat p) (hp : p < 3000000) : F_10_worth t (Int32.ofNat k) H = some (zv2 (jB H row) len p, H) := by
  obtain ⟨hs, h1, h2, h3, h4, h5, h6⟩ := h
  unfold F_10_worth
  have n0 : ¬ (Int32.ofNat k < 0) := by
    rw [show (0 : Int32) = Int32.ofNat 0 from rfl, jo_lt (by omega) (by omega)]
    omega
  have e4 : Int32.ofNat p + 4 = Int32.ofNat (p + 4) := jo_add (a := p) (b := 4)
  rw [if_neg n0, jg_t h1, ha, hk, jg_t rfl, if_pos (by rw [jo_lt (by omega) (by omega)]; exact hkm), jg_t h1, jg_t ⟨rfl, jo_in (by omega) hkm⟩, jo_nat (n := k) (by omega), hv, h2]
  dsimp only [jl]
  rw [jg_t h1, e4, z10_low2 h3 (by omega) (by omega), jb_ok, jg_t h1, h2, z10_low2 h3 (by omega) (by omega), jb_ok]
  rfl
/-- whether a root input stands at a place -/
def zrt (b : Nat → UInt8) (len p : Nat) : Bool := (List.range 36).all fun i => decide (p + i < len) && decide (b (p + i) = if i < 32 then 0 else 255)
theorem jbs_eq (u v : UInt8) : jbs u = jbs v ↔ u = v := by
  refine ⟨fun h => ?_, fun h => by rw [h]⟩
  have h2 : jbs u &&& 255 = jbs v &&& 255 := by rw [h]
  rw [jb_and, jb_and, jo_eq (by have := UInt8.toNat_lt u; omega) (by have := UInt8.toNat_lt v; omega)] at h2
  exact UInt8.toNat_inj.mp h2
theorem z10_isRootInput {t row len p : Nat} {H : jH} (h : zO10 t row len H) (hp : p < 3000000) : F_10_isRootInput t (Int32.ofNat p) H = some ((if zrt (jB H row) len p = true then 1 else 0), H) := by
  obtain ⟨hs, h1, h2, h3, h4, h5, h6⟩ := h
  have n0 : ¬ (Int32.ofNat p < 0) := by
    rw [show (0 : Int32) = Int32.ofNat 0 from rfl, jo_lt (by omega) (by omega)]
    omega
  have loop : ∀ (d i f : Nat), i + d = 36 → d < f → (∀ j, j < i → p + j < len ∧ jB H row (p + j) = if j < 32 then 0 else 255) → F_10_isRootInput_2 f t (Int32.ofNat p) (Int32.ofNat i) H = some ((if zrt (jB H row) len p = true then 1 else 0), H) := by
    intro d
    induction d with
    | zero =>
      intro i f hi hf hall
      obtain rfl : i = 36 := by omega
      obtain ⟨f, rfl⟩ : ∃ k, f = k + 1 := ⟨f - 1, by omega⟩
      unfold F_10_isRootInput_2 B_10_isRootInput_2
      rw [if_pos (by decide), jg_t (by decide), if_pos]
      unfold zrt
      rw [List.all_eq_true]
      intro j hj
      obtain ⟨q1, q2⟩ := hall j (List.mem_range.mp hj)
      simp only [Bool.and_eq_true, decide_eq_true_eq]
      exact ⟨q1, q2⟩
    | succ d ih =>
      intro i f hi hf hall
      obtain ⟨f, rfl⟩ : ∃ k, f = k + 1 := ⟨f - 1, by omega⟩
      unfold F_10_isRootInput_2 B_10_isRootInput_2
      have e1 : Int32.ofNat p + Int32.ofNat i = Int32.ofNat (p + i) := jo_add
      have e_i : Int32.ofNat i + 1 = Int32.ofNat (i + 1) := jo_add (a := i) (b := 1)
      have key : ∀ (v : Int32) (u : UInt8), v = jbs u → u = (if i < 32 then 0 else 255) → B_10_isRootInput_19 (F_10_isRootInput_2 f) t (Int32.ofNat p) (Int32.ofNat i) v H = some ((if zrt (jB H row) len p = true then 1 else 0), H) := by
        intro v u hv hu
        unfold B_10_isRootInput_19 B_10_isRootInput_47
        have no : ∀ j, j < 36 → ¬ (p + j < len ∧ jB H row (p + j) = if j < 32 then 0 else 255) → (jg ((0 : Int32) = 0 ∨ (0 : Int32) = 1) (some ((0 : Int32), H))) = some ((if zrt (jB H row) len p = true then 1 else 0), H) := by
          intro j hj hn
          rw [jg_t (by decide), if_neg]
          unfold zrt
          rw [List.all_eq_true]
          intro hq
          have := hq j (List.mem_range.mpr hj)
          simp only [Bool.and_eq_true, decide_eq_true_eq] at this
          exact hn this
        rw [if_neg n0, jg_t h1, h2, h3, jg_t rfl, e1]
        by_cases hlt : p + i < len
        · rw [if_neg (by rw [jo_le (by omega) (by omega)]; show ¬ len ≤ p + i; omega), jg_t h1, jg_t ⟨rfl, jo_in (by omega) hlt⟩, jo_nat (n := p + i) (by omega), hv]
          by_cases hb : jB H row (p + i) = u
          · rw [if_pos (by rw [hb])]
            dsimp only [jl]
            rw [e_i]
            refine ih (i + 1) f (by omega) (by omega) fun j hj => ?_
            by_cases hji : j = i
            · subst hji
              exact ⟨hlt, hb.trans hu⟩
            · exact hall j (by omega)
          · rw [if_neg (fun q => hb ((jbs_eq _ _).mp q))]
            exact no i (by omega) (fun q => hb (q.2.trans hu.symm))
        · rw [if_pos (by rw [jo_le (by omega) (by omega)]; show len ≤ p + i; omega)]
          exact no i (by omega) (fun q => hlt q.1)
      rw [if_neg (by rw [show (36 : Int32) = Int32.ofNat 36 from rfl, jo_le (by omega) (by omega)]; omega)]
      by_cases h32 : i < 32
      · rw [if_neg (by rw [show (32 : Int32) = Int32.ofNat 32 from rfl, jo_le (by omega) (by omega)]; omega)]
        exact key 0 0 (by decide) (by rw [if_pos h32])
      · rw [if_pos (by rw [show (32 : Int32) = Int32.ofNat 32 from rfl, jo_le (by omega) (by omega)]; omega)]
        exact key (-1) 255 (by decide) (by rw [if_neg h32])
  exact loop 36 0 jfuel rfl (by unfold jfuel; omega) (fun j hj => absurd hj (Nat.not_lt_zero j))
