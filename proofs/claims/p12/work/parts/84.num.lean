/-! A row as a number: both programs. -/
def zdg (it : List UInt8) (i : Nat) : Nat := if i + 1 = it.length then (it.getD i 0).toNat % 128 else (it.getD i 0).toNat
def zlo (it : List UInt8) : Nat → Nat
  | 0 => 0
  | k + 1 => zlo it k + zdg it k * 256 ^ k
def zno (it : List UInt8) : Int64 := if it.length = 0 ∨ (it.getD (it.length - 1) 0).toNat < 128 then Int64.ofNat (zlo it it.length) else -Int64.ofNat (zlo it it.length)
theorem zdg_lt (it : List UInt8) (i : Nat) : zdg it i < 256 := by
  have := UInt8.toNat_lt (it.getD i 0)
  unfold zdg
  split <;> omega
theorem zlo_lt (it : List UInt8) : ∀ k, zlo it k < 256 ^ k
  | 0 => Nat.one_pos
  | k + 1 => by
    have h1 := zlo_lt it k
    have h2 := zdg_lt it k
    unfold zlo
    have h3 : zdg it k * 256 ^ k ≤ 255 * 256 ^ k := Nat.mul_le_mul_right _ (by omega)
    rw [Nat.pow_succ]
    omega
theorem jb_127 (u : UInt8) : jbs u &&& 127 = Int32.ofNat (u.toNat % 128) := jb_u8 (fun u => jbs u &&& 127 = Int32.ofNat (u.toNat % 128)) (by decide +kernel) u
theorem jb_sgn (u : UInt8) : 0 ≤ jbs u ↔ u.toNat < 128 := jb_u8 (fun u => 0 ≤ jbs u ↔ u.toNat < 128) (by decide +kernel) u
section NUM
variable {S r : Nat} {it : List UInt8} {st : List (List UInt8)} {H : jH}
theorem z9_num106 (hr : jK H r = (101, 120)) (h0 : zRow H r 0 it) (hl : it.length ≤ 4) : B_9_number_106 r (Int32.ofNat it.length) (Int64.ofNat (zlo it it.length)) H = some (zno it, H) := by
  unfold B_9_number_106 B_9_number_124 B_9_number_126 zno
  by_cases hz : it.length = 0
  · rw [if_pos (by rw [show (0 : Int32) = Int32.ofNat 0 from rfl, jo_le (by omega) (by omega)]; omega), if_pos (Or.inl hz)]
  · have e1 : Int32.ofNat it.length - 1 = Int32.ofNat (it.length - 1) := jo_sub (a := it.length) (b := 1) (by omega)
    have hv : jB H r (it.length - 1) = it.getD (it.length - 1) 0 := by
      have := h0 (it.length - 1) _ (getD_of (by omega))
      rw [Nat.zero_add] at this
      exact this
    rw [if_neg (by rw [show (0 : Int32) = Int32.ofNat 0 from rfl, jo_le (by omega) (by omega)]; omega), e1, hr, jg_t ⟨rfl, jo_in (by omega) (by show it.length - 1 < 120; omega)⟩, jo_nat (n := it.length - 1) (by omega), hv]
    by_cases hg : (it.getD (it.length - 1) 0).toNat < 128
    · rw [if_pos ((jb_sgn _).mpr hg), if_pos (Or.inr hg)]
    · rw [if_neg (fun w => hg ((jb_sgn _).mp w)), if_neg fun w => w.elim hz hg]
theorem z9_num45 (hr : jK H r = (101, 120)) (h0 : zRow H r 0 it) (hl : it.length ≤ 4) :
    ∀ (d i f : Nat), i + d = it.length → d < f → F_9_number_45 f r (Int32.ofNat it.length) (Int64.ofNat (zlo it i)) (Int32.ofNat i) H = some (zno it, H) := by
  intro d
  induction d with
  | zero =>
    intro i f hi hf
    obtain rfl : i = it.length := by omega
    obtain ⟨f, rfl⟩ : ∃ k, f = k + 1 := ⟨f - 1, by omega⟩
    unfold F_9_number_45 B_9_number_45
    rw [if_pos (by rw [jo_le (by omega) (by omega)]; exact Nat.le_refl _)]
    exact z9_num106 hr h0 hl
  | succ d ih =>
    intro i f hi hf
    obtain ⟨f, rfl⟩ : ∃ k, f = k + 1 := ⟨f - 1, by omega⟩
    unfold F_9_number_45 B_9_number_45 B_9_number_84
    have e_i : Int32.ofNat i + 1 = Int32.ofNat (i + 1) := jo_add (a := i) (b := 1)
    have hil : i < it.length := by omega
    have e1 : Int32.ofNat it.length - 1 = Int32.ofNat (it.length - 1) := jo_sub (a := it.length) (b := 1) (by omega)
    have e8 : 8 * Int32.ofNat i = Int32.ofNat (8 * i) := jo_mul (a := 8) (b := i)
    have hv : jB H r i = it.getD i 0 := by
      have := h0 i _ (getD_of hil)
      rw [Nat.zero_add] at this
      exact this
    have hu := UInt8.toNat_lt (it.getD i 0)
    have hgo : ∀ x : Int32, x = Int32.ofNat (zdg it i) → jl (Int64.ofNat (zlo it i) ||| jshlL (Int32.toInt64 x) (Int32.ofNat (8 * i))) (fun x1 => jl (Int32.ofNat i + 1) fun x2 => F_9_number_45 f r (Int32.ofNat it.length) x1 x2 H) = some (zno it, H) := fun x hx => by
      have hd := zdg_lt it i
      have hlo := zlo_lt it i
      have e256 : (256 : Nat) ^ i = 2 ^ (8 * i) := by rw [Nat.pow_mul]
      rw [hx, lo_of (by omega), lo_shl (by omega), Int64.or_comm, lo_or (by rw [← e256]; exact hlo), e_i]
      dsimp only [jl]
      have := ih (i + 1) f (by omega) (by omega)
      rw [show zlo it (i + 1) = zlo it i + zdg it i * 256 ^ i from rfl, e256, Nat.add_comm] at this
      exact this
    rw [if_neg (by rw [jo_le (by omega) (by omega)]; omega), if_neg (by rw [show (8 : Int32) = Int32.ofNat 8 from rfl, jo_le (by omega) (by omega)]; omega), e1, e8, hr, jo_nat (n := i) (by omega), hv]
    by_cases hlast : i = it.length - 1
    · rw [if_neg (fun w => w (by rw [hlast])), jg_t ⟨rfl, jo_in (by omega) (by show i < 120; omega)⟩]
      refine hgo _ ?_
      unfold zdg
      rw [if_pos (by omega), jb_127]
    · rw [if_pos (fun w => hlast ((jo_eq (by omega) (by omega)).mp w)), jg_t ⟨rfl, jo_in (by omega) (by show i < 120; omega)⟩]
      refine hgo _ ?_
      unfold zdg
      rw [if_neg (by omega), jb_and]
theorem z9_number (hs : jsh H) (hS : zS3 S) (h : zStk S st H) {n : Nat} (hn : 1 ≤ n) (hn2 : n ≤ st.length) (h4 : (st.getD (st.length - n) []).length ≤ 4) : F_9_number S (Int32.ofNat n) H = some (zno (st.getD (st.length - n) []), H) := by
  obtain ⟨k0, r0, r1, k1, k2, k3⟩ := sSt hs hS
  obtain ⟨h1, h2, h3, -, h5⟩ := h
  have e1 : Int32.ofNat st.length - Int32.ofNat n = Int32.ofNat (st.length - n) := jo_sub hn2
  have hk : st.length - n < st.length := by omega
  have hit : st[st.length - n]? = some (st.getD (st.length - n) []) := by
    rw [List.getD_eq_getElem?_getD, List.getElem?_eq_getElem hk]
    rfl
  obtain ⟨q1, q2, q3⟩ := h5 _ _ hit
  have q4 := h3 (st.length - n) (by omega)
  unfold F_9_number B_9_number_13
  rw [if_neg (by rw [show (1 : Int32) = Int32.ofNat 1 from rfl, jo_lt (by omega) (by omega)]; omega), jg_t k0, h2, if_pos (by rw [jo_le (by omega) (by omega)]; exact hn2), e1, r0, r1, k1, k2, jg_t k0, jg_t k0, jg_t ⟨rfl, jo_in (by omega) (by show st.length - n < 70; omega)⟩, jo_nat (n := st.length - n) (by omega)]
  dsimp only [jl]
  rw [jg_t k0, jg_t k0, jg_t ⟨rfl, jo_in (by omega) (by show st.length - n < 70; omega)⟩, q2]
  exact z9_num45 (k3 _ q4.1 q4.2) q3 h4 (st.getD (st.length - n) []).length 0 jfuel (by omega) (by unfold jfuel; omega)
end NUM
