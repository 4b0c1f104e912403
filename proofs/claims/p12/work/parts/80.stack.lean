/-! The stacks: the class's Stack (rows that may change places), the reference's rows of ints. -/
def zS3 (S : Nat) : Prop := S = 171 ∨ S = 244 ∨ S = 317
def zrows (S n : Nat) : Bool := (List.range n).all fun i => decide (jKs[S + 2 + i]? = some (101, 120))
theorem zrows_all : zrows 171 70 = true ∧ zrows 244 70 = true ∧ zrows 317 70 = true := by decide +kernel
theorem sSt {H : jH} (hs : jsh H) {S : Nat} (hS : zS3 S) : (jK H S).1 = 9 ∧ jR H S 0 = S + 1 ∧ jR H S 1 = S + 72 ∧ jK H (S + 1) = (110, 70) ∧ jK H (S + 72) = (100, 70) ∧ ∀ a, S + 2 ≤ a → a < S + 72 → jK H a = (101, 120) := by
  have key : zrows S 70 = true → S + 72 < 422 → 18 < S → ∀ a, S + 2 ≤ a → a < S + 72 → jK H a = (101, 120) := fun hz h1 h2 a h3 h4 => by
    unfold zrows at hz
    rw [List.all_eq_true] at hz
    have := of_decide_eq_true (hz (a - (S + 2)) (List.mem_range.mpr (by omega)))
    rw [show S + 2 + (a - (S + 2)) = a by omega] at this
    exact sK hs this (by omega) (by omega)
  rcases hS with rfl | rfl | rfl
  · exact ⟨by rw [sK_171 hs], sR_171_0 hs, sR_171_1 hs, sK_172 hs, sK_243 hs, key zrows_all.1 (by omega) (by omega)⟩
  · exact ⟨by rw [sK_244 hs], sR_244_0 hs, sR_244_1 hs, sK_245 hs, sK_316 hs, key zrows_all.2.1 (by omega) (by omega)⟩
  · exact ⟨by rw [sK_317 hs], sR_317_0 hs, sR_317_1 hs, sK_318 hs, sK_389 hs, key zrows_all.2.2 (by omega) (by omega)⟩
/-- the class's stack S holds these rows, the lowest first -/
def zStk (S : Nat) (st : List (List UInt8)) (H : jH) : Prop :=
  st.length ≤ 70 ∧ jI H S 2 = Int32.ofNat st.length ∧ (∀ k, k < 70 → S + 2 ≤ jR H (S + 1) k ∧ jR H (S + 1) k < S + 72) ∧ (∀ i j, i < 70 → j < 70 → jR H (S + 1) i = jR H (S + 1) j → i = j) ∧
  ∀ (k : Nat) (it : List UInt8), st[k]? = some it → it.length ≤ 120 ∧ jI H (S + 72) k = Int32.ofNat it.length ∧ zRow H (jR H (S + 1) k) 0 it
def ztrue (it : List UInt8) : Bool := (List.range it.length).any fun i => decide (it.getD i 0 ≠ 0) && (decide (i + 1 < it.length) || decide (it.getD i 0 ≠ 128))
theorem ztrue_t {it : List UInt8} : ztrue it = true ↔ ∃ i, i < it.length ∧ it.getD i 0 ≠ 0 ∧ (i + 1 < it.length ∨ it.getD i 0 ≠ 128) := by
  unfold ztrue
  rw [List.any_eq_true]
  refine ⟨fun ⟨i, h1, h2⟩ => ⟨i, List.mem_range.mp h1, ?_⟩, fun ⟨i, h1, h2, h3⟩ => ⟨i, List.mem_range.mpr h1, ?_⟩⟩
  · rw [Bool.and_eq_true, Bool.or_eq_true] at h2
    exact ⟨of_decide_eq_true h2.1, h2.2.imp of_decide_eq_true of_decide_eq_true⟩
  · rw [Bool.and_eq_true, Bool.or_eq_true]
    exact ⟨decide_eq_true h2, h3.imp decide_eq_true decide_eq_true⟩
section STACK
variable {S r m : Nat} {it : List UInt8} {st : List (List UInt8)} {H : jH}
theorem z9_true42 (hr : jK H r = (101, 120)) (h0 : zRow H r 0 it) (hl : it.length ≤ 120) :
    ∀ (d i f : Nat), i + d = it.length → d < f → (∀ j, j < i → it.getD j 0 = 0) → F_9_isTrue_42 f r (Int32.ofNat it.length) (Int32.ofNat i) H = some ((if ztrue it = true then 1 else 0), H) := by
  intro d
  induction d with
  | zero =>
    intro i f hi hf hall
    obtain ⟨f, rfl⟩ : ∃ k, f = k + 1 := ⟨f - 1, by omega⟩
    unfold F_9_isTrue_42 B_9_isTrue_42
    rw [if_pos (by rw [jo_le (by omega) (by omega)]; omega), jg_t (by decide), if_neg]
    intro q
    obtain ⟨j, h1, h2, -⟩ := ztrue_t.mp q
    exact h2 (hall j (by omega))
  | succ d ih =>
    intro i f hi hf hall
    obtain ⟨f, rfl⟩ : ∃ k, f = k + 1 := ⟨f - 1, by omega⟩
    unfold F_9_isTrue_42 B_9_isTrue_42 B_9_isTrue_72 B_9_isTrue_77
    have e_i : Int32.ofNat i + 1 = Int32.ofNat (i + 1) := jo_add (a := i) (b := 1)
    have hil : i < it.length := by omega
    have hv : jB H r i = it.getD i 0 := by
      have := h0 i _ (getD_of hil)
      rw [Nat.zero_add] at this
      exact this
    have e1 : Int32.ofNat it.length - 1 = Int32.ofNat (it.length - 1) := jo_sub (a := it.length) (b := 1) (by omega)
    rw [if_neg (by rw [jo_le (by omega) (by omega)]; omega), hr, jg_t ⟨rfl, jo_in (by omega) (by show i < 120; omega)⟩, jo_nat (n := i) (by omega), hv, e1]
    dsimp only [jl]
    rw [e_i]
    by_cases hz : it.getD i 0 = 0
    · rw [if_pos (by rw [hz]; decide)]
      refine ih (i + 1) f (by omega) (by omega) fun j hj => ?_
      by_cases hji : j = i
      · rw [hji]
        exact hz
      · exact hall j (by omega)
    · rw [if_neg (fun w => hz ((jbs_eq _ 0).mp (w.trans (by decide))))]
      by_cases hlast : i < it.length - 1
      · rw [if_pos (by rw [jo_lt (by omega) (by omega)]; exact hlast), jg_t (by decide), if_pos (ztrue_t.mpr ⟨i, hil, hz, Or.inl (by omega)⟩)]
      · rw [if_neg (by rw [jo_lt (by omega) (by omega)]; exact hlast), jg_t ⟨rfl, jo_in (by omega) (by show i < 120; omega)⟩]
        by_cases h128 : it.getD i 0 = 128
        · rw [if_pos (by rw [h128]; decide), jg_t (by decide), if_neg]
          intro q
          obtain ⟨j, h1, h2, h3⟩ := ztrue_t.mp q
          by_cases hji : j = i
          · rw [hji] at h3
            exact h3.elim (fun w => by omega) fun w => w h128
          · exact h2 (hall j (by omega))
        · rw [if_neg (fun w => h128 ((jbs_eq _ 128).mp (w.trans (by decide)))), jg_t (by decide), if_pos (ztrue_t.mpr ⟨i, hil, hz, Or.inr h128⟩)]
theorem z9_isTrue (hs : jsh H) (hS : zS3 S) (h : zStk S st H) {n : Nat} (hn : 1 ≤ n) (hn2 : n < 1000) : F_9_isTrue S (Int32.ofNat n) H = some ((if n ≤ st.length ∧ ztrue (st.getD (st.length - n) []) = true then 1 else 0), H) := by
  obtain ⟨k0, r0, r1, k1, k2, k3⟩ := sSt hs hS
  obtain ⟨h1, h2, h3, h4, h5⟩ := h
  unfold F_9_isTrue B_9_isTrue_13
  rw [if_neg (by rw [show (1 : Int32) = Int32.ofNat 1 from rfl, jo_lt (by omega) (by omega)]; omega), jg_t k0, h2]
  by_cases hc : n ≤ st.length
  · have e1 : Int32.ofNat st.length - Int32.ofNat n = Int32.ofNat (st.length - n) := jo_sub hc
    have hk : st.length - n < st.length := by omega
    have hit : st[st.length - n]? = some (st.getD (st.length - n) []) := by
      rw [List.getD_eq_getElem?_getD, List.getElem?_eq_getElem hk]
      rfl
    obtain ⟨q1, q2, q3⟩ := h5 _ _ hit
    have q4 := h3 (st.length - n) (by omega)
    rw [if_pos (by rw [jo_le (by omega) (by omega)]; exact hc), e1, r0, r1, k1, k2, jg_t k0, jg_t k0, jg_t ⟨rfl, jo_in (by omega) (by show st.length - n < 70; omega)⟩, jo_nat (n := st.length - n) (by omega)]
    dsimp only [jl]
    rw [jg_t k0, jg_t k0, jg_t ⟨rfl, jo_in (by omega) (by show st.length - n < 70; omega)⟩, q2]
    refine (z9_true42 (k3 _ q4.1 q4.2) q3 q1 (st.getD (st.length - n) []).length 0 jfuel (by omega) (by unfold jfuel; omega) (fun j hj => absurd hj (Nat.not_lt_zero j))).trans ?_
    by_cases ht : ztrue (st.getD (st.length - n) []) = true
    · rw [if_pos ht, if_pos ⟨hc, ht⟩]
    · rw [if_neg ht, if_neg fun w => ht w.2]
  · rw [if_neg (by rw [jo_le (by omega) (by omega)]; exact hc), jg_t (by decide), if_neg fun w => hc w.1]
end STACK
