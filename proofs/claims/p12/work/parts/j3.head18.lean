/-! Numbers in a block's head: the reference. Names in pairs. -/
/-- names in pairs: whether two of a pair are alike; the names of the pairs -/
def b_pr : List (List UInt8) → Bool × List (List UInt8)
  | a :: b :: r => (decide (a = b) || (b_pr r).1, b_hs (a ++ b) :: (b_pr r).2)
  | [a] => (false, [b_hs (a ++ a)])
  | [] => (false, [])
/-- up to the root -/
def b_mkr : Nat → List (List UInt8) → Bool × List UInt8
  | 0, ns => (false, ns.getD 0 [])
  | f + 1, ns => if ns.length ≤ 1 then (false, ns.getD 0 []) else ((b_pr ns).1 || (b_mkr f (b_pr ns).2).1, (b_mkr f (b_pr ns).2).2)
theorem b_pr_len : ∀ {ns : List (List UInt8)}, (b_pr ns).2.length = (ns.length + 1) / 2
  | [] => rfl
  | [a] => by
    show 1 = (1 + 1) / 2
    decide
  | a :: b :: r => by
    show (b_pr r).2.length + 1 = (r.length + 1 + 1 + 1) / 2
    rw [b_pr_len]
    omega
theorem b_pr_32 : ∀ {ns : List (List UInt8)}, ∀ x ∈ (b_pr ns).2, x.length = 32
  | [], x, h => by cases h
  | [a], x, h => by
    rw [List.mem_singleton.mp h]
    exact b_hs_len
  | a :: b :: r, x, h => by
    rcases List.mem_cons.mp h with rfl | h
    · exact b_hs_len
    · exact b_pr_32 x h
/-- names in a row, 32 bytes each -/
def b_nr (r p : Nat) (ns : List (List UInt8)) (H : jH) : Prop := ∀ k l, ns[k]? = some l → zRow H r (p + 32 * k) l
theorem b_nr_cons {r p : Nat} {a : List UInt8} {ns : List (List UInt8)} {H : jH} : b_nr r p (a :: ns) H ↔ zRow H r p a ∧ b_nr r (p + 32) ns H := by
  refine ⟨fun h => ⟨h 0 a rfl, fun k l hk => ?_⟩, fun h k l hk => ?_⟩
  · have := h (k + 1) l hk
    rwa [show p + 32 * (k + 1) = p + 32 + 32 * k by omega] at this
  · cases k with
    | zero =>
      have e : a = l := Option.some.inj hk
      rw [← e]
      exact h.1
    | succ k =>
      have := h.2 k l hk
      rwa [show p + 32 + 32 * k = p + 32 * (k + 1) by omega] at this
theorem b_nr_fr {r p : Nat} {ns : List (List UInt8)} {H H' : jH} (h : b_nr r p ns H) (h32 : ∀ x ∈ ns, x.length = 32) (e : ∀ j, p ≤ j → j < p + 32 * ns.length → jB H' r j = jB H r j) : b_nr r p ns H' := fun k l hk => by
  have hl := h32 l (List.mem_of_getElem? hk)
  have hkl := (List.getElem?_eq_some_iff.mp hk).1
  exact zRow_eq (h k l hk) fun i hi => e _ (by omega) (by omega)
/-- the name of a pair -/
theorem b_hs_pair {r p : Nat} {a b : List UInt8} {H : jH} {H' : jH} {q d : Nat} (ha : a.length = 32) (hb : b.length = 32) (h1 : zRow H r p a) (h2 : zRow H r (p + 32) b) (hv : ∀ i, i < 32 → jB H' q (d + i) = znm (fun i => jB H r (p + i)) 64 i) : zRow H' q d (b_hs (a ++ b)) := fun i u hi => by
  obtain ⟨q1, q2⟩ := b_hs_at hi
  have l64 : (a ++ b).length = 64 := by rw [List.length_append]; omega
  rw [q2, hv i q1, l64]
  refine congrFun (znm_eq fun k hk => ?_) i
  have hz : zRow H r p (a ++ b) := zRow_app h1 (by rw [ha]; exact h2)
  exact hz k _ (getD_of (by rw [l64]; exact hk))
