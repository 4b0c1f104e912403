section SHA
variable {N : Nat}
theorem jI_sIe {H : jH} {a i : Nat} {v : Int32} : jI (jsI H a i v) a i = v := if_pos ⟨rfl, rfl⟩
theorem jI_sIn {H : jH} {a i b j : Nat} {v : Int32} (h : j ≠ i) : jI (jsI H a i v) b j = jI H b j := if_neg fun q => h q.2
theorem jI_sIa {H : jH} {a i b j : Nat} {v : Int32} (h : b ≠ a) : jI (jsI H a i v) b j = jI H b j := if_neg fun q => h q.1
theorem jsh_sI {H : jH} {a i : Nat} {v : Int32} (h : jsp N H) (ha : 18 ≤ a) : jsp N (jsI H a i v) := ⟨h.1, h.2.1, fun b hb j => (jI_sIa (by omega)).trans (h.2.2.1 b hb j), h.2.2.2⟩
theorem jsh_sB {H : jH} {a i : Nat} {v : UInt8} (h : jsp N H) : jsp N (jsB H a i v) := h
theorem jsh_sL {H : jH} {a i : Nat} {v : Int64} (h : jsp N H) : jsp N (jsL H a i v) := h
/-- one word of the state is added to -/
theorem z3_add1 {Q : Unit → jH → Prop} {k : jH → Option (Unit × jH)} {H0 H : jH} (hs : jsp N H) (hf : jfr (fun a _ => a = 45) H0 H) (ii : Int32) (i : Nat) (hi : jin ii 8 ∧ ii.toNatClampNeg = i) {v : Int32} (hk : ∀ H', jsp N H' → jfr (fun a _ => a = 45) H0 H' → jI H' 45 i = jI H 45 i + v → (∀ j, j ≠ i → jI H' 45 j = jI H 45 j) → jT (k H') Q) :
    jT (jg ((jK H 43).1 = 3) (jg ((jK H (jR H 43 2)).1 = 100 ∧ jin ii (jK H (jR H 43 2)).2) (jg ((jK H (jR H 43 2)).1 = 100 ∧ jF0 ≤ (jR H 43 2) ∧ jin ii (jK H (jR H 43 2)).2) (jl (jsI H (jR H 43 2) ii.toNatClampNeg ((jI H (jR H 43 2) ii.toNatClampNeg) + v)) k)))) Q := by
  refine jT_g (by rw [sK_43 hs]) ?_
  rw [sR_43_2 hs, sK_45 hs, hi.2]
  exact jT_g ⟨rfl, hi.1⟩ (jT_g ⟨rfl, by unfold jF0; omega, hi.1⟩ (jT_l (hk _ (jsh_sI hs (by omega)) (jfr_sI hf rfl) jI_sIe fun j hj => jI_sIn hj)))
def zadd (s t : z8) : z8 := (s.1 + t.1, s.2.1 + t.2.1, s.2.2.1 + t.2.2.1, s.2.2.2.1 + t.2.2.2.1, s.2.2.2.2.1 + t.2.2.2.2.1, s.2.2.2.2.2.1 + t.2.2.2.2.2.1, s.2.2.2.2.2.2.1 + t.2.2.2.2.2.2.1, s.2.2.2.2.2.2.2 + t.2.2.2.2.2.2.2)
/-- eight words of a row of ints -/
def zat (H : jH) (a : Nat) : z8 := (jI H a 0, jI H a 1, jI H a 2, jI H a 3, jI H a 4, jI H a 5, jI H a 6, jI H a 7)
theorem z3_add {Q : Unit → jH → Prop} {k29 : Nat → Nat → Int32 → Int32 → jH → Option (Unit × jH)} {kk : Nat → Nat → Int32 → Int32 → Int32 → Int32 → Int32 → Int32 → Int32 → Int32 → Int32 → Int32 → Int32 → jH → Option (Unit × jH)} {a1 : Nat} {a2 a3 : Int32} {H : jH} (hs : jsp N H) (t : z8)
    (hk : ∀ H', jsp N H' → jfr (fun a _ => a = 45) H H' → zat H' 45 = zadd (zat H 45) t → jT (k29 43 a1 a2 (a3 + 1) H') Q) :
    jT (B_3_digest_357 k29 kk 43 a1 a2 a3 t.1 t.2.1 t.2.2.1 t.2.2.2.1 t.2.2.2.2.1 t.2.2.2.2.2.1 t.2.2.2.2.2.2.1 t.2.2.2.2.2.2.2 (Int32.ofNat 64) H) Q := by
  unfold B_3_digest_357
  refine jT_pos (by decide) ?_
  refine z3_add1 hs (jfr_refl (H := H)) 0 0 (by decide) fun H1 hs f0 g0 o0 => ?_
  refine z3_add1 hs (f0) 1 1 (by decide) fun H2 hs f1 g1 o1 => ?_
  refine z3_add1 hs (f1) 2 2 (by decide) fun H3 hs f2 g2 o2 => ?_
  refine z3_add1 hs (f2) 3 3 (by decide) fun H4 hs f3 g3 o3 => ?_
  refine z3_add1 hs (f3) 4 4 (by decide) fun H5 hs f4 g4 o4 => ?_
  refine z3_add1 hs (f4) 5 5 (by decide) fun H6 hs f5 g5 o5 => ?_
  refine z3_add1 hs (f5) 6 6 (by decide) fun H7 hs f6 g6 o6 => ?_
  refine z3_add1 hs (f6) 7 7 (by decide) fun H8 hs f7 g7 o7 => ?_
  refine jT_l (hk _ hs f7 ?_)
  unfold zat zadd
  rw [o7 0 (by decide), o6 0 (by decide), o5 0 (by decide), o4 0 (by decide), o3 0 (by decide), o2 0 (by decide), o1 0 (by decide), g0,
    o7 1 (by decide), o6 1 (by decide), o5 1 (by decide), o4 1 (by decide), o3 1 (by decide), o2 1 (by decide), g1, o0 1 (by decide),
    o7 2 (by decide), o6 2 (by decide), o5 2 (by decide), o4 2 (by decide), o3 2 (by decide), g2, o1 2 (by decide), o0 2 (by decide),
    o7 3 (by decide), o6 3 (by decide), o5 3 (by decide), o4 3 (by decide), g3, o2 3 (by decide), o1 3 (by decide), o0 3 (by decide),
    o7 4 (by decide), o6 4 (by decide), o5 4 (by decide), g4, o3 4 (by decide), o2 4 (by decide), o1 4 (by decide), o0 4 (by decide),
    o7 5 (by decide), o6 5 (by decide), g5, o4 5 (by decide), o3 5 (by decide), o2 5 (by decide), o1 5 (by decide), o0 5 (by decide),
    o7 6 (by decide), g6, o5 6 (by decide), o4 6 (by decide), o3 6 (by decide), o2 6 (by decide), o1 6 (by decide), o0 6 (by decide),
    g7, o6 7 (by decide), o5 7 (by decide), o4 7 (by decide), o3 7 (by decide), o2 7 (by decide), o1 7 (by decide), o0 7 (by decide)]
end SHA
