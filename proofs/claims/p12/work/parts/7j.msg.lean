/-! A message that is being written: the class's row 42, the reference's row 512. -/
def zRow (H : jH) (r p : Nat) (l : List UInt8) : Prop := ∀ (i : Nat) (u : UInt8), l[i]? = some u → jB H r (p + i) = u
def zMg (o f r : Nat) (l : List UInt8) (H : jH) : Prop := jI H o f = Int32.ofNat l.length ∧ zRow H r 0 l
def zM11 : List UInt8 → jH → Prop := zMg 32 8 42
def zS11 : Nat → Nat → Prop := fun a j => (a = 32 ∧ j = 8) ∨ a = 42
def zcut (b : Nat → UInt8) (p n : Nat) : List UInt8 := (List.range n).map fun i => b (p + i)
theorem zcut_len {b : Nat → UInt8} {p n : Nat} : (zcut b p n).length = n := by
  unfold zcut
  rw [List.length_map, List.length_range]
theorem zcut_at {b : Nat → UInt8} {p n i : Nat} {u : UInt8} (h : (zcut b p n)[i]? = some u) : i < n ∧ b (p + i) = u := by
  unfold zcut at h
  rw [List.getElem?_map] at h
  obtain ⟨j, hj, rfl⟩ := Option.map_eq_some_iff.mp h
  obtain ⟨hi, rfl⟩ := List.getElem?_eq_some_iff.mp hj
  rw [List.length_range] at hi
  rw [List.getElem_range]
  exact ⟨hi, rfl⟩
theorem zcut_succ {b : Nat → UInt8} {p n : Nat} : zcut b p (n + 1) = zcut b p n ++ [b (p + n)] := by
  unfold zcut
  rw [List.range_succ, List.map_append]
  rfl
theorem zRow_app {H : jH} {r p : Nat} {l k : List UInt8} (h1 : zRow H r p l) (h2 : zRow H r (p + l.length) k) : zRow H r p (l ++ k) := by
  intro i u hi
  by_cases hl : i < l.length
  · rw [List.getElem?_append_left hl] at hi
    exact h1 i u hi
  · rw [List.getElem?_append_right (by omega)] at hi
    have := h2 _ u hi
    rw [show p + l.length + (i - l.length) = p + i by omega] at this
    exact this
theorem zRow_one {H : jH} {r p : Nat} {v : UInt8} (h : jB H r p = v) : zRow H r p [v] := by
  intro i u hi
  obtain ⟨h1, h2⟩ := List.getElem?_eq_some_iff.mp hi
  have h3 : i < 1 := h1
  obtain rfl : i = 0 := by omega
  have h4 : v = u := h2
  rw [← h4]
  exact h
theorem zRow_eq {H H' : jH} {r p : Nat} {l : List UInt8} (h : zRow H r p l) (he : ∀ i, i < l.length → jB H' r (p + i) = jB H r (p + i)) : zRow H' r p l := by
  intro i u hi
  obtain ⟨h1, -⟩ := List.getElem?_eq_some_iff.mp hi
  rw [he i h1]
  exact h i u hi
theorem jbu_ib (u : UInt8) : jbu (ji2b (jbs u)) = u := jb_u8 (fun u => jbu (ji2b (jbs u)) = u) (by decide +kernel) u
section MSG
variable {Q : Unit → jH → Prop} {v : Int32} {l : List UInt8} {H : jH}
theorem z11_begin (hs : jsh H) (hk : ∀ H', jsh H' → zM11 [jbu (ji2b v)] H' → jfr zS11 H H' → Q () H') : jT (F_11_begin 32 v H) Q := by
  unfold F_11_begin
  have k32 := sK_32 hs
  rw [sR_32_7 hs, sK_42 hs]
  refine jT_g (by rw [k32]) (jT_g ⟨rfl, by decide⟩ (jT_l ?_))
  have hs1 : jsh (jsB H 42 (0 : Int32).toNatClampNeg (jbu (ji2b v))) := jsh_sB hs
  refine jT_g (by rw [sK_32 hs1]) (jT_l (jT_ret (hk _ (jsh_sI hs1 (by decide)) ⟨jI_sIe, zRow_one ?_⟩ (jfr_sI (jfr_sB jfr_refl (Or.inr rfl)) (Or.inl ⟨rfl, rfl⟩)))))
  exact jB_sBe (H := H) (a := 42) (i := 0)
theorem z11_put (hs : jsh H) (h : zM11 l H) (hl : l.length < 2000) (hk : ∀ H', jsh H' → zM11 (l ++ [jbu (ji2b v)]) H' → jfr zS11 H H' → Q () H') : jT (F_11_put 32 v H) Q := by
  unfold F_11_put B_11_put_33
  have k32 : (jK H 32).1 = 11 := by rw [sK_32 hs]
  have hn : jI H 32 8 = Int32.ofNat l.length := h.1
  generalize hm : l.length = n at *
  have e_n : Int32.ofNat n + 1 = Int32.ofNat (n + 1) := jo_add (a := n) (b := 1)
  rw [sR_32_7 hs, sK_42 hs, hn, jo_nat (n := n) (by omega)]
  refine jT_g k32 (jT_g k32 (jT_g rfl (jT_neg (by rw [show ((Int32.ofNat ((101, 2000) : Nat × Nat).2)) = Int32.ofNat 2000 from rfl, jo_le (by omega) (by omega)]; omega) (jT_g k32 (jT_g k32 (jT_g ⟨rfl, jo_in (by omega) (by show n < 2000; omega)⟩ (jT_l ?_)))))))
  have hs1 : jsh (jsB H 42 n (jbu (ji2b v))) := jsh_sB hs
  refine jT_g k32 (jT_g k32 (jT_l (jT_ret (hk _ (jsh_sI hs1 (by decide)) ⟨?_, ?_⟩ (jfr_sI (jfr_sB jfr_refl (Or.inr rfl)) (Or.inl ⟨rfl, rfl⟩))))))
  · rw [jI_sIe, List.length_append, hm, show jI (jsB H 42 n (jbu (ji2b v))) 32 8 = Int32.ofNat n from hn, e_n]
    rfl
  · refine zRow_app (zRow_eq h.2 fun i hi => ?_) (zRow_one ?_)
    · exact jB_sBn (H := H) (a := 42) (by omega)
    · rw [hm, Nat.zero_add]
      exact jB_sBe (H := H) (a := 42) (i := n)
theorem z11_put2 {r len p n : Nat} (hs : jsh H) (h : zM11 l H) (hr : jK H r = (101, len)) (hlen : len < 2147483600) (hp : p + n ≤ len) (hl : l.length + n ≤ 2000) (hk : ∀ H', jsh H' → zM11 (l ++ zcut (jB H r) p n) H' → jfr zS11 H H' → Q () H') : jT (F_11_put_2 32 r (Int32.ofNat p) (Int32.ofNat n) H) Q := by
  unfold F_11_put_2
  have k32 : (jK H 32).1 = 11 := by rw [sK_32 hs]
  have hn : jI H 32 8 = Int32.ofNat l.length := h.1
  generalize hm : l.length = m at *
  have n0 : ∀ x, x < 2147483600 → ¬ (Int32.ofNat x < 0) := fun x hx => by
    rw [show (0 : Int32) = Int32.ofNat 0 from rfl, jo_lt (by omega) (by omega)]
    omega
  have e1 : Int32.ofNat p + Int32.ofNat n = Int32.ofNat (p + n) := jo_add
  have e2 : Int32.ofNat m + Int32.ofNat n = Int32.ofNat (m + n) := jo_add
  refine jT_neg (n0 _ (by omega)) (jT_neg (n0 _ (by omega)) (jT_g (by rw [hr]) (jT_neg (by rw [hr, e1, show (Int32.ofNat ((101, len) : Nat × Nat).2) = Int32.ofNat len from rfl, jo_lt (by omega) (by omega)]; omega) (jT_g k32 (jT_g k32 (jT_g (by rw [sR_32_7 hs, sK_42 hs]) (jT_pos (by rw [sR_32_7 hs, sK_42 hs, hn, e2, show ((Int32.ofNat ((101, 2000) : Nat × Nat).2)) = Int32.ofNat 2000 from rfl, jo_le (by omega) (by omega)]; omega) (jT_g k32 (jT_g k32 (jT_g ?_ (jT_l ?_)))))))))))
  · unfold jcg
    rw [hr, sR_32_7 hs, sK_42 hs, hn, jo_int (by omega), jo_int (by omega), jo_int (by omega)]
    exact ⟨rfl, rfl, by decide, by omega, by omega, by omega, by show (p : Int) + n ≤ (len : Nat); omega, by show (m : Int) + n ≤ (2000 : Nat); omega⟩
  rw [sR_32_7 hs, hn, jo_nat (n := m) (by omega), jo_nat (n := n) (by omega), jo_nat (n := p) (by omega)]
  have hs1 : jsh (jcpB H r p 42 m n) := jsh_cpB hs
  refine jT_g k32 (jT_g k32 (jT_l (jT_ret (hk _ (jsh_sI hs1 (by decide)) ⟨?_, ?_⟩ (jfr_sI (jfr_cpB jfr_refl fun _ _ _ => Or.inr rfl) (Or.inl ⟨rfl, rfl⟩))))))
  · rw [jI_sIe, List.length_append, hm, zcut_len, show jI (jcpB H r p 42 m n) 32 8 = Int32.ofNat m from hn, e2]
  · refine zRow_app (zRow_eq h.2 fun i hi => ?_) fun i u hi => ?_
    · exact jcpf_ne (by omega)
    · obtain ⟨hi, rfl⟩ := zcut_at hi
      rw [hm, Nat.zero_add]
      have : jB (jcpB H r p 42 m n) 42 (m + i) = jB H r (p + (m + i - m)) := jB_cp (by omega) (by omega)
      rw [show m + i - m = i by omega] at this
      exact this
end MSG
