/-! Calls of both programs, one behind the other. -/
section CALLS
variable {nb : Nat} {os : List Nat} {S : s_S} {tp kn : List UInt8} {ki : Int32} {T : Nat → Nat → Prop} {H H' : jH}
theorem s_cls_sm {tp' kn' : List UInt8} {ki' : Int32} {b : Nat → List UInt8} (h : s_cls nb os S tp kn ki H) (hs : jsh H') (hf : jfr T H H') (hT : ∀ a j, T a j → (a = 32 ∧ (j = 1 ∨ j = 3)) ∨ a = 33 ∨ a = 34 ∨ (36 ≤ a ∧ a ≤ 41)) (hb : p_b11 b H') (ht : jI H' 32 1 = Int32.ofNat tp'.length ∧ tp'.length ≤ 2000 ∧ zRow H' 33 0 tp') (hk : zRow H' 34 0 kn' ∧ kn'.length = 32 ∧ jI H' 32 3 = ki') : s_cls nb os (s_bx S b) tp' kn' ki' H' := by
  obtain ⟨h1, h2, h3, h4, h5, -, -⟩ := h
  exact ⟨hs, b_CS_gx h2 h1 hs h5 (jgx_fr hf) fun a j w => by have := hT a j w; omega, p_PA_gx h3 h1 (jgx_fr hf) fun a j w => by have := hT a j w; omega, hb, by rw [hf.2.1]; exact h5, ht, hk⟩
theorem jgx_sm {c s : Nat} {T : Nat → Nat → Prop} (hf : jfr T H H') (hT : ∀ a j, T a j → s_TG a j) : jgx s_TG c s H H' := jgx_mono (jfr_TG hf hT) (fun a j _ w => w) (Nat.zero_le _) (Nat.zero_le _)
/-- bytes of words -/
def s_fb (g : Nat → UInt8) (n : Nat) : List UInt8 := (List.range n).map g
theorem s_fb_len {g : Nat → UInt8} {n : Nat} : (s_fb g n).length = n := by
  unfold s_fb
  rw [List.length_map, List.length_range]
theorem s_fb_row {g : Nat → UInt8} {n r p : Nat} (h : ∀ i, i < n → jB H r (p + i) = g i) : zRow H r p (s_fb g n) := fun i u hi => by
  unfold s_fb at hi
  obtain ⟨h1, h2⟩ := List.getElem?_eq_some_iff.mp hi
  rw [List.getElem_map, List.getElem_range] at h2
  rw [List.length_map, List.length_range] at h1
  rw [h i h1, h2]
theorem i32_lt {a b : Int32} : a < b ↔ a.toInt < b.toInt := Int32.lt_iff_toInt_lt
def s_bd (b : Nat → List UInt8) (q : Nat) : Nat → List UInt8 := fun k => if k = q then (b q).drop 7 else b k
end CALLS
