/-! Points.numberEnd and signature of the reference: the same bytes are a signature as for the class. -/
section NE13
variable {Q : Int32 → jH → Prop} {H0 : jH} {b : Nat → UInt8}
def ne_ok (b : Nat → UInt8) (f e : Nat) : Prop := f + 2 ≤ e ∧ (b f).toNat = 2 ∧ 1 ≤ (b (f + 1)).toNat ∧ (b (f + 1)).toNat ≤ 33 ∧ f + 2 + (b (f + 1)).toNat ≤ e ∧ nm_ok b (f + 2) (b (f + 1)).toNat
theorem z13_numberEnd {f e : Nat} {f' e' : Int32} (ef : f' = Int32.ofNat f) (ee : e' = Int32.ofNat e) (hf : f ≤ 100) (he : e ≤ 100) (hs : jsh H0) (hB : zB13 H0 b)
    (hk1 : ne_ok b f e → Q (Int32.ofNat (f + 2 + (b (f + 1)).toNat)) H0) (hk0 : ¬ ne_ok b f e → Q (-1) H0) : jT (F_13_numberEnd 428 f' e' H0) Q := by
  subst ef
  subst ee
  unfold F_13_numberEnd B_13_numberEnd_17 B_13_numberEnd_48 B_13_numberEnd_92 B_13_numberEnd_96 B_13_numberEnd_97 B_13_numberEnd_115 B_13_numberEnd_123 B_13_numberEnd_124
  have e1 : Int32.ofNat f + 1 = Int32.ofNat (f + 1) := jo_add (a := f) (b := 1)
  have e2 : Int32.ofNat f + 2 = Int32.ofNat (f + 2) := jo_add (a := f) (b := 2)
  have e3 : Int32.ofNat f + 3 = Int32.ofNat (f + 3) := jo_add (a := f) (b := 3)
  have no : ¬ ne_ok b f e → jT (some ((-1 : Int32), H0)) Q := fun h => jT_ret (hk0 h)
  rw [sR_428_5 hs, e1, e2, e3]
  by_cases h2 : e < f + 2
  · exact jT_pos (by rw [jo_lt (by omega) (by omega)]; exact h2) (no fun w => by have := w.1; omega)
  refine jT_neg (by rw [jo_lt (by omega) (by omega)]; exact h2) (jT_g (k13 hs) (jT_g (g434 hs (by omega)) ?_))
  have v0 := hB f (by omega)
  have v1 := hB (f + 1) (by omega)
  have c0 := u8_lt (b f)
  have c1 := u8_lt (b (f + 1))
  rw [jo_nat (n := f) (by omega), jo_nat (n := f + 1) (by omega), jo_nat (n := f + 2) (by omega), jo_nat (n := f + 3) (by omega), v0, v1]
  by_cases b2' : ¬ (b f).toNat = 2
  · exact jT_neg (fun q => b2' ((jo_eq (by omega) (by decide)).mp (q.trans (show (2 : Int32) = Int32.ofNat 2 from rfl)))) (no fun w => b2' w.2.1)
  have b2 := Decidable.of_not_not b2'
  refine jT_pos (by rw [b2]; rfl) (jT_g (k13 hs) (jT_g (g434 hs (by omega)) (jT_l ?_)))
  obtain ⟨n, hn⟩ : ∃ n, n = (b (f + 1)).toNat := ⟨_, rfl⟩
  rw [← hn] at c1 hk1 ⊢
  by_cases n1 : n < 1
  · exact jT_pos (by rw [show (1 : Int32) = Int32.ofNat 1 from rfl, jo_lt (by omega) (by decide)]; exact n1) (no fun w => by have := w.2.2.1; omega)
  refine jT_neg (by rw [show (1 : Int32) = Int32.ofNat 1 from rfl, jo_lt (by omega) (by decide)]; exact n1) ?_
  by_cases n33 : 33 < n
  · exact jT_pos (by rw [show (33 : Int32) = Int32.ofNat 33 from rfl, jo_lt (by decide) (by omega)]; exact n33) (no fun w => by have := w.2.2.2.1; omega)
  refine jT_neg (by rw [show (33 : Int32) = Int32.ofNat 33 from rfl, jo_lt (by decide) (by omega)]; exact n33) ?_
  rw [jo_add (a := f + 2) (b := n)]
  by_cases he2 : ¬ f + 2 + n ≤ e
  · exact jT_neg (by rw [jo_le (by omega) (by omega)]; exact he2) (no fun w => he2 (by have := w.2.2.2.2.1; omega))
  have he3 := Decidable.of_not_not he2
  have v2 := hB (f + 2) (by omega)
  have c2 := u8_lt (b (f + 2))
  refine jT_pos (by rw [jo_le (by omega) (by omega)]; exact he3) (jT_g (k13 hs) (jT_g (g434 hs (by omega)) (jT_l ?_)))
  rw [v2]
  have fin : nm_ok b (f + 2) n → ne_ok b f e := fun w => by
    unfold ne_ok
    rw [← hn]
    exact ⟨by omega, b2, by omega, by omega, he3, w⟩
  have nfin : ¬ nm_ok b (f + 2) n → ¬ ne_ok b f e := fun h w => h (by have := w.2.2.2.2.2; rw [← hn] at this; exact this)
  by_cases h128 : 128 ≤ (b (f + 2)).toNat
  · exact jT_pos (by rw [show (128 : Int32) = Int32.ofNat 128 from rfl, jo_le (by decide) (by omega)]; exact h128) (jT_pos rfl (no (nfin fun w => by have := w.1; omega)))
  refine jT_neg (by rw [show (128 : Int32) = Int32.ofNat 128 from rfl, jo_le (by decide) (by omega)]; exact h128) ?_
  -- what follows a good first byte
  have tail : ¬ (1 < n ∧ (b (f + 2)).toNat = 0 ∧ (b (f + 2 + 1)).toNat < 128) → jT (if (1 : Int32) = 0 then some ((-1 : Int32), H0) else if Int32.ofNat n < (33 : Int32) then some (Int32.ofNat (f + 2 + n), H0) else if ¬ Int32.ofNat (b (f + 2)).toNat = 0 then some ((-1 : Int32), H0) else some (Int32.ofNat (f + 2 + n), H0)) Q := fun hg => by
    refine jT_neg (by decide) ?_
    by_cases n3 : n < 33
    · exact jT_pos (by rw [show (33 : Int32) = Int32.ofNat 33 from rfl, jo_lt (by omega) (by decide)]; exact n3) (jT_ret (hk1 (fin ⟨by omega, hg, fun q => by omega⟩)))
    refine jT_neg (by rw [show (33 : Int32) = Int32.ofNat 33 from rfl, jo_lt (by omega) (by decide)]; exact n3) ?_
    by_cases hz : (b (f + 2)).toNat = 0
    · exact jT_neg (fun q => q (by rw [hz]; rfl)) (jT_ret (hk1 (fin ⟨by omega, hg, fun _ => hz⟩)))
    · exact jT_pos (fun q => hz ((jo_eq (by omega) (by decide)).mp (q.trans (show (0 : Int32) = Int32.ofNat 0 from rfl)))) (no (nfin fun w => hz (w.2.2 (by omega))))
  by_cases hz : (b (f + 2)).toNat = 0
  · refine jT_neg (by rw [hz]; decide) ?_
    by_cases h1 : n = 1
    · exact jT_pos (by rw [h1]; rfl) (tail fun q => by omega)
    · have v3 := hB (f + 3) (by omega)
      have c3 := u8_lt (b (f + 3))
      refine jT_neg (fun q => h1 ((jo_eq (by omega) (by decide)).mp (q.trans (show (1 : Int32) = Int32.ofNat 1 from rfl)))) (jT_g (k13 hs) (jT_g (g434 hs (by omega)) ?_))
      rw [v3]
      by_cases h3 : (b (f + 3)).toNat < 128
      · exact jT_pos (by rw [show (128 : Int32) = Int32.ofNat 128 from rfl, jo_lt (by omega) (by decide)]; exact h3) (jT_pos rfl (no (nfin fun w => w.2.1 ⟨by omega, hz, h3⟩)))
      · exact jT_neg (by rw [show (128 : Int32) = Int32.ofNat 128 from rfl, jo_lt (by omega) (by decide)]; exact h3) (tail fun q => h3 q.2.2)
  · exact jT_pos (by rw [show (0 : Int32) = Int32.ofNat 0 from rfl, jo_lt (by decide) (by omega)]; omega) (tail fun q => hz q.2.1)
end NE13
