/-! Root inputs, in the reference: the same as in the class. -/
theorem zho_full {b : Nat → UInt8} {p : Nat} : zho b (p + 36) 4 = 4294967295 ↔ ∀ j, 32 ≤ j → j < 36 → b (p + j) = 255 := by
  have h1 := UInt8.toNat_lt (b (p + 35))
  have h2 := UInt8.toNat_lt (b (p + 34))
  have h3 := UInt8.toNat_lt (b (p + 33))
  have h4 := UInt8.toNat_lt (b (p + 32))
  have e : zho b (p + 36) 4 = (((0 * 256 + (b (p + 35)).toNat) * 256 + (b (p + 34)).toNat) * 256 + (b (p + 33)).toNat) * 256 + (b (p + 32)).toNat := rfl
  have u : ∀ x : UInt8, x = 255 ↔ x.toNat = 255 := fun x => ⟨fun h => by rw [h]; rfl, fun h => UInt8.toNat_inj.mp h⟩
  rw [e]
  refine ⟨fun h j hj1 hj2 => ?_, fun h => ?_⟩
  · rw [u]
    obtain rfl | rfl | rfl | rfl : j = 32 ∨ j = 33 ∨ j = 34 ∨ j = 35 := by omega
    all_goals omega
  · have q1 := (u _).mp (h 35 (by omega) (by omega))
    have q2 := (u _).mp (h 34 (by omega) (by omega))
    have q3 := (u _).mp (h 33 (by omega) (by omega))
    have q4 := (u _).mp (h 32 (by omega) (by omega))
    omega
theorem zrt_t {b : Nat → UInt8} {len p : Nat} (h : p + 36 ≤ len) : zrt b len p = true ↔ zho b (p + 36) 4 = 4294967295 ∧ ∀ j, j < 32 → b (p + j) = 0 := by
  rw [zho_full]
  unfold zrt
  rw [List.all_eq_true]
  refine ⟨fun w => ⟨fun j h1 h2 => ?_, fun j h1 => ?_⟩, fun w i hi => ?_⟩
  · have := w j (List.mem_range.mpr h2)
    rw [Bool.and_eq_true] at this
    have := of_decide_eq_true this.2
    rw [if_neg (by omega)] at this
    exact this
  · have := w j (List.mem_range.mpr (by omega))
    rw [Bool.and_eq_true] at this
    have := of_decide_eq_true this.2
    rw [if_pos h1] at this
    exact this
  · have hi := List.mem_range.mp hi
    rw [Bool.and_eq_true]
    refine ⟨decide_eq_true (by omega), decide_eq_true ?_⟩
    by_cases h3 : i < 32
    · rw [if_pos h3]
      exact w.2 i h3
    · rw [if_neg h3]
      exact w.1 i (by omega) hi
