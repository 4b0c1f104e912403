/-! Sums, looks at the tree, names by their words. -/
/-- eight bytes as a long, the highest first -/
def zeb (b : Nat → UInt8) : Nat → Int64
  | 0 => 0
  | i + 1 => jshlL (zeb b i) 8 ||| Int32.toInt64 (jbs (b i) &&& 255)
theorem zeb_eq {b c : Nat → UInt8} : ∀ {n : Nat}, (∀ i, i < n → b i = c i) → zeb b n = zeb c n
  | 0, _ => rfl
  | n + 1, h => by
    unfold zeb
    rw [zeb_eq (n := n) (fun i hi => h i (by omega)), h n (by omega)]
theorem z11_block_30 {Q : Int64 → jH → Prop} {o nm k : Nat} {H : jH} (hk : k < 4) (ho : (jK H o).1 = 0) (hn : jR H o 1 = nm) (hkn : jK H nm = (101, 32)) (hQ : Q (zeb (fun i => jB H nm (8 * k + i)) 8) H) : jT (F_11_block_30 jfuel (Int32.ofNat k) o 0 0 H) Q := by
  have loop : ∀ (d i f : Nat), i + d = 8 → d < f → jT (F_11_block_30 f (Int32.ofNat k) o (zeb (fun i => jB H nm (8 * k + i)) i) (Int32.ofNat i) H) Q := by
    intro d
    induction d with
    | zero =>
      intro i f hi hf
      obtain rfl : i = 8 := by omega
      obtain ⟨f, rfl⟩ : ∃ k, f = k + 1 := ⟨f - 1, by omega⟩
      unfold F_11_block_30 B_11_block_30
      exact jT_pos (by decide) (jT_ret hQ)
    | succ d ih =>
      intro i f hi hf
      obtain ⟨f, rfl⟩ : ∃ k, f = k + 1 := ⟨f - 1, by omega⟩
      unfold F_11_block_30 B_11_block_30
      have e : (8 : Int32) * Int32.ofNat k + Int32.ofNat i = Int32.ofNat (8 * k + i) := by
        rw [show (8 : Int32) = Int32.ofNat 8 from rfl, jo_mul, jo_add]
      have e_i : Int32.ofNat i + 1 = Int32.ofNat (i + 1) := jo_add (a := i) (b := 1)
      rw [hn, hkn, e, e_i, jo_nat (n := 8 * k + i) (by omega)]
      refine jT_neg (by rw [show (8 : Int32) = Int32.ofNat 8 from rfl, jo_le (by omega) (by omega)]; omega) (jT_g ho (jT_g ⟨rfl, jo_in (by omega) (by show 8 * k + i < 32; omega)⟩ (jT_l (jT_l ?_))))
      exact ih (i + 1) f (by omega) (by omega)
  exact loop 8 0 jfuel rfl (by unfold jfuel; omega)
