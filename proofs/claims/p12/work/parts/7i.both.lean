/-! The class's object of a transaction and the reference's: they answer alike. -/
theorem zsumv_zvs {b : Nat → UInt8} {len : Nat} : ∀ {l : List (Nat × Nat)} {a : Int64}, (∀ w ∈ l, w.1 + 9 ≤ len) → (l.map (·.1)).foldl (fun s p => s + zv2 b len p) a = (zvs b l).foldl (· + ·) a
  | [], a, _ => rfl
  | w :: r, a, h => by
    have hw := h w (List.mem_cons_self ..)
    show (r.map (·.1)).foldl (fun s p => s + zv2 b len p) (a + zv2 b len w.1) = (zvs b r).foldl (· + ·) (a + zle b (w.1 + 8) 8)
    rw [zv2_zle (by omega)]
    exact zsumv_zvs fun w hw => h w (List.mem_cons_of_mem _ hw)
section BOTH
variable {o row len s t row' len' s' e' : Nat} {y : List (Nat × Nat) × List (Nat × Nat) × Nat} {H : jH}
theorem zsh1_in {s m k : Nat} {l : List (Nat × Nat)} (h : ∀ w ∈ l, w.1 + k ≤ m) {len : Nat} (hl : s + m ≤ len) : ∀ w ∈ zsh1 s l, w.1 + k ≤ len := by
  intro w hw
  unfold zsh1 at hw
  obtain ⟨v, hv, rfl⟩ := List.mem_map.mp hw
  have := h v hv
  show s + v.1 + k ≤ len
  omega
end BOTH
