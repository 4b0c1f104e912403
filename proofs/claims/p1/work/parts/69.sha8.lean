section SHA
variable {N : Nat}
/-- SHA-256 of n bytes, byte i -/
def zsha (b : Nat → UInt8) (n i : Nat) : UInt8 := zout (zH (zpad b n) n ((n + 8) / 64 + 1) ((n + 8) / 64 + 1)) i
/-- the digest of the digest -/
def znm (b : Nat → UInt8) (n i : Nat) : UInt8 := zsha (zsha b n) 32 i
/-- the class's SHA-256 of bytes that it lays ready -/
theorem z3_sha {α : Type} {Q : α → jH → Prop} {k : Unit → jH → Option (α × jH)} (a1 len f sz a2 len2 : Nat) (hf : f + sz ≤ len) (hlen : len < 2147483648) (hsz : sz + 72 ≤ 2560) (hl : 32 ≤ len2 ∧ len2 < 2147483648) (h44 : a2 ≠ 44) (H : jH) (hs : jsp N H) (hkd : jK H a1 = (101, len)) (hk2 : jK H a2 = (101, len2))
    (hk : ∀ H', jsp N H' → jfr (fun a j => a = 44 ∨ (a = 43 ∧ j = 1) ∨ a = 45 ∨ a = 46 ∨ (a = a2 ∧ j < 32)) H H' → (∀ i, i < 32 → jB H' a2 i = zsha (fun i => jB H a1 (f + i)) sz i) → jT (k () H') Q) :
    jT (jb (F_3_take 43 a1 (Int32.ofNat f) (Int32.ofNat sz) H) fun _ h => jb (F_3_digest 43 a2 h) k) Q := by
  refine jT_b (z3_take a1 len f sz hf hlen hsz H hs hkd fun H1 hs1 hf1 hz1 hb1 => jT_b ?_)
  refine z3_digest a2 len2 hl h44 (zpad (fun i => jB H a1 (f + i)) sz) sz ((sz + 8) / 64 + 1) rfl (by omega) H1 hs1 (by rw [hf1.1]; exact hk2) hz1 (fun i hi => hb1 i (by omega)) fun H2 hs2 hf2 hb2 => hk H2 hs2 ?_ hb2
  refine jfr_trans (jfr_mono hf1 fun a j h => ?_) (jfr_mono hf2 fun a j h => ?_)
  · rcases h with h | h
    · exact Or.inl h
    · exact Or.inr (Or.inl h)
  · exact Or.inr (Or.inr h)
end SHA
