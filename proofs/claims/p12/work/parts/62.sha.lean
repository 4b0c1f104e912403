section SHA
variable {N : Nat}
/-! SHA-256, as both programs must give it. -/
def zW (M : Nat → Int32) (i : Nat) : Int32 :=
  if i < 16 then M i else
  ((zW M (i - 16) + zW M (i - 7)) + (((jushr (zW M (i - 15)) 7 ||| jshl (zW M (i - 15)) 25) ^^^ (jushr (zW M (i - 15)) 18 ||| jshl (zW M (i - 15)) 14)) ^^^ jushr (zW M (i - 15)) 3)) + (((jushr (zW M (i - 2)) 17 ||| jshl (zW M (i - 2)) 15) ^^^ (jushr (zW M (i - 2)) 19 ||| jshl (zW M (i - 2)) 13)) ^^^ jushr (zW M (i - 2)) 10)
termination_by i
decreasing_by all_goals omega
abbrev z8 : Type := Int32 × Int32 × Int32 × Int32 × Int32 × Int32 × Int32 × Int32
def zS1 (x : Int32) : Int32 := ((jushr x 6 ||| jshl x 26) ^^^ (jushr x 11 ||| jshl x 21)) ^^^ (jushr x 25 ||| jshl x 7)
def zS0 (x : Int32) : Int32 := ((jushr x 2 ||| jshl x 30) ^^^ (jushr x 13 ||| jshl x 19)) ^^^ (jushr x 22 ||| jshl x 10)
def zone (k w : Int32) (s : z8) : Int32 := (((s.2.2.2.2.2.2.2 + zS1 s.2.2.2.2.1) + ((s.2.2.2.2.1 &&& s.2.2.2.2.2.1) ^^^ ((s.2.2.2.2.1 ^^^ (-1)) &&& s.2.2.2.2.2.2.1))) + k) + w
def ztwo (s : z8) : Int32 := zS0 s.1 + (((s.1 &&& s.2.1) ^^^ (s.1 &&& s.2.2.1)) ^^^ (s.2.1 &&& s.2.2.1))
def zstep (k w : Int32) (s : z8) : z8 := (zone k w s + ztwo s, s.1, s.2.1, s.2.2.1, s.2.2.2.1 + zone k w s, s.2.2.2.2.1, s.2.2.2.2.2.1, s.2.2.2.2.2.2.1)
def zrun (M : Nat → Int32) (s : z8) : Nat → z8
  | 0 => s
  | i + 1 => zstep (jval_2.getD i 0) (zW M i) (zrun M s i)
/-- the class's 64 steps -/
theorem z3_357 {Q : Unit → jH → Prop} (k29 : Nat → Nat → Int32 → Int32 → jH → Option (Unit × jH)) (a1 : Nat) (a2 a3 : Int32) (H : jH) (hs : jsp N H) (M : Nat → Int32) (s0 : z8) (hw : ∀ j, j < 64 → jI H 46 j = zW M j)
    (hk : jT (B_3_digest_357 k29 (fun _ _ _ _ _ _ _ _ _ _ _ _ _ _ => none) 43 a1 a2 a3 (zrun M s0 64).1 (zrun M s0 64).2.1 (zrun M s0 64).2.2.1 (zrun M s0 64).2.2.2.1 (zrun M s0 64).2.2.2.2.1 (zrun M s0 64).2.2.2.2.2.1 (zrun M s0 64).2.2.2.2.2.2.1 (zrun M s0 64).2.2.2.2.2.2.2 (Int32.ofNat 64) H) Q) :
    ∀ (d i n : Nat), i + d = 64 → d < n → jT (F_3_digest_357 k29 n 43 a1 a2 a3 (zrun M s0 i).1 (zrun M s0 i).2.1 (zrun M s0 i).2.2.1 (zrun M s0 i).2.2.2.1 (zrun M s0 i).2.2.2.2.1 (zrun M s0 i).2.2.2.2.2.1 (zrun M s0 i).2.2.2.2.2.2.1 (zrun M s0 i).2.2.2.2.2.2.2 (Int32.ofNat i) H) Q := by
  intro d
  induction d with
  | zero =>
    intro i n hi hn
    obtain rfl : i = 64 := by omega
    obtain ⟨n, rfl⟩ : ∃ k, n = k + 1 := ⟨n - 1, by omega⟩
    unfold F_3_digest_357
    unfold B_3_digest_357 at hk ⊢
    have h64 : (64 : Int32) ≤ Int32.ofNat 64 := by decide
    rw [if_pos h64] at hk ⊢
    exact hk
  | succ d ih =>
    intro i n hi hn
    obtain ⟨n, rfl⟩ : ∃ k, n = k + 1 := ⟨n - 1, by omega⟩
    unfold F_3_digest_357 B_3_digest_357
    have e : (64 : Int32) = Int32.ofNat 64 := rfl
    refine jT_neg (by rw [e, jo_le (by omega) (by omega)]; omega) ?_
    refine jT_g (by rw [sK_2 hs]; exact ⟨rfl, jo_in (by omega) (by omega)⟩) ?_
    refine jT_g (by rw [sK_43 hs]) ?_
    rw [sR_43_3 hs]
    refine jT_g (by rw [sK_46 hs]; exact ⟨rfl, jo_in (by omega) (by omega)⟩) ?_
    have e1 : (Int32.ofNat i).toNatClampNeg = i := jo_nat (by omega)
    rw [e1, hs.2.2.1 2 (by omega) i, hw i (by omega)]
    have := ih (i + 1) n (by omega) (by omega)
    have e2 : Int32.ofNat i + 1 = Int32.ofNat (i + 1) := jo_add
    unfold jl
    rw [e2]
    exact this
end SHA
