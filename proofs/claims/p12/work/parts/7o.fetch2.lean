/-! fetch over a box as a list: both programs. -/
theorem zft_congr {b c : Nat → UInt8} {n : Nat} (h : ∀ i, i < n → b i = c i) : ∀ k, zft b n k = zft c n k
  | 0 => rfl
  | k + 1 => by
    unfold zft
    rw [zft_congr h k]
    by_cases hk : k < n
    · rw [if_pos hk, if_pos hk, h k hk]
    · rw [if_neg hk, if_neg hk]
def zfv (l : List UInt8) : Int64 := zft (fun i => l.getD i 0) (min 7 l.length) 7
section FETCH2
variable {Q : Int64 → jH → Prop} {p : Nat} {l : List UInt8} {H : jH}
theorem getD_of {l : List UInt8} {i : Nat} (h : i < l.length) : l[i]? = some (l.getD i 0) := by
  rw [List.getElem?_eq_getElem h, List.getD_eq_getElem?_getD, List.getElem?_eq_getElem h]
  rfl
theorem z11_fetchB (hs : jsh H) (hp : p < 4) (hb : zBx11 p l H) (hk : ∀ H', jsh H' → zBx11 p (l.drop 7) H' → jfr (fun a j => (a = 40 ∨ a = 41) ∧ j = p) H H' → Q (zfv l) H') : jT (F_11_fetch 32 (Int32.ofNat p) H) Q := by
  obtain ⟨b1, b2, s, b3, b4, b5⟩ := hb
  refine z11_fetch hs hp b3 b1 b4 b2 fun H' h1 h2 h3 h4 => ?_
  rw [zft_congr (c := fun i => l.getD i 0) fun i hi => b5 i _ (getD_of (by omega))]
  have hlen : (l.drop 7).length = l.length - min 7 l.length := by
    rw [List.length_drop]
    omega
  have hlt : (s + min 7 l.length) % 8000 < 8000 := Nat.mod_lt _ (by decide)
  refine hk H' h1 ⟨by omega, ?_, (s + min 7 l.length) % 8000, hlt, h3, fun i u hi => ?_⟩ h2
  · rw [hlen]
    exact h4
  · rw [List.getElem?_drop] at hi
    obtain ⟨hi2, -⟩ := List.getElem?_eq_some_iff.mp hi
    have e : ((s + min 7 l.length) % 8000 + i) % 8000 = (s + (7 + i)) % 8000 := by omega
    rw [e]
    exact (jfr_B h2 (by omega)).trans (b5 _ u hi)
end FETCH2
