/-! Questions to both programs. -/
section ASKS
variable {nb : Nat} {os : List Nat} {S : s_S} {tp kn : List UInt8} {ki : Int32} {H : jH}
theorem i32_nat (p : Int32) : ∃ ix, ix < 4294967296 ∧ p = Int32.ofNat ix := by
  refine ⟨p.toBitVec.toNat, p.toBitVec.isLt, Int32.toBitVec_inj.mp ?_⟩
  rw [Int32.toBitVec_ofNat', BitVec.ofNat_toNat, BitVec.setWidth_eq]
theorem w_fd_big {nm : List UInt8} {ix : Nat} {cs : List w_cn} (h : ∀ (k : Nat) (c : w_cn), cs[k]? = some c → c.2.1 ≠ ix) : w_fd cs nm ix 0 = none := by
  cases e : w_fd cs nm ix 0 with
  | none => rfl
  | some k =>
    obtain ⟨c, h1, -, h3⟩ := w_fd_at e
    exact absurd h3 (h _ c h1)
end ASKS
