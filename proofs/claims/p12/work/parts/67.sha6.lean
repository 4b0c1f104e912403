section SHA
variable {N : Nat}
theorem jI_cp {H : jH} {a sp b dp n j : Nat} (h1 : dp ≤ j) (h2 : j < dp + n) : jI (jcpI H a sp b dp n) b j = jI H a (sp + (j - dp)) := jcpf_in h1 h2
theorem jsh_cpI {H : jH} {a sp b dp n : Nat} (h : jsp N H) (hb : 18 ≤ b) : jsp N (jcpI H a sp b dp n) := ⟨h.1, h.2.1, fun c hc j => (jcpf_ne (by omega)).trans (h.2.2.1 c hc j), h.2.2.2⟩
/-- the class's digest of the bytes that are ready -/
theorem z3_digest {Q : Unit → jH → Prop} (a1 len : Nat) (hl : 32 ≤ len ∧ len < 2147483648) (h44 : a1 ≠ 44) (bs : Nat → UInt8) (sz parts : Nat) (hpa : parts = (sz + 8) / 64 + 1) (hp2 : 64 * parts ≤ 2560) (H : jH) (hs : jsp N H) (hkd : jK H a1 = (101, len)) (hsz : jI H 43 1 = Int32.ofNat sz) (hbs : ∀ i, i < 64 * parts → jB H 44 i = bs i)
    (hk : ∀ H', jsp N H' → jfr (fun a j => a = 45 ∨ a = 46 ∨ (a = a1 ∧ j < 32)) H H' → (∀ i, i < 32 → jB H' a1 i = zout (zH bs sz parts parts) i) → Q () H') : jT (F_3_digest 43 a1 H) Q := by
  unfold F_3_digest
  rw [sR_43_2 hs, sK_43 hs]
  refine jT_g rfl (jT_g ⟨by rw [sK_1 hs], by rw [sK_45 hs], by unfold jF0; omega, by decide, by decide, by decide, by rw [sK_1 hs]; decide, by rw [sK_45 hs]; decide⟩ (jT_l ?_))
  have hs2 : jsp N (jcpI H 1 (0 : Int32).toNatClampNeg 45 (0 : Int32).toNatClampNeg (8 : Int32).toNatClampNeg) := jsh_cpI hs (by omega)
  have hf2 : jfr (fun a _ => a = 45 ∨ a = 46) H (jcpI H 1 (0 : Int32).toNatClampNeg 45 (0 : Int32).toNatClampNeg (8 : Int32).toNatClampNeg) := jfr_cpI jfr_refl fun j _ _ => Or.inl rfl
  have hz2 : zat (jcpI H 1 (0 : Int32).toNatClampNeg 45 (0 : Int32).toNatClampNeg (8 : Int32).toNatClampNeg) 45 = zH bs sz parts 0 := by
    have h : ∀ j, j < 8 → jI (jcpI H 1 (0 : Int32).toNatClampNeg 45 (0 : Int32).toNatClampNeg (8 : Int32).toNatClampNeg) 45 j = jval_1.getD j 0 := by
      intro j hj
      refine (jI_cp (H := H) (a := 1) (sp := 0) (b := 45) (dp := 0) (n := 8) (Nat.zero_le j) (by omega)).trans ?_
      rw [Nat.zero_add, Nat.sub_zero, hs.2.2.1 1 (by omega) j]
      rfl
    unfold zat zH
    rw [h 0 (by omega), h 1 (by omega), h 2 (by omega), h 3 (by omega), h 4 (by omega), h 5 (by omega), h 6 (by omega), h 7 (by omega)]
  generalize jcpI H 1 (0 : Int32).toNatClampNeg 45 (0 : Int32).toNatClampNeg (8 : Int32).toNatClampNeg = H2 at *
  have h1 : jI H2 43 1 = Int32.ofNat sz := ((hf2.2.2.2 43 1 (by intro h; rcases h with h | h <;> exact absurd h (by decide))).1).trans hsz
  have ep : (Int32.ofNat sz + 8) / 64 + 1 = Int32.ofNat parts := by
    have e1 : Int32.ofNat sz + 8 = Int32.ofNat (sz + 8) := jo_add (a := sz) (b := 8)
    have e2 : Int32.ofNat (sz + 8) / 64 = Int32.ofNat ((sz + 8) / 64) := jo_div (a := sz + 8) (b := 64) (by omega) (by omega)
    have e3 : Int32.ofNat ((sz + 8) / 64) + 1 = Int32.ofNat ((sz + 8) / 64 + 1) := jo_add (a := (sz + 8) / 64) (b := 1)
    rw [e1, e2, e3, hpa]
  refine jT_g (by rw [sK_43 hs2]) (jT_g (by decide) (jT_l ?_))
  rw [h1, ep]
  exact z3_29 a1 len hl h44 bs sz parts hp2 H hkd hsz hbs hk parts 0 jfuel H2 (by omega) (by unfold jfuel; omega) hs2 hf2 hz2
end SHA
