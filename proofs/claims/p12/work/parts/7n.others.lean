/-! What both programs tell the others. -/
def zoth (bxs : Nat → List UInt8) (p : Nat) (l : List UInt8) (i k : Nat) : List UInt8 := if k < i ∧ k ≠ p then zpo (bxs k) l else bxs k
def zTS11 : Nat → Nat → Prop := fun a j => zS11 a j ∨ (36 ≤ a ∧ a < 40) ∨ a = 41
def ztl (kd : Int32) (nb : Nat → UInt8) : List UInt8 := [jbu (ji2b 6)] ++ [jbu (ji2b 1)] ++ [jbu (ji2b kd)] ++ zcut nb 0 32
theorem zoth_e {bxs : Nat → List UInt8} {p i k : Nat} {l : List UInt8} (h : k ≠ i ∨ i = p) : zoth bxs p l (i + 1) k = zoth bxs p l i k := by
  unfold zoth
  by_cases hc : k < i ∧ k ≠ p
  · rw [if_pos hc, if_pos ⟨by omega, hc.2⟩]
  · rw [if_neg hc, if_neg (by omega)]
theorem zoth_n {bxs : Nat → List UInt8} {p i : Nat} {l : List UInt8} : zoth bxs p l i i = bxs i := if_neg fun q => Nat.lt_irrefl _ q.1
theorem zoth_s {bxs : Nat → List UInt8} {p i : Nat} {l : List UInt8} (h : i ≠ p) : zoth bxs p l (i + 1) i = zpo (bxs i) l := if_pos ⟨Nat.lt_succ_self i, h⟩
section OTHERS
variable {Q : Unit → jH → Prop} {bxs : Nat → List UInt8} {p r : Nat} {kd : Int32} {l : List UInt8}
theorem z11_others27 {H0 : jH} (hp : p < 4) (hl : l.length ≤ 2000)
    (hk : ∀ H', jsh H' → (∀ k, k < 4 → zBx11 k (zoth bxs p l 4 k) H') → jfr zTS11 H0 H' → Q () H') :
    ∀ (d i f : Nat) (H : jH), i + d = 4 → d < f → jsh H → zM11 l H → (∀ k, k < 4 → zBx11 k (zoth bxs p l i k) H) → jfr zTS11 H0 H → jT (F_11_tellOthers_27 f 32 (Int32.ofNat p) (Int32.ofNat i) H) Q := by
  intro d
  induction d with
  | zero =>
    intro i f H hi hf hs hm hb hfr
    obtain rfl : i = 4 := by omega
    obtain ⟨f, rfl⟩ : ∃ k, f = k + 1 := ⟨f - 1, by omega⟩
    unfold F_11_tellOthers_27 B_11_tellOthers_27
    exact jT_pos (by decide) (jT_ret (hk H hs hb hfr))
  | succ d ih =>
    intro i f H hi hf hs hm hb hfr
    obtain ⟨f, rfl⟩ : ∃ k, f = k + 1 := ⟨f - 1, by omega⟩
    unfold F_11_tellOthers_27 B_11_tellOthers_27 B_11_tellOthers_45
    have e_i : Int32.ofNat i + 1 = Int32.ofNat (i + 1) := jo_add (a := i) (b := 1)
    refine jT_neg (by rw [show (4 : Int32) = Int32.ofNat 4 from rfl, jo_le (by omega) (by omega)]; omega) ?_
    by_cases hip : i = p
    · refine jT_pos (by rw [hip]) (jT_l ?_)
      rw [e_i]
      exact ih (i + 1) f H (by omega) (by omega) hs hm (fun k hk4 => by rw [zoth_e (Or.inr hip)]; exact hb k hk4) hfr
    · refine jT_neg (by rw [jo_eq (by omega) (by omega)]; exact hip) (jT_g (by rw [sK_32 hs]) (jT_b (z11_post hs (by omega) hm hl (hb i (by omega)) fun H' h1 h2 h3 h4 => jT_l ?_)))
      rw [e_i]
      rw [zoth_n] at h3
      refine ih (i + 1) f H' (by omega) (by omega) h1 h2 (fun k hk4 => ?_) (jfr_trans hfr (jfr_mono h4 fun a j q => by unfold zTS11; omega))
      by_cases hki : k = i
      · rw [hki, zoth_s hip]
        exact h3
      · rw [zoth_e (Or.inl hki)]
        exact zBx11_fr (hb k hk4) h4 fun a j q => by omega
theorem z11_tellOthers {H0 : jH} (hs : jsh H0) (hp : p < 4) (hr : jK H0 r = (101, 32)) (hr2 : r ≠ 42 ∧ r ≠ 32) (hb : ∀ k, k < 4 → zBx11 k (bxs k) H0)
    (hk : ∀ H', jsh H' → (∀ k, k < 4 → zBx11 k (zoth bxs p (ztl kd (jB H0 r)) 4 k) H') → jfr zTS11 H0 H' → Q () H') : jT (F_11_tellOthers 32 (Int32.ofNat p) kd r H0) Q := by
  unfold F_11_tellOthers
  have nz : ∀ a j, zS11 a j → a ≠ r := fun a j q => by unfold zS11 at q; omega
  refine jT_g (by rw [sK_32 hs]) (jT_b (z11_begin hs fun H1 s1 m1 f1 => jT_g (by rw [sK_32 s1]) (jT_b (z11_put s1 m1 (by show 1 < 2000; omega) fun H2 s2 m2 f2 => jT_g (by rw [sK_32 s2]) (jT_b (z11_put s2 m2 (by show 2 < 2000; omega) fun H3 s3 m3 f3 => jT_g (by rw [sK_32 s3]) ?_))))))
  have f13 := jfr_trans (jfr_trans f1 f2) f3
  have hr3 : jK H3 r = (101, 32) := (jfr_K f13 r).trans hr
  have hb3 : jB H3 r = jB H0 r := funext fun j => jfr_B f13 fun q => nz _ _ q rfl
  refine jT_b (z11_put2 (p := 0) (n := 32) s3 m3 hr3 (by omega) (by omega) (by show 3 + 32 ≤ 2000; omega) fun H4 s4 m4 f4 => ?_)
  have f14 := jfr_trans f13 f4
  rw [hb3] at m4
  refine z11_others27 (bxs := bxs) (l := ztl kd (jB H0 r)) hp ?_ hk 4 0 jfuel H4 rfl (by unfold jfuel; omega) s4 m4 (fun k hk4 => ?_) (jfr_mono f14 fun a j q => Or.inl q)
  · unfold ztl
    rw [List.length_append, zcut_len]
    show 3 + 32 ≤ 2000
    omega
  · have : zoth bxs p (ztl kd (jB H0 r)) 0 k = bxs k := if_neg fun q => Nat.not_lt_zero _ q.1
    rw [this]
    exact zBx11_fr (hb k hk4) f14 fun a j q => by unfold zS11 at q; omega
end OTHERS
