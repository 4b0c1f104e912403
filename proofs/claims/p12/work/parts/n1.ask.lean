/-! What is behind: the row of the tip; both. -/
def p_sm (i : Nat) : Nat := if i ≤ 9 then i else 7 + 2 ^ (i - 8)
def p_sp1 (i : Nat) : Nat := if i ≤ 9 then 1 else 2 ^ (i - 9)
def p_sp2 (i : Nat) : Nat := if i < 9 then 1 else 2 ^ (i - 8)
def p_hh (h i : Nat) : Nat := h - p_sm i
theorem p_hh_s (h i : Nat) : p_hh h (i + 1) = p_hh h i - p_sp2 i := by
  have e : p_sm (i + 1) = p_sm i + p_sp2 i := by
    unfold p_sm p_sp2
    by_cases c : i < 9
    · rw [if_pos (by omega), if_pos (by omega), if_pos c]
    · by_cases c2 : i = 9
      · rw [c2]
        decide
      · rw [if_neg (by omega), if_neg (by omega), if_neg c, show i + 1 - 8 = (i - 8) + 1 by omega, Nat.pow_succ]
        omega
  unfold p_hh
  rw [e, Nat.sub_sub]
theorem p_sp_s (i : Nat) : p_sp1 (i + 1) = p_sp2 i ∧ (9 ≤ i → p_sp2 i = 2 * p_sp1 i) ∧ (i < 9 → p_sp2 i = 1 ∧ p_sp1 i = 1) := by
  unfold p_sp1 p_sp2
  refine ⟨?_, fun h => ?_, fun h => ?_⟩
  · by_cases c : i < 9
    · rw [if_pos (by omega), if_pos c]
    · rw [if_neg (by omega), if_neg c]
      congr 1
  · by_cases c : i = 9
    · rw [c]
      decide
    · rw [if_neg (by omega), if_neg (by omega), show i - 8 = (i - 9) + 1 by omega, Nat.pow_succ]
      omega
  · rw [if_pos h, if_pos (by omega)]
    exact ⟨rfl, rfl⟩
theorem p_sp_lt {i : Nat} (h : i ≤ 18) : p_sp2 i ≤ 1024 ∧ p_sp1 i ≤ 1024 := by
  have : ∀ i, i ≤ 18 → p_sp2 i ≤ 1024 ∧ p_sp1 i ≤ 1024 := by decide
  exact this i h
theorem p_hh_17 {h : Nat} (hh : h < 300) : p_hh h 17 = 0 := by
  have : p_sm 17 = 519 := by decide
  unfold p_hh
  omega
theorem p_hh_le {h i : Nat} : p_hh h i ≤ h := Nat.sub_le _ _
/-- names of the row, and how many -/
def p_nms (bs : List b_k) (tip h : Nat) : Nat → Nat → List UInt8
  | 0, _ => []
  | d + 1, i => b_nm bs (b_at bs tip (p_hh h i)) ++ if p_hh h i = 0 then [] else p_nms bs tip h d (i + 1)
def p_nmn (h : Nat) : Nat → Nat → Nat
  | 0, i => i
  | d + 1, i => if p_hh h i = 0 then i + 1 else p_nmn h d (i + 1)
def p_askm (bs : List b_k) (tip : Nat) : List UInt8 := [jbu (ji2b 3)] ++ [jbu (ji2b (Int32.ofNat (p_nmn (b_ht bs tip) 18 0)))] ++ p_nms bs tip (b_ht bs tip) 18 0
section ASK
variable {bs : List b_k} {os : List Nat} {tip nb p : Nat} {bxs : Nat → List UInt8} {H0 : jH} {Q : Unit → jH → Prop}
theorem z11_ask29 (hw : b_wf bs) (hB0 : b_BC nb bs os H0) (hL0 : b_LN bs os tip H0) (hp : p < 4) (hb0 : p_b11 bxs H0)
    (hk : ∀ H', jsh H' → p_b11 (p_bx1 bxs p (p_askm bs tip)) H' → jfr zTS11 H0 H' → Q () H') :
    ∀ (d i fu : Nat) (ns : List UInt8) (H : jH), i + d = 18 → d < fu → jsh H → jfr zS11 H0 H → zM11 ([jbu (ji2b 3)] ++ [jbu (ji2b 0)] ++ ns) H → ns.length = 32 * i → (0 < i → p_hh (b_ht bs tip) (i - 1) ≠ 0) → ns ++ p_nms bs tip (b_ht bs tip) d i = p_nms bs tip (b_ht bs tip) 18 0 → p_nmn (b_ht bs tip) d i = p_nmn (b_ht bs tip) 18 0 → jT (F_11_askWhatIsBehind_29 fu 32 (Int32.ofNat p) (Int32.ofNat (p_hh (b_ht bs tip) i)) (Int32.ofNat (p_sp1 i)) (Int32.ofNat i) (Int32.ofNat i) H) Q := by
  have tl := hL0.1
  have h3 := b_ht_300 hw tl
  have k11 : ∀ {H}, jsh H → (jK H 32).1 = 11 := fun hs => gT (sK_32 hs)
  have k1 : ∀ {H}, jsh H → (jK H 398).1 = 1 := fun hs => gT (sK_398 hs)
  -- the end
  have fin : ∀ (n : Nat) (ns : List UInt8) (H : jH), n ≤ 18 → jsh H → jfr zS11 H0 H → zM11 ([jbu (ji2b 3)] ++ [jbu (ji2b 0)] ++ ns) H → ns.length = 32 * n → n = p_nmn (b_ht bs tip) 18 0 → ns = p_nms bs tip (b_ht bs tip) 18 0 → jT (B_11_askWhatIsBehind_101 32 (Int32.ofNat p) (Int32.ofNat n) H) Q := fun n ns H hn hs hf hm hl en es => by
    unfold B_11_askWhatIsBehind_101
    rw [sR_32_7 hs]
    refine jT_g (k11 hs) (jT_g (gA (sK_42 hs) (jo_in (n := 1) (by decide) (by decide))) (jT_l ?_))
    rw [show (1 : Int32).toNatClampNeg = 1 from rfl]
    have s1 : jsh (jsB H 42 1 (jbu (ji2b (Int32.ofNat n)))) := jsh_sB hs
    have m1 := p_set11 (w := jbu (ji2b (Int32.ofNat n))) hm
    have f1 : jfr zS11 H0 (jsB H 42 1 (jbu (ji2b (Int32.ofNat n)))) := jfr_sB hf (Or.inr rfl)
    generalize jsB H 42 1 (jbu (ji2b (Int32.ofNat n))) = H1 at *
    have b1 : p_b11 bxs H1 := p_b11_fr hb0 f1 fun a j w => by unfold zS11 at w; omega
    refine jT_g (k11 s1) ?_
    have em : [jbu (ji2b 3)] ++ [jbu (ji2b (Int32.ofNat n))] ++ ns = p_askm bs tip := by
      unfold p_askm
      rw [en, es]
    rw [em] at m1
    have elen : (p_askm bs tip).length ≤ 2000 := by
      rw [← em, List.length_append, List.length_append, hl]
      show 1 + 1 + 32 * n ≤ 2000
      omega
    refine p_post11 s1 hp m1 elen b1 fun H2 s2 b2 f2 => jT_ret (hk H2 s2 b2 (jfr_trans (jfr_mono f1 fun a j w => Or.inl w) f2))
  intro d
  induction d with
  | zero =>
    intro i fu ns H hl hfu hs hf hm hn h0 e1 e2
    exact absurd (p_hh_17 h3) (by have := h0 (by omega); rwa [show i - 1 = 17 by omega] at this)
  | succ d ih =>
    intro i fu ns H hl hfu hs hf hm hn h0 e1 e2
    obtain ⟨fu, rfl⟩ : ∃ k, fu = k + 1 := ⟨fu - 1, by omega⟩
    have hB := b_BC_fr hB0 hf fun a j w => by unfold zS11 at w; omega
    have hL := b_LN_fr hL0 hf fun a j w => by unfold zS11 at w; omega
    have hle : p_hh (b_ht bs tip) i ≤ b_ht bs tip := p_hh_le
    have lt := (b_at_ok hw tl hle).2.2
    obtain ⟨-, hbx⟩ := hB.2.2.2.2 _ lt
    have pos := (b_o_pos hs hB lt).1
    have n32 := hw.2.2.2.1 _ lt
    obtain ⟨sp1, sp2, sp3⟩ := p_sp_s i
    obtain ⟨sl1, sl2⟩ := p_sp_lt (i := i) (by omega)
    have e1i : Int32.ofNat i + 1 = Int32.ofNat (i + 1) := jo_add (a := i) (b := 1)
    unfold F_11_askWhatIsBehind_29 B_11_askWhatIsBehind_29
    rw [sR_32_12 hs, b_at1 hw hs hB hL hle]
    refine jT_neg (by rw [show (20 : Int32) = Int32.ofNat 20 from rfl, jo_le (by decide) (by omega)]; omega) (jT_g (k11 hs) (jT_g (k1 hs) ?_))
    rw [jb_ok]
    refine jT_pos (show ¬ b_o os _ = 0 by omega) (jT_g hbx.1.1 (jT_g (k11 hs) ?_))
    show jT (jb (F_11_put_2 32 (jR H (b_o os (b_at bs tip (p_hh (b_ht bs tip) i))) 1) (Int32.ofNat 0) (Int32.ofNat 32) H) _) Q
    refine p_puts11 (m := b_nm bs (b_at bs tip (p_hh (b_ht bs tip) i))) hs hm hbx.2.2.1.1 (by decide) (by omega) ?_ hbx.2.2.1.2.2 (by rw [n32]) fun H1 s1 m1 f1 => ?_
    · rw [List.length_append, List.length_append, hn, n32]
      show 1 + 1 + 32 * i + 32 ≤ 2000
      omega
    · have f1' := jfr_trans hf f1
      rw [List.append_assoc] at m1
      have hl1 : (ns ++ b_nm bs (b_at bs tip (p_hh (b_ht bs tip) i))).length = 32 * (i + 1) := by
        rw [List.length_append, hn, n32]
        omega
      rw [p_nms] at e1
      rw [p_nmn] at e2
      rw [e1i]
      refine jT_l ?_
      by_cases c : p_hh (b_ht bs tip) i = 0
      · rw [if_pos c, List.append_nil] at e1
        rw [if_pos c] at e2
        exact jT_neg (fun w => w (by rw [c]; rfl)) (fin (i + 1) _ H1 (by omega) s1 f1' m1 hl1 e2 e1)
      · rw [if_neg c, ← List.append_assoc] at e1
        rw [if_neg c] at e2
        have go := ih (i + 1) fu _ H1 (by omega) (by omega) s1 f1' m1 hl1 (fun _ => by rw [Nat.add_sub_cancel]; exact c) e1 e2
        have sub : ∀ s : Nat, s ≤ 1024 → jmaxI 0 (Int32.ofNat (p_hh (b_ht bs tip) i) - Int32.ofNat s) = Int32.ofNat (p_hh (b_ht bs tip) i - s) := fun s hs2 => by
          unfold jmaxI
          by_cases q : s < p_hh (b_ht bs tip) i
          · rw [jo_sub (by omega), if_pos (by rw [show (0 : Int32) = Int32.ofNat 0 from rfl, jo_lt (by decide) (by omega)]; omega)]
          · by_cases q2 : s = p_hh (b_ht bs tip) i
            · rw [← q2, jo_sub (Nat.le_refl _), Nat.sub_self, if_neg (by decide)]
              rfl
            · have := jo_subneg (a := p_hh (b_ht bs tip) i) (b := s) (by omega) (by omega)
              rw [if_neg (by
                rw [Int32.lt_iff_toInt_lt] at this ⊢
                omega), show p_hh (b_ht bs tip) i - s = 0 by omega]
              rfl
        refine jT_pos (fun w => c ((jo_eq (b := 0) (by omega) (by decide)).mp w)) ?_
        unfold B_11_askWhatIsBehind_87
        by_cases c9 : i < 9
        · obtain ⟨t1, t2⟩ := sp3 c9
          rw [sub _ sl2, t2, e1i]
          rw [p_hh_s, sp1, t1] at go
          exact jT_pos (by rw [show (9 : Int32) = Int32.ofNat 9 from rfl, jo_le (by omega) (by decide)]; omega) (jT_l (jT_l go))
        · have t2 := sp2 (by omega)
          have em2 : Int32.ofNat (p_sp1 i) * 2 = Int32.ofNat (p_sp2 i) := by
            rw [show (2 : Int32) = Int32.ofNat 2 from rfl, jo_mul, t2, Nat.mul_comm]
          rw [em2, e1i]
          rw [p_hh_s, sp1] at go
          refine jT_neg (by rw [show (9 : Int32) = Int32.ofNat 9 from rfl, jo_le (by omega) (by decide)]; omega) (jT_l ?_)
          rw [sub _ sl1]
          exact jT_l (jT_l go)
/-- the class asks what is behind -/
theorem z11_ask {α : Type} {R : α → jH → Prop} {k : Unit → jH → Option (α × jH)} (hs : jsh H0) (hw : b_wf bs) (hB0 : b_BC nb bs os H0) (hL0 : b_LN bs os tip H0) (hp : p < 4) (hb0 : p_b11 bxs H0)
    (hk : ∀ H', jsh H' → p_b11 (p_bx1 bxs p (p_askm bs tip)) H' → jfr zTS11 H0 H' → jT (k () H') R) : jT (jb (F_11_askWhatIsBehind 32 (Int32.ofNat p) H0) k) R := by
  have tl := hL0.1
  have k11 : ∀ {H}, jsh H → (jK H 32).1 = 11 := fun hs => gT (sK_32 hs)
  have k1 : ∀ {H}, jsh H → (jK H 398).1 = 1 := fun hs => gT (sK_398 hs)
  unfold F_11_askWhatIsBehind
  refine jT_b (jT_g (k11 hs) ?_)
  refine p_begin11 hs fun H1 s1 m1 f1 => jT_g (k11 s1) ?_
  refine p_put11 s1 m1 (by decide) fun H2 s2 m2 f2 => ?_
  have f2' := jfr_trans f1 f2
  have hB := b_BC_fr hB0 f2' fun a j w => by unfold zS11 at w; omega
  have hL := b_LN_fr hL0 f2' fun a j w => by unfold zS11 at w; omega
  obtain ⟨-, hbx⟩ := hB.2.2.2.2 _ tl
  have e6 : jI H2 (b_o os tip) 6 = Int32.ofNat (b_ht bs tip) := hbx.1.2.2.2.1
  rw [sR_32_12 s2, hL.2.1, e6]
  refine jT_g (k11 s2) (jT_g (k1 s2) (jT_g hbx.1.1 (jT_l ?_)))
  exact z11_ask29 (Q := fun x h => jT (k x h) R) hw hB0 hL0 hp hb0 hk 18 0 jfuel [] H2 rfl (by unfold jfuel; omega) s2 f2' (by rw [List.append_nil]; exact m2) rfl (fun w => absurd w (Nat.lt_irrefl 0)) (List.nil_append _) rfl
end ASK
