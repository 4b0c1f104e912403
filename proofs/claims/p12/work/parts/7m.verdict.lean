/-! The verdict on what was sent: both programs' messages. -/
theorem zBx11_fr {S : Nat → Nat → Prop} {p : Nat} {bx : List UInt8} {H H' : jH} (h : zBx11 p bx H) (hf : jfr S H H') (hS : ∀ a j, S a j → a ≠ 36 + p ∧ ¬ (a = 40 ∧ j = p) ∧ ¬ (a = 41 ∧ j = p)) : zBx11 p bx H' := by
  obtain ⟨b1, b2, s, b3, b4, b5⟩ := h
  exact ⟨b1, (jfr_I hf fun q => (hS _ _ q).2.2 ⟨rfl, rfl⟩).trans b2, s, b3, (jfr_I hf fun q => (hS _ _ q).2.1 ⟨rfl, rfl⟩).trans b4, fun i u hi => (jfr_B hf fun q => (hS _ _ q).1 rfl).trans (b5 i u hi)⟩
def zvd (v : Int32) (nb : Nat → UInt8) : List UInt8 := [jbu (ji2b 8), jbu (ji2b v)] ++ zcut nb 0 32
def zVS11 (p : Nat) : Nat → Nat → Prop := fun a j => zS11 a j ∨ (a = 36 + p ∨ (a = 41 ∧ j = p))
section VERD
variable {Q : Unit → jH → Prop} {bx : List UInt8} {p r : Nat} {v : Int32} {nb : Nat → UInt8}
theorem z11_verdict14 {H0 : jH} (hp : p < 4) (hb : zBx11 p bx H0) (hr : (r = 0 ∧ ∀ i, nb i = 0) ∨ (r ≠ 0 ∧ r ≠ 42 ∧ r ≠ 32 ∧ jK H0 r = (101, 32) ∧ ∀ i, nb i = jB H0 r i))
    (hk : ∀ H', jsh H' → zBx11 p (zpo bx (zvd v nb)) H' → jfr (zVS11 p) H0 H' → Q () H') :
    ∀ (d i f : Nat) (H : jH), i + d = 32 → d < f → jsh H → zM11 ([jbu (ji2b 8), jbu (ji2b v)] ++ zcut nb 0 i) H → jfr zS11 H0 H → jT (F_11_answerVerdict_14 f 32 (Int32.ofNat p) r (Int32.ofNat i) H) Q := by
  intro d
  induction d with
  | zero =>
    intro i f H hi hf hs hm hfr
    obtain rfl : i = 32 := by omega
    obtain ⟨f, rfl⟩ : ∃ k, f = k + 1 := ⟨f - 1, by omega⟩
    unfold F_11_answerVerdict_14 B_11_answerVerdict_14
    have hb2 := zBx11_fr hb hfr fun a j q => by unfold zS11 at q; omega
    refine jT_pos (by decide) (jT_g (by rw [sK_32 hs]) (jT_b (z11_post hs hp hm (by rw [List.length_append, zcut_len]; show 2 + 32 ≤ 2000; omega) hb2 fun H' h1 h2 h3 h4 => jT_ret (hk H' h1 h3 (jfr_trans (jfr_mono hfr fun _ _ q => Or.inl q) (jfr_mono h4 fun _ _ q => Or.inr q))))))
  | succ d ih =>
    intro i f H hi hf hs hm hfr
    obtain ⟨f, rfl⟩ : ∃ k, f = k + 1 := ⟨f - 1, by omega⟩
    unfold F_11_answerVerdict_14 B_11_answerVerdict_14 B_11_answerVerdict_33 B_11_answerVerdict_41
    have e_i : Int32.ofNat i + 1 = Int32.ofNat (i + 1) := jo_add (a := i) (b := 1)
    have k0 : (jK H 32).1 = 11 := by rw [sK_32 hs]
    have hlen : ([jbu (ji2b 8), jbu (ji2b v)] ++ zcut nb 0 i).length < 2000 := by
      rw [List.length_append, zcut_len]
      show 2 + i < 2000
      omega
    have hgo : ∀ H', jsh H' → zM11 ([jbu (ji2b 8), jbu (ji2b v)] ++ zcut nb 0 i ++ [nb i]) H' → jfr zS11 H H' → jT (F_11_answerVerdict_14 f 32 (Int32.ofNat p) r (Int32.ofNat (i + 1)) H') Q := fun H' h1 h2 h3 => by
      refine ih (i + 1) f H' (by omega) (by omega) h1 ?_ (jfr_trans hfr h3)
      rw [zcut_succ, Nat.zero_add, ← List.append_assoc]
      exact h2
    refine jT_neg (by rw [show (32 : Int32) = Int32.ofNat 32 from rfl, jo_le (by omega) (by omega)]; omega) ?_
    rcases hr with ⟨r0, hz⟩ | ⟨r0, r1, r2, r3, hz⟩
    · refine jT_pos r0 (jT_g k0 (jT_b (z11_put hs hm hlen fun H' h1 h2 h3 => jT_l ?_)))
      rw [e_i]
      refine hgo H' h1 ?_ h3
      rw [hz]
      exact h2
    · have hk2 : jK H r = (101, 32) := (jfr_K hfr r).trans r3
      have hv : jB H r i = nb i := (jfr_B hfr fun q => by unfold zS11 at q; omega).trans (hz i).symm
      rw [hk2, jo_nat (n := i) (by omega), hv]
      refine jT_neg r0 (jT_g rfl (jT_pos (by rw [show (Int32.ofNat ((101, 32) : Nat × Nat).2) = Int32.ofNat 32 from rfl, jo_lt (by omega) (by omega)]; omega) (jT_g ⟨rfl, jo_in (by omega) (by show i < 32; omega)⟩ (jT_g k0 (jT_b (z11_put hs hm hlen fun H' h1 h2 h3 => jT_l ?_))))))
      rw [e_i]
      rw [jbu_ib] at h2
      exact hgo H' h1 h2 h3
theorem z11_verdict {H0 : jH} (hs : jsh H0) (hp : p < 4) (hb : zBx11 p bx H0) (hr : (r = 0 ∧ ∀ i, nb i = 0) ∨ (r ≠ 0 ∧ r ≠ 42 ∧ r ≠ 32 ∧ jK H0 r = (101, 32) ∧ ∀ i, nb i = jB H0 r i))
    (hk : ∀ H', jsh H' → zBx11 p (zpo bx (zvd v nb)) H' → jfr (zVS11 p) H0 H' → Q () H') : jT (F_11_answerVerdict 32 (Int32.ofNat p) v r H0) Q := by
  unfold F_11_answerVerdict
  refine jT_g (by rw [sK_32 hs]) (jT_b (z11_begin hs fun H1 s1 m1 f1 => jT_g (by rw [sK_32 s1]) (jT_b (z11_put s1 m1 (by decide) fun H2 s2 m2 f2 => ?_))))
  exact z11_verdict14 hp hb hr hk 32 0 jfuel H2 rfl (by unfold jfuel; omega) s2 m2 (jfr_trans f1 f2)
end VERD
