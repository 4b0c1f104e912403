/-! The reference keeps a block that came. -/
def b_Tc (dst d0 m : Nat) : Nat → Nat → Prop := fun a j => a = dst ∧ d0 ≤ j ∧ j < d0 + m
theorem y_copy {α : Type} {Q : α → jH → Prop} {F : Nat → Int32 → jH → Option (α × jH)} {dst src d0 s0 m : Nat} {H0 : jH} (hs0 : jsh H0) (hds : src ≠ dst)
    (step : ∀ fu i H, i < m → jsh H → jfr (b_Tc dst d0 m) H0 H → F (fu + 1) (Int32.ofNat i) H = F fu (Int32.ofNat (i + 1)) (jsB H dst (d0 + i) (jB H src (s0 + i))))
    (stop : ∀ fu H, jsh H → jfr (b_Tc dst d0 m) H0 H → (∀ j, j < m → jB H dst (d0 + j) = jB H0 src (s0 + j)) → jT (F (fu + 1) (Int32.ofNat m) H) Q) : ∀ fu, m < fu → jT (F fu 0 H0) Q := by
  have loop : ∀ (d i fu : Nat) (H : jH), i + d = m → d < fu → jsh H → jfr (b_Tc dst d0 m) H0 H → (∀ j, j < i → jB H dst (d0 + j) = jB H0 src (s0 + j)) → jT (F fu (Int32.ofNat i) H) Q := by
    intro d
    induction d with
    | zero =>
      intro i fu H hi hfu hs hf hv
      obtain ⟨fu, rfl⟩ : ∃ k, fu = k + 1 := ⟨fu - 1, by omega⟩
      obtain rfl : i = m := by omega
      exact stop fu H hs hf hv
    | succ d ih =>
      intro i fu H hi hfu hs hf hv
      obtain ⟨fu, rfl⟩ : ∃ k, fu = k + 1 := ⟨fu - 1, by omega⟩
      rw [step fu i H (by omega) hs hf]
      refine ih (i + 1) fu _ (by omega) (by omega) (jsh_sB hs) (jfr_sB hf ⟨rfl, by omega, by omega⟩) fun j hj => ?_
      by_cases c : j = i
      · rw [c]
        exact jB_sBe.trans (jfr_B hf fun w => hds w.1)
      · exact (jB_sBn (by omega)).trans (hv j (by omega))
  intro fu hfu
  exact loop m 0 fu H0 (Nat.zero_add _) hfu hs0 jfr_refl fun j hj => absurd hj (Nat.not_lt_zero j)
def b_Tar (n : Nat) : Nat → Nat → Prop := fun a j => b_Tc 474 (2000 * n) 2000 a j ∨ b_Tc 476 (32 * n) 32 a j ∨ b_Tc 479 (384 * n) 384 a j ∨ (a = 475 ∧ j = n)
section ARR
variable {α : Type} {Q : Int32 → jH → Prop} {H0 : jH}
/-- the rest of it, once the block is put by -/
def B_18_ar (n : Nat) (H : jH) : Option (Int32 × jH) :=
  jg ((jK H 421).1 = 18) (jl (jI H 421 13) fun x4 => jg ((jK H 421).1 = 18) (jb (F_18_choose 421 H) fun _ h6 => jg ((jK h6 421).1 = 18) (if jI h6 421 13 = x4 then B_18_arrives_352 421 (Int32.ofNat n) h6 else jg ((jK h6 421).1 = 18) (jb (F_18_renew 421 x4 h6) fun _ h8 => B_18_arrives_352 421 (Int32.ofNat n) h8))))
theorem y18_keep {n : Nat} {by_ nm : List UInt8} {txs : List b_t} (hs : jsh H0) (hn : n < 300) (hl : by_.length ≤ 1999) (hz : zRow H0 506 1 by_) (hnm : nm.length = 32) (hzn : zRow H0 507 0 nm) (h14 : jI H0 421 14 = Int32.ofNat txs.length) (ht : txs.length ≤ 12) (hx : ∀ t x, txs[t]? = some x → zRow H0 480 (32 * t) x.1 ∧ x.1.length = 32)
    (hk : ∀ H', jsh H' → jfr (b_Tar n) H0 H' → zRow H' 474 (2000 * n) by_ → jI H' 475 n = Int32.ofNat by_.length → zRow H' 476 (32 * n) nm → (∀ t x, txs[t]? = some x → zRow H' 479 (384 * n + 32 * t) x.1) → jT (B_18_ar n H') Q) : jT (F_18_arrives_206 jfuel 421 (Int32.ofNat by_.length) (Int32.ofNat n) 0 H0) Q := by
  have k18 : ∀ {H}, jsh H → (jK H 421).1 = 18 := fun hs => gT (sK_421 hs)
  have e1 : ∀ i : Nat, Int32.ofNat i + 1 = Int32.ofNat (i + 1) := fun i => jo_add (a := i) (b := 1)
  have e1' : ∀ i : Nat, 1 + Int32.ofNat i = Int32.ofNat (1 + i) := fun i => jo_add (a := 1) (b := i)
  have e2000 : ∀ i : Nat, (2000 : Int32) * Int32.ofNat n + Int32.ofNat i = Int32.ofNat (2000 * n + i) := fun i => by rw [show (2000 : Int32) = Int32.ofNat 2000 from rfl, jo_mul, jo_add]
  have e32 : ∀ i : Nat, (32 : Int32) * Int32.ofNat n + Int32.ofNat i = Int32.ofNat (32 * n + i) := fun i => by rw [show (32 : Int32) = Int32.ofNat 32 from rfl, jo_mul, jo_add]
  have e384 : ∀ i : Nat, (384 : Int32) * Int32.ofNat n + Int32.ofNat i = Int32.ofNat (384 * n + i) := fun i => by rw [show (384 : Int32) = Int32.ofNat 384 from rfl, jo_mul, jo_add]
  refine y_copy (F := fun fu i H => F_18_arrives_206 fu 421 (Int32.ofNat by_.length) (Int32.ofNat n) i H) (dst := 474) (src := 506) (d0 := 2000 * n) (s0 := 1) (m := by_.length) hs (by decide) (fun fu i H hi hs1 f1 => ?_) (fun fu H1 s1 f1 v1 => ?_) jfuel (by unfold jfuel; omega)
  · show B_18_arrives_206 (F_18_arrives_206 fu) 421 _ _ _ H = F_18_arrives_206 fu 421 _ _ _ _
    unfold B_18_arrives_206
    rw [if_neg (by rw [jo_le (by omega) (by omega)]; omega), jg_t (k18 hs1), jg_t (k18 hs1), sR_421_47 hs1, sR_421_6 hs1, e1', e2000, e1, jg_t (gA (sK_506 hs1) (jo_in (by omega) (by show _ < 2000; omega))), jg_t (gA (sK_474 hs1) (jo_in (by omega) (by show _ < 600000; omega))), jo_nat (n := 1 + i) (by omega), jo_nat (n := 2000 * n + i) (by omega), jbu_b]
    rfl
  show jT (F_18_arrives_206 (fu + 1) 421 _ _ _ H1) Q
  unfold F_18_arrives_206 B_18_arrives_206
  refine jT_pos (by rw [jo_le (by omega) (by omega)]; exact Nat.le_refl _) ?_
  have f1' : jfr (b_Tar n) H0 H1 := jfr_mono f1 fun a j w => Or.inl (by unfold b_Tc at w ⊢; omega)
  refine y_copy (F := fun fu i H => F_18_arrives_244 fu 421 (Int32.ofNat by_.length) (Int32.ofNat n) i H) (dst := 476) (src := 507) (d0 := 32 * n) (s0 := 0) (m := 32) s1 (by decide) (fun fu i H hi hs1 f1 => ?_) (fun fu H2 s2 f2 v2 => ?_) jfuel (by unfold jfuel; omega)
  · show B_18_arrives_244 (F_18_arrives_244 fu) 421 _ _ _ H = F_18_arrives_244 fu 421 _ _ _ _
    unfold B_18_arrives_244
    rw [if_neg (by show ¬ Int32.ofNat 32 ≤ _; rw [jo_le (by omega) (by omega)]; omega), jg_t (k18 hs1), jg_t (k18 hs1), sR_421_49 hs1, sR_421_8 hs1, e32, e1, jg_t (gA (sK_507 hs1) (jo_in (by omega) (by show _ < 32; omega))), jg_t (gA (sK_476 hs1) (jo_in (by omega) (by show _ < 9600; omega))), jo_nat (n := i) (by omega), jo_nat (n := 32 * n + i) (by omega), jbu_b, Nat.zero_add]
    rfl
  show jT (F_18_arrives_244 (fu + 1) 421 _ _ _ H2) Q
  unfold F_18_arrives_244 B_18_arrives_244
  refine jT_pos (by decide) ?_
  have f2' : jfr (b_Tar n) H0 H2 := jfr_trans f1' (jfr_mono f2 fun a j w => Or.inr (Or.inl w))
  have h14' : ∀ {H}, jfr (b_Tar n) H0 H → (32 : Int32) * jI H 421 14 = Int32.ofNat (32 * txs.length) := fun hf => by
    rw [(jfr_I hf (by unfold b_Tar b_Tc; omega)).trans h14]
    exact jo_mul (a := 32)
  refine y_copy (F := fun fu i H => F_18_arrives_280 fu 421 (Int32.ofNat by_.length) (Int32.ofNat n) i H) (dst := 479) (src := 480) (d0 := 384 * n) (s0 := 0) (m := 32 * txs.length) s2 (by decide) (fun fu i H hi hs1 f1 => ?_) (fun fu H3 s3 f3 v3 => ?_) jfuel (by unfold jfuel; omega)
  · have f1'' : jfr (b_Tar n) H0 H := jfr_trans f2' (jfr_mono f1 fun a j w => Or.inr (Or.inr (Or.inl (by unfold b_Tc at w ⊢; omega))))
    show B_18_arrives_280 (F_18_arrives_280 fu) 421 _ _ _ H = F_18_arrives_280 fu 421 _ _ _ _
    unfold B_18_arrives_280
    rw [jg_t (k18 hs1), h14' f1'', if_neg (by rw [jo_le (by omega) (by omega)]; omega), jg_t (k18 hs1), jg_t (k18 hs1), sR_421_12 hs1, sR_421_11 hs1, e384, e1, jg_t (gA (sK_480 hs1) (jo_in (by omega) (by show _ < 384; omega))), jg_t (gA (sK_479 hs1) (jo_in (by omega) (by show _ < 115200; omega))), jo_nat (n := i) (by omega), jo_nat (n := 384 * n + i) (by omega), jbu_b, Nat.zero_add]
    rfl
  have f3' : jfr (b_Tar n) H0 H3 := jfr_trans f2' (jfr_mono f3 fun a j w => Or.inr (Or.inr (Or.inl (by unfold b_Tc at w ⊢; omega))))
  show jT (F_18_arrives_280 (fu + 1) 421 _ _ _ H3) Q
  unfold F_18_arrives_280 B_18_arrives_280
  rw [h14' f3', sR_421_7 s3, sK_475 s3, jo_nat (n := n) (by omega)]
  refine jT_g (k18 s3) (jT_pos (by rw [jo_le (by omega) (by omega)]; exact Nat.le_refl _) (jT_g (k18 s3) (jT_g ⟨rfl, by decide, jo_in (by omega) hn⟩ (jT_l ?_))))
  refine hk _ (jsh_sI s3 (by decide)) (jfr_sI f3' (Or.inr (Or.inr (Or.inr ⟨rfl, rfl⟩)))) (fun i u hi => ?_) jI_sIe (fun i u hi => ?_) (fun t x hx1 i u hi => ?_)
  · have il := (List.getElem?_eq_some_iff.mp hi).1
    show jB H3 474 (2000 * n + i) = u
    rw [jfr_B f3 (by unfold b_Tc; omega), jfr_B f2 (by unfold b_Tc; omega), v1 i il]
    exact hz i u hi
  · have il := (List.getElem?_eq_some_iff.mp hi).1
    show jB H3 476 (32 * n + i) = u
    rw [jfr_B f3 (by unfold b_Tc; omega), v2 i (by omega), jfr_B f1 (by unfold b_Tc; omega)]
    exact hzn i u hi
  · have il := (List.getElem?_eq_some_iff.mp hi).1
    have tl := (List.getElem?_eq_some_iff.mp hx1).1
    obtain ⟨q1, q2⟩ := hx t x hx1
    show jB H3 479 (384 * n + 32 * t + i) = u
    rw [show 384 * n + 32 * t + i = 384 * n + (32 * t + i) by omega, v3 (32 * t + i) (by omega), Nat.zero_add, jfr_B f2 (by unfold b_Tc; omega), jfr_B f1 (by unfold b_Tc; omega)]
    exact q1 i u hi
end ARR
/-- the reference's rows with one block more -/
theorem b_D_new {bs : List b_k} {b : b_k} {H0 H H' : jH} (hw : b_wf bs) (hb : b_nw bs b) (hD : b_D bs H0) (e : ∀ a, a = 474 ∨ a = 475 ∨ a = 476 ∨ a = 479 → ∀ j, jB H a j = jB H0 a j ∧ jI H a j = jI H0 a j) (hf : jfr (b_Tar bs.length) H H') (hlo : ∀ x ∈ b.2.2.2.2.2.2, x.1.length = 32) (hlb : ∀ k, k < bs.length → ∀ x ∈ b_tx bs k, x.1.length = 32) (hl : ∀ k, k < bs.length → (b_by bs k).length ≤ 2000 ∧ (b_tx bs k).length ≤ 12)
    (h1 : zRow H' 474 (2000 * bs.length) b.1) (h2 : jI H' 475 bs.length = Int32.ofNat b.1.length) (h3 : zRow H' 476 (32 * bs.length) b.2.1) (h4 : ∀ t x, b.2.2.2.2.2.2[t]? = some x → zRow H' 479 (384 * bs.length + 32 * t) x.1) : b_D (bs ++ [b]) H' := fun k hk => by
  rw [b_len1] at hk
  by_cases c : k < bs.length
  · obtain ⟨q1, q2, q3, q4⟩ := hD k c
    obtain ⟨l1, l2⟩ := hl k c
    rw [b_by_lo c, b_nm_lo c, b_tx_lo c]
    refine ⟨zRow_eq q1 fun i hi => ?_, ?_, zRow_eq q3 fun i hi => ?_, fun t x hx => zRow_eq (q4 t x hx) fun i hi => ?_⟩
    · rw [jfr_B hf (by unfold b_Tar b_Tc; omega)]
      exact (e 474 (by omega) _).1
    · rw [jfr_I hf (by unfold b_Tar b_Tc; omega), (e 475 (by omega) _).2]
      exact q2
    · have := hw.2.2.2.1 k c
      rw [jfr_B hf (by unfold b_Tar b_Tc; omega)]
      exact (e 476 (by omega) _).1
    · have tl := (List.getElem?_eq_some_iff.mp hx).1
      have := hlb k c x (List.mem_of_getElem? hx)
      rw [jfr_B hf (by unfold b_Tar b_Tc; omega)]
      exact (e 479 (by omega) _).1
  · obtain rfl : k = bs.length := by omega
    unfold b_by b_nm b_tx
    rw [b_g_new]
    exact ⟨h1, h2, h3, h4⟩
