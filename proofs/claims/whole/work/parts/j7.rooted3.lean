/-! Whether a block's root is right: the reference, whole. -/
theorem y_copy2 {α : Type} {Q : α → jH → Prop} {F : Nat → Int32 → jH → Option (α × jH)} {dst src d0 s0 m : Nat} {H0 : jH} (hs0 : jsh H0) (hds : ∀ i, i < m → ¬ b_Tc dst d0 m src (s0 + i))
    (step : ∀ fu i H, i < m → jsh H → jfr (b_Tc dst d0 m) H0 H → F (fu + 1) (Int32.ofNat i) H = F fu (Int32.ofNat (i + 1)) (jsB H dst (d0 + i) (jB H src (s0 + i))))
    (stop : ∀ fu H, jsh H → jfr (b_Tc dst d0 m) H0 H → (∀ j, j < m → jB H dst (d0 + j) = jB H0 src (s0 + j)) → jT (F (fu + 1) (Int32.ofNat m) H) Q) : ∀ fu, m < fu → jT (F fu 0 H0) Q := by
  have loop : ∀ (d i fu : Nat) (H : jH), i + d = m → d < fu → jsh H → jfr (b_Tc dst d0 m) H0 H → (∀ j, j < i → jB H dst (d0 + j) = jB H0 src (s0 + j)) → jT (F fu (Int32.ofNat i) H) Q := by
    intro d
    induction d with
    | zero =>
      intro i fu H hi hfu hs hf hv
      obtain ⟨fu, rfl⟩ : ∃ k, fu = k + 1 := ⟨fu - 1, by omega⟩
      obtain rfl : i = m := by omega
      exact stop fu H hs hf hv
    | succ d ih =>
      intro i fu H hi hfu hs hf hv
      obtain ⟨fu, rfl⟩ : ∃ k, fu = k + 1 := ⟨fu - 1, by omega⟩
      rw [step fu i H (by omega) hs hf]
      refine ih (i + 1) fu _ (by omega) (by omega) (jsh_sB hs) (jfr_sB hf ⟨rfl, by omega, by omega⟩) fun j hj => ?_
      by_cases c : j = i
      · rw [c]
        exact jB_sBe.trans (jfr_B hf (hds i (by omega)))
      · exact (jB_sBn (by omega)).trans (hv j (by omega))
  intro fu hfu
  exact loop m 0 fu H0 (Nat.zero_add _) hfu hs0 jfr_refl fun j hj => absurd hj (Nat.not_lt_zero j)
section RT3
variable {Q : Int32 → jH → Prop} {Hs : jH} {by_ : List UInt8} {txs : List b_t}
theorem y18_fin (hz : zRow Hs 506 1 by_) (h81 : 81 ≤ by_.length) (fu : Nat) (c : Bool) (ns : List (List UInt8)) (H : jH) (h1 : 1 ≤ ns.length) (h2 : ns.length ≤ 1) (hs : jsh H) (hf : jfr b_Tq8 Hs H) (h32 : ∀ z ∈ ns, z.length = 32) (hn : b_nr 508 0 ns H) (hq : ∀ H', jsh H' → jfr b_Tq8 Hs H' → Q (if (!(c || ((false, ns.getD 0 []) : Bool × List UInt8).1) && decide (((false, ns.getD 0 []) : Bool × List UInt8).2 = w_sl by_ 36 32)) = true then 1 else 0) H') : jT (F_18_isRooted_99 (fu + 1) 421 (b_fi8 c) (Int32.ofNat ns.length) H) Q := by
  have k18 : (jK H 421).1 = 18 := gT (sK_421 hs)
  have e0 : ns[0]? = some (ns.getD 0 []) := by
    rw [List.getD_eq_getElem?_getD, List.getElem?_eq_getElem h1]
    rfl
  have z1 : zRow H 508 0 (ns.getD 0 []) := hn 0 _ e0
  have l1 := h32 _ (List.mem_of_getElem? e0)
  have z2 : zRow H 506 37 (w_sl by_ 36 32) := w_sl_row (zRow_eq hz fun i _ => jfr_B hf (by unfold b_Tq8; omega)) rfl
  have l2 : (w_sl by_ 36 32).length = 32 := w_sl_len (by omega)
  have hq1 := hq H hs hf
  unfold F_18_isRooted_99 B_18_isRooted_99 B_18_isRooted_268 B_18_isRooted_269
  refine jT_pos (by show _ ≤ Int32.ofNat 1; rw [jo_le (by omega) (by decide)]; exact h2) ?_
  cases c with
  | true => exact jT_pos (by decide) (jT_g (by decide) (jT_ret hq1))
  | false =>
    rw [sR_421_50 hs, sR_421_47 hs]
    have er : zeq (jB H 508) (jB H 506) 0 37 32 = true ↔ ns.getD 0 [] = w_sl by_ 36 32 := zeq_row z1 z2 l1 l2
    refine jT_neg (fun w => w rfl) (jT_g k18 (jT_g k18 (jT_b (jT_eq (z18_like (p := 0) (q := 37) (n := 32) (sK_508 hs) (sK_506 hs) (by decide) (by decide) (by decide) (by decide)) (jT_ret ?_)))))
    by_cases cc : ns.getD 0 [] = w_sl by_ 36 32
    · rw [if_pos (er.mpr cc)]
      rw [show (!(false || ((false, ns.getD 0 []) : Bool × List UInt8).1) && decide (((false, ns.getD 0 []) : Bool × List UInt8).2 = w_sl by_ 36 32)) = true from by
        show (true && decide (ns.getD 0 [] = w_sl by_ 36 32)) = true
        rw [decide_eq_true cc]
        rfl] at hq1
      exact jT_neg (by decide) (jT_g (by decide) (jT_ret hq1))
    · rw [if_neg (fun w => cc (er.mp w))]
      rw [show (!(false || ((false, ns.getD 0 []) : Bool × List UInt8).1) && decide (((false, ns.getD 0 []) : Bool × List UInt8).2 = w_sl by_ 36 32)) = false from by
        show (true && decide (ns.getD 0 [] = w_sl by_ 36 32)) = false
        rw [decide_eq_false cc]
        rfl] at hq1
      exact jT_pos rfl (jT_g (by decide) (jT_ret hq1))
theorem y18_rt99 (hz : zRow Hs 506 1 by_) (h81 : 81 ≤ by_.length) :
    ∀ (f fu : Nat) (c : Bool) (ns : List (List UInt8)) (H : jH), f < fu → 1 ≤ ns.length → ns.length ≤ 2 ^ f → ns.length ≤ 12 → jsh H → jfr b_Tq8 Hs H → (∀ z ∈ ns, z.length = 32) → b_nr 508 0 ns H → (∀ H', jsh H' → jfr b_Tq8 Hs H' → Q (if (!(c || (b_mkr f ns).1) && decide ((b_mkr f ns).2 = w_sl by_ 36 32)) = true then 1 else 0) H') → jT (F_18_isRooted_99 fu 421 (b_fi8 c) (Int32.ofNat ns.length) H) Q := by
  intro f
  have k18 : ∀ {H}, jsh H → (jK H 421).1 = 18 := fun hs => gT (sK_421 hs)
  induction f with
  | zero =>
    intro fu c ns H hfu h1 h2 hl hs hf h32 hn hq
    obtain ⟨fu, rfl⟩ : ∃ k, fu = k + 1 := ⟨fu - 1, by omega⟩
    rw [Nat.pow_zero] at h2
    have em : b_mkr 0 ns = (false, ns.getD 0 []) := rfl
    exact y18_fin hz h81 fu c ns H h1 h2 hs hf h32 hn (by rw [← em]; exact hq)
  | succ f ih =>
    intro fu c ns H hfu h1 h2 hl hs hf h32 hn hq
    obtain ⟨fu, rfl⟩ : ∃ k, fu = k + 1 := ⟨fu - 1, by omega⟩
    by_cases cl : ns.length ≤ 1
    · have em : b_mkr (f + 1) ns = (false, ns.getD 0 []) := if_pos cl
      exact y18_fin hz h81 fu c ns H h1 cl hs hf h32 hn (by rw [← em]; exact hq)
    · have em : b_mkr (f + 1) ns = ((b_pr ns).1 || (b_mkr f (b_pr ns).2).1, (b_mkr f (b_pr ns).2).2) := if_neg cl
      rw [em] at hq
      have lp := b_pr_len (ns := ns)
      rw [Nat.pow_succ] at h2
      have go : ∀ H2, jsh H2 → jfr b_Tq8 Hs H2 → b_nr 508 0 ns H2 → (∀ l, ns.length % 2 = 1 → ns.getLast? = some l → zRow H2 508 (32 * ns.length) l) → jT (B_18_isRooted_150 (F_18_isRooted_99 fu) 421 (b_fi8 c) (Int32.ofNat ns.length) H2) Q := by
        intro H2 s2 f2 n2 hod
        unfold B_18_isRooted_150
        refine y18_rt152 (Hs := Hs) (n := ns.length) (ns0 := ns) (c0 := c) hl (fun H3 s3 f3 p3 => ?_) ns.length ns [] c jfuel H2 (Nat.le_refl _) (Or.inl (Nat.zero_add _)) (by unfold jfuel; omega) s2 f2 h32 (fun x hx => by cases hx) (fun k l hk => by cases hk) (by rw [show 64 * ([] : List (List UInt8)).length = 0 from rfl]; exact n2) hod rfl rfl
        rw [← lp]
        refine ih fu (c || (b_pr ns).1) (b_pr ns).2 H3 (by omega) (by omega) (by generalize 2 ^ f = z at *; omega) (by omega) s3 f3 b_pr_32 p3 fun H4 s4 f4 => ?_
        have := hq H4 s4 f4
        rw [← Bool.or_assoc] at this
        exact this
      have er : jrem (Int32.ofNat ns.length) 2 = Int32.ofNat (ns.length % 2) := jo_rem (b := 2) (by omega) (by decide)
      unfold F_18_isRooted_99 B_18_isRooted_99
      refine jT_neg (by show ¬ _ ≤ Int32.ofNat 1; rw [jo_le (by omega) (by decide)]; exact cl) ?_
      by_cases co : ns.length % 2 = 1
      · obtain ⟨l, hll⟩ : ∃ l, ns[ns.length - 1]? = some l := ⟨_, List.getElem?_eq_getElem (by omega)⟩
        have zl := hn _ l hll
        have l32 := h32 l (List.mem_of_getElem? hll)
        rw [Nat.zero_add] at zl
        have e32 : ∀ k : Nat, (32 : Int32) * Int32.ofNat ns.length + Int32.ofNat k = Int32.ofNat (32 * ns.length + k) := fun k => by rw [show (32 : Int32) = Int32.ofNat 32 from rfl, jo_mul, jo_add]
        have e33 : ∀ k : Nat, (32 : Int32) * Int32.ofNat ns.length - 32 + Int32.ofNat k = Int32.ofNat (32 * (ns.length - 1) + k) := fun k => by
          rw [show (32 : Int32) * Int32.ofNat ns.length = Int32.ofNat (32 * ns.length) from jo_mul (a := 32), show Int32.ofNat (32 * ns.length) - 32 = Int32.ofNat (32 * ns.length - 32) from jo_sub (b := 32) (by omega), jo_add]
          congr 1
          omega
        refine y_copy2 (F := fun fu2 i H => F_18_isRooted_106 (F_18_isRooted_99 fu) fu2 421 (b_fi8 c) (Int32.ofNat ns.length) i H) (dst := 508) (src := 508) (d0 := 32 * ns.length) (s0 := 32 * (ns.length - 1)) (m := 32) hs (fun i hi w => by unfold b_Tc at w; omega) (fun fu2 i H2 hi s2 f2 => ?_) (fun fu2 H2 s2 f2 v2 => ?_) jfuel (by unfold jfuel; omega)
        · show B_18_isRooted_106 (F_18_isRooted_99 fu) (F_18_isRooted_106 (F_18_isRooted_99 fu) fu2) 421 _ _ _ H2 = F_18_isRooted_106 (F_18_isRooted_99 fu) fu2 421 _ _ _ _
          unfold B_18_isRooted_106
          rw [er, co, if_neg (by show ¬ Int32.ofNat 32 ≤ _; rw [jo_le (by decide) (by omega)]; omega), jg_t (by decide), if_neg (fun w => w rfl), jg_t (k18 s2), jg_t (k18 s2), sR_421_50 s2, e33, e32, show Int32.ofNat i + 1 = Int32.ofNat (i + 1) from jo_add (a := i) (b := 1), jg_t (gA (sK_508 s2) (jo_in (by omega) (by show _ < 448; omega))), jg_t (gA (sK_508 s2) (jo_in (by omega) (by show _ < 448; omega))), jo_nat (n := 32 * (ns.length - 1) + i) (by omega), jo_nat (n := 32 * ns.length + i) (by omega), jbu_b]
          rfl
        · show jT (B_18_isRooted_106 (F_18_isRooted_99 fu) (F_18_isRooted_106 (F_18_isRooted_99 fu) fu2) 421 _ _ _ H2) Q
          unfold B_18_isRooted_106
          refine jT_pos (by decide) (go H2 s2 (jfr_trans hf (jfr_mono f2 fun a j w => by unfold b_Tc at w; unfold b_Tq8; omega)) (b_nr_fr hn h32 fun q _ q2 => jfr_B f2 fun w => by unfold b_Tc at w; omega) fun l2 _ hl2 => ?_)
          rw [List.getLast?_eq_getElem?, hll] at hl2
          have el : l = l2 := Option.some.inj hl2
          rw [← el]
          intro q u hqu
          have hq2 := (List.getElem?_eq_some_iff.mp hqu).1
          rw [v2 q (by omega)]
          exact zl q u hqu
      · obtain ⟨g, eg⟩ : ∃ g, jfuel = g + 1 := ⟨4294967295, rfl⟩
        rw [eg]
        unfold F_18_isRooted_106 B_18_isRooted_106
        rw [er]
        exact jT_neg (by decide) (jT_g (by decide) (jT_pos (fun w => co ((jo_eq (b := 1) (by omega) (by decide)).mp w)) (go H hs hf hn fun l o _ => absurd o co)))
end RT3
