/-! Whether a block's root is right: the class, whole. -/
def b_nms (txs : List b_t) : List (List UInt8) := txs.map fun x => x.1
def b_rtd (by_ : List UInt8) (txs : List b_t) : Bool := !(b_mkr 12 (b_nms txs)).1 && decide ((b_mkr 12 (b_nms txs)).2 = w_sl by_ 36 32)
theorem b_nms_32 {txs : List b_t} (h : ∀ x ∈ txs, x.1.length = 32) : ∀ z ∈ b_nms txs, z.length = 32 := fun z hz => by
  obtain ⟨x, hx, rfl⟩ := List.mem_map.mp hz
  exact h x hx
section RT1
variable {Q : Int32 → jH → Prop} {Hs : jH} {B row len A : Nat} {by_ : List UInt8} {txs : List b_t}
theorem z0_rt64 (kB : (jK Hs B).1 = 0) (r0 : jR Hs B 0 = row) (hBn : 422 ≤ B) (hrow : 422 ≤ row) (hkr : jK Hs row = (101, len)) (hlen : len ≤ 2001) (hz : zRow Hs row 1 by_) (hby : by_.length + 1 = len) (h81 : 81 ≤ by_.length) :
    ∀ (f t fu : Nat) (ns : List (List UInt8)) (H : jH), t + f = 12 → f < fu → jsh H → jfr b_Trt Hs H → 1 ≤ ns.length → ns.length ≤ 12 → (∀ z ∈ ns, z.length = 32) → b_nr 407 0 ns H → (∀ H', jsh H' → jfr b_Trt Hs H' → Q (if (!(b_mkr f ns).1 && decide ((b_mkr f ns).2 = w_sl by_ 36 32)) = true then 1 else 0) H') → jT (F_0_isRooted_64 fu B 407 408 43 (Int32.ofNat ns.length) (Int32.ofNat t) H) Q := by
  intro f
  have nT : ∀ a j, 422 ≤ a → ¬ b_Trt a j := fun a j q w => by unfold b_Trt b_Th3 at w; omega
  have fin : ∀ (f : Nat) (ns : List (List UInt8)) (H : jH), jsh H → jfr b_Trt Hs H → 1 ≤ ns.length → (∀ z ∈ ns, z.length = 32) → b_nr 407 0 ns H → b_mkr f ns = (false, ns.getD 0 []) → (∀ H', jsh H' → jfr b_Trt Hs H' → Q (if (!(b_mkr f ns).1 && decide ((b_mkr f ns).2 = w_sl by_ 36 32)) = true then 1 else 0) H') → jT (B_0_isRooted_214 B 407 H) Q := by
    intro f ns H hs hf h1 h32 hn em hq
    have e0 : ns[0]? = some (ns.getD 0 []) := by
      rw [List.getD_eq_getElem?_getD, List.getElem?_eq_getElem h1]
      rfl
    have z1 : zRow H 407 0 (ns.getD 0 []) := hn 0 _ e0
    have l1 := h32 _ (List.mem_of_getElem? e0)
    have kr : jK H row = (101, len) := by rw [jfr_K hf]; exact hkr
    have z2 : zRow H row 37 (w_sl by_ 36 32) := w_sl_row (zRow_eq hz fun i _ => jfr_B hf (nT _ _ hrow)) rfl
    have l2 : (w_sl by_ 36 32).length = 32 := w_sl_len (by omega)
    have hq1 := hq H hs hf
    rw [em] at hq1
    unfold B_0_isRooted_214
    rw [show jR H B 0 = row from (jfr_R hf (nT _ _ hBn)).trans r0]
    refine jT_g (by rw [jfr_K hf]; exact kB) (jT_b (jT_eq (z3_same (p := 0) (q := 37) (sK_407 hs) kr (by decide) (by omega) (by decide) (by decide)) (jT_ret ?_)))
    have er : zeq (jB H 407) (jB H row) 0 37 32 = true ↔ ns.getD 0 [] = w_sl by_ 36 32 := zeq_row z1 z2 l1 l2
    by_cases c : ns.getD 0 [] = w_sl by_ 36 32
    · rw [if_pos (show 0 + 32 ≤ 416 ∧ 37 + 32 ≤ len ∧ zeq (jB H 407) (jB H row) 0 37 32 = true from ⟨by decide, by omega, er.mpr c⟩)]
      rw [show (!((false, ns.getD 0 []) : Bool × List UInt8).1 && decide (((false, ns.getD 0 []) : Bool × List UInt8).2 = w_sl by_ 36 32)) = true from by
        show (true && decide (ns.getD 0 [] = w_sl by_ 36 32)) = true
        rw [decide_eq_true c]
        rfl] at hq1
      exact jT_g (by decide) (jT_ret hq1)
    · rw [if_neg (show ¬ (0 + 32 ≤ 416 ∧ 37 + 32 ≤ len ∧ zeq (jB H 407) (jB H row) 0 37 32 = true) from fun w => c (er.mp w.2.2))]
      rw [show (!((false, ns.getD 0 []) : Bool × List UInt8).1 && decide (((false, ns.getD 0 []) : Bool × List UInt8).2 = w_sl by_ 36 32)) = false from by
        show (true && decide (ns.getD 0 [] = w_sl by_ 36 32)) = false
        rw [decide_eq_false c]
        rfl] at hq1
      exact jT_g (by decide) (jT_ret hq1)
  induction f with
  | zero =>
    intro t fu ns H ht hfu hs hf h1 hl h32 hn hq
    obtain ⟨fu, rfl⟩ : ∃ k, fu = k + 1 := ⟨fu - 1, by omega⟩
    obtain rfl : t = 12 := by omega
    unfold F_0_isRooted_64 B_0_isRooted_64
    exact jT_pos (by decide) (fin 0 ns H hs hf h1 h32 hn rfl hq)
  | succ f ih =>
    intro t fu ns H ht hfu hs hf h1 hl h32 hn hq
    obtain ⟨fu, rfl⟩ : ∃ k, fu = k + 1 := ⟨fu - 1, by omega⟩
    have e1 : Int32.ofNat t + 1 = Int32.ofNat (t + 1) := jo_add (a := t) (b := 1)
    unfold F_0_isRooted_64 B_0_isRooted_64
    refine jT_neg (by show ¬ Int32.ofNat 12 ≤ _; rw [jo_le (by decide) (by omega)]; omega) ?_
    by_cases c : ns.length ≤ 1
    · refine jT_pos (by show _ ≤ Int32.ofNat 1; rw [jo_le (by omega) (by decide)]; exact c) (fin (f + 1) ns H hs hf h1 h32 hn ?_ hq)
      show (if ns.length ≤ 1 then _ else _) = _
      rw [if_pos c]
    · refine jT_neg (by show ¬ _ ≤ Int32.ofNat 1; rw [jo_le (by omega) (by decide)]; exact c) ?_
      have em : b_mkr (f + 1) ns = ((b_pr ns).1 || (b_mkr f (b_pr ns).2).1, (b_mkr f (b_pr ns).2).2) := if_neg c
      rw [em] at hq
      have lp := b_pr_len (ns := ns)
      refine z0_rt83 (Hs := Hs) (n := ns.length) (ns0 := ns) hl (fun H2 s2 f2 p1 p2 => ?_) (fun H2 s2 f2 p1 => ?_) ns.length ns [] jfuel H (Nat.le_refl _) (Or.inl (Nat.zero_add _)) (by unfold jfuel; omega) hs hf h32 (fun x hx => by cases hx) (fun k l hk => by cases hk) (by rw [show 64 * ([] : List (List UInt8)).length = 0 from rfl]; exact hn) rfl rfl
      · rw [e1]
        refine ih (t + 1) fu (b_pr ns).2 H2 (by omega) (by omega) s2 f2 (by omega) (by omega) b_pr_32 p2 fun H3 s3 f3 => ?_
        have := hq H3 s3 f3
        rw [p1, Bool.false_or] at this
        exact this
      · have := hq H2 s2 f2
        rw [p1, Bool.true_or] at this
        exact this
theorem z0_isRooted (hs0 : jsh Hs) (kB : (jK Hs B).1 = 0) (r0 : jR Hs B 0 = row) (r4 : jR Hs B 4 = A) (hBn : 422 ≤ B) (hAn : 422 ≤ A) (hrow : 422 ≤ row) (hkr : jK Hs row = (101, len)) (hlen : len ≤ 2001) (hz : zRow Hs row 1 by_) (hby : by_.length + 1 = len) (h81 : 81 ≤ by_.length) (hA : b_tr A txs Hs) (hl1 : 1 ≤ txs.length) (hl : txs.length ≤ 12)
    (hk : ∀ H', jsh H' → jfr b_Trt Hs H' → Q (if b_rtd by_ txs = true then 1 else 0) H') : jT (F_0_isRooted B 407 408 43 Hs) Q := by
  have nT : ∀ a j, 422 ≤ a → ¬ b_Trt a j := fun a j q w => by unfold b_Trt b_Th3 at w; omega
  obtain ⟨kA, hx⟩ := hA
  have h32 : ∀ x ∈ txs, x.1.length = 32 := fun x hx1 => by
    obtain ⟨i, hi⟩ := List.getElem?_of_mem hx1
    obtain ⟨row, s, len, w⟩ := hx i x hi
    exact w.2.2.2.2.2.2.2.1
  have n32 := b_nms_32 h32
  have nl : (b_nms txs).length = txs.length := List.length_map _
  have loop : ∀ (d i fu : Nat) (H : jH), i + d = txs.length → d < fu → jsh H → jfr b_Trt Hs H → b_nr 407 0 ((b_nms txs).take i) H → jT (F_0_isRooted_26 fu B 407 408 43 (Int32.ofNat txs.length) (Int32.ofNat i) H) Q := by
    intro d
    induction d with
    | zero =>
      intro i fu H hi hfu hs hf hn
      obtain ⟨fu, rfl⟩ : ∃ k, fu = k + 1 := ⟨fu - 1, by omega⟩
      rw [List.take_of_length_le (by omega)] at hn
      unfold F_0_isRooted_26 B_0_isRooted_26
      refine jT_pos (by rw [jo_le (by omega) (by omega)]; omega) ?_
      rw [← nl]
      exact z0_rt64 kB r0 hBn hrow hkr hlen hz hby h81 12 0 jfuel (b_nms txs) H rfl (by unfold jfuel; omega) hs hf (by omega) (by omega) n32 hn hk
    | succ d ih =>
      intro i fu H hi hfu hs hf hn
      obtain ⟨fu, rfl⟩ : ∃ k, fu = k + 1 := ⟨fu - 1, by omega⟩
      have hil : i < txs.length := by omega
      have e1 : Int32.ofNat i + 1 = Int32.ofNat (i + 1) := jo_add (a := i) (b := 1)
      have ei : (32 : Int32) * Int32.ofNat i = Int32.ofNat (32 * i) := jo_mul (a := 32)
      obtain ⟨row2, s, ln, w⟩ := hx i _ (List.getElem?_eq_getElem hil)
      have w' := w_x_jfr w hf nT
      have fA : jR H A i = jR Hs A i := jfr_R hf (nT _ _ hAn)
      have f4 : jR H B 4 = A := (jfr_R hf (nT _ _ hBn)).trans r4
      have kB1 : (jK H B).1 = 0 := by rw [jfr_K hf]; exact kB
      have kA1 : jK H A = (113, txs.length) := by rw [jfr_K hf]; exact kA
      have r3 : jR H (jR Hs A i) 3 = jR Hs A i + 1 := w'.2.2.2.2.1
      have k3 : jK H (jR Hs A i + 1) = (101, 32) := w'.2.2.2.2.2.1
      have z3 : zRow H (jR Hs A i + 1) 0 txs[i].1 := w'.2.2.2.2.2.2.1
      have l3 : txs[i].1.length = 32 := w'.2.2.2.2.2.2.2.1
      unfold F_0_isRooted_26 B_0_isRooted_26
      rw [f4, jo_nat (n := i) (by omega), fA, r3, ei, e1]
      refine jT_neg (by rw [jo_le (by omega) (by omega)]; omega) (jT_g kB1 (jT_g (by rw [kA1]; exact ⟨rfl, jo_in (by omega) hil⟩) (jT_g w'.1.1 (jT_g (b_cpg (p := 0) (n := 32) k3 (sK_407 hs) (by decide) (by decide) (by omega) (by decide) (by decide)) ?_))))
      rw [jo_nat (n := 32 * i) (by omega)]
      refine jT_l (jT_l (ih (i + 1) fu _ (by omega) (by omega) (jsh_cpB hs) (jfr_cpB hf fun q _ _ => Or.inr (Or.inl rfl)) fun k l hkk => ?_))
      by_cases ck : k < i
      · have hk2 : ((b_nms txs).take i)[k]? = some l := by
          rw [List.getElem?_take] at hkk ⊢
          rw [if_pos (by omega)] at hkk
          rw [if_pos ck]
          exact hkk
        have l32 := n32 l (List.mem_of_mem_take (List.mem_of_getElem? hk2))
        refine zRow_eq (hn k l hk2) fun q hq => jcpf_ne fun w => ?_
        have : (32 : Int32).toNatClampNeg = 32 := rfl
        omega
      · rw [List.getElem?_take] at hkk
        by_cases ck2 : k < i + 1
        · rw [if_pos ck2] at hkk
          obtain rfl : k = i := by omega
          have el : txs[k].1 = l := by
            have h1 : (b_nms txs)[k]? = some txs[k].1 := by
              unfold b_nms
              rw [List.getElem?_map, List.getElem?_eq_getElem hil]
              rfl
            rw [h1] at hkk
            exact Option.some.inj hkk
          rw [← el]
          intro q u hq
          have hq2 := (List.getElem?_eq_some_iff.mp hq).1
          have e := jB_cp (H := H) (a := jR Hs A k + 1) (sp := 0) (b := 407) (dp := 32 * k) (n := 32) (j := 32 * k + q) (by omega) (by omega)
          rw [show 0 + (32 * k + q - 32 * k) = 0 + q by omega] at e
          rw [Nat.zero_add]
          exact e.trans (z3 q u hq)
        · rw [if_neg ck2] at hkk
          cases hkk
  have e13 : jminI (Int32.ofNat txs.length) (Int32.ofNat 416 / 32) = Int32.ofNat txs.length := by
    have : ∀ n, n ≤ 12 → jminI (Int32.ofNat n) (Int32.ofNat 416 / 32) = Int32.ofNat n := by decide
    exact this _ hl
  unfold F_0_isRooted
  rw [r4, kA, sK_407 hs0]
  refine jT_g kB (jT_g rfl (jT_g rfl (jT_g (by decide) ?_)))
  show jT (jl (jminI (Int32.ofNat txs.length) (Int32.ofNat 416 / 32)) _) Q
  rw [e13]
  refine jT_l (jT_pos (by show Int32.ofNat 1 ≤ _; rw [jo_le (by decide) (by omega)]; exact hl1) ?_)
  exact loop txs.length 0 jfuel Hs (Nat.zero_add _) (by unfold jfuel; omega) hs0 jfr_refl fun k l hk => by
    rw [List.take_zero] at hk
    cases hk
end RT1
