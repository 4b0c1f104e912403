/-! Whether a block's root is right: the class. -/
def b_Trt : Nat → Nat → Prop := fun a j => b_Th3 a j ∨ a = 407 ∨ a = 408
theorem b_cpg {H : jH} {r q p d la lb n : Nat} (ka : jK H r = (101, la)) (kb : jK H q = (101, lb)) (hq : 32 ≤ q) (h1 : p + n ≤ la) (h2 : d + n ≤ lb) (hla : la < 2147483648) (hlb : lb < 2147483648) : jcg H 101 r (Int32.ofNat p) q (Int32.ofNat d) (Int32.ofNat n) := by
  have i1 := jo_int (n := p) (by omega)
  have i2 := jo_int (n := d) (by omega)
  have i3 := jo_int (n := n) (by omega)
  have ea : (jK H r).2 = la := by rw [ka]
  have eb : (jK H q).2 = lb := by rw [kb]
  exact ⟨by rw [ka], by rw [kb], by unfold jF0; omega, by omega, by omega, by omega, by omega, by omega⟩
section RT0
variable {Q : Int32 → jH → Prop} {Hs : jH} {B : Nat} {tn : Int32}
theorem z0_pair {k83 : Nat → Nat → Nat → Nat → Int32 → Int32 → Int32 → Int32 → jH → Option (Int32 × jH)} {a b : List UInt8} {i j : Nat} {n : Int32} {H : jH} (hs : jsh H) (hf : jfr b_Trt Hs H) (ha : a.length = 32) (hb : b.length = 32) (h1 : zRow H 407 (32 * i) a) (h2 : zRow H 407 (32 * i + 32) b) (hi : i ≤ 11) (hj : j ≤ 11)
    (hk : ∀ H', jsh H' → jfr b_Trt Hs H' → zRow H' 407 (32 * j) (b_hs (a ++ b)) → (∀ q, q < 32 * j ∨ 32 * j + 32 ≤ q → jB H' 407 q = jB H 407 q) → jT (k83 B 407 408 43 n tn (Int32.ofNat (j + 1)) (Int32.ofNat (i + 2)) H') Q) : jT (B_0_isRooted_169 k83 B 407 408 43 n tn (Int32.ofNat j) (Int32.ofNat i) H) Q := by
  have ei : (32 : Int32) * Int32.ofNat i = Int32.ofNat (32 * i) := jo_mul (a := 32)
  have ej : (32 : Int32) * Int32.ofNat j = Int32.ofNat (32 * j) := jo_mul (a := 32)
  have e1 : Int32.ofNat j + 1 = Int32.ofNat (j + 1) := jo_add (a := j) (b := 1)
  have e2 : Int32.ofNat i + 2 = Int32.ofNat (i + 2) := jo_add (a := i) (b := 2)
  unfold B_0_isRooted_169
  rw [ei, ej, e1, e2]
  refine jT_g (by rw [sK_43 hs]) (jT_b ?_)
  refine z3_name 407 416 (32 * i) 64 408 32 (by omega) (by decide) (by decide) ⟨Nat.le_refl _, by decide⟩ (by decide) H hs (sK_407 hs) (sK_408 hs) fun H2 s2 f2 v2 => ?_
  have f2' : jfr b_Trt Hs H2 := jfr_trans hf (jfr_mono f2 fun a j w => by unfold b_Trt b_Th3; omega)
  refine jT_g (b_cpg (p := 0) (n := 32) (sK_408 s2) (sK_407 s2) (by decide) (by decide) (by omega) (by decide) (by decide)) ?_
  rw [jo_nat (n := 32 * j) (by omega)]
  refine jT_l (jT_l (jT_l (hk _ (jsh_cpB s2) (jfr_cpB f2' fun q _ _ => Or.inr (Or.inl rfl)) (b_hs_pair ha hb h1 h2 fun k hk => ?_) fun q hq => ?_)))
  · have e := jB_cp (H := H2) (a := 408) (sp := 0) (b := 407) (dp := 32 * j) (n := 32) (j := 32 * j + k) (by omega) (by omega)
    refine e.trans ?_
    rw [show 0 + (32 * j + k - 32 * j) = k by omega]
    exact v2 k hk
  · have e : jB (jcpB H2 408 0 407 (32 * j) 32) 407 q = jB H2 407 q := jcpf_ne fun w => by omega
    exact e.trans (jfr_B f2 (by omega))
/-- one level -/
theorem z0_rt83 {k64 : Nat → Nat → Nat → Nat → Int32 → Int32 → jH → Option (Int32 × jH)} {n : Nat} {ns0 : List (List UInt8)} (hn : n ≤ 12)
    (hk1 : ∀ H', jsh H' → jfr b_Trt Hs H' → (b_pr ns0).1 = false → b_nr 407 0 (b_pr ns0).2 H' → jT (k64 B 407 408 43 (Int32.ofNat (b_pr ns0).2.length) (tn + 1) H') Q)
    (hk0 : ∀ H', jsh H' → jfr b_Trt Hs H' → (b_pr ns0).1 = true → Q 0 H') :
    ∀ (m : Nat) (rest dn : List (List UInt8)) (fu : Nat) (H : jH), rest.length ≤ m → 2 * dn.length + rest.length = n ∨ (rest = [] ∧ 2 * dn.length = n + 1) → rest.length < fu → jsh H → jfr b_Trt Hs H → (∀ x ∈ rest, x.length = 32) → (∀ x ∈ dn, x.length = 32) → b_nr 407 0 dn H → b_nr 407 (64 * dn.length) rest H → (b_pr ns0).1 = (b_pr rest).1 → (b_pr ns0).2 = dn ++ (b_pr rest).2 → jT (F_0_isRooted_83 k64 fu B 407 408 43 (Int32.ofNat n) tn (Int32.ofNat dn.length) (Int32.ofNat (2 * dn.length)) H) Q := by
  intro m
  induction m with
  | zero =>
    intro rest dn fu H hm hln hfu hs hf h32 d32 hdn hrs e1 e2
    obtain ⟨fu, rfl⟩ : ∃ k, fu = k + 1 := ⟨fu - 1, by omega⟩
    obtain rfl : rest = [] := List.eq_nil_of_length_eq_zero (by omega)
    have e2' : (b_pr ns0).2 = dn := e2.trans (List.append_nil _)
    have := hk1 H hs hf e1 (by rw [e2']; exact hdn)
    rw [e2'] at this
    unfold F_0_isRooted_83 B_0_isRooted_83
    have hl0 : ([] : List (List UInt8)).length = 0 := rfl
    exact jT_pos (by rw [jo_le (by omega) (by omega)]; omega) (jT_l this)
  | succ m ih =>
    intro rest dn fu H hm hln hfu hs hf h32 d32 hdn hrs e1 e2
    cases rest with
    | nil => exact ih [] dn fu H (Nat.zero_le _) hln hfu hs hf h32 d32 hdn hrs e1 e2
    | cons a r =>
      obtain ⟨fu, rfl⟩ : ∃ k, fu = k + 1 := ⟨fu - 1, by omega⟩
      have hln' : 2 * dn.length + (r.length + 1) = n := hln.resolve_right fun w => by cases w.1
      have a32 := h32 a List.mem_cons_self
      obtain ⟨ra, rr⟩ := b_nr_cons.mp hrs
      have ep : 64 * dn.length = 32 * (2 * dn.length) := by omega
      rw [ep] at ra rr
      have ei1 : Int32.ofNat (2 * dn.length) + 1 = Int32.ofNat (2 * dn.length + 1) := jo_add (a := 2 * dn.length) (b := 1)
      have ei2 : Int32.ofNat (2 * dn.length) + 2 = Int32.ofNat (2 * dn.length + 2) := jo_add (a := 2 * dn.length) (b := 2)
      have ea : (32 : Int32) * Int32.ofNat (2 * dn.length) = Int32.ofNat (32 * (2 * dn.length)) := jo_mul (a := 32)
      have eb : (32 : Int32) * Int32.ofNat (2 * dn.length + 1) = Int32.ofNat (32 * (2 * dn.length + 1)) := jo_mul (a := 32)
      have ec : (32 : Int32) * Int32.ofNat (2 * dn.length + 2) = Int32.ofNat (32 * (2 * dn.length + 2)) := jo_mul (a := 32)
      have l416 : Int32.ofNat ((101, 416) : Nat × Nat).2 = Int32.ofNat 416 := rfl
      have ndn : ∀ (x : List UInt8), (dn ++ [x]).length = dn.length + 1 := fun x => by rw [List.length_append]; rfl
      unfold F_0_isRooted_83 B_0_isRooted_83 B_0_isRooted_104
      rw [ei1]
      refine jT_neg (by rw [jo_le (by omega) (by omega)]; omega) ?_
      cases r with
      | nil =>
        have hln2 : 2 * dn.length + 1 = n := hln'
        refine jT_neg (fun w => w (by rw [hln2])) (jT_pos (by decide) ?_)
        unfold B_0_isRooted_133
        rw [ei1, ei2, ec, eb, ea]
        refine jT_neg (by decide) (jT_g (by rw [sK_407 hs]) (jT_neg (by rw [sK_407 hs, l416, jo_lt (by omega) (by omega)]; omega) (jT_g (b_cpg (n := 32) (sK_407 hs) (sK_407 hs) (by decide) (by omega) (by omega) (by decide) (by decide)) ?_)))
        rw [jo_nat (n := 32 * (2 * dn.length)) (by omega), jo_nat (n := 32 * (2 * dn.length + 1)) (by omega)]
        refine jT_l ?_
        have f2 : jfr b_Trt Hs (jcpB H 407 (32 * (2 * dn.length)) 407 (32 * (2 * dn.length + 1)) 32) := jfr_cpB hf fun q _ _ => Or.inr (Or.inl rfl)
        have cne : ∀ q, q < 32 * (2 * dn.length + 1) → jB (jcpB H 407 (32 * (2 * dn.length)) 407 (32 * (2 * dn.length + 1)) 32) 407 q = jB H 407 q := fun q hq => jcpf_ne fun w => by omega
        have cin : ∀ q, q < 32 → jB (jcpB H 407 (32 * (2 * dn.length)) 407 (32 * (2 * dn.length + 1)) 32) 407 (32 * (2 * dn.length + 1) + q) = jB H 407 (32 * (2 * dn.length) + q) := fun q hq => by
          have e := jB_cp (H := H) (a := 407) (sp := 32 * (2 * dn.length)) (b := 407) (dp := 32 * (2 * dn.length + 1)) (n := 32) (j := 32 * (2 * dn.length + 1) + q) (by omega) (by omega)
          refine e.trans ?_
          rw [show 32 * (2 * dn.length) + (32 * (2 * dn.length + 1) + q - 32 * (2 * dn.length + 1)) = 32 * (2 * dn.length) + q by omega]
        refine z0_pair (a := a) (b := a) (jsh_cpB hs) f2 a32 a32 (zRow_eq ra fun q hq => cne _ (by omega)) (fun q u hq => ?_) (by omega) (by omega) fun H3 s3 f3 r3 o3 => ?_
        · have hq2 := (List.getElem?_eq_some_iff.mp hq).1
          rw [show 32 * (2 * dn.length) + 32 + q = 32 * (2 * dn.length + 1) + q by omega]
          exact (cin q (by omega)).trans (ra q u hq)
        · have nd : b_nr 407 0 (dn ++ [b_hs (a ++ a)]) H3 := fun k l hk => by
            by_cases ck : k < dn.length
            · rw [List.getElem?_append_left ck] at hk
              have l32 := d32 l (List.mem_of_getElem? hk)
              exact zRow_eq (hdn k l hk) fun q hq => (o3 _ (Or.inl (by omega))).trans (cne _ (by omega))
            · have hkl := (List.getElem?_eq_some_iff.mp hk).1
              rw [ndn] at hkl
              obtain rfl : k = dn.length := by omega
              rw [List.getElem?_append_right (Nat.le_refl _), Nat.sub_self] at hk
              have el : b_hs (a ++ a) = l := Option.some.inj hk
              rw [← el, Nat.zero_add]
              exact r3
          have := ih [] (dn ++ [b_hs (a ++ a)]) fu H3 (Nat.zero_le _) (Or.inr ⟨rfl, by rw [ndn]; omega⟩) (by have hfu' : 1 < fu + 1 := hfu; show 0 < fu; omega) s3 f3 (fun x hx => by cases hx) (fun x hx => by
            rcases List.mem_append.mp hx with h | h
            · exact d32 x h
            · rw [List.mem_singleton.mp h]; exact b_hs_len) nd (fun k l hk => by cases hk) e1 (by rw [e2, List.append_assoc]; rfl)
          rw [ndn, show 2 * (dn.length + 1) = 2 * dn.length + 2 by omega] at this
          exact this
      | cons b r =>
        have hln2 : 2 * dn.length + (r.length + 2) = n := hln'
        have b32 := h32 b (List.mem_cons_of_mem _ List.mem_cons_self)
        obtain ⟨rb, rr⟩ := b_nr_cons.mp rr
        have hE : (b_pr (a :: b :: r)).1 = (decide (a = b) || (b_pr r).1) := rfl
        have hE2 : (b_pr (a :: b :: r)).2 = b_hs (a ++ b) :: (b_pr r).2 := rfl
        rw [hE] at e1
        rw [hE2] at e2
        refine jT_pos (fun w => absurd ((jo_eq (by omega) (by omega)).mp w) (by omega)) (jT_neg (fun w => w rfl) ?_)
        rw [ea, eb]
        refine jT_b (jT_eq (z3_same (sK_407 hs) (sK_407 hs) (by decide) (by decide) (by omega) (by omega)) (jT_ret ?_))
        have rb' : zRow H 407 (32 * (2 * dn.length + 1)) b := by
          rw [show 32 * (2 * dn.length + 1) = 32 * (2 * dn.length) + 32 by omega]
          exact rb
        have er : zeq (jB H 407) (jB H 407) (32 * (2 * dn.length)) (32 * (2 * dn.length + 1)) 32 = true ↔ a = b := zeq_row ra rb' a32 b32
        by_cases cab : a = b
        · rw [decide_eq_true cab, Bool.true_or] at e1
          rw [if_pos (show 32 * (2 * dn.length) + 32 ≤ 416 ∧ 32 * (2 * dn.length + 1) + 32 ≤ 416 ∧ zeq (jB H 407) (jB H 407) (32 * (2 * dn.length)) (32 * (2 * dn.length + 1)) 32 = true from ⟨by omega, by omega, er.mpr cab⟩)]
          exact jT_neg (by decide) (jT_g (by decide) (jT_ret (hk0 H hs hf e1)))
        · rw [decide_eq_false cab, Bool.false_or] at e1
          rw [if_neg (show ¬ (32 * (2 * dn.length) + 32 ≤ 416 ∧ 32 * (2 * dn.length + 1) + 32 ≤ 416 ∧ zeq (jB H 407) (jB H 407) (32 * (2 * dn.length)) (32 * (2 * dn.length + 1)) 32 = true) from fun w => cab (er.mp w.2.2))]
          unfold B_0_isRooted_133
          refine jT_pos rfl (jT_pos rfl ?_)
          refine z0_pair (a := a) (b := b) hs hf a32 b32 ra rb (by omega) (by omega) fun H3 s3 f3 r3 o3 => ?_
          have nd : b_nr 407 0 (dn ++ [b_hs (a ++ b)]) H3 := fun k l hk => by
            by_cases ck : k < dn.length
            · rw [List.getElem?_append_left ck] at hk
              have l32 := d32 l (List.mem_of_getElem? hk)
              exact zRow_eq (hdn k l hk) fun q hq => o3 _ (Or.inl (by omega))
            · have hkl := (List.getElem?_eq_some_iff.mp hk).1
              rw [ndn] at hkl
              obtain rfl : k = dn.length := by omega
              rw [List.getElem?_append_right (Nat.le_refl _), Nat.sub_self] at hk
              have el : b_hs (a ++ b) = l := Option.some.inj hk
              rw [← el, Nat.zero_add]
              exact r3
          have hm' : r.length + 2 ≤ m + 1 := hm
          have hfu' : r.length + 2 < fu + 1 := hfu
          have r32 : ∀ x ∈ r, x.length = 32 := fun x hx => h32 x (List.mem_cons_of_mem _ (List.mem_cons_of_mem _ hx))
          have := ih r (dn ++ [b_hs (a ++ b)]) fu H3 (by omega) (Or.inl (by rw [ndn]; omega)) (by omega) s3 f3 r32 (fun x hx => by
            rcases List.mem_append.mp hx with h | h
            · exact d32 x h
            · rw [List.mem_singleton.mp h]; exact b_hs_len) nd (by
              rw [ndn, show 64 * (dn.length + 1) = 32 * (2 * dn.length) + 32 + 32 by omega]
              exact b_nr_fr rr r32 fun q q1 q2 => o3 q (Or.inr (by omega))) e1 (by rw [e2, List.append_assoc]; rfl)
          rw [ndn, show 2 * (dn.length + 1) = 2 * dn.length + 2 by omega] at this
          exact this
end RT0
