/-! Whether a block's root is right: the reference, a level. -/
def b_Tq8 : Nat → Nat → Prop := fun a _ => a = 423 ∨ a = 424 ∨ a = 425 ∨ a = 426 ∨ a = 508
theorem jsh_Tq8 {H H' : jH} (hs : jsh H) (hf : jfr b_Tq8 H H') : jsh H' := jsh_fr hs hf (by
    have : ∀ q ∈ jRs, q.1 ≠ 423 ∧ q.1 ≠ 424 ∧ q.1 ≠ 425 ∧ q.1 ≠ 426 ∧ q.1 ≠ 508 := by decide +kernel
    intro q hq w
    have := this q hq
    unfold b_Tq8 at w
    omega) fun a ha j w => by unfold b_Tq8 at w; omega
def b_fi8 (c : Bool) : Int32 := if c = true then 1 else 0
section RT2
variable {Q : Int32 → jH → Prop} {Hs : jH}
theorem y18_pair {k152 : Nat → Int32 → Int32 → Int32 → jH → Option (Int32 × jH)} {a b : List UInt8} {j : Nat} {n s0 : Int32} {H : jH} (hs : jsh H) (hf : jfr b_Tq8 Hs H) (ha : a.length = 32) (hb : b.length = 32) (h1 : zRow H 508 (32 * (2 * j)) a) (h2 : zRow H 508 (32 * (2 * j) + 32) b) (hj : 2 * j ≤ 12)
    (hk : ∀ H', jsh H' → jfr b_Tq8 Hs H' → zRow H' 508 (32 * j) (b_hs (a ++ b)) → (∀ q, q < 32 * j ∨ 32 * j + 32 ≤ q → jB H' 508 q = jB H 508 q) → jT (k152 421 s0 n (Int32.ofNat (2 * j + 2)) H') Q) : jT (B_18_isRooted_200 k152 421 n (Int32.ofNat (2 * j)) s0 H) Q := by
  have k18 : (jK H 421).1 = 18 := gT (sK_421 hs)
  have e32 : (32 : Int32) * Int32.ofNat (2 * j) = Int32.ofNat (32 * (2 * j)) := jo_mul (a := 32)
  have e16 : (16 : Int32) * Int32.ofNat (2 * j) = Int32.ofNat (32 * j) := by
    rw [show 32 * j = 16 * (2 * j) by omega]
    exact jo_mul (a := 16)
  have e2 : Int32.ofNat (2 * j) + 2 = Int32.ofNat (2 * j + 2) := jo_add (a := 2 * j) (b := 2)
  unfold B_18_isRooted_200
  rw [sR_421_0 hs, sR_421_50 hs, e32, e16, e2]
  refine jT_g k18 (jT_g k18 (jT_g k18 (jT_g (by rw [sK_422 hs]) (jT_b ?_))))
  refine z12_name (at_ := 32 * (2 * j)) (n := 64) (len := 448) (len4 := 448) (by omega) (by decide) (by decide) (sK_508 hs) (by omega) (by decide) (sK_508 hs) hs fun H2 s2 f2 v2 => jT_l ?_
  exact hk H2 s2 (jfr_trans hf (jfr_mono f2 fun a q w => by unfold b_Tq8; omega)) (b_hs_pair ha hb h1 h2 v2) fun q hq => jfr_B f2 (by omega)
theorem b_last3 {a b : List UInt8} {r : List (List UInt8)} {l : List UInt8} (h : r.getLast? = some l) : (a :: b :: r).getLast? = some l := by
  cases r with
  | nil => cases h
  | cons c r => rw [List.getLast?_cons_cons, List.getLast?_cons_cons]; exact h
/-- one level -/
theorem y18_rt152 {k99 : Nat → Int32 → Int32 → jH → Option (Int32 × jH)} {n : Nat} {ns0 : List (List UInt8)} {c0 : Bool} (hn : n ≤ 12)
    (hk1 : ∀ H', jsh H' → jfr b_Tq8 Hs H' → b_nr 508 0 (b_pr ns0).2 H' → jT (k99 421 (b_fi8 (c0 || (b_pr ns0).1)) (Int32.ofNat ((n + 1) / 2)) H') Q) :
    ∀ (m : Nat) (rest dn : List (List UInt8)) (c : Bool) (fu : Nat) (H : jH), rest.length ≤ m → 2 * dn.length + rest.length = n ∨ (rest = [] ∧ 2 * dn.length = n + 1) → rest.length < fu → jsh H → jfr b_Tq8 Hs H → (∀ x ∈ rest, x.length = 32) → (∀ x ∈ dn, x.length = 32) → b_nr 508 0 dn H → b_nr 508 (64 * dn.length) rest H → (∀ l, n % 2 = 1 → rest.getLast? = some l → zRow H 508 (32 * n) l) → (c0 || (b_pr ns0).1) = (c || (b_pr rest).1) → (b_pr ns0).2 = dn ++ (b_pr rest).2 → jT (F_18_isRooted_152 k99 fu 421 (b_fi8 c) (Int32.ofNat n) (Int32.ofNat (2 * dn.length)) H) Q := by
  intro m
  have k18 : ∀ {H}, jsh H → (jK H 421).1 = 18 := fun hs => gT (sK_421 hs)
  induction m with
  | zero =>
    intro rest dn c fu H hm hln hfu hs hf h32 d32 hdn hrs hod e1 e2
    obtain ⟨fu, rfl⟩ : ∃ k, fu = k + 1 := ⟨fu - 1, by omega⟩
    obtain rfl : rest = [] := List.eq_nil_of_length_eq_zero (by omega)
    have e2' : (b_pr ns0).2 = dn := e2.trans (List.append_nil _)
    have e1' : (c0 || (b_pr ns0).1) = c := e1.trans (Bool.or_false c)
    have := hk1 H hs hf (by rw [e2']; exact hdn)
    rw [e1'] at this
    have hl0 : ([] : List (List UInt8)).length = 0 := rfl
    have ed : (Int32.ofNat n + 1) / 2 = Int32.ofNat ((n + 1) / 2) := by
      rw [show Int32.ofNat n + 1 = Int32.ofNat (n + 1) from jo_add (a := n) (b := 1)]
      exact jo_div (b := 2) (by omega) (by decide)
    unfold F_18_isRooted_152 B_18_isRooted_152
    rw [ed]
    exact jT_pos (by rw [jo_le (by omega) (by omega)]; omega) (jT_g (by decide) (jT_l this))
  | succ m ih =>
    intro rest dn c fu H hm hln hfu hs hf h32 d32 hdn hrs hod e1 e2
    cases rest with
    | nil => exact ih [] dn c fu H (Nat.zero_le _) hln hfu hs hf h32 d32 hdn hrs hod e1 e2
    | cons a r =>
      obtain ⟨fu, rfl⟩ : ∃ k, fu = k + 1 := ⟨fu - 1, by omega⟩
      have hln' : 2 * dn.length + (r.length + 1) = n := hln.resolve_right fun w => by cases w.1
      have a32 := h32 a List.mem_cons_self
      obtain ⟨ra, rr⟩ := b_nr_cons.mp hrs
      have ep : 64 * dn.length = 32 * (2 * dn.length) := by omega
      rw [ep] at ra rr
      have ei1 : Int32.ofNat (2 * dn.length) + 1 = Int32.ofNat (2 * dn.length + 1) := jo_add (a := 2 * dn.length) (b := 1)
      have ea : (32 : Int32) * Int32.ofNat (2 * dn.length) = Int32.ofNat (32 * (2 * dn.length)) := jo_mul (a := 32)
      have eb : Int32.ofNat (32 * (2 * dn.length)) + 32 = Int32.ofNat (32 * (2 * dn.length) + 32) := jo_add (b := 32)
      have ndn : ∀ (x : List UInt8), (dn ++ [x]).length = dn.length + 1 := fun x => by rw [List.length_append]; rfl
      -- the pair's name, whatever the flag
      have go : ∀ (b : List UInt8) (r' : List (List UInt8)) (c' : Bool), b.length = 32 → zRow H 508 (32 * (2 * dn.length) + 32) b → (∀ x ∈ r', x.length = 32) → r'.length ≤ m → r'.length < fu → b_nr 508 (32 * (2 * dn.length) + 32 + 32) r' H → (2 * dn.length + 2 + r'.length = n ∨ (r' = [] ∧ 2 * dn.length + 2 = n + 1)) → (∀ l, n % 2 = 1 → r'.getLast? = some l → zRow H 508 (32 * n) l) → (c0 || (b_pr ns0).1) = (c' || (b_pr r').1) → (b_pr ns0).2 = dn ++ b_hs (a ++ b) :: (b_pr r').2 → jT (B_18_isRooted_200 (F_18_isRooted_152 k99 fu) 421 (Int32.ofNat n) (Int32.ofNat (2 * dn.length)) (b_fi8 c') H) Q := by
        intro b r' c' b32 rb r32 hrm hrf hrn hrl hro g1 g2
        refine y18_pair (a := a) (b := b) hs hf a32 b32 ra rb (by omega) fun H3 s3 f3 r3 o3 => ?_
        have nd : b_nr 508 0 (dn ++ [b_hs (a ++ b)]) H3 := fun k l hk => by
          by_cases ck : k < dn.length
          · rw [List.getElem?_append_left ck] at hk
            have l32 := d32 l (List.mem_of_getElem? hk)
            exact zRow_eq (hdn k l hk) fun q hq => o3 _ (Or.inl (by omega))
          · have hkl := (List.getElem?_eq_some_iff.mp hk).1
            rw [ndn] at hkl
            obtain rfl : k = dn.length := by omega
            rw [List.getElem?_append_right (Nat.le_refl _), Nat.sub_self] at hk
            have el : b_hs (a ++ b) = l := Option.some.inj hk
            rw [← el, Nat.zero_add]
            exact r3
        have hl3 : 2 * (dn ++ [b_hs (a ++ b)]).length + r'.length = n ∨ (r' = [] ∧ 2 * (dn ++ [b_hs (a ++ b)]).length = n + 1) := by
          rw [ndn]
          rcases hrl with h | h
          · exact Or.inl (by omega)
          · exact Or.inr ⟨h.1, by omega⟩
        have := ih r' (dn ++ [b_hs (a ++ b)]) c' fu H3 hrm hl3 hrf s3 f3 r32 (fun x hx => by
          rcases List.mem_append.mp hx with h | h
          · exact d32 x h
          · rw [List.mem_singleton.mp h]; exact b_hs_len) nd (by
            rw [ndn, show 64 * (dn.length + 1) = 32 * (2 * dn.length) + 32 + 32 by omega]
            exact b_nr_fr hrn r32 fun q q1 q2 => o3 q (Or.inr (by omega))) (fun l o1 o2 => zRow_eq (hro l o1 o2) fun q hq => o3 _ (Or.inr (by omega))) g1 (by rw [g2, List.append_assoc]; rfl)
        rw [ndn, show 2 * (dn.length + 1) = 2 * dn.length + 2 by omega] at this
        exact this
      unfold F_18_isRooted_152 B_18_isRooted_152 B_18_isRooted_195 B_18_isRooted_199
      rw [ei1, ea, eb]
      refine jT_neg (by rw [jo_le (by omega) (by omega)]; omega) ?_
      cases r with
      | nil =>
        have hln2 : 2 * dn.length + 1 = n := hln'
        have last : zRow H 508 (32 * (2 * dn.length) + 32) a := by
          have := hod a (by omega) rfl
          rwa [show 32 * n = 32 * (2 * dn.length) + 32 by omega] at this
        have g := fun c' (h : c = c') => go a [] c' a32 last (fun x hx => by cases hx) (Nat.zero_le _) (by have hfu' : 1 < fu + 1 := hfu; show 0 < fu; omega) (fun k l hk => by cases hk) (Or.inr ⟨rfl, by omega⟩) (fun l _ w => by cases w) (by rw [← h]; exact e1) e2
        cases c with
        | true => exact jT_pos (by decide) (g true rfl)
        | false => exact jT_neg (fun w => w rfl) (jT_pos (by rw [jo_le (by omega) (by omega)]; omega) (g false rfl))
      | cons b r =>
        have hln2 : 2 * dn.length + (r.length + 2) = n := hln'
        have b32 := h32 b (List.mem_cons_of_mem _ List.mem_cons_self)
        obtain ⟨rb, rr⟩ := b_nr_cons.mp rr
        have hE : (b_pr (a :: b :: r)).1 = (decide (a = b) || (b_pr r).1) := rfl
        have hE2 : (b_pr (a :: b :: r)).2 = b_hs (a ++ b) :: (b_pr r).2 := rfl
        rw [hE] at e1
        rw [hE2] at e2
        have hm' : r.length + 2 ≤ m + 1 := hm
        have hfu' : r.length + 2 < fu + 1 := hfu
        have r32 : ∀ x ∈ r, x.length = 32 := fun x hx => h32 x (List.mem_cons_of_mem _ (List.mem_cons_of_mem _ hx))
        have g := fun c' (h : (c0 || (b_pr ns0).1) = (c' || (b_pr r).1)) => go b r c' b32 rb r32 (by omega) (by omega) rr (Or.inl (by omega)) (fun l o1 o2 => hod l o1 (b_last3 o2)) h e2
        cases c with
        | true => exact jT_pos (by decide) (g true (by rw [e1, Bool.true_or, Bool.true_or]))
        | false =>
          have er : zeq (jB H 508) (jB H 508) (32 * (2 * dn.length)) (32 * (2 * dn.length) + 32) 32 = true ↔ a = b := zeq_row ra rb a32 b32
          rw [sR_421_50 hs]
          refine jT_neg (fun w => w rfl) (jT_neg (by rw [jo_le (by omega) (by omega)]; omega) (jT_g (k18 hs) (jT_g (k18 hs) (jT_b (jT_eq (z18_like (n := 32) (sK_508 hs) (sK_508 hs) (by decide) (by decide) (by omega) (by omega)) (jT_ret ?_))))))
          rw [Bool.false_or] at e1
          by_cases cab : a = b
          · rw [decide_eq_true cab] at e1
            rw [if_pos (er.mpr cab)]
            exact jT_neg (by decide) (g true e1)
          · rw [decide_eq_false cab] at e1
            rw [if_neg (fun w => cab (er.mp w))]
            exact jT_pos rfl (g false e1)
end RT2
