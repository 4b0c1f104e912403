/-! The reference's tree: the most work, what is spoiled. And which block has the most work. -/
/-- the sums of the reference's blocks -/
def b_sm (W : Nat → Nat) (n : Nat) (H : jH) : Prop := ∃ S0, S0 ≤ 2 ^ 256 ∧ ∀ k, k < n → ∃ d : Nat → Nat, (∀ i, i < 40 → jI H 451 (40 * k + i) = Int32.ofNat (d i) ∧ d i < 256) ∧ nv 256 d 40 = S0 + W k
theorem b_sm_fr {W : Nat → Nat} {n : Nat} {T : Nat → Nat → Prop} {H H1 : jH} (h : b_sm W n H) (hf : jfr T H H1) (hT : ∀ j, ¬ T 451 j) : b_sm W n H1 := by
  obtain ⟨S0, hS, h⟩ := h
  refine ⟨S0, hS, fun k hk => ?_⟩
  obtain ⟨d, h1, h2⟩ := h k hk
  exact ⟨d, fun i hi => ⟨(jfr_I hf (hT _)).trans (h1 i hi).1, (h1 i hi).2⟩, h2⟩
theorem b_cmp_add {a x y : Nat} : b_cmp (a + x) (a + y) = b_cmp x y := by
  unfold b_cmp
  have e1 : (a + x < a + y) ↔ x < y := by omega
  have e2 : (a + y < a + x) ↔ y < x := by omega
  by_cases c1 : x < y
  · rw [if_pos c1, if_pos (e1.mpr c1)]
  · rw [if_neg c1, if_neg (fun w => c1 (e1.mp w))]
    by_cases c2 : y < x
    · rw [if_pos c2, if_pos (e2.mpr c2)]
    · rw [if_neg c2, if_neg (fun w => c2 (e2.mp w))]
theorem b_cmp_nv {b : Nat} {u v : Nat → Nat} {i : Nat} (hu : ∀ j, j < i + 1 → u j < b) (hv : ∀ j, j < i + 1 → v j < b) : b_cmp (nv b u (i + 1)) (nv b v (i + 1)) = if u i < v i then -1 else if v i < u i then 1 else b_cmp (nv b u i) (nv b v i) := by
  have top : ∀ {u v : Nat → Nat}, (∀ j, j < i + 1 → u j < b) → u i < v i → nv b u (i + 1) < nv b v (i + 1) := fun {u v} hu h => nv_top (i := i) hu (Nat.lt_succ_self i) (fun j h1 h2 => by omega) h
  unfold b_cmp
  by_cases c1 : u i < v i
  · rw [if_pos c1, if_pos (top hu c1)]
  · rw [if_neg c1]
    by_cases c2 : v i < u i
    · have := top hv c2
      rw [if_pos c2, if_neg (Nat.lt_asymm this), if_pos this]
    · rw [if_neg c2]
      have e : u i = v i := by omega
      have e1 : nv b u (i + 1) = nv b u i + v i * b ^ i := by show nv b u i + u i * b ^ i = _; rw [e]
      have e2 : nv b v (i + 1) = nv b v i + v i * b ^ i := rfl
      rw [e1, e2]
      have q1 : (nv b u i + v i * b ^ i < nv b v i + v i * b ^ i) ↔ nv b u i < nv b v i := by omega
      have q2 : (nv b v i + v i * b ^ i < nv b u i + v i * b ^ i) ↔ nv b v i < nv b u i := by omega
      by_cases d1 : nv b u i < nv b v i
      · rw [if_pos d1, if_pos (q1.mpr d1)]
      · rw [if_neg d1, if_neg (fun w => d1 (q1.mp w))]
        by_cases d2 : nv b v i < nv b u i
        · rw [if_pos d2, if_pos (q2.mpr d2)]
        · rw [if_neg d2, if_neg (fun w => d2 (q2.mp w))]
/-- the tip is, of those that are not bad, the first with the most work -/
def b_max (W : Nat → Nat) (bad : Nat → Bool) (tip n : Nat) : Prop := tip < n ∧ bad tip = false ∧ ∀ k, k < n → bad k = false → W k ≤ W tip ∧ (W k = W tip → tip ≤ k)
theorem b_bst_ok {W : Nat → Nat} {bad : Nat → Bool} {s : Nat} : ∀ {n : Nat}, (∀ k, k < n → bad k = false → W k ≤ W (b_bst W bad s n)) ∧ W s ≤ W (b_bst W bad s n) ∧ (b_bst W bad s n ≠ s → b_bst W bad s n < n ∧ bad (b_bst W bad s n) = false ∧ W s < W (b_bst W bad s n) ∧ ∀ k, k < b_bst W bad s n → bad k = false → W k < W (b_bst W bad s n))
  | 0 => ⟨fun k hk => absurd hk (Nat.not_lt_zero k), Nat.le_refl _, fun h => absurd rfl h⟩
  | n + 1 => by
    obtain ⟨h1, h2, h3⟩ := b_bst_ok (W := W) (bad := bad) (s := s) (n := n)
    by_cases c : bad n = false ∧ W (b_bst W bad s n) < W n
    · have e : b_bst W bad s (n + 1) = n := if_pos c
      rw [e]
      refine ⟨fun k hk hb => ?_, by omega, fun _ => ⟨by omega, c.1, by omega, fun k hk hb => ?_⟩⟩
      · by_cases q : k = n
        · rw [q]
          exact Nat.le_refl _
        · have := h1 k (by omega) hb
          omega
      · have := h1 k hk hb
        omega
    · have e : b_bst W bad s (n + 1) = b_bst W bad s n := if_neg c
      rw [e]
      refine ⟨fun k hk hb => ?_, h2, fun hne => ?_⟩
      · by_cases q : k = n
        · rw [q] at hb ⊢
          exact Nat.not_lt.mp fun w => c ⟨hb, w⟩
        · exact h1 k (by omega) hb
      · obtain ⟨g1, g2⟩ := h3 hne
        exact ⟨by omega, g2⟩
theorem b_bst_tip {W : Nat → Nat} {bad : Nat → Bool} {tip n : Nat} (h : b_max W bad tip n) : b_bst W bad tip n = tip := by
  obtain ⟨h1, h2, h3⟩ := h
  obtain ⟨-, -, g3⟩ := b_bst_ok (W := W) (bad := bad) (s := tip) (n := n)
  by_cases c : b_bst W bad tip n = tip
  · exact c
  · obtain ⟨q1, q2, q3, -⟩ := g3 c
    have := (h3 _ q1 q2).1
    omega
theorem b_bst_0 {W : Nat → Nat} {bad : Nat → Bool} {tip n : Nat} (h : b_max W bad tip n) (h0 : bad 0 = false) : b_bst W bad 0 n = tip := by
  obtain ⟨h1, h2, h3⟩ := h
  obtain ⟨g1, g2, g3⟩ := b_bst_ok (W := W) (bad := bad) (s := 0) (n := n)
  have hw := g1 tip h1 h2
  by_cases c : b_bst W bad 0 n = 0
  · rw [c] at hw ⊢
    obtain ⟨q1, q2⟩ := h3 0 (by omega) h0
    have := q2 (by omega)
    omega
  · obtain ⟨q1, q2, q3, q4⟩ := g3 c
    obtain ⟨r1, r2⟩ := h3 _ q1 q2
    have := r2 (by omega)
    by_cases c2 : tip = b_bst W bad 0 n
    · exact c2.symm
    · have := q4 tip (by omega) h2
      omega
/-- one more with more work than all -/
theorem b_bst_new {W : Nat → Nat} {bad : Nat → Bool} {tip n s : Nat} (h : b_max W bad tip n) (hb : bad n = false) (hW : W tip < W n) (hs : s < n) (hs2 : bad s = false) : b_bst W bad s (n + 1) = n := by
  obtain ⟨h1, h2, h3⟩ := h
  obtain ⟨g1, g2, g3⟩ := b_bst_ok (W := W) (bad := bad) (s := s) (n := n + 1)
  have hw := g1 n (by omega) hb
  have hle : ∀ k, k < n → bad k = false → W k < W n := fun k hk hbk => by
    have := (h3 k hk hbk).1
    omega
  by_cases c : b_bst W bad s (n + 1) = s
  · rw [c] at hw
    have := hle s hs hs2
    omega
  · obtain ⟨q1, q2, -⟩ := g3 c
    by_cases c2 : b_bst W bad s (n + 1) = n
    · exact c2
    · have := hle _ (by omega) q2
      omega
/-- one more without -/
theorem b_max_add {W : Nat → Nat} {bad : Nat → Bool} {tip n : Nat} (h : b_max W bad tip n) (hW : bad n = false → W n ≤ W tip) : b_max W bad tip (n + 1) := by
  obtain ⟨h1, h2, h3⟩ := h
  refine ⟨by omega, h2, fun k hk hb => ?_⟩
  by_cases c : k = n
  · rw [c] at hb ⊢
    exact ⟨hW hb, fun _ => by omega⟩
  · exact h3 k (by omega) hb
theorem b_max_new {W : Nat → Nat} {bad : Nat → Bool} {tip n : Nat} (h : b_max W bad tip n) (hb : bad n = false) (hW : W tip < W n) : b_max W bad n (n + 1) := by
  obtain ⟨h1, h2, h3⟩ := h
  refine ⟨by omega, hb, fun k hk hbk => ?_⟩
  by_cases c : k = n
  · rw [c]
    exact ⟨Nat.le_refl _, fun _ => Nat.le_refl _⟩
  · have := (h3 k (by omega) hbk).1
    exact ⟨by omega, fun e => by omega⟩
/-- fewer that are not bad -/
theorem b_max_bad {W : Nat → Nat} {bad bad' : Nat → Bool} {tip n : Nat} (h : b_max W bad tip n) (ht : bad' tip = false) (hb : ∀ k, bad' k = false → bad k = false) : b_max W bad' tip n :=
  ⟨h.1, ht, fun k hk hbk => h.2.2 k hk (hb k hbk)⟩
section TP16
variable {α : Type} {bs : List b_k} {H : jH} {W : Nat → Nat} {bad : Nat → Bool}
theorem b_compare16 (hw : b_wf bs) (hs : jsh H) (hT : b_T bs H) (hS : b_sm W bs.length H) {x y : Nat} (hx : x < bs.length) (hy : y < bs.length) : F_16_compare 445 (Int32.ofNat x) (Int32.ofNat y) H = some (b_cmp (W x) (W y), H) := by
  have l300 := hw.2.1
  obtain ⟨S0, -, hS⟩ := hS
  obtain ⟨u, u1, u2⟩ := hS x hx
  obtain ⟨v, v1, v2⟩ := hS y hy
  have e40 : ∀ k i : Nat, (40 : Int32) * Int32.ofNat k + Int32.ofNat i = Int32.ofNat (40 * k + i) := fun k i => by rw [show (40 : Int32) = Int32.ofNat 40 from rfl, jo_mul, jo_add]
  have loop : ∀ (d i fu : Nat), i + d = 40 → d < fu → F_16_compare_24 fu 445 (Int32.ofNat x) (Int32.ofNat y) (b_cmp (nv 256 u i) (nv 256 v i)) (Int32.ofNat i) H = some (b_cmp (W x) (W y), H) := by
    intro d
    induction d with
    | zero =>
      intro i fu hd hfu
      obtain ⟨fu, rfl⟩ : ∃ k, fu = k + 1 := ⟨fu - 1, by omega⟩
      obtain rfl : i = 40 := by omega
      unfold F_16_compare_24 B_16_compare_24
      rw [if_pos (by decide), u2, v2, b_cmp_add]
    | succ d ih =>
      intro i fu hd hfu
      obtain ⟨fu, rfl⟩ : ∃ k, fu = k + 1 := ⟨fu - 1, by omega⟩
      have e1 : Int32.ofNat i + 1 = Int32.ofNat (i + 1) := jo_add (a := i) (b := 1)
      obtain ⟨a1, a2⟩ := u1 i (by omega)
      obtain ⟨c1, c2⟩ := v1 i (by omega)
      have nxt := ih (i + 1) fu (by omega) (by omega)
      rw [b_cmp_nv (fun j hj => (u1 j (by omega)).2) (fun j hj => (v1 j (by omega)).2)] at nxt
      refine jT_det ?_
      unfold F_16_compare_24 B_16_compare_24 B_16_compare_82
      rw [sR_445_7 hs, e40, e40, jo_nat (n := 40 * x + i) (by omega), jo_nat (n := 40 * y + i) (by omega), a1, c1, e1]
      refine jT_neg (by show ¬ Int32.ofNat 40 ≤ _; rw [jo_le (by decide) (by omega)]; omega) (jT_g (gT (sK_445 hs)) (jT_g (gA (sK_451 hs) (jo_in (by omega) (by show _ < 12000; omega))) (jT_l (jT_g (gT (sK_445 hs)) (jT_g (gA (sK_451 hs) (jo_in (by omega) (by show _ < 12000; omega))) (jT_l ?_))))))
      by_cases q1 : v i ≤ u i
      · refine jT_pos (by rw [jo_le (by omega) (by omega)]; exact q1) ?_
        rw [if_neg (by omega)] at nxt
        by_cases q2 : u i ≤ v i
        · rw [if_neg (by omega)] at nxt
          exact jT_pos (by rw [jo_le (by omega) (by omega)]; exact q2) (jT_l (jT_eq nxt (jT_ret ⟨rfl, rfl⟩)))
        · rw [if_pos (by omega)] at nxt
          exact jT_neg (by rw [jo_le (by omega) (by omega)]; exact q2) (jT_l (jT_eq nxt (jT_ret ⟨rfl, rfl⟩)))
      · rw [if_pos (by omega)] at nxt
        exact jT_neg (by rw [jo_le (by omega) (by omega)]; exact q1) (jT_l (jT_eq nxt (jT_ret ⟨rfl, rfl⟩)))
  unfold F_16_compare
  rw [b_isBlk hw hs hT hx, jb_ok, b_isBlk hw hs hT hy, jb_ok, jg_t (gT (sK_445 hs)), if_neg (by decide), jg_t (gT (sK_445 hs)), if_pos (by decide)]
  exact loop 40 0 jfuel rfl (by unfold jfuel; omega)
/-- the flags of the reference's blocks -/
def b_fl16 (n : Nat) (bad : Nat → Bool) (H : jH) : Prop := ∀ k, k < n → jI H 450 k = if bad k = true then 1 else 0
theorem b_tip16 (hw : b_wf bs) (hs : jsh H) (hT : b_T bs H) (hS : b_sm W bs.length H) (hb : b_fl16 bs.length bad H) : F_16_tip 445 H = some (Int32.ofNat (b_bst W bad 0 bs.length), H) := by
  have l300 := hw.2.1
  have loop : ∀ (d i fu : Nat), i + d = bs.length → d < fu → F_16_tip_4 fu 445 (Int32.ofNat (b_bst W bad 0 i)) (Int32.ofNat i) H = some (Int32.ofNat (b_bst W bad 0 bs.length), H) := by
    intro d
    induction d with
    | zero =>
      intro i fu hd hfu
      obtain ⟨fu, rfl⟩ : ∃ k, fu = k + 1 := ⟨fu - 1, by omega⟩
      obtain rfl : i = bs.length := by omega
      unfold F_16_tip_4 B_16_tip_4
      rw [jg_t (gT (sK_445 hs)), hT.1, if_pos (by rw [jo_le (by omega) (by omega)]; exact Nat.le_refl _)]
    | succ d ih =>
      intro i fu hd hfu
      obtain ⟨fu, rfl⟩ : ∃ k, fu = k + 1 := ⟨fu - 1, by omega⟩
      have hi : i < bs.length := by omega
      have hm : b_bst W bad 0 i < bs.length := b_bst_lt (by omega) (by omega)
      have e1 : Int32.ofNat i + 1 = Int32.ofNat (i + 1) := jo_add (a := i) (b := 1)
      have nxt := ih (i + 1) fu (by omega) (by omega)
      have ebs : b_bst W bad 0 (i + 1) = if bad i = false ∧ W (b_bst W bad 0 i) < W i then i else b_bst W bad 0 i := rfl
      rw [ebs] at nxt
      have ebad := hb i hi
      refine jT_det ?_
      unfold F_16_tip_4 B_16_tip_4 B_16_tip_34 B_16_tip_35
      rw [hT.1, sR_445_6 hs, jo_nat (n := i) (by omega), e1, ebad]
      refine jT_g (gT (sK_445 hs)) (jT_neg (by rw [jo_le (by omega) (by omega)]; omega) (jT_g (gT (sK_445 hs)) (jT_g (gA (sK_450 hs) (jo_in (by omega) (by show _ < 300; omega))) ?_)))
      cases hbi : bad i with
      | true =>
        rw [hbi] at nxt
        rw [if_neg fun w => by cases w.1] at nxt
        exact jT_pos (by decide) (jT_l (jT_eq nxt (jT_ret ⟨rfl, rfl⟩)))
      | false =>
        rw [hbi] at nxt
        refine jT_neg (fun w => w rfl) (jT_g (gT (sK_445 hs)) ?_)
        rw [b_compare16 hw hs hT hS hi hm, jb_ok]
        unfold b_cmp
        by_cases c : W (b_bst W bad 0 i) < W i
        · rw [if_pos ⟨rfl, c⟩] at nxt
          rw [if_neg (Nat.lt_asymm c), if_pos c]
          exact jT_neg (by decide) (jT_l (jT_eq nxt (jT_ret ⟨rfl, rfl⟩)))
        · rw [if_neg (fun w => c w.2)] at nxt
          refine jT_pos ?_ (jT_l (jT_eq nxt (jT_ret ⟨rfl, rfl⟩)))
          by_cases c2 : W i < W (b_bst W bad 0 i)
          · rw [if_pos c2]
            decide
          · rw [if_neg c2, if_neg c]
            decide
  unfold F_16_tip
  have e0 : b_bst W bad 0 1 = 0 := by
    show (if bad 0 = false ∧ W 0 < W 0 then 0 else 0) = 0
    split <;> rfl
  have := loop (bs.length - 1) 1 jfuel (by have := hw.1; omega) (by unfold jfuel; omega)
  rw [e0] at this
  exact this
def b_T450 : Nat → Nat → Prop := fun a _ => a = 450
theorem b_spoil16 {Q : α → jH → Prop} {k : Int32 → jH → Option (α × jH)} {c : Nat} (hw : b_wf bs) (hs : jsh H) (hT : b_T bs H) (hb : b_fl16 bs.length bad H) (hc : c < bs.length) (hc1 : 1 ≤ c) (hbc : bad c = false)
    (hk : ∀ v H', jsh H' → jfr b_T450 H H' → b_fl16 bs.length (b_bad' bs bad c) H' → jT (k v H') Q) : jT (jb (F_16_spoil 445 (Int32.ofNat c) H) k) Q := by
  have l300 := hw.2.1
  have hc3 := b_ht_300 hw hc
  have loop : ∀ (d i fu : Nat) (g : Int32) (H1 : jH), i + d = bs.length → d < fu → jsh H1 → jfr b_T450 H H1 → (∀ n, n < i → jI H1 450 n = if b_bad' bs bad c n = true then 1 else 0) → (∀ n, i ≤ n → n < bs.length → jI H1 450 n = if bad n = true then 1 else 0) → jT (F_16_spoil_27 fu 445 (Int32.ofNat c) g (Int32.ofNat i) H1) (fun v h => jT (k v h) Q) := by
    intro d
    induction d with
    | zero =>
      intro i fu g H1 hd hfu hs1 hf h1 h2
      obtain ⟨fu, rfl⟩ : ∃ k, fu = k + 1 := ⟨fu - 1, by omega⟩
      obtain rfl : i = bs.length := by omega
      have hT1 : b_T bs H1 := b_T_fr hT hf fun a j w => by unfold b_T450 at w; omega
      unfold F_16_spoil_27 B_16_spoil_27
      rw [hT1.1]
      exact jT_g (gT (sK_445 hs1)) (jT_pos (by rw [jo_le (by omega) (by omega)]; exact Nat.le_refl _) (jT_ret (hk g H1 hs1 hf h1)))
    | succ d ih =>
      intro i fu g H1 hd hfu hs1 hf h1 h2
      obtain ⟨fu, rfl⟩ : ∃ k, fu = k + 1 := ⟨fu - 1, by omega⟩
      have hi : i < bs.length := by omega
      have hT1 : b_T bs H1 := b_T_fr hT hf fun a j w => by unfold b_T450 at w; omega
      have e1 : Int32.ofNat i + 1 = Int32.ofNat (i + 1) := jo_add (a := i) (b := 1)
      have ebad := h2 i (Nat.le_refl _) hi
      have go : ∀ (H2 : jH) (g2 : Int32), jsh H2 → jfr b_T450 H H2 → (∀ n, n < i → jI H2 450 n = if b_bad' bs bad c n = true then 1 else 0) → (∀ n, i < n → n < bs.length → jI H2 450 n = if bad n = true then 1 else 0) → jI H2 450 i = (if b_bad' bs bad c i = true then 1 else 0) → jT (B_16_spoil_69 (F_16_spoil_27 fu) 445 (Int32.ofNat c) g2 (Int32.ofNat i) H2) (fun v h => jT (k v h) Q) := fun H2 g2 s2 f2 q1 q2 q3 => by
        unfold B_16_spoil_69
        rw [e1]
        refine jT_l (ih (i + 1) fu g2 H2 (by omega) (by omega) s2 f2 (fun n hn => ?_) fun n hn hn2 => q2 n (by omega) hn2)
        by_cases cn : n = i
        · rw [cn]
          exact q3
        · exact q1 n (by omega)
      have lo : ∀ n, i < n → n < bs.length → jI H1 450 n = if bad n = true then 1 else 0 := fun n hn hn2 => h2 n (by omega) hn2
      unfold F_16_spoil_27 B_16_spoil_27
      rw [hT1.1, sR_445_6 hs1, sR_445_3 hs1, jo_nat (n := i) (by omega), jo_nat (n := c) (by omega), ebad, (hT1.2 c hc).2.1]
      refine jT_g (gT (sK_445 hs1)) (jT_neg (by rw [jo_le (by omega) (by omega)]; omega) (jT_g (gT (sK_445 hs1)) (jT_g (gA (sK_450 hs1) (jo_in (by omega) (by show _ < 300; omega))) ?_)))
      cases hbi : bad i with
      | true =>
        refine jT_pos (by decide) (go H1 g hs1 hf h1 lo ?_)
        rw [ebad, hbi, if_pos rfl, if_pos (b_bad'_t.mpr (Or.inl hbi))]
      | false =>
        refine jT_neg (fun w => w rfl) (jT_g (gT (sK_445 hs1)) (jT_g (gA (sK_447 hs1) (jo_in (by omega) (by show _ < 300; omega))) (jT_g (gT (sK_445 hs1)) ?_)))
        have nOn : ¬ b_on bs c i → jT (B_16_spoil_69 (F_16_spoil_27 fu) 445 (Int32.ofNat c) g (Int32.ofNat i) H1) (fun v h => jT (k v h) Q) := fun hno => by
          refine go H1 g hs1 hf h1 lo ?_
          rw [ebad, hbi, if_neg (by decide), if_neg]
          intro w
          rcases b_bad'_t.mp w with w | w
          · rw [hbi] at w
            cases w
          · exact hno w
        by_cases ch : b_ht bs c ≤ b_ht bs i
        · have q3 := (b_at_ok hw hi ch).2.2
          rw [b_below hw hs1 hT1 hi ch, jb_ok]
          by_cases ce : b_at bs i (b_ht bs c) = c
          · rw [ce]
            have s2 : jsh (jsI H1 450 i (1 &&& 1)) := jsh_sI hs1 (by decide)
            have f2 : jfr b_T450 H (jsI H1 450 i (1 &&& 1)) := jfr_sI hf rfl
            rw [sR_445_6 hs1]
            refine jT_neg (fun w => w rfl) (jT_g (gT (sK_445 hs1)) (jT_g (gA (sK_450 hs1) (jo_in (by omega) (by show _ < 300; omega))) (jT_l (jT_l (go _ _ s2 f2 (fun n hn => (jI_sIn (by omega)).trans (h1 n hn)) (fun n hn hn2 => (jI_sIn (by omega)).trans (lo n hn hn2)) ?_)))))
            rw [if_pos (b_bad'_t.mpr (Or.inr ⟨ch, ce⟩))]
            exact jI_sIe
          · exact jT_pos (fun w => ce ((jo_eq (by omega) (by omega)).mp w)) (nOn fun w => ce w.2)
        · rw [b_below_no hw hs1 hT1 hi hc3 ch, jb_ok]
          refine jT_pos (fun w => ?_) (nOn fun w => ch w.1)
          have hneg : (-1 : Int32) < 0 := by decide
          rw [w] at hneg
          exact absurd ((jo_lt (a := c) (b := 0) (by omega) (by decide)).mp hneg) (by omega)
  unfold F_16_spoil
  rw [b_isBlk hw hs hT hc, jb_ok, sR_445_6 hs, jo_nat (n := c) (by omega), hb c hc, hbc]
  refine jT_b (jT_g (gT (sK_445 hs)) (jT_neg (by decide) (jT_neg (fun w => absurd ((jo_eq (a := c) (b := 0) (by omega) (by decide)).mp w) (by omega)) (jT_g (gT (sK_445 hs)) (jT_g (gA (sK_450 hs) (jo_in (by omega) (by show _ < 300; omega))) (jT_pos (by decide) ?_))))))
  exact loop bs.length 0 jfuel 0 H (Nat.zero_add _) (by unfold jfuel; omega) hs jfr_refl (fun n hn => absurd hn (Nat.not_lt_zero n)) fun n _ hn2 => hb n hn2
end TP16
