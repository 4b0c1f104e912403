/-! The class's chain: comparing work, laying the way, replaying, moving, condemning. -/
def b_cmp (x y : Nat) : Int32 := if x < y then -1 else if y < x then 1 else 0
theorem lw_le {a b : Nat} (ha : a < 4294967296) (hb : b < 4294967296) : (Int64.ofNat a ≤ Int64.ofNat b) ↔ a ≤ b := by
  rw [Int64.le_iff_toInt_le, Int64.toInt_ofNat_of_lt (by omega), Int64.toInt_ofNat_of_lt (by omega)]
  omega
theorem z1_compare {a b n : Nat} {u v : Nat → Nat} {H : jH} (hn : n < 100) (ha : jK H a = (100, n)) (hb : jK H b = (100, n)) (hu : zw8 H a n u) (hv : zw8 H b n v) : F_1_compare a b H = some (b_cmp (nv 4294967296 u n) (nv 4294967296 v n), H) := by
  have loop : ∀ (i fu : Nat), i ≤ n → i < fu → (∀ j, i ≤ j → j < n → u j = v j) → F_1_compare_10 fu a b (Int32.ofNat i - 1) H = some (b_cmp (nv 4294967296 u n) (nv 4294967296 v n), H) := by
    intro i
    induction i with
    | zero =>
      intro fu hi hfu he
      obtain ⟨fu, rfl⟩ : ∃ k, fu = k + 1 := ⟨fu - 1, by omega⟩
      have e : nv 4294967296 u n = nv 4294967296 v n := nv_ext fun j hj => he j (Nat.zero_le _) hj
      unfold F_1_compare_10 B_1_compare_10 b_cmp
      rw [if_pos (by decide), e, if_neg (Nat.lt_irrefl _), if_neg (Nat.lt_irrefl _)]
    | succ i ih =>
      intro fu hi hfu he
      obtain ⟨fu, rfl⟩ : ∃ k, fu = k + 1 := ⟨fu - 1, by omega⟩
      obtain ⟨u1, u2⟩ := hu i (by omega)
      obtain ⟨v1, v2⟩ := hv i (by omega)
      have e1 : Int32.ofNat (i + 1) - 1 = Int32.ofNat i := jo_sub (a := i + 1) (b := 1) (by omega)
      have e2 : Int32.ofNat i + (-1) = Int32.ofNat i - 1 := (Int32.sub_eq_add_neg _ _).symm
      have g : jin (Int32.ofNat i) n := jo_in (by omega) (by omega)
      refine jT_det ?_
      unfold F_1_compare_10 B_1_compare_10 B_1_compare_48
      rw [e1, ha, hb, jo_nat (n := i) (by omega), u1, v1, lw_of u2, lw_of v2, e2]
      refine jT_neg (by show ¬ Int32.ofNat i < Int32.ofNat 0; rw [jo_lt (by omega) (by decide)]; omega) (jT_g ⟨rfl, g⟩ (jT_g ⟨rfl, g⟩ ?_))
      by_cases c : u i = v i
      · refine jT_pos (by rw [c]) (jT_l (jT_eq (ih fu (by omega) (by omega) fun j hj hj2 => ?_) (jT_ret ⟨rfl, rfl⟩)))
        by_cases q : j = i
        · rw [q, c]
        · exact he j (by omega) hj2
      · refine jT_neg (fun w => c ((jw_eq u2 v2).mp w)) (jT_g ⟨rfl, g⟩ (jT_g ⟨rfl, g⟩ ?_))
        unfold b_cmp
        rcases Nat.lt_or_ge (u i) (v i) with q | q
        · rw [if_pos (nv_top (i := i) (fun j hj => (hu j hj).2) (by omega) (fun j h1 h2 => he j (by omega) h2) q)]
          exact jT_neg (by rw [lw_le v2 u2]; omega) (jT_ret ⟨rfl, rfl⟩)
        · have q2 : v i < u i := by omega
          have := nv_top (i := i) (fun j hj => (hv j hj).2) (by omega) (fun j h1 h2 => (he j (by omega) h2).symm) q2
          rw [if_neg (Nat.lt_asymm this), if_pos this]
          exact jT_pos (by rw [lw_le v2 u2]; omega) (jT_ret ⟨rfl, rfl⟩)
  unfold F_1_compare
  have em : jminI (Int32.ofNat n) (Int32.ofNat n) = Int32.ofNat n := by
    unfold jminI
    split <;> rfl
  rw [ha, hb, jg_t rfl, jg_t rfl]
  show F_1_compare_10 jfuel a b (jminI (Int32.ofNat n) (Int32.ofNat n) - 1) H = _
  rw [em]
  exact loop n jfuel (Nat.le_refl _) (by unfold jfuel; omega) fun j h1 h2 => absurd h2 (by omega)
/-- the work of the class's blocks -/
def b_wk (W : Nat → Nat) (os : List Nat) (n : Nat) (H : jH) : Prop := ∀ k, k < n → ∃ f, zw8 H (jR H (b_o os k) 8) 8 f ∧ nv 4294967296 f 8 = W k
theorem b_wk_kp {nb : Nat} {W : Nat → Nat} {bs : List b_k} {os : List Nat} {H H1 : jH} (h : b_wk W os bs.length H) (hB : b_BC nb bs os H) (hk : jkp nb H H1) : b_wk W os bs.length H1 := fun k hk2 => by
  obtain ⟨f, h1, h2⟩ := h k hk2
  obtain ⟨-, ⟨⟨-, a2, -⟩, -, -, -, f1, f2⟩⟩ := hB.2.2.2.2 k hk2
  have r8 : jR H1 (b_o os k) 8 = jR H (b_o os k) 8 := ((hk _ a2).2 8 fun _ => by decide).2.2.1
  refine ⟨f, fun i hi => ?_, h2⟩
  rw [r8, ((hk _ f2).2 i fun w => by rw [f1] at w; exact absurd w (by decide)).1]
  exact h1 i hi
/-- the block with the most work, of like ones the one in hand -/
def b_bst (W : Nat → Nat) (bad : Nat → Bool) (tip : Nat) : Nat → Nat
  | 0 => tip
  | i + 1 => if bad i = false ∧ W (b_bst W bad tip i) < W i then i else b_bst W bad tip i
section CH1
variable {α : Type} {nb tip : Nat} {bs : List b_k} {os : List Nat} {Hs : jH} {W : Nat → Nat} {bad : Nat → Bool}
theorem b_bst_lt (ht : tip < bs.length) : ∀ {i : Nat}, i ≤ bs.length → b_bst W bad tip i < bs.length
  | 0, _ => ht
  | i + 1, hi => by
    unfold b_bst
    split
    · omega
    · exact b_bst_lt ht (by omega)
theorem z1_best {H : jH} (hw : b_wf bs) (hs : jsh H) (hB : b_BC nb bs os H) (hL : b_LN bs os tip H) (hW : b_wk W os bs.length H) (hb : b_bd os bs.length bad H) : F_1_best 398 H = some (b_o os (b_bst W bad tip bs.length), H) := by
  have l300 := hw.2.1
  have k1 : (jK H 398).1 = 1 := gT (sK_398 hs)
  have loop : ∀ (d i fu : Nat), i + d = bs.length → d < fu → F_1_best_7 fu 398 (b_o os (b_bst W bad tip i)) (Int32.ofNat i) H = some (b_o os (b_bst W bad tip bs.length), H) := by
    intro d
    induction d with
    | zero =>
      intro i fu hl hfu
      obtain ⟨fu, rfl⟩ : ∃ k, fu = k + 1 := ⟨fu - 1, by omega⟩
      obtain rfl : i = bs.length := by omega
      unfold F_1_best_7 B_1_best_7
      rw [jg_t k1, hB.2.2.2.1, if_pos (by rw [jo_le (by omega) (by omega)]; exact Nat.le_refl _)]
    | succ d ih =>
      intro i fu hl hfu
      obtain ⟨fu, rfl⟩ : ∃ k, fu = k + 1 := ⟨fu - 1, by omega⟩
      have hi : i < bs.length := by omega
      have hm : b_bst W bad tip i < bs.length := b_bst_lt hL.1 (by omega)
      obtain ⟨q1, q2⟩ := hB.2.2.2.2 i hi
      obtain ⟨-, p2⟩ := hB.2.2.2.2 _ hm
      obtain ⟨f, f1, f2⟩ := hW i hi
      obtain ⟨g, g1, g2⟩ := hW _ hm
      have e1 : Int32.ofNat i + 1 = Int32.ofNat (i + 1) := jo_add (a := i) (b := 1)
      have nxt := ih (i + 1) fu (by omega) (by omega)
      have ebs : b_bst W bad tip (i + 1) = if bad i = false ∧ W (b_bst W bad tip i) < W i then i else b_bst W bad tip i := rfl
      rw [ebs] at nxt
      have ebad := hb i hi
      refine jT_det ?_
      unfold F_1_best_7 B_1_best_7 B_1_best_44 B_1_best_53
      rw [hB.2.2.2.1, sR_398_3 hs, jo_nat (n := i) (by omega), q1, e1]
      refine jT_g k1 (jT_neg (by rw [jo_le (by omega) (by omega)]; omega) (jT_g k1 (jT_g (gA (sK_399 hs) (jo_in (by omega) (by omega))) (jT_l (jT_g q2.1.1 ?_)))))
      cases hbi : bad i with
      | true =>
        rw [hbi] at ebad nxt
        rw [if_neg fun w => by cases w.1] at nxt
        exact jT_neg (by rw [ebad]; decide) (jT_pos (by decide) (jT_l (jT_eq nxt (jT_ret ⟨rfl, rfl⟩))))
      | false =>
        rw [hbi] at ebad nxt
        refine jT_pos (by rw [ebad]; decide) (jT_g q2.1.1 (jT_g p2.1.1 ?_))
        rw [z1_compare (by decide) q2.2.2.2.2.1 p2.2.2.2.2.1 f1 g1, f2, g2, jb_ok]
        unfold b_cmp
        by_cases c : W (b_bst W bad tip i) < W i
        · rw [if_pos ⟨rfl, c⟩] at nxt
          rw [if_neg (Nat.lt_asymm c), if_pos c]
          exact jT_neg (by decide) (jT_l (jT_eq nxt (jT_ret ⟨rfl, rfl⟩)))
        · rw [if_neg (fun w => c w.2)] at nxt
          refine jT_pos ?_ (jT_l (jT_eq nxt (jT_ret ⟨rfl, rfl⟩)))
          by_cases c2 : W i < W (b_bst W bad tip i)
          · rw [if_pos c2]
            decide
          · rw [if_neg c2, if_neg c]
            decide
  unfold F_1_best
  rw [jg_t k1]
  show F_1_best_7 jfuel 398 (jR H 398 6) 0 H = _
  rw [hL.2.1]
  exact loop bs.length 0 jfuel (Nat.zero_add _) (by unfold jfuel; omega)
def b_T401 : Nat → Nat → Prop := fun a _ => a = 401
theorem z1_layWay {Q : α → jH → Prop} {k : Int32 → jH → Option (α × jH)} {x f : Nat} (hw : b_wf bs) (hs : jsh Hs) (hB : b_BC nb bs os Hs) (hL : b_LN bs os tip Hs) (hx : x < bs.length) (hf : b_isf bs x tip f)
    (hk : ∀ H', jsh H' → jfr b_T401 Hs H' → (∀ h, f < h → h ≤ b_ht bs x → jR H' 401 h = b_o os (b_at bs x h)) → jT (k (Int32.ofNat f) H') Q) : jT (jb (F_1_layWay 398 (b_o os x) Hs) k) Q := by
  have l300 := hw.2.1
  have hx3 := b_ht_300 hw hx
  have loop : ∀ (d i fu : Nat) (H : jH), f + d ≤ b_ht bs x → i + d ≤ 299 → d < fu → jsh H → jfr b_T401 Hs H → (∀ h, f + d < h → h ≤ b_ht bs x → jR H 401 h = b_o os (b_at bs x h)) → jT (F_1_layWay_4 fu 398 (b_o os (b_at bs x (f + d))) (Int32.ofNat i) H) (fun v h => jT (k v h) Q) := by
    intro d
    induction d with
    | zero =>
      intro i fu H hd hi hfu hs1 hfr hR
      obtain ⟨fu, rfl⟩ : ∃ k, fu = k + 1 := ⟨fu - 1, by omega⟩
      obtain ⟨q1, q2, q3⟩ := b_at_ok hw hx hd
      have hB1 : b_BC nb bs os H := b_BC_fr hB hfr fun a j w => by unfold b_T401 at w; omega
      have hL1 : b_LN bs os tip H := b_LN_fr hL hfr fun a j w => by unfold b_T401 at w; omega
      obtain ⟨-, p2⟩ := hB1.2.2.2.2 _ q3
      have e6 : jI H (b_o os (b_at bs x (f + 0))) 6 = Int32.ofNat f := p2.1.2.2.2.1.trans (congrArg Int32.ofNat q2)
      have ret := hk H hs1 hfr fun h h1 h2 => hR h h1 h2
      have fin : jT (B_1_layWay_68 (b_o os (b_at bs x (f + 0))) H) (fun v h => jT (k v h) Q) := by
        unfold B_1_layWay_68
        rw [e6]
        exact jT_g p2.1.1 (jT_ret ret)
      unfold F_1_layWay_4 B_1_layWay_4
      refine jT_neg (by show ¬ Int32.ofNat 300 ≤ _; rw [jo_le (by decide) (by omega)]; omega) (jT_g p2.1.1 ?_)
      by_cases c : jR H (b_o os (b_at bs x (f + 0))) 5 = 0
      · exact jT_pos c fin
      · refine jT_neg c (jT_g p2.1.1 (jT_g (gT (sK_398 hs1)) ?_))
        have hpos := (b_o_pos hs1 hB1 q3).1
        have ea := b_at1 hw hs1 hB1 hL1 hf.2.1
        rw [← hf.2.2.1] at ea
        rw [e6, ea, jb_ok]
        exact jT_g ⟨Or.inr (by unfold jF0; have : b_o os (b_at bs x f) = b_o os (b_at bs x (f + 0)) := rfl; omega), Or.inr (by unfold jF0; omega)⟩ (jT_pos rfl fin)
    | succ d ih =>
      intro i fu H hd hi hfu hs1 hfr hR
      obtain ⟨fu, rfl⟩ : ∃ k, fu = k + 1 := ⟨fu - 1, by omega⟩
      obtain ⟨q1, q2, q3⟩ := b_at_ok hw hx hd
      have hk1 := b_ht_pos hw q3 (by omega)
      obtain ⟨p1, p2, -⟩ := hw.2.2.2.2 _ hk1 q3
      have epa : b_pa bs (b_at bs x (f + (d + 1))) = b_at bs x (f + d) := by
        have h1 : b_at bs (b_at bs x (f + (d + 1))) (f + d) = b_at bs x (f + d) := b_at_at hw hx hd (by omega)
        rw [b_at_pa hw q3 hk1 (by omega)] at h1
        rw [← h1, show f + d = b_ht bs (b_pa bs (b_at bs x (f + (d + 1)))) by omega, b_at_self]
      have hB1 : b_BC nb bs os H := b_BC_fr hB hfr fun a j w => by unfold b_T401 at w; omega
      have hL1 : b_LN bs os tip H := b_LN_fr hL hfr fun a j w => by unfold b_T401 at w; omega
      obtain ⟨-, m2⟩ := hB1.2.2.2.2 _ q3
      obtain ⟨y, ey⟩ : ∃ y, y = b_at bs x (f + (d + 1)) := ⟨_, rfl⟩
      rw [← ey] at q1 q2 q3 hk1 p1 p2 epa m2
      have e6 : jI H (b_o os y) 6 = Int32.ofNat (f + (d + 1)) := m2.1.2.2.2.1.trans (congrArg Int32.ofNat q2)
      have e5 : jR H (b_o os y) 5 = b_o os (b_at bs x (f + d)) := by
        rw [m2.1.2.2.1]
        unfold b_po
        rw [if_neg (by omega), epa]
      have q4 : b_at bs x (f + d) < bs.length := (b_at_ok hw hx (by omega)).2.2
      have hposy := (b_o_pos hs1 hB1 q3).1
      have hposp := (b_o_pos hs1 hB1 q4).1
      have hne : ∃ z, F_1_at 398 (Int32.ofNat (f + (d + 1))) H = some (z, H) ∧ z ≠ b_o os y ∧ (z = 0 ∨ jF0 ≤ z) := by
        by_cases c : f + (d + 1) ≤ b_ht bs tip
        · have q5 := (b_at_ok hw hL.1 c).2.2
          refine ⟨_, b_at1 hw hs1 hB1 hL1 c, fun w => ?_, Or.inr (by unfold jF0; have := (b_o_pos hs1 hB1 q5).1; omega)⟩
          have := b_o_inj hB1 q5 q3 w
          rw [ey] at this
          exact hf.2.2.2 _ (by omega) hd c this.symm
        · refine ⟨_, b_at1_no hw hs1 hB1 hL1 (Or.inr ?_), fun w => by omega, Or.inl rfl⟩
          have := b_ht_300 hw hL.1
          rw [jo_lt (by omega) (by omega)]
          omega
      obtain ⟨z, z1, z2, z3⟩ := hne
      have e1 : Int32.ofNat i + 1 = Int32.ofNat (i + 1) := jo_add (a := i) (b := 1)
      have s2 : jsh (jsR H 401 (f + (d + 1)) (b_o os y)) := by
        obtain ⟨a0, a1, a2, a3, a4⟩ := hs1
        refine ⟨a0, a1, a2, fun q hq hc => (jup_ne fun w => ?_).trans (a3 q hq hc), a4⟩
        have : ∀ q ∈ jRs, q.1 ≠ 401 := by decide +kernel
        exact this q hq w.1
      have f2 : jfr b_T401 Hs (jsR H 401 (f + (d + 1)) (b_o os y)) := jfr_sR hfr rfl
      have v2 : ∀ h, f + d < h → h ≤ b_ht bs x → jR (jsR H 401 (f + (d + 1)) (b_o os y)) 401 h = b_o os (b_at bs x h) := fun h h1 h2 => by
        by_cases c : h = f + (d + 1)
        · rw [c, ← ey]
          exact jup_eq
        · exact (jup_i c).trans (hR h (by omega) h2)
      have e5' : jR (jsR H 401 (f + (d + 1)) (b_o os y)) (b_o os y) 5 = b_o os (b_at bs x (f + d)) := by
        refine (jup_a (fun w => ?_)).trans e5
        have := m2.1.2.1
        unfold b_dy at this
        omega
      have k5' : (jK (jsR H 401 (f + (d + 1)) (b_o os y)) (b_o os y)).1 = 0 := m2.1.1
      unfold F_1_layWay_4 B_1_layWay_4 B_1_layWay_57
      refine jT_neg (by show ¬ Int32.ofNat 300 ≤ _; rw [jo_le (by decide) (by omega)]; omega) ?_
      rw [← ey, e5, e6, z1, jb_ok, e6, e1, sR_398_8 hs1, jo_nat (n := f + (d + 1)) (by omega)]
      refine jT_g m2.1.1 (jT_neg (by omega) (jT_g m2.1.1 (jT_g (gT (sK_398 hs1)) (jT_g ⟨z3, Or.inr (by unfold jF0; omega)⟩ (jT_neg z2 (jT_g m2.1.1 (jT_neg (by show ¬ _ < Int32.ofNat 0; rw [jo_lt (by omega) (by decide)]; omega) (jT_g m2.1.1 (jT_neg (by show ¬ Int32.ofNat 300 ≤ _; rw [jo_le (by decide) (by omega)]; omega) (jT_g (gT (sK_398 hs1)) (jT_g m2.1.1 (jT_g ⟨gT (sK_401 hs1), by rw [sK_401 hs1]; exact jo_in (by omega) (by show _ < 300; omega), Or.inr m2.1.1⟩ (jT_l (jT_g k5' (jT_l (jT_l ?_))))))))))))))))
      rw [e5']
      exact ih (i + 1) fu _ (by omega) (by omega) (by omega) s2 f2 v2
  unfold F_1_layWay
  have h0 := loop (b_ht bs x - f) 0 jfuel Hs (by have := hf.1; omega) (by omega) (by unfold jfuel; omega) hs jfr_refl fun h h1 h2 => by have := hf.1; omega
  rw [show f + (b_ht bs x - f) = b_ht bs x by have := hf.1; omega, b_at_self] at h0
  exact jT_b h0
end CH1
