/-! Coins: one is dropped (the last comes into its place), pure; the class drops those that are spent. -/
def w_c0 : w_cn := ([], 0, [], ([], [], 0), 0)
def w_dc (cs : List w_cn) (k : Nat) : List w_cn := (cs.set k (cs.getD (cs.length - 1) w_c0)).take (cs.length - 1)
def w_sumc : List w_cn → Int64
  | [] => 0
  | c :: r => w_cv c + w_sumc r
theorem w_sumc_app {a b : List w_cn} : w_sumc (a ++ b) = w_sumc a + w_sumc b := by
  induction a with
  | nil =>
    show w_sumc b = 0 + w_sumc b
    grind
  | cons c r ih =>
    show w_cv c + w_sumc (r ++ b) = w_cv c + w_sumc r + w_sumc b
    rw [ih]
    grind
theorem w_sumc_set {x : w_cn} : ∀ {l : List w_cn} {k : Nat}, k < l.length → w_sumc (l.set k x) + w_cv (l.getD k w_c0) = w_sumc l + w_cv x
  | [], k, h => by simp at h
  | c :: r, 0, _ => by
    show w_cv x + w_sumc r + w_cv c = w_cv c + w_sumc r + w_cv x
    grind
  | c :: r, k + 1, h => by
    have ih := w_sumc_set (x := x) (l := r) (k := k) (by have : (c :: r).length = r.length + 1 := rfl; omega)
    show w_cv c + w_sumc (r.set k x) + w_cv (r.getD k w_c0) = w_cv c + w_sumc r + w_cv x
    grind
theorem w_dc_len {cs : List w_cn} {k : Nat} : (w_dc cs k).length = cs.length - 1 := by
  unfold w_dc
  rw [List.length_take, List.length_set]
  omega
theorem w_dc_at {cs : List w_cn} {k j : Nat} (hj : j < cs.length - 1) : (w_dc cs k)[j]? = if k = j then some (cs.getD (cs.length - 1) w_c0) else cs[j]? := by
  unfold w_dc
  rw [List.getElem?_take, if_pos hj, List.getElem?_set]
  by_cases c : k = j
  · rw [if_pos c, if_pos c, if_pos (by omega)]
  · rw [if_neg c, if_neg c]
theorem w_last_c {cs : List w_cn} (h : 0 < cs.length) : cs[cs.length - 1]? = some (cs.getD (cs.length - 1) w_c0) := by
  rw [List.getD_eq_getElem?_getD, List.getElem?_eq_getElem (by omega)]
  rfl
theorem w_sumc_dc {cs : List w_cn} {k : Nat} {c : w_cn} (hc : cs[k]? = some c) : w_sumc (w_dc cs k) = w_sumc cs - w_cv c := by
  obtain ⟨hl, -⟩ := List.getElem?_eq_some_iff.mp hc
  have hck : cs.getD k w_c0 = c := by rw [List.getD_eq_getElem?_getD, hc]; rfl
  have e1 := w_sumc_set (x := cs.getD (cs.length - 1) w_c0) hl
  rw [hck] at e1
  have hlen : (cs.set k (cs.getD (cs.length - 1) w_c0)).length = cs.length := List.length_set
  have e2 : cs.set k (cs.getD (cs.length - 1) w_c0) = w_dc cs k ++ [cs.getD (cs.length - 1) w_c0] := by
    have hs : (cs.set k (cs.getD (cs.length - 1) w_c0))[cs.length - 1]? = some (cs.getD (cs.length - 1) w_c0) := by
      rw [List.getElem?_set]
      by_cases c : k = cs.length - 1
      · rw [if_pos c, if_pos (by omega)]
      · rw [if_neg c]
        exact w_last_c (by omega)
    have := w_take_s hs
    rw [show cs.length - 1 + 1 = (cs.set k (cs.getD (cs.length - 1) w_c0)).length by omega, List.take_length] at this
    exact this
  have e3 : w_sumc (cs.set k (cs.getD (cs.length - 1) w_c0)) = w_sumc (w_dc cs k) + w_cv (cs.getD (cs.length - 1) w_c0) := by
    conv => lhs; rw [e2, w_sumc_app]
    show w_sumc (w_dc cs k) + (w_cv (cs.getD (cs.length - 1) w_c0) + 0) = _
    grind
  rw [e3] at e1
  grind
/-- the coins that d inputs from the i-th on spend are dropped; m counts them -/
def w_drp (tb : List UInt8) (y : w_y) : Nat → Nat → List w_cn → Nat → List w_cn × Nat
  | 0, _, cs, m => (cs, m)
  | d + 1, i, cs, m => match w_fd cs (w_in1 tb y i) (w_in2 tb y i) 0 with
    | none => w_drp tb y d (i + 1) cs m
    | some k => w_drp tb y d (i + 1) (w_dc cs k) (m + 1)
def w_T3c : Nat → Nat → Prop := fun a j => (a = 392 ∧ (j = 3 ∨ j = 4 ∨ j = 5)) ∨ (393 ≤ a ∧ a ≤ 395)
theorem jRs_393 : ∀ q ∈ jRs, q.1 ≠ 393 := by decide +kernel
section CH2
variable {o row s len : Nat} {tb nm : List UInt8} {y : w_y} {Hs : jH} {ht : Int32} {Q : Unit → jH → Prop}
theorem z2_drops (hy : w_ty tb y) (hx0 : w_x o row s len tb y nm Hs) : ∀ (d i fu m : Nat) (cs : List w_cn) (H : jH), i + d = y.1.length → d < fu → jsh H → jfr w_T3c Hs H → w_CA cs H → jL H 392 5 = w_sumc cs → jI H 392 4 = Int32.ofNat m →
    (∀ H', jsh H' → jfr w_T3c Hs H' → w_CA (w_drp tb y d i cs m).1 H' → jL H' 392 5 = w_sumc (w_drp tb y d i cs m).1 → jI H' 392 4 = Int32.ofNat (w_drp tb y d i cs m).2 → jT (B_2_change_145 392 o ht H') Q) → jT (F_2_change_3 fu 392 o ht 0 (Int32.ofNat i) H) Q := by
  have l8 : y.1.length ≤ 8 := (ztx_spec hy.1).1
  have n5 : ∀ a j, 422 ≤ a → ¬ w_T3c a j := fun a j q w => by unfold w_T3c at w; omega
  have t2000 := hy.2.2
  intro d
  induction d with
  | zero =>
    intro i fu m cs H hi hfu hs hf hCA h5 h4 hk
    obtain ⟨fu, rfl⟩ : ∃ k, fu = k + 1 := ⟨fu - 1, by omega⟩
    have hx := w_x_jfr hx0 hf n5
    obtain ⟨⟨k10, -⟩, ⟨-, -, b3, b4, -⟩, -⟩ := hx
    unfold F_2_change_3 B_2_change_3
    rw [b3, b4]
    exact jT_neg (fun q => q rfl) (jT_g k10 (jT_g rfl (jT_pos (by show Int32.ofNat y.1.length ≤ Int32.ofNat i; rw [jo_le (by omega) (by omega)]; omega) (hk H hs hf hCA h5 h4))))
  | succ d ih =>
    intro i fu m cs H hi hfu hs hf hCA h5 h4 hk
    obtain ⟨fu, rfl⟩ : ∃ k, fu = k + 1 := ⟨fu - 1, by omega⟩
    have hii : i < y.1.length := by omega
    have hx := w_x_jfr hx0 hf n5
    have eix := z10_indexx hs hy hx hii
    have k2 : ∀ {H}, jsh H → (jK H 392).1 = 2 := fun hs => gT (sK_392 hs)
    have e1' : Int32.ofNat i + 1 = Int32.ofNat (i + 1) := jo_add (a := i) (b := 1)
    obtain ⟨⟨k10, a2, a3, a4, a5, a6⟩, ⟨b1, b2, b3, b4, -⟩, c1, -⟩ := hx
    obtain ⟨m1, m2, m3, m4⟩ := w_in y tb hy hii
    have nl : (w_in1 tb y i).length = 32 := w_sl_len (by omega)
    have hz : zRow H row (s + (y.1.getD i (0, 0)).1) (w_in1 tb y i) := w_sl_row a6 rfl
    have hfd := z2_find hs hCA a3 (by omega) (by omega) hz nl (zho_lt _ _ 4) (ix := w_in2 tb y i)
    have hcn := hCA.2.1
    unfold F_2_change_3 B_2_change_3 B_2_change_139
    rw [b3, b4, jo_nat (n := i) (by omega), eix, c1 i hii, a2, e1']
    refine jT_neg (fun q => q rfl) (jT_g k10 (jT_g rfl (jT_neg (by show ¬ Int32.ofNat y.1.length ≤ Int32.ofNat i; rw [jo_le (by omega) (by omega)]; omega) (jT_g k10 (jT_g k10 (jT_g ⟨rfl, jo_in (by omega) hii⟩ (jT_g k10 ?_)))))))
    rw [jb_ok]
    refine jT_g (k2 hs) ?_
    rw [hfd, jb_ok]
    have edrp : w_drp tb y (d + 1) i cs m = (match w_fd cs (w_in1 tb y i) (w_in2 tb y i) 0 with
      | none => w_drp tb y d (i + 1) cs m
      | some k => w_drp tb y d (i + 1) (w_dc cs k) (m + 1)) := by rw [w_drp]
    rw [edrp] at hk
    cases hfk : w_fd cs (w_in1 tb y i) (w_in2 tb y i) 0 with
    | none =>
      rw [hfk] at hk
      exact jT_pos (by decide) (jT_l (ih (i + 1) fu m cs H (by omega) (by omega) hs hf hCA h5 h4 hk))
    | some k =>
      rw [hfk] at hk
      have hlt := (w_fd_lt hfk).2
      obtain ⟨c, hck, -⟩ := w_fd_at hfk
      rw [Nat.sub_zero] at hck
      have kv : w_fv (some k) = Int32.ofNat k := rfl
      have hCA' := hCA
      obtain ⟨h3, -, hrows⟩ := hCA
      obtain ⟨ok, ⟨row', s', len', hxk⟩, ek1, ek2⟩ := hrows k c hck
      have hpos : 0 < cs.length := by omega
      obtain ⟨okl, ⟨rowl, sl, lenl, hxl⟩, el1, el2⟩ := hrows _ _ (w_last_c hpos)
      have n0 : ¬ (Int32.ofNat k < 0) := fun q => absurd ((jo_lt (a := k) (b := 0) (by omega) (by decide)).mp q) (by omega)
      rw [kv, jo_nat (n := k) (by omega), sR_392_0 hs, sR_392_1 hs, ek1, z10_worthx hs ok.2.1 hxk ok.2.2, h5]
      refine jT_neg n0 (jT_g (k2 hs) (jT_g (k2 hs) (jT_g (gA (sK_393 hs) (jo_in (by omega) (by omega))) (jT_g (k2 hs) (jT_g (gA (sK_394 hs) (jo_in (by omega) (by omega))) (jT_g hxk.1.1 ?_))))))
      rw [jb_ok]
      -- the sum
      have s1 : jsh (jsL H 392 5 (w_sumc cs - w_cv c)) := jsh_sL hs
      have f1 : jfr w_T3c H (jsL H 392 5 (w_sumc cs - w_cv c)) := jfr_sL jfr_refl (Or.inl ⟨rfl, by decide⟩)
      have v5 : jL (jsL H 392 5 (w_sumc cs - w_cv c)) 392 5 = w_sumc cs - w_cv c := jL_sLe
      have I1 : ∀ a j, jI (jsL H 392 5 (w_sumc cs - w_cv c)) a j = jI H a j := fun a j => rfl
      have R1 : ∀ a j, jR (jsL H 392 5 (w_sumc cs - w_cv c)) a j = jR H a j := fun a j => rfl
      refine jT_g (k2 hs) (jT_l (jT_g (k2 s1) (jT_g (k2 s1) ?_)))
      show jT (jl (jsI (jsL H 392 5 (w_sumc cs - w_cv c)) 392 4 (jI (jsL H 392 5 (w_sumc cs - w_cv c)) 392 4 + 1)) _) Q
      generalize jsL H 392 5 (w_sumc cs - w_cv c) = H1 at *
      rw [I1, h4, show Int32.ofNat m + 1 = Int32.ofNat (m + 1) from jo_add (a := m) (b := 1)]
      have s2 : jsh (jsI H1 392 4 (Int32.ofNat (m + 1))) := jsh_sI s1 (by decide)
      have f2 : jfr w_T3c H (jsI H1 392 4 (Int32.ofNat (m + 1))) := jfr_sI f1 (Or.inl ⟨rfl, by decide⟩)
      have v52 : jL (jsI H1 392 4 (Int32.ofNat (m + 1))) 392 5 = w_sumc cs - w_cv c := v5
      have v42 : jI (jsI H1 392 4 (Int32.ofNat (m + 1))) 392 4 = Int32.ofNat (m + 1) := jI_sIe
      have I2 : ∀ a j, ¬ (a = 392 ∧ j = 4) → jI (jsI H1 392 4 (Int32.ofNat (m + 1))) a j = jI H a j := fun a j q => (jup_ne q).trans (I1 a j)
      have R2 : ∀ a j, jR (jsI H1 392 4 (Int32.ofNat (m + 1))) a j = jR H a j := R1
      refine jT_l (jT_g (k2 s2) (jT_g (k2 s2) ?_))
      generalize jsI H1 392 4 (Int32.ofNat (m + 1)) = H2 at *
      rw [I2 392 3 (by decide), h3, w_sub1 (by omega)]
      have s3 : jsh (jsI H2 392 3 (Int32.ofNat (cs.length - 1))) := jsh_sI s2 (by decide)
      have f3 : jfr w_T3c H (jsI H2 392 3 (Int32.ofNat (cs.length - 1))) := jfr_sI f2 (Or.inl ⟨rfl, by decide⟩)
      have v53 : jL (jsI H2 392 3 (Int32.ofNat (cs.length - 1))) 392 5 = w_sumc cs - w_cv c := v52
      have v43 : jI (jsI H2 392 3 (Int32.ofNat (cs.length - 1))) 392 4 = Int32.ofNat (m + 1) := (jI_sIn (by decide)).trans v42
      have v33 : jI (jsI H2 392 3 (Int32.ofNat (cs.length - 1))) 392 3 = Int32.ofNat (cs.length - 1) := jI_sIe
      have I3 : ∀ a j, a ≠ 392 → jI (jsI H2 392 3 (Int32.ofNat (cs.length - 1))) a j = jI H a j := fun a j q => (jI_sIa q).trans (I2 a j fun w => q w.1)
      have R3 : ∀ a j, jR (jsI H2 392 3 (Int32.ofNat (cs.length - 1))) a j = jR H a j := R2
      refine jT_l ?_
      generalize jsI H2 392 3 (Int32.ofNat (cs.length - 1)) = H3 at *
      rw [v33, sR_392_0 s3, jo_nat (n := cs.length - 1) (by omega), R3]
      have kl : (jK H3 (jR H 393 (cs.length - 1))).1 = 10 := by rw [jfr_K f3]; exact hxl.1.1
      have s4 : jsh (jsR H3 393 k (jR H 393 (cs.length - 1))) := jsh_sRn s3 jRs_393
      refine jT_g (k2 s3) (jT_g (k2 s3) (jT_g (k2 s3) (jT_g (gA (sK_393 s3) (jo_in (by omega) (by omega))) (jT_g ⟨gT (sK_393 s3), by rw [sK_393 s3]; exact jo_in (by omega) (by show k < 1500; omega), Or.inr kl⟩ (jT_l ?_)))))
      have f4 : jfr w_T3c H (jsR H3 393 k (jR H 393 (cs.length - 1))) := jfr_sR f3 (Or.inr ⟨by decide, by decide⟩)
      have v54 : jL (jsR H3 393 k (jR H 393 (cs.length - 1))) 392 5 = w_sumc cs - w_cv c := v53
      have v44 : jI (jsR H3 393 k (jR H 393 (cs.length - 1))) 392 4 = Int32.ofNat (m + 1) := v43
      have v34 : jI (jsR H3 393 k (jR H 393 (cs.length - 1))) 392 3 = Int32.ofNat (cs.length - 1) := v33
      have I4 : ∀ a j, a ≠ 392 → jI (jsR H3 393 k (jR H 393 (cs.length - 1))) a j = jI H a j := I3
      have R4 : ∀ j, jR (jsR H3 393 k (jR H 393 (cs.length - 1))) 393 j = if j = k then jR H 393 (cs.length - 1) else jR H 393 j := fun j => by
        by_cases q : j = k
        · rw [q, if_pos rfl, jR_sRe]
        · rw [if_neg q, jR_sRn q, R3]
      generalize jsR H3 393 k (jR H 393 (cs.length - 1)) = H4 at *
      rw [v34, sR_392_1 s4, jo_nat (n := cs.length - 1) (by omega), I4 394 _ (by decide)]
      refine jT_g (k2 s4) (jT_g (k2 s4) (jT_g (k2 s4) (jT_g (gA (sK_394 s4) (jo_in (by omega) (by omega))) (jT_g (gIw (sK_394 s4) (by decide) (jo_in (by omega) (by omega))) (jT_l ?_)))))
      have s5 : jsh (jsI H4 394 k (jI H 394 (cs.length - 1))) := jsh_sI s4 (by decide)
      have f5 : jfr w_T3c H (jsI H4 394 k (jI H 394 (cs.length - 1))) := jfr_sI f4 (Or.inr ⟨by decide, by decide⟩)
      have v55 : jL (jsI H4 394 k (jI H 394 (cs.length - 1))) 392 5 = w_sumc cs - w_cv c := v54
      have v45 : jI (jsI H4 394 k (jI H 394 (cs.length - 1))) 392 4 = Int32.ofNat (m + 1) := (jI_sIa (by decide)).trans v44
      have v35 : jI (jsI H4 394 k (jI H 394 (cs.length - 1))) 392 3 = Int32.ofNat (cs.length - 1) := (jI_sIa (by decide)).trans v34
      have I5 : ∀ j, jI (jsI H4 394 k (jI H 394 (cs.length - 1))) 395 j = jI H 395 j := fun j => (jI_sIa (by decide)).trans (I4 395 j (by decide))
      have J5 : ∀ j, jI (jsI H4 394 k (jI H 394 (cs.length - 1))) 394 j = if j = k then jI H 394 (cs.length - 1) else jI H 394 j := fun j => by
        by_cases q : j = k
        · rw [q, if_pos rfl, jI_sIe]
        · rw [if_neg q, jI_sIn q, I4 394 _ (by decide)]
      have R5 : ∀ j, jR (jsI H4 394 k (jI H 394 (cs.length - 1))) 393 j = if j = k then jR H 393 (cs.length - 1) else jR H 393 j := R4
      generalize jsI H4 394 k (jI H 394 (cs.length - 1)) = H5 at *
      rw [v35, sR_392_2 s5, jo_nat (n := cs.length - 1) (by omega), I5]
      refine jT_g (k2 s5) (jT_g (k2 s5) (jT_g (k2 s5) (jT_g (gA (sK_395 s5) (jo_in (by omega) (by omega))) (jT_g (gIw (sK_395 s5) (by decide) (jo_in (by omega) (by omega))) (jT_l (jT_l ?_))))))
      have s6 : jsh (jsI H5 395 k (jI H 395 (cs.length - 1))) := jsh_sI s5 (by decide)
      have f6 : jfr w_T3c H (jsI H5 395 k (jI H 395 (cs.length - 1))) := jfr_sI f5 (Or.inr ⟨by decide, by decide⟩)
      refine ih (i + 1) fu (m + 1) (w_dc cs k) _ (by omega) (by omega) s6 (jfr_trans hf f6) ⟨?_, by rw [w_dc_len]; omega, fun j c' hj => ?_⟩ ?_ ?_ hk
      · rw [w_dc_len]
        exact (jI_sIa (by decide)).trans v35
      · obtain ⟨hjl, -⟩ := List.getElem?_eq_some_iff.mp hj
        rw [w_dc_len] at hjl
        rw [w_dc_at hjl] at hj
        have J6 : jI (jsI H5 395 k (jI H 395 (cs.length - 1))) 395 j = if j = k then jI H 395 (cs.length - 1) else jI H 395 j := by
          by_cases q : j = k
          · rw [q, if_pos rfl, jI_sIe]
          · rw [if_neg q, jI_sIn q, I5]
        have J6' : jI (jsI H5 395 k (jI H 395 (cs.length - 1))) 394 j = if j = k then jI H 394 (cs.length - 1) else jI H 394 j := (jI_sIa (by decide)).trans (J5 j)
        have R6 : jR (jsI H5 395 k (jI H 395 (cs.length - 1))) 393 j = if j = k then jR H 393 (cs.length - 1) else jR H 393 j := R5 j
        rw [J6, J6', R6]
        by_cases q : j = k
        · rw [if_pos q, if_pos q, if_pos q]
          rw [if_pos q.symm] at hj
          rw [← Option.some.inj hj]
          exact ⟨okl, ⟨rowl, sl, lenl, w_x_jfr hxl f6 n5⟩, el1, el2⟩
        · rw [if_neg q, if_neg q, if_neg q]
          rw [if_neg fun w => q w.symm] at hj
          obtain ⟨g1, ⟨r1, r2, r3, g2⟩, g3, g4⟩ := hrows j c' hj
          exact ⟨g1, ⟨r1, r2, r3, w_x_jfr g2 f6 n5⟩, g3, g4⟩
      · rw [w_sumc_dc hck]
        exact v55
      · exact (jI_sIa (by decide)).trans v45
end CH2
