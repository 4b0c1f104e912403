/-! The reference's scripts: digests. -/
theorem jbu_ub (u : UInt8) : jbu (ji2b (Int32.ofNat u.toNat)) = u := jb_u8 (fun u => jbu (ji2b (Int32.ofNat u.toNat)) = u) (by decide +kernel) u
theorem gBw {H : jH} {r n : Nat} (hk : jK H r = (101, n)) {ii : Int32} (h : jin ii n) : (jK H r).1 = 101 ∧ jin ii (jK H r).2 := gA hk h
section DG14
variable {scr : List UInt8} {S : w_S4} {lf : Nat} {H0 H : jH} {α : Type} {Q : α → jH → Prop} {c : Nat}
theorem w_em14 (m j : Nat) : (120 : Int32) * Int32.ofNat m + Int32.ofNat j = Int32.ofNat (120 * m + j) := by rw [show (120 : Int32) = Int32.ofNat 120 from rfl, jo_mul, jo_add]
def w_Td (r : Nat) : Nat → Nat → Prop := fun a j => w_Cf r a j ∨ a = 442 ∨ a = 444 ∨ a = 423 ∨ a = 424 ∨ a = 425
/-- the result goes into the row -/
theorem z14_dg105 {y : List UInt8} {r : Nat} {k : Unit → jH → Option (α × jH)} {H1 : jH} (hr : r < 70) (hy : y.length ≤ 32) (hs : jsh H1) (hf : jfr (w_Td r) H H1) (hz : zRow H1 444 0 y) (hk : ∀ H', jsh H' → jfr (w_Td r) H H' → w_row H' r y → jT (k () H') Q) : jT (B_14_digested_101 437 (Int32.ofNat r) 439 (Int32.ofNat r) (Int32.ofNat y.length) H1) fun x h => jT (k x h) Q := by
  have loop : ∀ (d i fu : Nat) (H1 : jH), i + d = y.length → d < fu → jsh H1 → jfr (w_Td r) H H1 → zRow H1 444 0 y → jI H1 439 r = Int32.ofNat y.length → (∀ j, j < i → jI H1 438 (120 * r + j) = Int32.ofNat (y.getD j 0).toNat) → jT (F_14_digested_105 fu 437 (Int32.ofNat r) (Int32.ofNat i) H1) fun x h => jT (k x h) Q := by
    intro d
    induction d with
    | zero =>
      intro i fu H1 hi hfu hs hf hz hl hd
      obtain ⟨fu, rfl⟩ : ∃ k, fu = k + 1 := ⟨fu - 1, by omega⟩
      unfold F_14_digested_105 B_14_digested_105
      simp only [sR_437_1 hs, jo_nat (n := r) (by omega), hl]
      refine jT_g (k14 hs) (jT_g (gA (sK_439 hs) (jo_in (by omega) (by omega))) (jT_pos (by rw [jo_le (by omega) (by omega)]; omega) (jT_ret (hk H1 hs hf ⟨by omega, hl, fun j u hj => ?_⟩))))
      obtain ⟨hl2, e⟩ := List.getElem?_eq_some_iff.mp hj
      rw [hd j (by omega), List.getD_eq_getElem?_getD, hj]
      rfl
    | succ d ih =>
      intro i fu H1 hi hfu hs hf hz hl hd
      obtain ⟨fu, rfl⟩ : ∃ k, fu = k + 1 := ⟨fu - 1, by omega⟩
      have e1 : Int32.ofNat i + 1 = Int32.ofNat (i + 1) := jo_add (a := i) (b := 1)
      have ev : jB H1 444 i = y.getD i 0 := by have := hz i _ (getD_of (by omega)); rwa [Nat.zero_add] at this
      unfold F_14_digested_105 B_14_digested_105
      simp only [sR_437_0 hs, sR_437_1 hs, sR_437_14 hs, w_em14, jo_nat (n := r) (by omega), jo_nat (n := i) (by omega), jo_nat (n := 120 * r + i) (by omega), hl, ev, jb_and, e1]
      refine jT_g (k14 hs) (jT_g (gA (sK_439 hs) (jo_in (by omega) (by omega))) (jT_neg (by rw [jo_le (by omega) (by omega)]; omega) (jT_g (k14 hs) (jT_g (k14 hs) (jT_g (gA (sK_444 hs) (jo_in (by omega) (by omega))) (jT_g (gIw (sK_438 hs) (by decide) (jo_in (by omega) (by omega))) (jT_l (jT_l (ih (i + 1) fu _ (by omega) (by omega) (jsh_sI hs (by decide)) (jfr_sI hf (Or.inl (Or.inr ⟨rfl, by omega, by omega⟩))) (zRow_eq hz fun _ _ => rfl) ((jI_sIa (by decide)).trans hl) fun j hj => ?_)))))))))
      by_cases c : j = i
      · rw [c, jI_sIe]
      · rw [jI_sIn (by omega)]
        exact hd j (by omega)
  unfold B_14_digested_101
  rw [jo_nat (n := r) (by omega)]
  exact jT_g (gIw (sK_439 hs) (by decide) (jo_in (by omega) (by omega))) (jT_l (loop y.length 0 jfuel _ (by omega) (by unfold jfuel; omega) (jsh_sI hs (by decide)) (jfr_sI hf (Or.inl (Or.inl ⟨rfl, rfl⟩))) (zRow_eq hz fun _ _ => rfl) jI_sIe fun j hj => absurd hj (Nat.not_lt_zero j)))
theorem w_dgd14 {k : Unit → jH → Option (α × jH)} {r : Nat} {r' a2 : Int32} {it : List UInt8} (h : w_Z scr S lf H0 H) (er : r' = Int32.ofNat r) (hr : r < S.1.length) (hi : S.1[r]? = some it) (b : Bool) (eb : a2 = if b = true then 1 else 0) (hk : ∀ H', w_Z scr (S.1.set r (if b = true then w_sha it else w_rip it), S.2) lf H0 H' → jT (k () H') Q) : jT (jb (F_14_digested 437 r' a2 H) k) Q := by
  subst er
  have l1 := h.2.2.1.2.2.1
  have l2 := h.2.2.1.2.2.2
  obtain ⟨i1, i2, i3⟩ := w_rowA h hi
  -- the end
  have fin : ∀ (y : List UInt8) (H1 : jH), y = (if b = true then w_sha it else w_rip it) → y.length ≤ 32 → jsh H1 → jfr (w_Td r) H H1 → zRow H1 444 0 y → jT (B_14_digested_101 437 (Int32.ofNat r) 439 (Int32.ofNat r) (Int32.ofNat y.length) H1) fun x h => jT (k x h) Q := fun y H1 ey hy hs hf hz => by
    refine z14_dg105 (H := H) (by omega) hy hs hf hz fun H' hs' hf' hr' => hk H' ?_
    rw [← ey]
    refine w_Z_rows h hs' hf' (fun a j q => by unfold w_Td w_Cf at q; omega) ((jfr_I hf' (by unfold w_Td w_Cf; omega)).trans (h.2.1.1.trans (by rw [List.length_set]))) ((jfr_I hf' (by unfold w_Td w_Cf; omega)).trans h.2.1.2.1) ?_ (zIts_fr h.2.2.1.2.1 hf' fun a j k hkl q => by unfold w_Td w_Cf at q; omega) (by rw [List.length_set]; exact l1) l2
    intro k w hk2
    rw [List.getElem?_set] at hk2
    rw [Nat.zero_add]
    by_cases c : r = k
    · rw [if_pos c, if_pos (by omega)] at hk2
      obtain rfl := Option.some.inj hk2
      rw [← c]
      exact hr'
    · rw [if_neg c] at hk2
      exact w_row_fr (w_rowA h hk2) hf' fun a j q => by unfold w_Td w_Cf at q; omega
  have loop : ∀ (d i fu : Nat) (H1 : jH), i + d = it.length → d < fu → jsh H1 → jfr (fun a _ => a = 442) H H1 → (∀ j, j < i → jB H1 442 j = it.getD j 0) → jT (F_14_digested_10 fu 437 (Int32.ofNat r) a2 (Int32.ofNat it.length) (Int32.ofNat i) H1) fun x h => jT (k x h) Q := by
    intro d
    induction d with
    | zero =>
      intro i fu H1 hi' hfu hs hf hd
      obtain ⟨fu, rfl⟩ : ∃ k, fu = k + 1 := ⟨fu - 1, by omega⟩
      have ei : i = it.length := by omega
      have hrow : zRow H1 442 0 it := fun j u hj => by
        obtain ⟨hl2, -⟩ := List.getElem?_eq_some_iff.mp hj
        rw [Nat.zero_add, hd j (by omega), List.getD_eq_getElem?_getD, hj]
        rfl
      have hby : ∀ j, j < it.length → (fun i => jB H1 442 (0 + i)) j = (fun i => it.getD i 0) j := fun j hj => by
        show jB H1 442 (0 + j) = _
        rw [Nat.zero_add]
        exact hd j (by omega)
      unfold F_14_digested_10 B_14_digested_10
      refine jT_pos (by rw [jo_le (by omega) (by omega)]; omega) ?_
      simp only [sR_437_12 hs, sR_437_14 hs, sR_437_15 hs]
      cases b with
      | false =>
        refine jT_pos (by rw [eb, if_neg (by decide)]) (jT_g (k14 hs) (jT_g (k14 hs) (jT_g (k14 hs) (jT_g (gT (sK_422 hs)) ?_))))
        refine jT_b (z12_small (at_ := 0) (pl := 0) (by omega) (by decide) (by omega) (sK_442 hs) (by decide) (by decide) (sK_444 hs) hs fun H2 hs2 f2 v2 => ?_)
        have hz : zRow H2 444 0 (w_rip it) := w_row_map fun j hj => by
          have := v2 j hj
          rw [Nat.zero_add, zrip_eq hby] at this
          exact this
        have hl : (w_rip it).length = 20 := w_rip_len
        have := fin (w_rip it) H2 (by rw [if_neg (by decide)]) (by omega) hs2 (jfr_trans (jfr_mono hf fun a j q => Or.inr (Or.inl q)) (jfr_mono f2 fun a j q => by unfold w_Td; omega)) hz
        rw [hl] at this
        unfold B_14_digested_85
        rw [sR_437_1 hs2]
        refine jT_g (k14 hs2) (jT_pos (by rw [eb, if_neg (by decide)]) ?_)
        exact this
      | true =>
        refine jT_neg (by rw [eb, if_pos rfl]; decide) (jT_g (k14 hs) (jT_g (k14 hs) (jT_g (k14 hs) (jT_g (gT (sK_422 hs)) ?_))))
        refine jT_b (z12_wide (at_ := 0) (pl := 0) (by omega) (by decide) (by omega) (sK_442 hs) (by decide) (by decide) (sK_444 hs) hs fun H2 hs2 f2 v2 => ?_)
        have hz : zRow H2 444 0 (w_sha it) := w_row_map fun j hj => by
          have := v2 j hj
          rw [Nat.zero_add, zsha_eq hby] at this
          exact this
        have hl : (w_sha it).length = 32 := w_sha_len
        have := fin (w_sha it) H2 (by rw [if_pos rfl]) (by omega) hs2 (jfr_trans (jfr_mono hf fun a j q => Or.inr (Or.inl q)) (jfr_mono f2 fun a j q => by unfold w_Td; omega)) hz
        rw [hl] at this
        unfold B_14_digested_85
        rw [sR_437_1 hs2]
        refine jT_g (k14 hs2) (jT_neg (by rw [eb, if_pos rfl]; decide) ?_)
        exact this
    | succ d ih =>
      intro i fu H1 hi' hfu hs hf hd
      obtain ⟨fu, rfl⟩ : ∃ k, fu = k + 1 := ⟨fu - 1, by omega⟩
      have e1 : Int32.ofNat i + 1 = Int32.ofNat (i + 1) := jo_add (a := i) (b := 1)
      have ev : jI H1 438 (120 * r + i) = Int32.ofNat (it.getD i 0).toNat := (jfr_I hf (by decide)).trans (i3 i _ (getD_of (by omega)))
      unfold F_14_digested_10 B_14_digested_10
      simp only [sR_437_0 hs, sR_437_12 hs, w_em14, jo_nat (n := i) (by omega), jo_nat (n := 120 * r + i) (by omega), ev, jbu_ub, e1]
      refine jT_neg (by rw [jo_le (by omega) (by omega)]; omega) (jT_g (k14 hs) (jT_g (k14 hs) (jT_g (gA (sK_438 hs) (jo_in (by omega) (by omega))) (jT_g (gA (sK_442 hs) (jo_in (by omega) (by omega))) (jT_l (jT_l (ih (i + 1) fu _ (by omega) (by omega) (jsh_sB hs) (jfr_sB hf rfl) fun j hj => ?_)))))))
      by_cases c : j = i
      · rw [c, jB_sBe]
      · rw [jB_sBn c]
        exact hd j (by omega)
  unfold F_14_digested
  simp only [sR_437_1 h.1.1, jo_nat (n := r) (by omega), i2]
  exact jT_b (jT_g (w_Zk h) (jT_g (gA (sK_439 h.1.1) (jo_in (by omega) (by omega))) (jT_l (loop it.length 0 jfuel H (by omega) (by unfold jfuel; omega) h.1.1 jfr_refl fun j hj => absurd hj (Nat.not_lt_zero j)))))
end DG14
