/-! The reference's scripts: pushes, and one step. -/
section NX14
variable {scr : List UInt8} {S : w_S4} {lf : Nat} {H0 H : jH} {α : Type} {Q : α → jH → Prop} {c : Nat}
theorem w_Z_7 {n : Nat} (h : w_Z scr S lf H0 H) (hn : n ≤ 400) : w_Z scr (S.1, S.2.1, n, S.2.2.2) lf H0 (jsI H 437 7 (Int32.ofNat n)) := by
  obtain ⟨⟨a1, a2⟩, ⟨b1, b2, b3, b4, b5, b6, b7⟩, ⟨c1, c2, c3, c4⟩, d1, d2, d3, d4, d5, d6⟩ := h
  exact ⟨⟨jsh_sI a1 (by decide), jfr_sI a2 (w_F437 (by decide) (by decide))⟩, ⟨(jI_sIn (by decide)).trans b1, (jI_sIn (by decide)).trans b2, (jI_sIn (by decide)).trans b3, (jI_sIn (by decide)).trans b4, jI_sIe, (jI_sIn (by decide)).trans b6, (jI_sIn (by decide)).trans b7⟩, ⟨c1, c2, c3, c4⟩, d1, d2, d3, hn, d5, d6⟩
theorem w_Z_7s {S : w_S4} (h : w_Z scr S lf H0 H) : jsI H 437 7 (Int32.ofNat S.2.2.1) = jsI H 437 7 (jI H 437 7) := by rw [h.2.1.2.2.2.2.1]
theorem w_scr {i : Nat} (h : w_Z scr S lf H0 H) (hi : i < scr.length) : jI H 440 i = Int32.ofNat (scr.getD i 0).toNat := h.2.2.2.2.1 i hi
theorem w_pushes14 {k : Int32 → jH → Option (α × jH)} {a n : Nat} {a3 : Int32} (op : Bool) (eo : a3 = if op = true then 1 else 0) (h : w_Z scr S lf H0 H) (hb : S.1.length + S.2.1.length ≤ 60) (ha : a ≤ 300) (hn : n ≤ 70000) (hk1 : ¬ (120 < n ∨ scr.length < a + n) → ∀ H', w_Z scr (if op = true then S.1 ++ [w_sl scr a n] else S.1, S.2) lf H0 H' → jT (k (Int32.ofNat (a + n)) H') Q) (hk0 : (120 < n ∨ scr.length < a + n) → ∀ x H', w_Yf H0 H' → jT (k x H') Q) : jT (jb (F_14_pushes 437 (Int32.ofNat a) (Int32.ofNat n) a3 H) k) Q := by
  have l200 := h.2.2.2.2.2.1
  have l66 := h.2.2.1.2.2.1
  have e5 := h.2.1.2.2.1
  have e1 := h.2.1.1
  unfold F_14_pushes B_14_pushes_97
  rw [jo_add, e5, e1]
  refine jT_b (jT_g (w_Zk h) ?_)
  by_cases c1 : a + n ≤ scr.length
  · refine jT_pos (by rw [jo_le (by omega) (by omega)]; exact c1) ?_
    by_cases c2 : n ≤ 120
    · refine jT_pos (by rw [show (120 : Int32) = Int32.ofNat 120 from rfl, jo_le (by omega) (by omega)]; exact c2) ?_
      cases op with
      | false => exact jT_pos eo (jT_ret (hk1 (by omega) H (by rw [if_neg (by decide)]; exact h)))
      | true =>
        rw [if_pos rfl] at eo
        rw [if_pos rfl] at hk1
        have nlen : ((scr.drop a).take n).length = n := by rw [List.length_take, List.length_drop]; omega
        have hs := h.1.1
        rw [sR_437_1 hs, jo_nat (n := S.1.length) (by omega)]
        refine jT_neg (by rw [eo]; decide) (jT_g (w_Zk h) (jT_g (w_Zk h) (jT_g (gIw (sK_439 hs) (by decide) (jo_in (by omega) (by omega))) (jT_l ?_))))
        have loop : ∀ (d i fu : Nat) (H1 : jH), i + d = n → d < fu → jsh H1 → jfr (w_Cf S.1.length) H H1 → jI H1 439 S.1.length = Int32.ofNat n → (∀ j, j < i → jI H1 438 (120 * S.1.length + j) = Int32.ofNat (scr.getD (a + j) 0).toNat) → jT (F_14_pushes_51 fu 437 (Int32.ofNat a) (Int32.ofNat n) (Int32.ofNat i) H1) (fun x h => jT (k x h) Q) := by
          intro d
          induction d with
          | zero =>
            intro i fu H1 hi hfu hs1 hf hz hd
            obtain ⟨fu, rfl⟩ : ∃ k, fu = k + 1 := ⟨fu - 1, by omega⟩
            have e2 : jI H1 437 2 = Int32.ofNat S.1.length := (jfr_I hf (by unfold w_Cf; omega)).trans e1
            have ee : Int32.ofNat S.1.length + 1 = Int32.ofNat (S.1.length + 1) := jo_add (a := S.1.length) (b := 1)
            unfold F_14_pushes_51 B_14_pushes_51 B_14_pushes_97
            rw [e2, ee, jo_add]
            have ll : (S.1 ++ [w_sl scr a n]).length = S.1.length + 1 := List.length_append
            have f2 : jfr (fun a j => w_Cf S.1.length a j ∨ (a = 437 ∧ j = 2)) H (jsI H1 437 2 (Int32.ofNat (S.1.length + 1))) := jfr_sI (jfr_mono hf fun a j q => Or.inl q) (Or.inr ⟨rfl, rfl⟩)
            refine jT_pos (by rw [jo_le (by omega) (by omega)]; omega) (jT_g (k14 hs1) (jT_g (k14 hs1) (jT_l (jT_ret (hk1 (by omega) _ (w_Z_rows (st := S.1 ++ [w_sl scr a n]) (sd := S.2.1) h (jsh_sI hs1 (by decide)) f2 (fun a j q => by unfold w_Cf at q; omega) ?_ ?_ (zIts_snoc (zIts_fr h.2.2.1.1 f2 fun a j k hkl q => by unfold w_Cf at q; omega) ?_) (zIts_fr h.2.2.1.2.1 f2 fun a j k hkl q => by unfold w_Cf at q; omega) (by omega) h.2.2.1.2.2.2))))))
            · rw [jI_sIe, ll]
            · exact (jI_sIn (by decide)).trans ((jfr_I hf (by unfold w_Cf; omega)).trans h.2.1.2.1)
            · rw [Nat.zero_add]
              refine ⟨by show ((scr.drop a).take n).length ≤ 120; omega, (jI_sIa (by decide)).trans (hz.trans (by show _ = Int32.ofNat ((scr.drop a).take n).length; rw [nlen])), fun j u hj => ?_⟩
              have hj' : ((scr.drop a).take n)[j]? = some u := hj
              obtain ⟨hl2, -⟩ := List.getElem?_eq_some_iff.mp hj'
              rw [List.getElem?_take, if_pos (by omega), List.getElem?_drop] at hj'
              rw [jI_sIa (by decide), hd j (by omega), List.getD_eq_getElem?_getD, hj']
              rfl
          | succ d ih =>
            intro i fu H1 hi hfu hs1 hf hz hd
            obtain ⟨fu, rfl⟩ : ∃ k, fu = k + 1 := ⟨fu - 1, by omega⟩
            have e2 : jI H1 437 2 = Int32.ofNat S.1.length := (jfr_I hf (by unfold w_Cf; omega)).trans e1
            have ei : Int32.ofNat i + 1 = Int32.ofNat (i + 1) := jo_add (a := i) (b := 1)
            have ev : jI H1 440 (a + i) = Int32.ofNat (scr.getD (a + i) 0).toNat := (jfr_I hf (by unfold w_Cf; omega)).trans (w_scr h (by omega))
            unfold F_14_pushes_51 B_14_pushes_51
            simp only [sR_437_0 hs1, sR_437_4 hs1, e2, jo_add, w_em14, jo_nat (n := 120 * S.1.length + i) (by omega), jo_nat (n := a + i) (by omega), ev, ei]
            refine jT_neg (by rw [jo_le (by omega) (by omega)]; omega) (jT_g (k14 hs1) (jT_g (k14 hs1) (jT_g (k14 hs1) (jT_g (gA (sK_440 hs1) (jo_in (by omega) (by omega))) (jT_g (gIw (sK_438 hs1) (by decide) (jo_in (by omega) (by omega))) (jT_l (jT_l (ih (i + 1) fu _ (by omega) (by omega) (jsh_sI hs1 (by decide)) (jfr_sI hf (Or.inr ⟨rfl, by omega, by omega⟩)) ((jI_sIa (by decide)).trans hz) fun j hj => ?_))))))))
            by_cases cc : j = i
            · rw [cc, jI_sIe]
            · rw [jI_sIn (by omega)]
              exact hd j (by omega)
        exact loop n 0 jfuel _ (by omega) (by unfold jfuel; omega) (jsh_sI hs (by decide)) (jfr_sI jfr_refl (Or.inl ⟨rfl, rfl⟩)) jI_sIe fun j hj => absurd hj (Nat.not_lt_zero j)
    · exact jT_neg (by rw [show (120 : Int32) = Int32.ofNat 120 from rfl, jo_le (by omega) (by omega)]; exact c2) (jT_g (w_Zk h) (w_fails (n := 2) h rfl (by decide) (by decide) fun H' hy => jT_ret (hk0 (by omega) _ H' hy)))
  · exact jT_neg (by rw [jo_le (by omega) (by omega)]; exact c1) (jT_g (w_Zk h) (w_fails (n := 1) h rfl (by decide) (by decide) fun H' hy => jT_g (w_Yk hy) (jT_ret (hk0 (by omega) _ H' hy))))
/-- a push as it stands in the script -/
theorem w_psh14 {k : Int32 → jH → Option (α × jH)} {at_ : Nat} {a3 : Int32} (op : Bool) (eo : a3 = if op = true then 1 else 0) (hc : c ≤ 77) (hat : at_ < scr.length) (h : w_Z scr S lf H0 H) (hb : S.1.length + S.2.1.length ≤ 60) (hk1 : ∀ p st' H', w_psh scr at_ c S.1 op = some (p, st') → w_Z scr (st', S.2) lf H0 H' → jT (k (Int32.ofNat p) H') Q) (hk0 : ∀ x H', w_psh scr at_ c S.1 op = none → w_Yf H0 H' → jT (k x H') Q) : jT (B_14_next_32 437 (Int32.ofNat at_) (Int32.ofNat c) a3 (Int32.ofNat (w_wd c)) H) (fun x h => jT (k x h) Q) := by
  have l200 := h.2.2.2.2.2.1
  have e5 := h.2.1.2.2.1
  have hw : w_wd c ≤ 2 := by
    unfold w_wd
    split
    · omega
    · split <;> omega
  have e1 : Int32.ofNat at_ + 1 = Int32.ofNat (at_ + 1) := jo_add (a := at_) (b := 1)
  have e2 : Int32.ofNat at_ + 2 = Int32.ofNat (at_ + 2) := jo_add (a := at_) (b := 2)
  have fin : at_ + 1 + w_wd c ≤ scr.length → jT (B_14_next_98 437 (Int32.ofNat at_) a3 (Int32.ofNat (w_wd c)) (Int32.ofNat (w_sz scr at_ c)) H) (fun x h => jT (k x h) Q) := fun hle => by
    have epsh : w_psh scr at_ c S.1 op = if 120 < w_sz scr at_ c ∨ scr.length < at_ + 1 + w_wd c + w_sz scr at_ c then none else some (at_ + 1 + w_wd c + w_sz scr at_ c, if op = true then S.1 ++ [w_sl scr (at_ + 1 + w_wd c) (w_sz scr at_ c)] else S.1) := by
      unfold w_psh
      rw [if_neg (by omega)]
    have hsz : w_sz scr at_ c ≤ 70000 := by
      have := (scr.getD (at_ + 1) 0).toNat_lt
      have := (scr.getD (at_ + 2) 0).toNat_lt
      unfold w_sz
      split
      · omega
      · split <;> omega
    unfold B_14_next_98
    rw [e1, jo_add]
    refine jT_g (w_Zk h) (w_pushes14 op eo h hb (by omega) hsz (fun q H' h' => jT_ret (hk1 _ _ H' (by rw [epsh, if_neg q]) h')) fun q x H' hy => jT_ret (hk0 _ H' (by rw [epsh, if_pos q]) hy))
  unfold B_14_next_32
  rw [e1, jo_add, e5]
  refine jT_g (w_Zk h) ?_
  by_cases c1 : at_ + 1 + w_wd c ≤ scr.length
  · refine jT_pos (by rw [jo_le (by omega) (by omega)]; exact c1) ?_
    have fin := fin c1
    by_cases c76 : c = 76
    · subst c76
      have ew : w_wd 76 = 1 := rfl
      have es : w_sz scr at_ 76 = (scr.getD (at_ + 1) 0).toNat := rfl
      rw [ew] at c1
      rw [es, ew] at fin
      rw [ew, sR_437_4 h.1.1, jo_nat (n := at_ + 1) (by omega), w_scr h (by omega)]
      refine jT_pos (by decide) (jT_g (w_Zk h) (jT_g (gA (sK_440 h.1.1) (jo_in (by omega) (by omega))) (jT_pos (by decide) ?_)))
      unfold B_14_next_97
      rw [Int32.add_zero]
      exact fin
    · by_cases c77 : c = 77
      · subst c77
        have ew : w_wd 77 = 2 := rfl
        have es : w_sz scr at_ 77 = (scr.getD (at_ + 1) 0).toNat + 256 * (scr.getD (at_ + 2) 0).toNat := rfl
        rw [ew] at c1
        rw [es, ew] at fin
        rw [ew, sR_437_4 h.1.1, e2, jo_nat (n := at_ + 1) (by omega), jo_nat (n := at_ + 2) (by omega), w_scr h (by omega), w_scr h (by omega)]
        refine jT_pos (by decide) (jT_g (w_Zk h) (jT_g (gA (sK_440 h.1.1) (jo_in (by omega) (by omega))) (jT_neg (by decide) (jT_g (w_Zk h) (jT_g (gA (sK_440 h.1.1) (jo_in (by omega) (by omega))) ?_)))))
        unfold B_14_next_97
        rw [show (256 : Int32) = Int32.ofNat 256 from rfl, jo_mul, jo_add]
        exact fin
      · have es : w_sz scr at_ c = c := by
          unfold w_sz
          rw [if_neg c76, if_neg c77]
        rw [es] at fin
        exact jT_neg (by rw [show (76 : Int32) = Int32.ofNat 76 from rfl, jo_le (by omega) (by omega)]; omega) fin
  · refine jT_neg (by rw [jo_le (by omega) (by omega)]; exact c1) (jT_g (w_Zk h) (w_fails (n := 1) h rfl (by decide) (by decide) fun H' hy => jT_g (w_Yk hy) (jT_ret (hk0 _ H' ?_ hy))))
    unfold w_psh
    rw [if_pos (by omega)]
end NX14
