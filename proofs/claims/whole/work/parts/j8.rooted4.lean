/-! Whether a block's root is right: the reference names the transactions. -/
def b_Tq9 : Nat → Nat → Prop := fun a j => b_Tq8 a j ∨ a = 480
section RT4
variable {Q : Int32 → jH → Prop} {H0 : jH} {by_ : List UInt8} {txs : List b_t}
theorem y18_isRooted (hs0 : jsh H0) (h0 : b_tp by_ txs H0) (hh : ∀ x ∈ txs, x.1 = b_hs x.2.1) (hl1 : 1 ≤ txs.length)
    (hk : ∀ H', jsh H' → jfr b_Tq9 H0 H' → (∀ t x, txs[t]? = some x → zRow H' 480 (32 * t) x.1) → Q (if b_rtd by_ txs = true then 1 else 0) H') : jT (F_18_isRooted 421 H0) Q := by
  have hl := h0.2.1.2.2.1
  have hlay := h0.2.1
  have hll := b_lay_len hlay
  have h1999 := hlay.2.1
  have k18 : ∀ {H}, jsh H → (jK H 421).1 = 18 := fun hs => gT (sK_421 hs)
  have nT : ∀ a j, b_Tq9 a j → a ≠ 506 ∧ a ≠ 481 ∧ ¬ (a = 421 ∧ j = 14) := fun a j w => by unfold b_Tq9 b_Tq8 at w; omega
  have h32 : ∀ x ∈ txs, x.1.length = 32 := fun x hx => by rw [hh x hx]; exact b_hs_len
  have n32 := b_nms_32 h32
  have nl : (b_nms txs).length = txs.length := List.length_map _
  have nat : ∀ {k : Nat} {x : b_t}, txs[k]? = some x → (b_nms txs)[k]? = some x.1 := fun {k x} h => by
    unfold b_nms
    rw [List.getElem?_map, h]
    rfl
  have loop : ∀ (d t fu : Nat) (H : jH), t + d = txs.length → d < fu → jsh H → jfr b_Tq9 H0 H → b_nr 508 0 ((b_nms txs).take t) H → (∀ q x, q < t → txs[q]? = some x → zRow H 480 (32 * q) x.1) → jT (F_18_isRooted_2 fu 421 (Int32.ofNat t) H) Q := by
    intro d
    induction d with
    | zero =>
      intro t fu H ht hfu hs hf hn hfr
      obtain ⟨fu, rfl⟩ : ∃ k, fu = k + 1 := ⟨fu - 1, by omega⟩
      have h1 := b_tp_fr h0 hf nT
      rw [List.take_of_length_le (by omega)] at hn
      unfold F_18_isRooted_2 B_18_isRooted_2
      rw [h1.2.2.2.1]
      refine jT_g (k18 hs) (jT_pos (by rw [jo_le (by omega) (by omega)]; omega) (jT_g (k18 hs) (jT_l ?_)))
      rw [← nl]
      refine y18_rt99 (Hs := H) h1.1 (by have := hlay.1; omega) 12 jfuel false (b_nms txs) H (by unfold jfuel; omega) (by omega) (by rw [nl]; exact Nat.le_trans hl (by decide)) (by omega) hs jfr_refl n32 hn fun H2 s2 f2 => ?_
      have hq := hk H2 s2 (jfr_trans hf (jfr_mono f2 fun a j w => Or.inl w)) fun q x hx => zRow_eq (hfr q x (by have := (List.getElem?_eq_some_iff.mp hx).1; omega) hx) fun i _ => jfr_B f2 (by unfold b_Tq8; omega)
      unfold b_rtd at hq
      rw [Bool.false_or]
      exact hq
    | succ d ih =>
      intro t fu H ht hfu hs hf hn hfr
      obtain ⟨fu, rfl⟩ : ∃ k, fu = k + 1 := ⟨fu - 1, by omega⟩
      have htl : t < txs.length := by omega
      have h1 := b_tp_fr h0 hf nT
      have hx := List.getElem?_eq_getElem htl
      have hle : b_tot (txs.take (t + 1)) ≤ b_tot txs := b_tot_le
      rw [b_tot_take hx] at hle
      have e1 : Int32.ofNat t + 1 = Int32.ofNat (t + 1) := jo_add (a := t) (b := 1)
      have e32 : (32 : Int32) * Int32.ofNat t = Int32.ofNat (32 * t) := jo_mul (a := 32)
      have g1 := h1.2.2.2.2 t (by omega)
      have g2 := h1.2.2.2.2 (t + 1) (by omega)
      rw [b_tot_take hx] at g2
      have es : Int32.ofNat (82 + (b_tot (txs.take t) + txs[t].2.1.length)) - Int32.ofNat (82 + b_tot (txs.take t)) = Int32.ofNat txs[t].2.1.length := by
        rw [jo_sub (by omega)]
        congr 1
        omega
      have zt : zRow H 506 (82 + b_tot (txs.take t)) txs[t].2.1 := by
        have := b_lay_row hlay h1.1 hx
        rwa [show 1 + 81 + b_tot (txs.take t) = 82 + b_tot (txs.take t) by omega] at this
      unfold F_18_isRooted_2 B_18_isRooted_2
      rw [h1.2.2.2.1, sR_421_15 hs, sR_421_0 hs, sR_421_47 hs, sR_421_50 hs, e1, e32, jo_nat (n := t) (by omega), jo_nat (n := t + 1) (by omega), g1, g2, es]
      have gk : jin (Int32.ofNat t) (jK H 481).2 := by rw [sK_481 hs]; exact jo_in (by omega) (by show t < 13; omega)
      have gk1 : jin (Int32.ofNat (t + 1)) (jK H 481).2 := by rw [sK_481 hs]; exact jo_in (by omega) (by show t + 1 < 13; omega)
      have g481 : (jK H 481).1 = 100 := gT (sK_481 hs)
      refine jT_g (k18 hs) (jT_neg (by rw [jo_le (by omega) (by omega)]; omega) (jT_g (k18 hs) (jT_g (k18 hs) (jT_g (k18 hs) (jT_g ⟨g481, gk⟩ (jT_g (k18 hs) (jT_g ⟨g481, gk1⟩ (jT_g (k18 hs) (jT_g ⟨g481, gk⟩ (jT_g (k18 hs) (jT_g (by rw [sK_422 hs]) (jT_b ?_))))))))))))
      refine z12_name (at_ := 82 + b_tot (txs.take t)) (n := txs[t].2.1.length) (len := 2000) (len4 := 448) (by omega) (by decide) (by omega) (sK_506 hs) (by omega) (by decide) (sK_508 hs) hs fun H2 s2 f2 v2 => ?_
      have f2' : jfr b_Tq9 H0 H2 := jfr_trans hf (jfr_mono f2 fun a j w => by unfold b_Tq9 b_Tq8; omega)
      have zn : zRow H2 508 (32 * t) txs[t].1 := by
        rw [hh _ (List.getElem_mem htl)]
        intro i u hi
        obtain ⟨q1, q2⟩ := b_hs_at hi
        rw [q2, v2 i q1]
        exact congrFun (znm_eq fun k hk => zt k _ (getD_of hk)) i
      have l32 := h32 _ (List.getElem_mem htl)
      refine y_copy (F := fun fu2 i H => F_18_isRooted_52 (F_18_isRooted_2 fu) fu2 421 (Int32.ofNat t) i H) (dst := 480) (src := 508) (d0 := 32 * t) (s0 := 32 * t) (m := 32) s2 (by decide) (fun fu2 i H3 hi s3 f3 => ?_) (fun fu2 H3 s3 f3 v3 => ?_) jfuel (by unfold jfuel; omega)
      · have ei : (32 : Int32) * Int32.ofNat t + Int32.ofNat i = Int32.ofNat (32 * t + i) := by rw [e32, jo_add]
        show B_18_isRooted_52 (F_18_isRooted_2 fu) (F_18_isRooted_52 (F_18_isRooted_2 fu) fu2) 421 _ _ H3 = F_18_isRooted_52 (F_18_isRooted_2 fu) fu2 421 _ _ _
        unfold B_18_isRooted_52
        rw [if_neg (by show ¬ Int32.ofNat 32 ≤ _; rw [jo_le (by decide) (by omega)]; omega), jg_t (k18 s3), jg_t (k18 s3), sR_421_50 s3, sR_421_12 s3, ei, show Int32.ofNat i + 1 = Int32.ofNat (i + 1) from jo_add (a := i) (b := 1), jg_t (gA (sK_508 s3) (jo_in (by omega) (by show _ < 448; omega))), jg_t (gA (sK_480 s3) (jo_in (by omega) (by show _ < 384; omega))), jo_nat (n := 32 * t + i) (by omega), jbu_b]
        rfl
      · show jT (B_18_isRooted_52 (F_18_isRooted_2 fu) (F_18_isRooted_52 (F_18_isRooted_2 fu) fu2) 421 _ _ H3) Q
        have f3' : jfr b_Tq9 H0 H3 := jfr_trans f2' (jfr_mono f3 fun a j w => Or.inr w.1)
        unfold B_18_isRooted_52
        rw [e1]
        refine jT_pos (by decide) (jT_l (ih (t + 1) fu H3 (by omega) (by omega) s3 f3' (fun k l hk => ?_) fun q x hq hx2 => ?_))
        · rw [List.getElem?_take] at hk
          by_cases ck2 : k < t + 1
          · rw [if_pos ck2] at hk
            by_cases ck : k < t
            · have hk2 : ((b_nms txs).take t)[k]? = some l := by
                rw [List.getElem?_take, if_pos ck]
                exact hk
              have ll := n32 l (List.mem_of_getElem? hk)
              exact zRow_eq (hn k l hk2) fun i hi => (jfr_B f3 (by unfold b_Tc; omega)).trans (jfr_B f2 (by omega))
            · obtain rfl : k = t := by omega
              rw [nat hx] at hk
              rw [← Option.some.inj hk, Nat.zero_add]
              exact zRow_eq zn fun i _ => jfr_B f3 (by unfold b_Tc; omega)
          · rw [if_neg ck2] at hk
            cases hk
        · by_cases cq : q < t
          · have ll := h32 x (List.mem_of_getElem? hx2)
            exact zRow_eq (hfr q x cq hx2) fun i hi => (jfr_B f3 (by unfold b_Tc; omega)).trans (jfr_B f2 (by omega))
          · obtain rfl : q = t := by omega
            rw [hx] at hx2
            rw [← Option.some.inj hx2]
            intro i u hi
            have hi2 := (List.getElem?_eq_some_iff.mp hi).1
            rw [v3 i (by omega)]
            exact zn i u hi
  unfold F_18_isRooted
  exact loop txs.length 0 jfuel H0 (Nat.zero_add _) (by unfold jfuel; omega) hs0 jfr_refl (fun k l hk => by
    rw [List.take_zero] at hk
    cases hk) fun q x hq => absurd hq (Nat.not_lt_zero q)
end RT4
