/-! The reference judges a block. -/
def b_FR : Nat → Nat → Prop := fun a j => (423 ≤ a ∧ a ≤ 444) ∨ (456 ≤ a ∧ a ≤ 464) ∨ a = 481 ∨ (a = 421 ∧ (j = 14 ∨ j = 17 ∨ j = 18 ∨ j = 19)) ∨ (482 ≤ a ∧ a ≤ 488) ∨ a = 507
/-- a block of the reference -/
def b_RB (b h : Nat) (by_ : List UInt8) (txs : List b_t) (H : jH) : Prop := b_lay by_ txs ∧ zRow H 474 (2000 * b) by_ ∧ (jI H 475 b = Int32.ofNat by_.length ∧ 2000 * b + by_.length ≤ 2000 * (jI H 445 1).toNatClampNeg) ∧ (∀ t x, txs[t]? = some x → zRow H 479 (384 * b + 32 * t) x.1) ∧ jI H 447 b = Int32.ofNat h
theorem b_RB_fr {b h : Nat} {by_ : List UInt8} {txs : List b_t} {T : Nat → Nat → Prop} {H H' : jH} (hb : b_RB b h by_ txs H) (hf : jfr T H H') (hT : ∀ a j, T a j → a ≠ 474 ∧ a ≠ 475 ∧ a ≠ 479 ∧ a ≠ 447 ∧ ¬ (a = 445 ∧ j = 1)) : b_RB b h by_ txs H' := by
  obtain ⟨h1, h2, ⟨h3, h6⟩, h4, h5⟩ := hb
  exact ⟨h1, zRow_eq h2 fun i _ => jfr_B hf fun w => (hT _ _ w).1 rfl, ⟨(jfr_I hf fun w => (hT _ _ w).2.1 rfl).trans h3, by rw [jfr_I hf fun w => (hT _ _ w).2.2.2.2 ⟨rfl, rfl⟩]; exact h6⟩, fun t x hx => zRow_eq (h4 t x hx) fun i _ => jfr_B hf fun w => (hT _ _ w).2.2.1 rfl, (jfr_I hf fun w => (hT _ _ w).2.2.2.1 rfl).trans h5⟩
theorem w_CB_fr2 {cs : List w_cn} {T : Nat → Nat → Prop} {H H' : jH} (h : w_CB cs H) (hf : jfr T H H') (hT : ∀ a j, T a j → a ≠ 474 ∧ (a < 482 ∨ 488 < a) ∧ ¬ (a = 421 ∧ j = 17) ∧ ¬ (a = 445 ∧ j = 1)) : w_CB cs H' := by
  obtain ⟨h1, h2, h3⟩ := h
  have n : ∀ a j, (482 ≤ a ∧ a ≤ 488) ∨ a = 474 → ¬ T a j := fun a j q w => by have := hT a j w; omega
  refine ⟨(jfr_I hf fun w => (hT _ _ w).2.2.1 ⟨rfl, rfl⟩).trans h1, h2, fun k c hk => ?_⟩
  obtain ⟨a1, a2, a3, a4, a5, a6, a7, la, llen, a8, ⟨b1, b2, b3, b4, b5, b6⟩, b7⟩ := h3 k c hk
  exact ⟨a1, zRow_eq a2 fun i _ => jfr_B hf (n 482 _ (by decide)), (jfr_L hf (n 483 _ (by decide))).trans a3, (jfr_L hf (n 484 _ (by decide))).trans a4, (jfr_I hf (n 485 _ (by decide))).trans a5, (jfr_I hf (n 486 _ (by decide))).trans a6, (jfr_I hf (n 488 _ (by decide))).trans a7, la, llen, (jfr_I hf (n 487 _ (by decide))).trans a8, ⟨(jfr_K hf 474).trans b1, b2, b3, zRow_eq b4 fun i _ => jfr_B hf (n 474 _ (by decide)), b5, b6⟩, by rw [jfr_I hf fun w => (hT _ _ w).2.2.2 ⟨rfl, rfl⟩]; exact b7⟩
def b_KB (cs : List w_cn) (m : Nat) (H : jH) : Prop := w_CB cs H ∧ jI H 421 18 = Int32.ofNat m ∧ m ≤ 3000
theorem b_KB_fr {cs : List w_cn} {m : Nat} {T : Nat → Nat → Prop} {H H' : jH} (h : b_KB cs m H) (hf : jfr T H H') (hT : ∀ a j, T a j → a ≠ 474 ∧ (a < 482 ∨ 488 < a) ∧ ¬ (a = 421 ∧ (j = 17 ∨ j = 18)) ∧ ¬ (a = 445 ∧ j = 1)) : b_KB cs m H' :=
  ⟨w_CB_fr2 h.1 hf fun a j w => ⟨(hT a j w).1, (hT a j w).2.1, fun q => (hT a j w).2.2.1 ⟨q.1, Or.inl q.2⟩, (hT a j w).2.2.2⟩, (jfr_I hf fun w => (hT _ _ w).2.2.1 ⟨rfl, Or.inr rfl⟩).trans h.2.1, h.2.2⟩
theorem b_tot_le {txs : List b_t} {i : Nat} : b_tot (txs.take i) ≤ b_tot txs := by
  have e2 : b_tot (txs.take i ++ txs.drop i) = b_tot (txs.take i) + b_tot (txs.drop i) := by
    unfold b_tot
    rw [List.map_append, List.sum_append]
  rw [List.take_append_drop] at e2
  omega
theorem b_lay_hlm {b h i : Nat} {by_ : List UInt8} {txs : List b_t} {x : b_t} {H : jH} (hb : b_RB b h by_ txs H) (hx : txs[i]? = some x) : 2000 * b + 81 + b_tot (txs.take i) + x.2.1.length ≤ 2000 * (jI H 445 1).toNatClampNeg := by
  have h1 := b_lay_len hb.1
  have h2 := hb.2.2.1.2
  have hle : b_tot (txs.take (i + 1)) ≤ b_tot txs := b_tot_le
  rw [b_tot_take hx] at hle
  omega
theorem b_jgd_v {ht : Int32} {cs : List w_cn} {tb : List UInt8} {y : w_y} {v : Int32} (h : w_jgd ht cs tb y v) : v = 0 ∨ ¬ v ≤ 0 := by
  rcases h with ⟨rfl, h⟩ | ⟨h1, ⟨rfl, h⟩ | ⟨h2, ⟨rfl, h⟩ | ⟨rfl, h⟩⟩⟩
  · exact Or.inr (by decide)
  · exact Or.inr (by decide)
  · exact Or.inr (by decide)
  · exact Or.inl rfl
theorem b_half : ∀ i, i < 10 → (jshrL 5000000000 (Int32.ofNat i) / 2 : Int64) = jshrL 5000000000 (Int32.ofNat (i + 1)) := by decide +kernel
theorem w_rx_T {row s len : Nat} {tb : List UInt8} {y : w_y} {T : Nat → Nat → Prop} {H H' : jH} (h : w_rx row s len tb y H) (hf : jfr T H H') (hr : ∀ j, ¬ T row j) (hT : ∀ a j, T a j → a < 456 ∨ 464 < a) : w_rx row s len tb y H' := by
  obtain ⟨⟨c1, c2, c3, c4, c5, c6⟩, ⟨d1, d2, d3, d4⟩, e1, e2⟩ := h
  have hN : ∀ a j, 456 ≤ a → a ≤ 464 → ¬ T a j := fun a j q1 q2 w => by have := hT a j w; omega
  have eB : jB H' row = jB H row := funext fun j => jfr_B hf (hr j)
  refine ⟨⟨(jfr_R hf (hN 456 0 (by decide) (by decide))).trans c1, by rw [jfr_K hf]; exact c2, c3, c4, c5, zRow_eq c6 fun i _ => by rw [eB]⟩, ⟨(jfr_I hf (hN 456 1 (by decide) (by decide))).trans d1, (jfr_I hf (hN 456 3 (by decide) (by decide))).trans d2, (jfr_I hf (hN 456 4 (by decide) (by decide))).trans d3, (jfr_I hf (hN 456 5 (by decide) (by decide))).trans d4⟩, fun k hk => ?_, fun k hk => ?_⟩
  · obtain ⟨a, b, c, d, e⟩ := e1 k hk
    rw [eB]
    exact ⟨(jfr_I hf (hN 457 k (by decide) (by decide))).trans a, (jfr_I hf (hN 459 k (by decide) (by decide))).trans b, (jfr_I hf (hN 460 k (by decide) (by decide))).trans c, (jfr_I hf (hN 461 k (by decide) (by decide))).trans d, (jfr_L hf (hN 458 k (by decide) (by decide))).trans e⟩
  · rw [eB]
    obtain ⟨a, b, c⟩ := e2 k hk
    exact ⟨(jfr_L hf (hN 462 k (by decide) (by decide))).trans a, (jfr_I hf (hN 463 k (by decide) (by decide))).trans b, (jfr_I hf (hN 464 k (by decide) (by decide))).trans c⟩
def b_Sn : Nat → Nat → Prop := fun a _ => a = 507
section FA18
variable {Q : Int32 → jH → Prop} {b h n : Nat} {by_ : List UInt8} {txs : List b_t} {Hs : jH}
/-- a transaction's name is laid at hand -/
theorem b_name57 {k21 : Nat → Int32 → Int32 → jH → Option (Int32 × jH)} {nm : List UInt8} {t : Nat} {H0 : jH} (hb : b < 300) (ht : t < 12) (h32 : nm.length = 32) (hz : zRow H0 479 (384 * b + 32 * t) nm)
    (hk : ∀ H' fu, jsh H' → jfr b_Sn H0 H' → zRow H' 507 0 nm → jT (B_18_faultOf_57 k21 (F_18_faultOf_57 k21 fu) 421 (Int32.ofNat b) (Int32.ofNat t) 32 H') Q) :
    ∀ (d i fu : Nat) (H : jH), i + d = 32 → d < fu → jsh H → jfr b_Sn H0 H → (∀ j, j < i → jB H 507 j = nm.getD j 0) → jT (F_18_faultOf_57 k21 fu 421 (Int32.ofNat b) (Int32.ofNat t) (Int32.ofNat i) H) Q := by
  intro d
  induction d with
  | zero =>
    intro i fu H hi hfu hs hf hj
    obtain ⟨fu, rfl⟩ : ∃ k, fu = k + 1 := ⟨fu - 1, by omega⟩
    obtain rfl : i = 32 := by omega
    unfold F_18_faultOf_57
    refine hk H fu hs hf fun i u hi => ?_
    have hl := (List.getElem?_eq_some_iff.mp hi).1
    rw [Nat.zero_add, hj i (by omega), List.getD_eq_getElem?_getD, hi]
    rfl
  | succ d ih =>
    intro i fu H hi hfu hs hf hj
    obtain ⟨fu, rfl⟩ : ∃ k, fu = k + 1 := ⟨fu - 1, by omega⟩
    have k18 : (jK H 421).1 = 18 := gT (sK_421 hs)
    have e1 : Int32.ofNat i + 1 = Int32.ofNat (i + 1) := jo_add (a := i) (b := 1)
    have ea : (384 : Int32) * Int32.ofNat b + (32 : Int32) * Int32.ofNat t + Int32.ofNat i = Int32.ofNat (384 * b + 32 * t + i) := by
      rw [show (384 : Int32) = Int32.ofNat 384 from rfl, show (32 : Int32) = Int32.ofNat 32 from rfl, jo_mul, jo_mul, jo_add, jo_add]
    have ev : jB H 479 (384 * b + 32 * t + i) = nm.getD i 0 := by
      rw [jfr_B hf fun w => absurd (show (479 : Nat) = 507 from w) (by decide)]
      exact hz i _ (getD_of (by omega))
    unfold F_18_faultOf_57 B_18_faultOf_57
    rw [sR_421_11 hs, sR_421_49 hs, ea, e1, jo_nat (n := 384 * b + 32 * t + i) (by omega), jo_nat (n := i) (by omega), ev, jbu_jbs]
    refine jT_neg (by show ¬ Int32.ofNat 32 ≤ _; rw [jo_le (by decide) (by omega)]; omega) (jT_g k18 (jT_g k18 (jT_g (by rw [sK_479 hs]; exact ⟨rfl, jo_in (by omega) (by show 384 * b + 32 * t + i < 115200; omega)⟩) (jT_g (by rw [sK_507 hs]; exact ⟨rfl, jo_in (by omega) (by show i < 32; omega)⟩) (jT_l (jT_l ?_))))))
    refine ih (i + 1) fu _ (by omega) (by omega) (jsh_sB hs) (jfr_sB hf rfl) fun j hj2 => ?_
    by_cases c : j = i
    · rw [c]
      exact jB_sBe
    · rw [jB_sBn c]
      exact hj j (by omega)
/-- the subsidy, and the end -/
theorem b_264 {row s len : Nat} {tb : List UInt8} {y : w_y} {g : Int64} {H : jH} (hs : jsh H) (hn : n ≤ 300) (hbn : b < n) (h1 : jI H 445 1 = Int32.ofNat n) (h447 : jI H 447 b = Int32.ofNat h) (hh : h < 300) (hy : w_ty tb y) (hx : w_rx row s len tb y H) (h19 : jL H 421 19 = g) (hk1 : w_sum tb y ≤ b_sub h + g → Q 0 H) (hk0 : ¬ w_sum tb y ≤ b_sub h + g → Q 35 H) :
    ∀ (d i fu : Nat), i + d = h / 32 → d < fu → jT (F_18_faultOf_264 fu 421 (Int32.ofNat b) (jshrL 5000000000 (Int32.ofNat i)) (Int32.ofNat i) H) Q := by
  have k18 : (jK H 421).1 = 18 := gT (sK_421 hs)
  have e32 : Int32.ofNat h / 32 = Int32.ofNat (h / 32) := jo_div (a := h) (b := 32) (by omega) (by decide)
  intro d
  induction d with
  | zero =>
    intro i fu hi hfu
    obtain ⟨fu, rfl⟩ : ∃ k, fu = k + 1 := ⟨fu - 1, by omega⟩
    obtain rfl : i = h / 32 := by omega
    unfold F_18_faultOf_264 B_18_faultOf_264 B_18_faultOf_312
    refine jT_g k18 (jT_b (z18_height hs hn hbn h1 (jT_g (by decide) ?_)))
    rw [h447, e32, sR_421_4 hs, z17_sumx hs hy hx, jb_ok, h19]
    refine jT_pos (by rw [jo_le (by omega) (by omega)]; exact Nat.le_refl _) (jT_g k18 (jT_g (gT (sK_456 hs)) (jT_g k18 ?_)))
    by_cases c : w_sum tb y ≤ b_sub h + g
    · exact jT_pos c (jT_ret (hk1 c))
    · exact jT_neg c (jT_ret (hk0 c))
  | succ d ih =>
    intro i fu hi hfu
    obtain ⟨fu, rfl⟩ : ∃ k, fu = k + 1 := ⟨fu - 1, by omega⟩
    have e1 : Int32.ofNat i + 1 = Int32.ofNat (i + 1) := jo_add (a := i) (b := 1)
    unfold F_18_faultOf_264 B_18_faultOf_264 B_18_faultOf_312
    refine jT_g k18 (jT_b (z18_height hs hn hbn h1 (jT_g (by decide) ?_)))
    rw [h447, e32, e1, b_half i (by omega)]
    exact jT_neg (by rw [jo_le (by omega) (by omega)]; omega) (jT_g (by decide) (jT_l (jT_l (ih (i + 1) fu (by omega) (by omega)))))
theorem b_flt21 (hb : b_RB b h by_ txs Hs) (hh : h < 300) (hn : n ≤ 300) (hbn : b < n) (h1s : jI Hs 445 1 = Int32.ofNat n) (hty : ∀ x ∈ txs, w_ty x.2.1 x.2.2) (q0 : Int32 × b_st)
    (hk : ∀ H', jsh H' → jfr b_FR Hs H' → w_p13 H' → ((b_fin h txs q0).1 = 0 → b_KB (b_fin h txs q0).2.1 (b_fin h txs q0).2.2.1 H') → Q (b_fin h txs q0).1 H') (hne : txs ≠ []) :
    ∀ (r : List b_t) (i fu : Nat) (rt : Bool) (S : b_st) (H : jH), txs.drop i = r → i + r.length = txs.length → r.length < fu → (rt = true ↔ i = 0) → b_toks rt r → jsh H → jfr b_FR Hs H → w_p13 H → b_KB S.1 S.2.1 H → jL H 421 19 = S.2.2.1 → jI H 437 8 = Int32.ofNat S.2.2.2 → S.2.2.2 < 1000 → jI H 421 14 = Int32.ofNat txs.length → (∀ t, t ≤ txs.length → jI H 481 t = Int32.ofNat (2000 * b + 81 + b_tot (txs.take t))) → b_seq h rt r S = q0 → jT (F_18_faultOf_21 fu 421 (Int32.ofNat b) (Int32.ofNat i) H) Q := by
  have nT : ∀ a j, b_FR a j → a ≠ 474 ∧ a ≠ 475 ∧ a ≠ 479 ∧ a ≠ 447 ∧ ¬ (a = 445 ∧ j = 1) := fun a j w => by unfold b_FR at w; omega
  have htl : txs.length ≤ 12 := hb.1.2.2.1
  have hlay := b_lay_len hb.1
  have h1999 := hb.1.2.1
  have rd : ∀ (H : jH) (i : Nat) (x : b_t) (k : Int32 → jH → Option (Int32 × jH)), jsh H → jfr b_FR Hs H → txs[i]? = some x → (∀ t, t ≤ txs.length → jI H 481 t = Int32.ofNat (2000 * b + 81 + b_tot (txs.take t))) → (∀ v H', jsh H' → jfr (zS17 456) H H' → w_rx 474 (2000 * b + 81 + b_tot (txs.take i)) 600000 x.2.1 x.2.2 H' → jT (k v H') Q) → jT (jb (F_17_read 456 474 (jI H 481 i) (jI H 481 (i + 1)) H) k) Q := by
    intro H i x k hs hf hx h81 hk
    have hl := (List.getElem?_eq_some_iff.mp hx).1
    have hz : zRow H 474 (2000 * b) by_ := (b_RB_fr hb hf nT).2.1
    rw [h81 i (by omega), h81 (i + 1) (by omega), b_tot_take hx]
    have hle : b_tot (txs.take i) + x.2.1.length ≤ b_tot txs := by
      rw [← b_tot_take hx]
      have e : txs = txs.take (i + 1) ++ txs.drop (i + 1) := (List.take_append_drop _ _).symm
      have e2 : b_tot txs = b_tot (txs.take (i + 1)) + b_tot (txs.drop (i + 1)) := by
        have : b_tot (txs.take (i + 1) ++ txs.drop (i + 1)) = b_tot (txs.take (i + 1)) + b_tot (txs.drop (i + 1)) := by
          unfold b_tot
          rw [List.map_append, List.sum_append]
        rwa [← e] at this
      omega
    exact b_read18 hs (by decide) (sK_474 hs) (by decide) (by omega) (b_lay_row hb.1 hz hx) (hty x (List.mem_of_getElem? hx)) (by omega) fun H' g1 g2 g3 => hk _ H' g1 g2 g3
  intro r
  induction r with
  | nil =>
    intro i fu rt S H hd hi hfu hrt htok hs hfr hp hK h19 h8 hl h14 h81 hq
    obtain ⟨fu, rfl⟩ : ∃ k, fu = k + 1 := ⟨fu - 1, by omega⟩
    have hq' : (0, S) = q0 := hq
    subst hq'
    have k18 : (jK H 421).1 = 18 := gT (sK_421 hs)
    obtain ⟨x0, tr, ex⟩ : ∃ x0 tr, txs = x0 :: tr := by
      cases txs with
      | nil => exact absurd rfl hne
      | cons x0 tr => exact ⟨x0, tr, rfl⟩
    have ei : i = txs.length := by
      have : i + 0 = txs.length := hi
      omega
    have l1 : 1 ≤ txs.length := by rw [ex]; exact Nat.succ_le_succ (Nat.zero_le _)
    have eg : txs.getD 0 ([], [], ([], [], 0)) = x0 := by rw [ex]; rfl
    have e0 : txs[0]? = some x0 := by rw [ex]; rfl
    unfold F_18_faultOf_21 B_18_faultOf_21
    rw [h14, sR_421_15 hs, sR_421_4 hs, sR_421_6 hs]
    refine jT_g k18 (jT_pos (by rw [jo_le (by omega) (by omega)]; omega) (jT_g k18 (jT_g k18 (jT_g k18 (jT_g (by rw [sK_481 hs]; decide) (jT_g k18 (jT_g (by rw [sK_481 hs]; decide) (jT_g (gT (sK_456 hs)) ?_))))))))
    refine rd H 0 x0 _ hs hfr e0 h81 fun v H1 s1 f1 x1 => ?_
    have f1' : jfr b_FR Hs H1 := jfr_trans hfr (jfr_mono f1 fun a j w => by unfold zS17 at w; unfold b_FR; omega)
    have hk' := hk H1 s1 f1' (w_p13_T hp f1 fun a j w => by unfold zS17 at w; omega)
    have hK1 : b_KB S.1 S.2.1 H1 := b_KB_fr hK f1 fun a j w => by unfold zS17 at w; omega
    unfold b_fin at hk'
    rw [if_pos rfl, eg] at hk'
    have e00 : (5000000000 : Int64) = jshrL 5000000000 (Int32.ofNat 0) := by decide
    rw [e00]
    refine b_264 (g := S.2.2.1) s1 hn hbn ((jfr_I f1' (by unfold b_FR; omega)).trans h1s) ((b_RB_fr hb f1' nT).2.2.2.2) hh (hty x0 (List.mem_of_getElem? e0)) x1 ((jfr_L f1 (by unfold zS17; omega)).trans h19) (fun c => ?_) (fun c => ?_) (h / 32) 0 jfuel (Nat.zero_add _) (by unfold jfuel; omega)
    · rw [if_pos c] at hk'
      exact hk' fun _ => hK1
    · rw [if_neg c] at hk'
      exact hk' fun w => absurd (show (35 : Int32) = 0 from w) (by decide)
  | cons x r ih =>
    intro i fu rt S H hd hi hfu hrt htok hs hfr hp hK h19 h8 hl h14 h81 hq
    obtain ⟨fu, rfl⟩ : ∃ k, fu = k + 1 := ⟨fu - 1, by omega⟩
    have hi' : i + (r.length + 1) = txs.length := hi
    have hfu' : r.length + 1 < fu + 1 := hfu
    obtain ⟨tok, toks⟩ := htok
    have ex : txs[i]? = some x := by
      have : (txs.drop i)[0]? = some x := by rw [hd]; rfl
      rwa [List.getElem?_drop, Nat.add_zero] at this
    have hd' : txs.drop (i + 1) = r := by
      rw [← List.drop_drop, hd]
      rfl
    have k18 : (jK H 421).1 = 18 := gT (sK_421 hs)
    have l8 : x.2.2.1.length ≤ 8 := (ztx_spec tok.2.1.1).1
    have e1 : Int32.ofNat i + 1 = Int32.ofNat (i + 1) := jo_add (a := i) (b := 1)
    have fault : ∀ (v : Int32) (H1 : jH), v ≠ 0 → b_one h rt x S = (v, S) → jsh H1 → jfr b_FR Hs H1 → w_p13 H1 → Q v H1 := fun v H1 hv h1 g1 g2 g3 => by
      have hq1 := hq
      unfold b_seq at hq1
      rw [h1, if_neg hv] at hq1
      have hk' := hk H1 g1 g2 g3
      unfold b_fin at hk'
      rw [← hq1, if_neg hv] at hk'
      exact hk' fun w => absurd w hv
    unfold F_18_faultOf_21 B_18_faultOf_21
    rw [h14, sR_421_15 hs, sR_421_4 hs, sR_421_6 hs, e1, jo_nat (n := i) (by omega), jo_nat (n := i + 1) (by omega)]
    refine jT_g k18 (jT_neg (by rw [jo_le (by omega) (by omega)]; omega) (jT_g k18 (jT_g k18 (jT_g k18 (jT_g (by rw [sK_481 hs]; exact ⟨rfl, jo_in (by omega) (by show i < 13; omega)⟩) (jT_g k18 (jT_g (by rw [sK_481 hs]; exact ⟨rfl, jo_in (by omega) (by show i + 1 < 13; omega)⟩) (jT_g (gT (sK_456 hs)) ?_))))))))
    refine rd H i x _ hs hfr ex h81 fun v0 H0 s0 f0 x0 => ?_
    have f0' : jfr b_FR Hs H0 := jfr_trans hfr (jfr_mono f0 fun a j w => by unfold zS17 at w; unfold b_FR; omega)
    have hK0 : b_KB S.1 S.2.1 H0 := b_KB_fr hK f0 fun a j w => by unfold zS17 at w; omega
    have hp0 : w_p13 H0 := w_p13_T hp f0 fun a j w => by unfold zS17 at w; omega
    have hz0 := (b_RB_fr hb f0' nT).2.2.2.1 i x ex
    refine b_name57 (H0 := H0) (by omega) (by omega) tok.1 hz0 (fun H1 fu1 s1 f1 z1 => ?_) 32 0 jfuel H0 rfl (by unfold jfuel; omega) s0 jfr_refl fun j hj => absurd hj (Nat.not_lt_zero j)
    have f1' : jfr b_FR Hs H1 := jfr_trans f0' (jfr_mono f1 fun a j w => by unfold b_Sn at w; unfold b_FR; omega)
    have hK1 : b_KB S.1 S.2.1 H1 := b_KB_fr hK0 f1 fun a j w => by unfold b_Sn at w; omega
    have hp1 : w_p13 H1 := w_p13_T hp0 f1 fun a j w => by unfold b_Sn at w; omega
    have hx1 : w_rx 474 (2000 * b + 81 + b_tot (txs.take i)) 600000 x.2.1 x.2.2 H1 := w_rx_T x0 f1 (fun j w => by unfold b_Sn at w; omega) fun a j w => by unfold b_Sn at w; omega
    have v14 : jI H1 421 14 = Int32.ofNat txs.length := (jfr_I f1 (by unfold b_Sn; omega)).trans ((jfr_I f0 (by unfold zS17; omega)).trans h14)
    have v81 : ∀ t, t ≤ txs.length → jI H1 481 t = Int32.ofNat (2000 * b + 81 + b_tot (txs.take t)) := fun t ht => (jfr_I f1 (by unfold b_Sn; omega)).trans ((jfr_I f0 (by unfold zS17; omega)).trans (h81 t ht))
    have v19 : jL H1 421 19 = S.2.2.1 := (jfr_L f1 (by unfold b_Sn; omega)).trans ((jfr_L f0 (by unfold zS17; omega)).trans h19)
    have v8 : jI H1 437 8 = Int32.ofNat S.2.2.2 := (jfr_I f1 (by unfold b_Sn; omega)).trans ((jfr_I f0 (by unfold zS17; omega)).trans h8)
    clear f0 f1 f0' hK0 hp0 hz0 x0 s0 v0 h14 h81 h19 h8 hK hp hfr hs k18
    have k18 : (jK H1 421).1 = 18 := gT (sK_421 s1)
    -- what is made
    have tail : ∀ (H2 : jH) (l' : Nat), jsh H2 → jfr b_FR Hs H2 → w_p13 H2 → b_KB S.1 S.2.1 H2 → zRow H2 507 0 x.1 → w_rx 474 (2000 * b + 81 + b_tot (txs.take i)) 600000 x.2.1 x.2.2 H2 → jL H2 421 19 = (b_nxt h rt x S l').2.2.1 → jI H2 437 8 = Int32.ofNat l' → l' < 1000 → jI H2 421 14 = Int32.ofNat txs.length → (∀ t, t ≤ txs.length → jI H2 481 t = Int32.ofNat (2000 * b + 81 + b_tot (txs.take t))) → (rt = false → ∀ i, i < x.2.2.1.length → w_cf S.1 x.2.1 x.2.2 i ≠ none) →
        (b_one h rt x S = if b_mk S.1 x (b_nin rt x) S.2.1 = 0 then (0, b_nxt h rt x S l') else (b_mk S.1 x (b_nin rt x) S.2.1, S)) → jT (F_18_faultOf_119 (F_18_faultOf_21 fu) jfuel 421 (Int32.ofNat b) (Int32.ofNat i) 0 H2) Q := by
      intro H2 l' s2 f2 p2 K2 z2 x2 g19 g8 gl g14 g81 hall hone
      have k2 : (jK H2 421).1 = 18 := gT (sK_421 s2)
      have hi0 : rt = true ↔ Int32.ofNat i = 0 := ⟨fun w => by rw [hrt.mp w]; rfl, fun w => hrt.mpr ((jo_eq (a := i) (b := 0) (by omega) (by decide)).mp w)⟩
      refine z18_making s2 tok.2.1 x2 K2.1 z2 tok.1 (fun e => ?_) fun e => ?_
      · have em : b_mk S.1 x (b_nin rt x) S.2.1 = 36 := by
          unfold b_mk
          rw [b_pos e]
        rw [em, if_neg (by decide)] at hone
        exact fault 36 H2 (by decide) hone s2 f2 p2
      · have em : b_mk S.1 x (b_nin rt x) S.2.1 = w_mk37 S.1 (Int32.ofNat (b_nin rt x)) x.2.2.2.1.length S.2.1 := by
          unfold b_mk
          rw [b_neg fun ⟨j, h1, h2⟩ => h2 (e j h1)]
        have ed : (if Int32.ofNat i = 0 then (0 : Int32) else Int32.ofNat x.2.2.1.length) = Int32.ofNat (b_nin rt x) := by
          unfold b_nin
          by_cases c : rt = true
          · rw [if_pos (hi0.mp c), if_pos c]
            rfl
          · rw [if_neg (fun w => c (hi0.mpr w)), if_neg c]
        rw [ed]
        have bad : b_mk S.1 x (b_nin rt x) S.2.1 = 37 → jT (B_18_faultOf_206 H2) Q := fun e37 => by
          unfold B_18_faultOf_206
          rw [e37, if_neg (by decide)] at hone
          exact jT_ret (fault 37 H2 (by decide) hone s2 f2 p2)
        unfold w_mk37 at em
        unfold B_18_faultOf_170
        rw [sR_421_4 s2, K2.1.1, x2.2.1.2.2.2, K2.2.1]
        refine jT_g k2 (jT_g k2 (jT_g (gT (sK_456 s2)) ?_))
        by_cases c1 : 1500 < Int32.ofNat S.1.length - Int32.ofNat (b_nin rt x) + Int32.ofNat x.2.2.2.1.length
        · rw [if_pos c1] at em
          exact jT_pos c1 (bad em)
        · rw [if_neg c1] at em
          refine jT_neg c1 (jT_g k2 ?_)
          by_cases c2 : Int32.ofNat S.2.1 + Int32.ofNat (b_nin rt x) ≤ 3000
          · rw [if_pos c2] at em
            obtain ⟨p1, pm, p3⟩ := b_chg_ok (h := h) tok K2.1.2.1 K2.2.2 rfl hall em
            rw [if_pos em] at hone
            refine jT_pos c2 (jT_g k2 (jT_b (z18_height s2 hn hbn ((jfr_I f2 (by unfold b_FR; omega)).trans h1s) ?_)))
            rw [(b_RB_fr hb f2 nT).2.2.2.2]
            have hq1 := hq
            unfold b_seq at hq1
            rw [hone, if_pos rfl] at hq1
            have go : ∀ a3 : Int32, a3 = (if rt = true then 1 else 0) → jT (B_18_faultOf_224 (F_18_faultOf_21 fu) 421 (Int32.ofNat b) (Int32.ofNat i) 421 (Int32.ofNat h) a3 H2) Q := fun a3 ea => by
              unfold B_18_faultOf_224
              refine jT_g k2 (z18_apply rt ea (ea.trans tok.2.2.1.symm) tok.2.1 tok.1 s2 x2 z2 K2.1 K2.2.1 p3 (b_lay_hlm (b_RB_fr hb f2 nT) ex) p1 fun H3 s3 f3 A3 v4 => jT_l ?_)
              rw [e1]
              have f3' : jfr b_FR Hs H3 := jfr_trans f2 (jfr_mono f3 fun a j w => by unfold w_Tq at w; unfold b_FR; omega)
              exact ih (i + 1) fu false (b_nxt h rt x S l') H3 hd' (by omega) (by omega) ⟨fun w => (by cases w), fun w => absurd w (Nat.succ_ne_zero i)⟩ toks s3 f3' (w_p13_T p2 f3 fun a j w => by unfold w_Tq at w; omega) ⟨A3, v4, pm⟩ ((jfr_L f3 (by unfold w_Tq; omega)).trans g19) ((jfr_I f3 (by unfold w_Tq; omega)).trans g8) gl ((jfr_I f3 (by unfold w_Tq; omega)).trans g14) (fun t ht => (jfr_I f3 (by unfold w_Tq; omega)).trans (g81 t ht)) hq1
            cases rt with
            | true => exact jT_neg (fun w => w (hi0.mp rfl)) (go 1 rfl)
            | false => exact jT_pos (fun w => by have := hi0.mpr w; cases this) (go 0 rfl)
          · rw [if_neg c2] at em
            exact jT_neg c2 (bad em)
    unfold B_18_faultOf_57 B_18_faultOf_109
    refine jT_pos (by decide) ?_
    cases rt with
    | true =>
      have i0 : i = 0 := hrt.mp rfl
      subst i0
      refine jT_neg (fun w => w rfl) (jT_pos (by decide) (tail H1 S.2.2.2 s1 f1' hp1 hK1 z1 hx1 v19 v8 hl v14 v81 (fun w => by cases w) ?_))
      unfold b_one b_nin
      rw [if_pos rfl, if_pos rfl]
    | false =>
      have hne0 : ¬ Int32.ofNat i = 0 := fun w => by
        have := hrt.mpr ((jo_eq (a := i) (b := 0) (by omega) (by decide)).mp w)
        cases this
      refine jT_pos hne0 (jT_g k18 (jT_b (z18_height s1 hn hbn ((jfr_I f1' (by unfold b_FR; omega)).trans h1s) (jT_g k18 ?_))))
      rw [(b_RB_fr hb f1' nT).2.2.2.2]
      refine z18_wrong (lf := S.2.2.2) (b_fit_ok) s1 tok.2.1 hx1 hp1 hK1.1 v8 hl (fun v hv hj => ?_) (fun H2 hj0 g2 s2 p2 C2 f2 => ?_) fun lf' H2 hj0 g2 gl s2 x2 p2 C2 g8 f2 g19 => ?_
      · have ev := b_jgd_jd hj
        rcases b_jgd_v hj with c | c
        · exact absurd c hv
        · refine jT_neg c (jT_ret (fault v H1 hv ?_ s1 f1' hp1))
          unfold b_one
          rw [if_neg (by decide), if_neg (by rw [← ev]; exact hv), ← ev]
      · have f2' : jfr b_FR Hs H2 := jfr_trans f1' (jfr_mono f2 fun a j w => by unfold w_FI w_FS w_F14 w_S15 at w; unfold b_FR; omega)
        refine jT_neg (by decide) (jT_ret (fault 34 H2 (by decide) ?_ s2 f2' p2))
        unfold b_one b_scr
        rw [if_neg (by decide), if_pos (b_jgd_jd hj0).symm, g2]
      · have f2' : jfr b_FR Hs H2 := jfr_trans f1' (jfr_mono f2 fun a j w => by unfold w_FI w_FS w_F14 w_S15 at w; unfold b_FR; omega)
        refine jT_pos (by decide) (tail H2 lf' s2 f2' p2 ⟨C2, (jfr_I f2 fun w => by unfold w_FI w_FS w_F14 w_S15 at w; omega).trans hK1.2.1, hK1.2.2⟩ (zRow_eq z1 fun p _ => jfr_B f2 fun w => by unfold w_FI w_FS w_F14 w_S15 at w; omega) x2 ?_ g8 gl ((jfr_I f2 fun w => by unfold w_FI w_FS w_F14 w_S15 at w; omega).trans v14) (fun t ht => (jfr_I f2 fun w => by unfold w_FI w_FS w_F14 w_S15 at w; omega).trans (v81 t ht)) (fun _ => b_jd_0 (b_jgd_jd hj0).symm) ?_)
        · rw [g19, v19]
          rfl
        · unfold b_one b_nin b_scr
          rw [if_neg (by decide), if_pos (b_jgd_jd hj0).symm, g2]
          rfl
/-- the reference judges a block -/
theorem b_faultOf {α : Type} {R : α → jH → Prop} {k : Int32 → jH → Option (α × jH)} {cs : List w_cn} {m : Nat} (hb : b_RB b h by_ txs Hs) (hh : h < 300) (hn : n ≤ 300) (hb0 : 0 < b) (hbn : b < n) (h1s : jI Hs 445 1 = Int32.ofNat n) (hty : ∀ x ∈ txs, w_ty x.2.1 x.2.2) (hne : txs ≠ []) (htok : b_toks true txs) (hs : jsh Hs) (hp : w_p13 Hs) (hK : b_KB cs m Hs)
    (hk : ∀ H', jsh H' → jfr b_FR Hs H' → w_p13 H' → ((b_all h txs cs m).1 = 0 → b_KB (b_all h txs cs m).2.1 (b_all h txs cs m).2.2.1 H') → jT (k (b_all h txs cs m).1 H') R) : jT (jb (F_18_faultOf 421 (Int32.ofNat b) Hs) k) R := by
  unfold F_18_faultOf
  have k18 : ∀ {H}, jsh H → (jK H 421).1 = 18 := fun hs => gT (sK_421 hs)
  refine jT_b (jT_g (k18 hs) (b_openBlock hs hb.1 hty hb.2.1 hb0 (by omega) hb.2.2.1.1 fun H1 s1 f1 v14 v81 => jT_g (k18 s1) (jT_l ?_)))
  have s2 : jsh (jsL H1 421 19 0) := jsh_sL s1
  have f2 : jfr (fun a j => a = 421 ∧ j = 19) H1 (jsL H1 421 19 0) := jfr_sL jfr_refl ⟨rfl, rfl⟩
  have v19 : jL (jsL H1 421 19 0) 421 19 = 0 := jL_sLe
  generalize jsL H1 421 19 0 = H2 at s2 f2 v19
  rw [sR_421_2 s2]
  refine jT_g (k18 s2) (jT_g (gT (sK_437 s2)) (jT_l ?_))
  have s3 : jsh (jsI H2 437 8 24) := jsh_sI s2 (by decide)
  have f3 : jfr (fun a j => a = 437 ∧ j = 8) H2 (jsI H2 437 8 24) := jfr_sI jfr_refl ⟨rfl, rfl⟩
  have v8 : jI (jsI H2 437 8 24) 437 8 = Int32.ofNat 24 := jI_sIe
  generalize jsI H2 437 8 24 = H3 at s3 f3 v8
  have fr : jfr b_FR Hs H3 := jfr_trans (jfr_mono f1 fun a j w => by unfold b_S18 at w; unfold b_FR; omega) (jfr_trans (jfr_mono f2 fun a j w => by unfold b_FR; omega) (jfr_mono f3 fun a j w => by unfold b_FR; omega))
  refine b_flt21 (Q := fun v H => jT (k v H) R) hb hh hn hbn h1s hty (b_seq h true txs (cs, m, 0, 24)) hk hne txs 0 jfuel true (cs, m, 0, 24) H3 rfl (Nat.zero_add _) (by have := hb.1.2.2.1; unfold jfuel; omega) ⟨fun _ => rfl, fun _ => rfl⟩ htok s3 fr ?_ ?_ ?_ v8 (show 24 < 1000 by decide) ?_ (fun t ht => ?_) rfl
  · exact w_p13_T (w_p13_T (w_p13_T hp f1 fun a j w => by unfold b_S18 at w; omega) f2 fun a j w => by omega) f3 fun a j w => by omega
  · exact b_KB_fr (b_KB_fr (b_KB_fr hK f1 fun a j w => by unfold b_S18 at w; omega) f2 fun a j w => by omega) f3 fun a j w => by omega
  · exact (jfr_L f3 (by omega)).trans v19
  · exact (jfr_I f3 (by omega)).trans ((jfr_I f2 (by omega)).trans v14)
  · exact (jfr_I f3 (by omega)).trans ((jfr_I f2 (by omega)).trans (v81 t ht))
end FA18
