/-! The reference puts the blocks of a chain on. -/
def b_D (bs : List b_k) (H : jH) : Prop := ∀ k, k < bs.length → zRow H 474 (2000 * k) (b_by bs k) ∧ jI H 475 k = Int32.ofNat (b_by bs k).length ∧ zRow H 476 (32 * k) (b_nm bs k) ∧ ∀ t x, (b_tx bs k)[t]? = some x → zRow H 479 (384 * k + 32 * t) x.1
theorem b_D_fr {bs : List b_k} {T : Nat → Nat → Prop} {H H' : jH} (h : b_D bs H) (hf : jfr T H H') (hT : ∀ a j, T a j → a ≠ 474 ∧ a ≠ 475 ∧ a ≠ 476 ∧ a ≠ 479) : b_D bs H' := fun k hk => by
  obtain ⟨h1, h2, h3, h4⟩ := h k hk
  exact ⟨zRow_eq h1 fun i _ => jfr_B hf fun w => (hT _ _ w).1 rfl, (jfr_I hf fun w => (hT _ _ w).2.1 rfl).trans h2, zRow_eq h3 fun i _ => jfr_B hf fun w => (hT _ _ w).2.2.1 rfl, fun t x hx => zRow_eq (h4 t x hx) fun i _ => jfr_B hf fun w => (hT _ _ w).2.2.2 rfl⟩
theorem b_RB_of {bs : List b_k} {H : jH} (hw : b_wf bs) (hT : b_T bs H) (hD : b_D bs H) {k : Nat} (hk : k < bs.length) (hk1 : 1 ≤ k) : b_RB k (b_ht bs k) (b_by bs k) (b_tx bs k) H :=
  ⟨(hw.2.2.2.2 k hk1 hk).2.2.1, (hD k hk).1, ⟨(hD k hk).2.1, by
    have := (hw.2.2.2.2 k hk1 hk).2.2.1.2.1
    have := hw.2.1
    rw [hT.1, jo_nat (n := bs.length) (by omega)]
    omega⟩, (hD k hk).2.2.2, (hT.2 k hk).2.1⟩
/-- the reference's coins are those of a block that is right -/
def b_KC (bs : List b_k) (c : Nat) (H : jH) : Prop := jI H 421 16 = Int32.ofNat c ∧ c < bs.length ∧ b_right bs c ∧ b_KB (b_co bs c (b_ht bs c)).1 (b_co bs c (b_ht bs c)).2 H
def b_FN : Nat → Nat → Prop := fun a j => (456 ≤ a ∧ a ≤ 464) ∨ a = 481 ∨ (a = 421 ∧ (j = 14 ∨ j = 16 ∨ j = 17 ∨ j = 18)) ∨ (482 ≤ a ∧ a ≤ 488) ∨ a = 507
section ND18
variable {α : Type} {Q : Unit → jH → Prop} {b h : Nat} {by_ : List UInt8} {txs : List b_t} {Hs : jH}
/-- one transaction of a known block is read again -/
theorem b_rd {β : Type} {R : β → jH → Prop} {H : jH} {i : Nat} {x : b_t} {k : Int32 → jH → Option (β × jH)} (hb : b_RB b h by_ txs H) (hb3 : b < 300) (hty : ∀ x ∈ txs, w_ty x.2.1 x.2.2) (hs : jsh H) (hx : txs[i]? = some x) (h81 : ∀ t, t ≤ txs.length → jI H 481 t = Int32.ofNat (2000 * b + 81 + b_tot (txs.take t)))
    (hk : ∀ v H', jsh H' → jfr (zS17 456) H H' → w_rx 474 (2000 * b + 81 + b_tot (txs.take i)) 600000 x.2.1 x.2.2 H' → jT (k v H') R) : jT (jb (F_17_read 456 474 (jI H 481 i) (jI H 481 (i + 1)) H) k) R := by
  have hl := (List.getElem?_eq_some_iff.mp hx).1
  have hlay := b_lay_len hb.1
  have h1999 := hb.1.2.1
  have hle : b_tot (txs.take (i + 1)) ≤ b_tot txs := b_tot_le
  rw [b_tot_take hx] at hle
  rw [h81 i (by omega), h81 (i + 1) (by omega), b_tot_take hx]
  exact b_read18 hs (by decide) (sK_474 hs) (by decide) (by omega) (b_lay_row hb.1 hb.2.1 hx) (hty x (List.mem_of_getElem? hx)) (by omega) fun H' g1 g2 g3 => hk _ H' g1 g2 g3
theorem b_name88 {k48 : Nat → Int32 → Int32 → Int32 → Int32 → jH → Option (Unit × jH)} {a1 a2 : Int32} {nm : List UInt8} {t : Nat} {H0 : jH} (hb : b < 300) (ht : t < 12) (h32 : nm.length = 32) (hz : zRow H0 479 (384 * b + 32 * t) nm)
    (hk : ∀ H' fu, jsh H' → jfr b_Sn H0 H' → zRow H' 507 0 nm → jT (B_18_need_88 k48 (F_18_need_88 k48 fu) 421 a1 a2 (Int32.ofNat b) (Int32.ofNat t) 32 H') Q) :
    ∀ (d i fu : Nat) (H : jH), i + d = 32 → d < fu → jsh H → jfr b_Sn H0 H → (∀ j, j < i → jB H 507 j = nm.getD j 0) → jT (F_18_need_88 k48 fu 421 a1 a2 (Int32.ofNat b) (Int32.ofNat t) (Int32.ofNat i) H) Q := by
  intro d
  induction d with
  | zero =>
    intro i fu H hi hfu hs hf hj
    obtain ⟨fu, rfl⟩ : ∃ k, fu = k + 1 := ⟨fu - 1, by omega⟩
    obtain rfl : i = 32 := by omega
    unfold F_18_need_88
    refine hk H fu hs hf fun i u hi => ?_
    have hl := (List.getElem?_eq_some_iff.mp hi).1
    rw [Nat.zero_add, hj i (by omega), List.getD_eq_getElem?_getD, hi]
    rfl
  | succ d ih =>
    intro i fu H hi hfu hs hf hj
    obtain ⟨fu, rfl⟩ : ∃ k, fu = k + 1 := ⟨fu - 1, by omega⟩
    have k18 : (jK H 421).1 = 18 := gT (sK_421 hs)
    have e1 : Int32.ofNat i + 1 = Int32.ofNat (i + 1) := jo_add (a := i) (b := 1)
    have ea : (384 : Int32) * Int32.ofNat b + (32 : Int32) * Int32.ofNat t + Int32.ofNat i = Int32.ofNat (384 * b + 32 * t + i) := by
      rw [show (384 : Int32) = Int32.ofNat 384 from rfl, show (32 : Int32) = Int32.ofNat 32 from rfl, jo_mul, jo_mul, jo_add, jo_add]
    have ev : jB H 479 (384 * b + 32 * t + i) = nm.getD i 0 := by
      rw [jfr_B hf fun w => absurd (show (479 : Nat) = 507 from w) (by decide)]
      exact hz i _ (getD_of (by omega))
    unfold F_18_need_88 B_18_need_88
    rw [sR_421_11 hs, sR_421_49 hs, ea, e1, jo_nat (n := 384 * b + 32 * t + i) (by omega), jo_nat (n := i) (by omega), ev, jbu_jbs]
    refine jT_neg (by show ¬ Int32.ofNat 32 ≤ _; rw [jo_le (by decide) (by omega)]; omega) (jT_g k18 (jT_g k18 (jT_g (by rw [sK_479 hs]; exact ⟨rfl, jo_in (by omega) (by show 384 * b + 32 * t + i < 115200; omega)⟩) (jT_g (by rw [sK_507 hs]; exact ⟨rfl, jo_in (by omega) (by show i < 32; omega)⟩) (jT_l (jT_l ?_))))))
    refine ih (i + 1) fu _ (by omega) (by omega) (jsh_sB hs) (jfr_sB hf rfl) fun j hj2 => ?_
    by_cases c : j = i
    · rw [c]
      exact jB_sBe
    · rw [jB_sBn c]
      exact hj j (by omega)
theorem b_nd48 {k21 : Nat → Int32 → Int32 → jH → Option (Unit × jH)} {a1 : Int32} (hb : b_RB b h by_ txs Hs) (hh : h < 300) (hb3 : b < 300) (hty : ∀ x ∈ txs, w_ty x.2.1 x.2.2) (q0 : List w_cn × Nat) (hk : ∀ H', jsh H' → jfr b_FN Hs H' → b_KB q0.1 q0.2 H' → jT (k21 421 a1 (Int32.ofNat (h + 1)) H') Q) :
    ∀ (r : List b_t) (i fu : Nat) (rt : Bool) (q : List w_cn × Nat) (H : jH), txs.drop i = r → i + r.length = txs.length → r.length < fu → (rt = true ↔ i = 0) → b_toks rt r → b_fits h rt r q → jsh H → jfr b_FN Hs H → b_KB q.1 q.2 H → jI H 421 14 = Int32.ofNat txs.length → (∀ t, t ≤ txs.length → jI H 481 t = Int32.ofNat (2000 * b + 81 + b_tot (txs.take t))) → b_app h rt r q = q0 → jT (F_18_need_48 k21 fu 421 a1 (Int32.ofNat h) (Int32.ofNat b) (Int32.ofNat i) H) Q := by
  have nT : ∀ a j, b_FN a j → a ≠ 474 ∧ a ≠ 475 ∧ a ≠ 479 ∧ a ≠ 447 ∧ ¬ (a = 445 ∧ j = 1) := fun a j w => by unfold b_FN at w; omega
  have htl : txs.length ≤ 12 := hb.1.2.2.1
  intro r
  induction r with
  | nil =>
    intro i fu rt q H hd hi hfu hrt htok hft hs hfr hK h14 h81 hq
    obtain ⟨fu, rfl⟩ : ∃ k, fu = k + 1 := ⟨fu - 1, by omega⟩
    have hq' : q = q0 := hq
    subst hq'
    have ei : i = txs.length := by
      have : i + 0 = txs.length := hi
      omega
    have e1 : Int32.ofNat h + 1 = Int32.ofNat (h + 1) := jo_add (a := h) (b := 1)
    unfold F_18_need_48 B_18_need_48
    rw [h14, e1]
    exact jT_g (gT (sK_421 hs)) (jT_pos (by rw [jo_le (by omega) (by omega)]; omega) (jT_l (hk H hs hfr hK)))
  | cons x r ih =>
    intro i fu rt q H hd hi hfu hrt htok hft hs hfr hK h14 h81 hq
    obtain ⟨fu, rfl⟩ : ∃ k, fu = k + 1 := ⟨fu - 1, by omega⟩
    have hi' : i + (r.length + 1) = txs.length := hi
    have hfu' : r.length + 1 < fu + 1 := hfu
    obtain ⟨tok, toks⟩ := htok
    obtain ⟨p1, p2, p3, p4⟩ := hft
    have ex : txs[i]? = some x := by
      have : (txs.drop i)[0]? = some x := by rw [hd]; rfl
      rwa [List.getElem?_drop, Nat.add_zero] at this
    have hd' : txs.drop (i + 1) = r := by
      rw [← List.drop_drop, hd]
      rfl
    have k18 : (jK H 421).1 = 18 := gT (sK_421 hs)
    have e1 : Int32.ofNat i + 1 = Int32.ofNat (i + 1) := jo_add (a := i) (b := 1)
    unfold F_18_need_48 B_18_need_48
    rw [h14, sR_421_15 hs, sR_421_4 hs, sR_421_6 hs, e1, jo_nat (n := i) (by omega), jo_nat (n := i + 1) (by omega)]
    refine jT_g k18 (jT_neg (by rw [jo_le (by omega) (by omega)]; omega) (jT_g k18 (jT_g k18 (jT_g k18 (jT_g (by rw [sK_481 hs]; exact ⟨rfl, jo_in (by omega) (by show i < 13; omega)⟩) (jT_g k18 (jT_g (by rw [sK_481 hs]; exact ⟨rfl, jo_in (by omega) (by show i + 1 < 13; omega)⟩) (jT_g (gT (sK_456 hs)) ?_))))))))
    refine b_rd (b_RB_fr hb hfr nT) hb3 hty hs ex h81 fun v0 H0 s0 f0 x0 => ?_
    have f0' : jfr b_FN Hs H0 := jfr_trans hfr (jfr_mono f0 fun a j w => by unfold zS17 at w; unfold b_FN; omega)
    have hK0 : b_KB q.1 q.2 H0 := b_KB_fr hK f0 fun a j w => by unfold zS17 at w; omega
    have hz0 := (b_RB_fr hb f0' nT).2.2.2.1 i x ex
    refine b_name88 (H0 := H0) hb3 (by omega) tok.1 hz0 (fun H1 fu1 s1 f1 z1 => ?_) 32 0 jfuel H0 rfl (by unfold jfuel; omega) s0 jfr_refl fun j hj => absurd hj (Nat.not_lt_zero j)
    have f1' : jfr b_FN Hs H1 := jfr_trans f0' (jfr_mono f1 fun a j w => by unfold b_Sn at w; unfold b_FN; omega)
    have hK1 : b_KB q.1 q.2 H1 := b_KB_fr hK0 f1 fun a j w => by unfold b_Sn at w; omega
    have hx1 : w_rx 474 (2000 * b + 81 + b_tot (txs.take i)) 600000 x.2.1 x.2.2 H1 := w_rx_T x0 f1 (fun j w => by unfold b_Sn at w; omega) fun a j w => by unfold b_Sn at w; omega
    have v14 : jI H1 421 14 = Int32.ofNat txs.length := (jfr_I f1 (by unfold b_Sn; omega)).trans ((jfr_I f0 (by unfold zS17; omega)).trans h14)
    have v81 : ∀ t, t ≤ txs.length → jI H1 481 t = Int32.ofNat (2000 * b + 81 + b_tot (txs.take t)) := fun t ht => (jfr_I f1 (by unfold b_Sn; omega)).trans ((jfr_I f0 (by unfold zS17; omega)).trans (h81 t ht))
    have go : ∀ a3 : Int32, a3 = (if rt = true then 1 else 0) → jT (B_18_need_139 (F_18_need_48 k21 fu) 421 a1 (Int32.ofNat h) (Int32.ofNat b) (Int32.ofNat i) 421 (Int32.ofNat h) a3 H1) Q := fun a3 ea => by
      unfold B_18_need_139
      refine jT_g (gT (sK_421 s1)) (z18_apply rt ea (ea.trans tok.2.2.1.symm) tok.2.1 tok.1 s1 hx1 z1 hK1.1 hK1.2.1 p3 (b_lay_hlm (b_RB_fr hb f1' nT) ex) p1 fun H3 s3 f3 A3 v4 => jT_l ?_)
      rw [e1]
      exact ih (i + 1) fu false _ H3 hd' (by omega) (by omega) ⟨fun w => (by cases w), fun w => absurd w (Nat.succ_ne_zero i)⟩ toks p4 s3 (jfr_trans f1' (jfr_mono f3 fun a j w => by unfold w_Tq at w; unfold b_FN; omega)) ⟨A3, v4, p2⟩ ((jfr_I f3 (by unfold w_Tq; omega)).trans v14) (fun t ht => (jfr_I f3 (by unfold w_Tq; omega)).trans (v81 t ht)) hq
    unfold B_18_need_88
    refine jT_pos (by decide) ?_
    cases rt with
    | true =>
      have i0 : i = 0 := hrt.mp rfl
      subst i0
      exact jT_neg (fun w => w rfl) (go 1 rfl)
    | false =>
      exact jT_pos (fun w => by have := hrt.mpr ((jo_eq (a := i) (b := 0) (by omega) (by decide)).mp w); cases this) (go 0 rfl)
variable {bs : List b_k}
theorem b_nd21 {R : Unit → jH → Prop} (hw : b_wf bs) (hT : b_T bs Hs) (hD : b_D bs Hs) (hb : b < bs.length) (hr : b_right bs b) (hk : ∀ H', jsh H' → jfr b_FN Hs H' → b_KC bs b H' → R () H') :
    ∀ (d h fu : Nat) (H : jH), h + d = b_ht bs b → d < fu → jsh H → jfr b_FN Hs H → b_KB (b_co bs b h).1 (b_co bs b h).2 H → jT (F_18_need_21 fu 421 (Int32.ofNat b) (Int32.ofNat (h + 1)) H) R := by
  have l300 := hw.2.1
  have hb3 := b_ht_300 hw hb
  have nT : ∀ a j, b_FN a j → (a < 445 ∨ 450 ≤ a) ∨ (a = 445 ∧ j ≠ 1) := fun a j w => by unfold b_FN at w; omega
  have nD : ∀ a j, b_FN a j → a ≠ 474 ∧ a ≠ 475 ∧ a ≠ 476 ∧ a ≠ 479 := fun a j w => by unfold b_FN at w; omega
  intro d
  induction d with
  | zero =>
    intro h fu H hd hfu hs hf hK
    obtain ⟨fu, rfl⟩ : ∃ k, fu = k + 1 := ⟨fu - 1, by omega⟩
    obtain rfl : h = b_ht bs b := by omega
    have s2 : jsh (jsI H 421 16 (Int32.ofNat b)) := jsh_sI hs (by decide)
    have f2 : jfr (fun a j => a = 421 ∧ j = 16) H (jsI H 421 16 (Int32.ofNat b)) := jfr_sI jfr_refl ⟨rfl, rfl⟩
    unfold F_18_need_21 B_18_need_21
    rw [b_height hw hs (b_T_fr hT hf nT) hb, jb_ok]
    refine jT_g (gT (sK_421 hs)) (jT_pos (by rw [jo_lt (by omega) (by omega)]; omega) (jT_g (gT (sK_421 hs)) (jT_l (jT_ret (hk _ s2 (jfr_trans hf (jfr_mono f2 fun a j w => by unfold b_FN; omega)) ⟨jI_sIe, hb, hr, b_KB_fr hK f2 fun a j w => by omega⟩)))))
  | succ d ih =>
    intro h fu H hd hfu hs hf hK
    obtain ⟨fu, rfl⟩ : ∃ k, fu = k + 1 := ⟨fu - 1, by omega⟩
    have hT' := b_T_fr hT hf nT
    have hD' := b_D_fr hD hf nD
    obtain ⟨p1, p2, p3⟩ := b_at_ok hw hb (h := h + 1) (by omega)
    have hk1 := b_ht_pos hw p3 (by omega)
    have hRB := b_RB_of hw hT' hD' p3 hk1
    rw [p2] at hRB
    obtain ⟨-, -, -, ht, -⟩ := hw.2.2.2.2 _ hk1 p3
    have hfit := (b_co_ok hw hb (h := b_ht bs b) (Nat.le_refl _) fun g g1 g2 => hr g g1 g2).2.2 (h + 1) (by omega) (by omega)
    unfold F_18_need_21 B_18_need_21
    rw [b_height hw hs hT' hb, jb_ok, sR_421_3 hs, b_below hw hs hT' hb (by omega), jb_ok]
    refine jT_g (gT (sK_421 hs)) (jT_neg (by rw [jo_lt (by omega) (by omega)]; omega) (jT_g (gT (sK_421 hs)) (jT_g (gT (sK_445 hs)) (jT_g (gT (sK_421 hs)) ?_))))
    refine b_openBlock hs hRB.1 (b_toks_ty ht) hRB.2.1 hk1 (by omega) hRB.2.2.1.1 fun H1 s1 f1 v14 v81 => ?_
    have f1' : jfr b_FN Hs H1 := jfr_trans hf (jfr_mono f1 fun a j w => by unfold b_S18 at w; unfold b_FN; omega)
    have hRB1 := b_RB_of hw (b_T_fr hT f1' nT) (b_D_fr hD f1' nD) p3 hk1
    rw [p2] at hRB1
    exact b_nd48 (Hs := H1) hRB1 (by omega) (by omega) (b_toks_ty ht) (b_co bs b (h + 1)) (fun H2 s2 f2 K2 => ih (h + 1) fu H2 (by omega) (by omega) s2 (jfr_trans f1' f2) K2) (b_tx bs (b_at bs b (h + 1))) 0 jfuel true (b_co bs b h) H1 rfl (Nat.zero_add _) (by have := hRB.1.2.2.1; unfold jfuel; omega) ⟨fun _ => rfl, fun _ => rfl⟩ ht hfit s1 jfr_refl (b_KB_fr hK f1 fun a j w => by unfold b_S18 at w; omega) v14 v81 rfl
theorem b_need {Q : α → jH → Prop} {k : Unit → jH → Option (α × jH)} {c : Nat} (hw : b_wf bs) (hs : jsh Hs) (hT : b_T bs Hs) (hD : b_D bs Hs) (hb : b < bs.length) (hr : b_right bs b) (hC : b_KC bs c Hs) (hk : ∀ H', jsh H' → jfr b_FN Hs H' → b_KC bs b H' → jT (k () H') Q) : jT (jb (F_18_need 421 (Int32.ofNat b) Hs) k) Q := by
  have l300 := hw.2.1
  unfold F_18_need
  obtain ⟨c1, c2, c3, c4⟩ := hC
  rw [c1]
  refine jT_b (jT_g (gT (sK_421 hs)) ?_)
  by_cases e : c = b
  · subst e
    exact jT_neg (fun w => w rfl) (jT_ret (hk Hs hs jfr_refl ⟨c1, c2, c3, c4⟩))
  · refine jT_pos (fun w => e ((jo_eq (by omega) (by omega)).mp w)) ?_
    have s1 : jsh (jsI Hs 421 17 0) := jsh_sI hs (by decide)
    have s2 : jsh (jsI (jsI Hs 421 17 0) 421 18 0) := jsh_sI s1 (by decide)
    have f2 : jfr b_FN Hs (jsI (jsI Hs 421 17 0) 421 18 0) := jfr_sI (jfr_sI jfr_refl (by unfold b_FN; omega)) (by unfold b_FN; omega)
    have v17 : jI (jsI (jsI Hs 421 17 0) 421 18 0) 421 17 = 0 := (jI_sIn (by decide)).trans jI_sIe
    have v18 : jI (jsI (jsI Hs 421 17 0) 421 18 0) 421 18 = 0 := jI_sIe
    refine jT_g (gT (sK_421 hs)) (jT_l (jT_g (gT (sK_421 s1)) (jT_l ?_)))
    exact b_nd21 (R := fun v H => jT (k v H) Q) hw hT hD hb hr hk (b_ht bs b) 0 jfuel _ (Nat.zero_add _) (by have := b_ht_300 hw hb; unfold jfuel; omega) s2 f2 ⟨⟨v17, Nat.zero_le _, fun k c hc => by cases hc⟩, v18, Nat.zero_le _⟩
end ND18
