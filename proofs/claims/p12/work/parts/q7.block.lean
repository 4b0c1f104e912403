/-! A block is laid, its nonce is found, it is sent. -/
theorem jshr_ushr (w : Int32) (i : Nat) (hi : i < 4) : jushr w (Int32.ofNat (24 - 8 * i)) &&& 255 = jshr w (Int32.ofNat (24 - 8 * i)) &&& 255 := by
  have h0 : ∀ (x : BitVec 32) (s : Nat), s ≤ 24 → (x >>> s) &&& 255#32 = (x.sshiftRight s) &&& 255#32 := by
    intro x s hs
    refine BitVec.eq_of_getLsbD_eq fun k hk => ?_
    rw [BitVec.getLsbD_and, BitVec.getLsbD_and, BitVec.getLsbD_ushiftRight, BitVec.getLsbD_sshiftRight]
    by_cases h8 : k < 8
    · rw [if_pos (by omega)]
      have : ¬ 32 ≤ k := by omega
      simp [this]
    · have : (255#32).getLsbD k = false := by
        have : ∀ k, k < 32 → ¬ k < 8 → (255#32).getLsbD k = false := by decide
        exact this k hk h8
      rw [this, Bool.and_false, Bool.and_false]
  have hc : ∀ i, i < 4 → ∀ x : BitVec 32, (jushr ⟨⟨x⟩⟩ (Int32.ofNat (24 - 8 * i))).toBitVec = x >>> (24 - 8 * i) ∧ (jshr ⟨⟨x⟩⟩ (Int32.ofNat (24 - 8 * i))).toBitVec = x.sshiftRight (24 - 8 * i) := by
    intro i hi x
    rcases (show i = 0 ∨ i = 1 ∨ i = 2 ∨ i = 3 by omega) with rfl | rfl | rfl | rfl <;> exact ⟨rfl, rfl⟩
  refine Int32.toBitVec_inj.mp ?_
  rw [Int32.toBitVec_and, Int32.toBitVec_and]
  obtain ⟨q1, q2⟩ := hc i hi w.toBitVec
  have e : (⟨⟨w.toBitVec⟩⟩ : Int32) = w := rfl
  rw [e] at q1 q2
  rw [q1, q2]
  exact h0 w.toBitVec (24 - 8 * i) (by omega)
def q_nl (T : Nat → Int64) (l : List Nat) : Prop := q_nt T l.length fun k => l.getD k 0
/-- what is noted, and where it stands -/
def q_LS (l : List Nat) (M : Nat → Int32) (T : Nat → Int64) : Prop := M 60 = 0 ∧ M 61 = Int32.ofNat l.length ∧ q_nl T l
theorem q_LS_eq {l : List Nat} {M M' : Nat → Int32} {T T' : Nat → Int64} (h : q_LS l M T) (hl : l.length ≤ 93) (e1 : M' 60 = M 60) (e2 : M' 61 = M 61) (e3 : ∀ j, j < 32 → T' j = T j) : q_LS l M' T' := ⟨e1.trans h.1, e2.trans h.2.1, q_nt_eq h.2.2 hl e3⟩
theorem q_mem {l : List Nat} {v : Nat} : v ∈ l ↔ ∃ k, k < l.length ∧ l.getD k 0 = v := by
  constructor
  · intro h
    obtain ⟨k, hk, e⟩ := List.getElem_of_mem h
    exact ⟨k, hk, by rw [List.getD_eq_getElem?_getD, List.getElem?_eq_getElem hk]; exact e⟩
  · rintro ⟨k, hk, e⟩
    rw [List.getD_eq_getElem?_getD, List.getElem?_eq_getElem hk] at e
    exact e ▸ List.getElem_mem hk
theorem q_nl_app {T : Nat → Int64} {l : List Nat} {v : Nat} (h : q_nt T (l.length + 1) (q_vs1 (fun k => l.getD k 0) l.length v)) : q_nl T (l ++ [v]) := by
  unfold q_nl
  rw [List.length_append]
  refine ⟨fun k hk => (h.1 k hk).trans ?_, h.2⟩
  unfold q_vs1
  have hk' : k < l.length + 1 := hk
  by_cases c : k = l.length
  · rw [if_pos c, c]
    show v = (l ++ [v]).getD l.length 0
    rw [List.getD_eq_getElem?_getD, List.getElem?_append_right (Nat.le_refl _), Nat.sub_self]
    rfl
  · rw [if_neg c]
    show l.getD k 0 = (l ++ [v]).getD k 0
    rw [List.getD_eq_getElem?_getD, List.getD_eq_getElem?_getD, List.getElem?_append_left (by omega)]
section BLK
variable {H : jH} {M : Nat → Int32} {T : Nat → Int64} {l : List Nat} {s : Nat}
theorem q_isnL {Q : Int32 → jH → Prop} (hK : jK H 31 = (100, 64)) (hL : jK H 421 = (103, 64)) (hs : s < 8) (hl : l.length ≤ 93) (h : q_LS l M T) (k1 : q_v (T (32 + 4 * s)) 0 ∈ l → Q 1 (q_h H M T)) (k0 : q_v (T (32 + 4 * s)) 0 ∉ l → Q 0 (q_h H M T)) : jT (F_L_isNoted 31 421 (Int32.ofNat s) (q_h H M T)) Q :=
  q_isn hK hL hs hl h.2.1 h.2.2 (fun w => k1 (q_mem.mpr w)) fun w => k0 fun q => by
    obtain ⟨k, a, b⟩ := q_mem.mp q
    exact w k a b
theorem q_noteL {Q : Unit → jH → Prop} (hK : jK H 31 = (100, 64)) (hL : jK H 421 = (103, 64)) (hs : s < 8) (hl : l.length ≤ 90) (h : q_LS l M T)
    (hk : ∀ M' T', (∀ j, j ≠ 59 → j ≠ 61 → M' j = M j) → q_LS (l ++ [q_v (T (32 + 4 * s)) 0]) M' T' → (M' 59 = 1 ∨ (M' 59 = M 59 ∧ q_v (T (32 + 4 * s)) 0 ∉ l)) → (∀ j, 32 ≤ j → T' j = T j) → Q () (q_h H M' T')) : jT (F_L_note 31 421 (Int32.ofNat s) (q_h H M T)) Q :=
  q_note hK hL hs hl h.1 h.2.1 h.2.2 fun M' T' v a b ev d e f => by
    refine hk M' T' a ⟨(a 60 (by decide) (by decide)).trans h.1, ?_, ?_⟩ ?_ f
    · rw [b, List.length_append]
      rfl
    · rw [← ev]
      exact q_nl_app e
    · rw [← ev]
      rcases d with ⟨d, -⟩ | ⟨d1, d2⟩
      · exact Or.inl d
      · refine Or.inr ⟨d1, fun q => ?_⟩
        obtain ⟨k, x, y⟩ := q_mem.mp q
        exact d2 k x y
theorem q_byteAt {b : Nat → UInt8} {k : Nat} {i : Int32} (ei : i = Int32.ofNat k) (hK : jK H 31 = (100, 64)) (hk : k < 32) (hd : q_dg b M) : F_L_byteAt 31 i (q_h H M T) = some (Int32.ofNat (b k).toNat, q_h H M T) := jT_det (by
  subst ei
  have d4 : Int32.ofNat k / 4 = Int32.ofNat (k / 4) := jo_div (a := k) (b := 4) (by omega) (by omega)
  have r4 : jrem (Int32.ofNat k) 4 = Int32.ofNat (k % 4) := jo_rem (a := k) (b := 4) (by omega) (by omega)
  have m8 : (8 : Int32) * Int32.ofNat (k % 4) = Int32.ofNat (8 * (k % 4)) := jo_mul (a := 8) (b := k % 4)
  have s24 : (24 : Int32) - Int32.ofNat (8 * (k % 4)) = Int32.ofNat (24 - 8 * (k % 4)) := jo_sub (a := 24) (b := 8 * (k % 4)) (by omega)
  have e32 : (32 : Int32) + Int32.ofNat (k / 4) = Int32.ofNat (32 + k / 4) := jo_add (a := 32) (b := k / 4)
  unfold F_L_byteAt
  rw [d4, r4, m8, s24, e32, jo_nat (n := 32 + k / 4) (by omega), q_h_I, ← jshr_ushr _ _ (by omega), q_and255]
  refine jT_g (by decide) (jT_g (q_g1 hK (jo_in (by omega) (by omega))) (jT_g (by decide) (jT_ret ⟨?_, rfl⟩)))
  rw [← hd k hk, ← jbu_ji2b]
  rfl)
/-- the name is low enough -/
def q_hit (b : Nat → UInt8) : Prop := (b 31).toNat * 65536 + (b 30).toNat * 256 + (b 29).toNat < 8388607
theorem q_mine {Q : Int32 → jH → Prop} {M0 : Nat → Int32} {T0 : Nat → Int64} {fr : Nat} {pb rb : Nat → UInt8} {t : Int32} (hK : jK H 31 = (100, 64)) (hL : jK H 421 = (103, 64)) (hf : fr < 6) (hp : q_sl T0 fr pb) (hr : q_sl T0 7 rb) (hl : l.length ≤ 88) (hls : q_LS l M0 T0)
    (hk : ∀ no M' T', (∀ j, 32 ≤ j → (j < 56 ∨ 60 ≤ j) → T' j = T0 j) → ((M' 59 = 1 ∧ ∃ l' : List Nat, l'.length ≤ l.length + 1 ∧ q_LS l' M' T') ∨ (M' 59 = M0 59 ∧ q_LS (l ++ [q_v (T' 56) 0]) M' T' ∧ q_v (T' 56) 0 ∉ l ∧ q_sl T' 6 (znm (b_fn (q_hd pb rb t 545259519 no)) 80) ∧ q_hit (znm (b_fn (q_hd pb rb t 545259519 no)) 80))) → Q no (q_h H M' T')) :
    jT (F_L_mine 32 31 421 (Int32.ofNat fr) 7 t 545259519 6 1 (q_h H M0 T0)) Q := by
  have loop : ∀ (d k fu : Nat) (M1 : Nat → Int32) (T1 : Nat → Int64), k + d = 1000000 → d < fu → (∀ j, 50 ≤ j → M1 j = M0 j) → (∀ j, j < 56 ∨ 60 ≤ j → T1 j = T0 j) → jT (F_L_mine_10 fu 32 31 421 (Int32.ofNat fr) 7 t 545259519 6 1 32 (Int32.ofNat k) (q_h H M1 T1)) Q := by
    intro d
    induction d with
    | zero =>
      intro k fu M1 T1 hkd hfu hM1 hT1
      obtain rfl : k = 1000000 := by omega
      obtain ⟨fu, rfl⟩ : ∃ k, fu = k + 1 := ⟨fu - 1, by omega⟩
      unfold F_L_mine_10 B_L_mine_10
      rw [q_sI, show (59 : Int32).toNatClampNeg = 59 from rfl]
      refine jT_pos (by decide) (jT_g (q_g2 hK (by decide)) (jT_l (jT_ret (hk _ _ _ (fun j _ b => hT1 j b) (Or.inl ⟨q_up_e, l, Nat.le_succ _, ?_⟩)))))
      exact q_LS_eq hls (by omega) ((q_up_n (by decide)).trans (hM1 60 (by decide))) ((q_up_n (by decide)).trans (hM1 61 (by decide))) fun j hj => hT1 j (by omega)
    | succ d ih =>
      intro k fu M1 T1 hkd hfu hM1 hT1
      obtain ⟨fu, rfl⟩ : ∃ k, fu = k + 1 := ⟨fu - 1, by omega⟩
      have hp1 : q_sl T1 fr pb := q_sl_eq hp fun i hi => hT1 _ (by omega)
      have hr1 : q_sl T1 7 rb := q_sl_eq hr fun i hi => hT1 _ (by omega)
      have e1 : Int32.ofNat k + 1 = Int32.ofNat (k + 1) := jo_add (a := k) (b := 1)
      unfold F_L_mine_10 B_L_mine_10
      refine jT_neg (by show ¬ Int32.ofNat 1000000 ≤ _; rw [jo_le (by omega) (by omega)]; omega) (jT_b (q_begin (f := b_fn []) hK fun M2 E2 z2 o2 => ?_))
      refine q_head (q_Pd_P (M0 := M1) (T := T1) hK hL) (l := []) (pb := pb) (rb := rb) (Or.inr ⟨fr, by omega, rfl, hp1⟩) (Or.inr ⟨7, by decide, rfl, hr1⟩) ⟨M2, rfl, E2, z2, o2⟩ (by decide) fun H3 h3 => ?_
      obtain ⟨M3, rfl, E3, z3, o3⟩ := h3
      rw [show ([] : List UInt8) ++ q_hd pb rb t 545259519 (Int32.ofNat k) = q_hd pb rb t 545259519 (Int32.ofNat k) from rfl, q_hd_len] at E3
      refine jT_b (q_name (s := 6) hK hL (by decide) (by decide) E3 fun M4 T4 s4 g4 p4 z4 o4 => ?_)
      have oM : ∀ j, 50 ≤ j → M4 j = M0 j := fun j hj => (o4 j hj).trans ((o3 j hj).trans (hM1 j hj))
      have oT : ∀ j, j < 56 ∨ 60 ≤ j → T4 j = T0 j := fun j hj => (p4 j (by omega)).trans (hT1 j hj)
      obtain ⟨f2, ef⟩ : ∃ f2, jfuel = f2 + 1 := ⟨4294967295, rfl⟩
      rw [ef]
      unfold F_L_mine_51 B_L_mine_51
      have v : ∀ x y z : UInt8, (jshl (Int32.ofNat x.toNat) 16 ||| jshl (Int32.ofNat y.toNat) 8) ||| Int32.ofNat z.toNat = Int32.ofNat (x.toNat * 65536 + y.toNat * 256 + z.toNat) := fun x y z => by
        have hx := UInt8.toNat_lt x
        have hy := UInt8.toNat_lt y
        have hz := UInt8.toNat_lt z
        have a1 : jshl (Int32.ofNat x.toNat) 16 = Int32.ofNat (x.toNat * 2 ^ 16) := jo_shl (m := x.toNat) (c := 16) (by omega)
        have a2 : jshl (Int32.ofNat y.toNat) 8 = Int32.ofNat (y.toNat * 2 ^ 8) := jo_shl (m := y.toNat) (c := 8) (by omega)
        rw [a1, a2, jo_or (by omega), show x.toNat * 2 ^ 16 + y.toNat * 2 ^ 8 = (x.toNat * 256 + y.toNat) * 2 ^ 8 by omega, jo_or (by omega)]
      refine jT_pos (by decide) (jT_b (jT_eq (q_byteAt (k := 31) rfl hK (by decide) g4) (jT_ret (jT_b (jT_eq (q_byteAt (k := 30) rfl hK (by decide) g4) (jT_ret (jT_b (jT_eq (q_byteAt (k := 29) rfl hK (by decide) g4) (jT_ret (jT_l ?_))))))))))
      rw [v]
      have h31 := UInt8.toNat_lt (znm (b_fn (q_hd pb rb t 545259519 (Int32.ofNat k))) 80 31)
      have h30 := UInt8.toNat_lt (znm (b_fn (q_hd pb rb t 545259519 (Int32.ofNat k))) 80 30)
      have h29 := UInt8.toNat_lt (znm (b_fn (q_hd pb rb t 545259519 (Int32.ofNat k))) 80 29)
      have em : (545259519 : Int32) &&& 8388607 = Int32.ofNat 8388607 := rfl
      rw [em]
      refine jT_neg (by decide) (jT_neg (by decide) (jT_if (fun c => ?_) fun c => ?_))
      · unfold B_L_mine_173
        rw [e1]
        exact jT_l (ih (k + 1) fu M4 T4 (by omega) (by omega) oM oT)
      · have hit : q_hit (znm (b_fn (q_hd pb rb t 545259519 (Int32.ofNat k))) 80) := by
          rw [jo_le (by omega) (by omega)] at c
          unfold q_hit
          omega
        unfold B_L_mine_157
        rw [q_sI, show (58 : Int32).toNatClampNeg = 58 from rfl]
        have ls4 : q_LS l (q_up M4 58 (Int32.ofNat k)) T4 := q_LS_eq hls (by omega) ((q_up_n (by decide)).trans (oM 60 (by decide))) ((q_up_n (by decide)).trans (oM 61 (by decide))) fun j hj => oT j (by omega)
        refine jT_g (q_g2 hK (by decide)) (jT_l (jT_b (q_noteL (s := 6) hK hL (by decide) (by omega) ls4 fun M5 T5 a5 n5 c5 d5 => jT_ret (hk _ M5 T5 (fun j a b => (d5 j a).trans (oT j b)) ?_))))
        have e56 : T5 56 = T4 56 := d5 56 (by decide)
        rcases c5 with c5 | ⟨c5, c6⟩
        · exact Or.inl ⟨c5, _, by rw [List.length_append]; exact Nat.le_refl _, n5⟩
        · refine Or.inr ⟨c5.trans ((q_up_n (by decide)).trans (oM 59 (by decide))), ?_, ?_, q_sl_eq s4 fun i hi => d5 _ (by omega), hit⟩
          · rw [e56]
            exact n5
          · rw [e56]
            exact c6
  unfold F_L_mine
  have e : jushr 545259519 24 = 32 := by decide
  rw [e]
  exact jT_l (loop 1000000 0 jfuel M0 T0 (Nat.zero_add _) (by unfold jfuel; omega) (fun _ _ => rfl) fun _ _ => rfl)
end BLK
def q_tn (tag : Nat) : Nat → UInt8 := znm (b_fn (q_tb tag)) 65
def q_bn (pb : Nat → UInt8) (tag : Nat) (t no : Int32) : Nat → UInt8 := znm (b_fn (q_hd pb (q_tn tag) t 545259519 no)) 80
/-- a block's bytes -/
def q_bb (pb : Nat → UInt8) (tag : Nat) (t no : Int32) : List UInt8 := q_hd pb (q_tn tag) t 545259519 no ++ [1] ++ q_tb tag
section BLK2
variable {nb : Nat} {os : List Nat} {S : s_S} {kn : List UInt8} {ki : Int32} {H : jH} {M0 : Nat → Int32} {T0 : Nat → Int64} {l : List Nat}
theorem q_block {Q : Int32 → jH → Prop} {p fr tag : Nat} {pb : Nat → UInt8} {t : Int32} (hC : s_cls nb os S [] kn ki H) (hP : s_pur S) (hM : jI H 31 = M0) (hT : jL H 421 = T0) (hp4 : p < 4) (hf : fr < 6) (hp : q_sl T0 fr pb) (hl : l.length ≤ 86) (hls : q_LS l M0 T0) (htag : tag < 28)
    (hk : ∀ nb' os' S' H' no, s_step p ([2] ++ q_bb pb tag t no) S S' → s_cls nb' os' S' [] kn ki H' → ((jK H' 18 = jK H 18 ∧ jI H' 18 = jI H 18) ∧ jn H' ≤ jn H + 78 ∧ js H' ≤ js H + 2800) → (∀ j, 32 ≤ j → j < 56 → jL H' 421 j = T0 j) → q_sl (jL H' 421) 7 (q_tn tag) →
      ((jI H' 31 59 = 1 ∧ ∃ l' : List Nat, l'.length ≤ l.length + 2 ∧ q_LS l' (jI H' 31) (jL H' 421)) ∨ (jI H' 31 59 = M0 59 ∧ q_LS (l ++ [q_v (jL H' 421 60) 0] ++ [q_v (jL H' 421 56) 0]) (jI H' 31) (jL H' 421) ∧ q_v (jL H' 421 60) 0 ∉ l ∧ q_v (jL H' 421 56) 0 ∉ l ++ [q_v (jL H' 421 60) 0] ∧ q_sl (jL H' 421) 6 (q_bn pb tag t no) ∧ q_hit (q_bn pb tag t no))) → Q 1 H') :
    jT (F_L_block 32 31 421 (Int32.ofNat p) (Int32.ofNat fr) 6 t (Int32.ofNat tag) 5000000000 H) Q := by
  have hK : jK H 31 = (100, 64) := sK_31 hC.1
  have hL : jK H 421 = (103, 64) := sK_421 hC.1
  have eH : H = q_h H M0 T0 := q_h_of hM hT
  have go : jT (F_L_block 32 31 421 (Int32.ofNat p) (Int32.ofNat fr) 6 t (Int32.ofNat tag) 5000000000 (q_h H M0 T0)) Q := by
    unfold F_L_block
    refine jT_b (q_begin (f := b_fn []) hK fun M1 E1 z1 o1 => jT_b (q_tx (q_Pd_P (M0 := M0) (T := T0) hK hL) (l := []) htag ⟨M1, rfl, E1, z1, o1⟩ (by decide) fun H2 h2 => ?_))
    obtain ⟨M2, rfl, E2, z2, o2⟩ := h2
    rw [show ([] : List UInt8) ++ q_tb tag = q_tb tag from rfl, q_tb_len] at E2
    refine jT_b (q_name (s := 7) hK hL (by decide) (by decide) E2 fun M3 T3 s3 g3 p3 z3 o3 => ?_)
    have oM3 : ∀ j, 50 ≤ j → M3 j = M0 j := fun j hj => (o3 j hj).trans (o2 j hj)
    have oT3 : ∀ j, j < 60 → T3 j = T0 j := fun j hj => p3 j (by omega)
    have ls3 : q_LS l M3 T3 := q_LS_eq hls (by omega) (oM3 60 (by decide)) (oM3 61 (by decide)) fun j hj => oT3 j (by omega)
    refine jT_b (q_noteL (s := 7) hK hL (by decide) (by omega) ls3 fun M4 T4 a4 n4 c4 d4 => ?_)
    have oT4 : ∀ j, 32 ≤ j → j < 60 → T4 j = T0 j := fun j a b => (d4 j a).trans (oT3 j b)
    have s4 : q_sl T4 7 (q_tn tag) := q_sl_eq s3 fun i hi => d4 _ (by omega)
    have hp4' : q_sl T4 fr pb := q_sl_eq hp fun i hi => oT4 _ (by omega) (by omega)
    refine jT_b (q_mine (t := t) hK hL hf hp4' s4 (by rw [List.length_append]; exact Nat.le_trans (Nat.add_le_add_right hl 1) (by decide)) n4 fun no M5 T5 d5 c5 => jT_neg (by decide) ?_)
    have oT5 : ∀ j, 32 ≤ j → j < 56 → T5 j = T0 j := fun j a b => (d5 j a (Or.inl b)).trans (oT4 j a (by omega))
    have s5 : q_sl T5 7 (q_tn tag) := q_sl_eq s4 fun i hi => d5 _ (by omega) (by omega)
    have hp5 : q_sl T5 fr pb := q_sl_eq hp fun i hi => oT5 _ (by omega) (by omega)
    have C5 : s_cls nb os S [] kn ki (q_h H M5 T5) := q_cls_h hC
    refine q_open C5 q_h_I q_h_L fun H6 h6 => jT_neg (by decide) ?_
    refine q_head q_Pt_P (pb := pb) (rb := q_tn tag) (Or.inr ⟨fr, by omega, rfl, hp5⟩) (Or.inr ⟨7, by decide, rfl, s5⟩) h6 (by decide) fun H7 h7 => jT_neg (by decide) ?_
    have l7 : ([jbu 2] ++ q_hd pb (q_tn tag) t 545259519 no).length = 81 := by rw [List.length_append, q_hd_len]; rfl
    refine q_put q_Pt_P h7 (by rw [l7]; decide) (u := 1) rfl fun H8 h8 => jT_neg (by decide) ?_
    have l8 : ([jbu 2] ++ q_hd pb (q_tn tag) t 545259519 no ++ [1]).length = 82 := by rw [List.length_append, l7]; rfl
    refine jT_b (q_tx q_Pt_P htag h8 (by rw [l8]; decide) fun H9 h9 => jT_neg (by decide) ?_)
    have l9 : ([jbu 2] ++ q_hd pb (q_tn tag) t 545259519 no ++ [1] ++ q_tb tag).length = 147 := by rw [List.length_append, l8]; rfl
    refine jT_b (q_send hP hp4 h9 (by rw [l9]; decide) (by rw [l9]; decide) fun nb' os' S' H' st C' f' t' m' => jT_neg (by decide) ?_)
    unfold B_L_block_130
    have em : [jbu 2] ++ q_hd pb (q_tn tag) t 545259519 no ++ [1] ++ q_tb tag = [2] ++ q_bb pb tag t no := by
      unfold q_bb
      rw [List.append_assoc, List.append_assoc, List.append_assoc]
      rfl
    rw [em] at st
    refine jT_g (Or.inr rfl) (jT_ret (hk nb' os' S' H' no st C' ⟨⟨f'.1.1, f'.1.2.trans q_h_I18⟩, f'.2⟩ (fun j a b => by rw [t']; exact oT5 j a b) (by rw [t']; exact s5) ?_))
    have ls : ∀ l', q_LS l' M5 T5 → q_LS l' (jI H' 31) (jL H' 421) := fun l' h => by
      rw [t']
      exact ⟨(m' 60 (Or.inr (by decide))).trans h.1, (m' 61 (Or.inr (by decide))).trans h.2.1, h.2.2⟩
    rw [t', m' 59 (Or.inr (by decide))]
    rw [t'] at ls
    have e60 : T5 60 = T3 60 := (d5 60 (by decide) (Or.inr (by decide))).trans (d4 60 (by decide))
    rcases c5 with ⟨c5, l', x1, x2⟩ | ⟨c5, c6, c7, c8, c9⟩
    · rw [List.length_append] at x1
      exact Or.inl ⟨c5, l', x1, ls l' x2⟩
    · rcases c4 with c4 | ⟨c4, c4'⟩
      · refine Or.inl ⟨c5.trans c4, _, ?_, ls _ c6⟩
        rw [List.length_append, List.length_append]
        exact Nat.le_refl _
      · refine Or.inr ⟨c5.trans (c4.trans (oM3 59 (by decide))), ?_, ?_, ?_, c8, c9⟩
        · rw [e60]
          exact ls _ c6
        · rw [e60]
          exact c4'
        · rw [e60]
          exact c7
  rw [← eH] at go
  exact go
end BLK2
