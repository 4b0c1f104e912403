/-! The reference takes a transaction. -/
def s_T18 : Nat → Nat → Prop := fun a _ => 421 ≤ a ∧ a ≤ 512
section RF18
variable {S : s_S} {tp kn : List UInt8} {ki : Int32} {T : Nat → Nat → Prop} {H H' : jH}
theorem b_RS_T {bs : List b_k} {W : Nat → Nat} {bad : Nat → Bool} {tip : Nat} (h : b_RS bs W bad tip H) (hf : jfr T H H') (hT : ∀ a j, T a j → (423 ≤ a ∧ a ≤ 444) ∨ (452 ≤ a ∧ a ≤ 473) ∨ 480 ≤ a ∨ (a = 421 ∧ j ≠ 13)) (hC : ∃ c, b_KC bs c H') (hp : w_p13 H') : b_RS bs W bad tip H' := by
  obtain ⟨r1, r2, r3, r4, r5, r6, r7, r8, r9, r10, -, -⟩ := h
  exact ⟨r1, b_T_fr r2 hf fun a j w => by have := hT a j w; omega, b_D_fr r3 hf fun a j w => by have := hT a j w; omega, b_sm_fr r4 hf fun j w => by have := hT _ j w; omega, fun k hk => (jfr_I hf fun w => by have := hT _ _ w; omega).trans (r5 k hk), r6, (jfr_I hf fun w => by have := hT _ _ w; omega).trans r7, r8, fun k hk e => r9 k hk ((jfr_I hf fun w => by have := hT _ _ w; omega).symm.trans e), fun k q1 q2 => ⟨(jfr_I hf fun w => by have := hT _ _ w; omega).trans (r10 k q1 q2).1, (jfr_I hf fun w => by have := hT _ _ w; omega).trans (r10 k q1 q2).2⟩, hC, hp⟩
/-- the reference as it was, but for those that wait -/
theorem s_ref_ps {ps : List p_e} (h : s_ref S tp kn ki H) (hf : jfr T H H') (hT : ∀ a j, T a j → (423 ≤ a ∧ a ≤ 444) ∨ (452 ≤ a ∧ a ≤ 473) ∨ (480 ≤ a ∧ a ≤ 505) ∨ a = 507 ∨ a = 508 ∨ 512 ≤ a ∨ (a = 421 ∧ j ≠ 13 ∧ j ≠ 48 ∧ j ≠ 52)) (hC : ∃ c, b_KC S.1 c H') (hp : w_p13 H') (hB : p_PB ps H') : s_ref (S.1, S.2.1, S.2.2.1, S.2.2.2.1, ps, S.2.2.2.2.2) tp kn ki H' := by
  obtain ⟨h1, h2, h3, h4, ⟨h5, h6⟩, h7, h8⟩ := h
  exact ⟨b_RS_T h1 hf (fun a j w => by have := hT a j w; omega) hC hp, (jfr_I hf fun w => by have := hT _ _ w; omega).trans h2, hB, p_b18_fr h4 hf fun a j w => by have := hT a j w; omega, ⟨(jfr_I hf fun w => by have := hT _ _ w; omega).trans h5, zRow_eq h6 fun i _ => jfr_B hf fun w => by have := hT _ _ w; omega⟩, zRow_eq h7 fun i _ => jfr_B hf fun w => by have := hT _ _ w; omega, (jfr_I hf fun w => by have := hT _ _ w; omega).trans h8⟩
/-- quiet doings -/
theorem s_ref_qt (h : s_ref S tp kn ki H) (hf : jfr T H H') (hT : ∀ a j, T a j → (423 ≤ a ∧ a ≤ 427) ∨ (452 ≤ a ∧ a ≤ 473) ∨ a = 480 ∨ a = 481 ∨ a = 507 ∨ a = 508 ∨ a = 512 ∨ (a = 421 ∧ (j = 14 ∨ j = 56))) : s_ref S tp kn ki H' := by
  obtain ⟨c, hc⟩ := h.1.2.2.2.2.2.2.2.2.2.2.1
  exact s_ref_ps h hf (fun a j w => by have := hT a j w; omega) ⟨c, p_KC_TC hc hf fun a j w => by have := hT a j w; omega⟩ (w_p13_T h.1.2.2.2.2.2.2.2.2.2.2.2 hf fun a j w => by have := hT a j w; omega) (p_PB_fr h.2.2.1 hf fun a j w => by have := hT a j w; omega)
theorem s_zTS18 {a j : Nat} (w : zTS18 a j) : (a = 421 ∧ j = 56) ∨ (510 ≤ a ∧ a ≤ 512) := by
  rcases w with (w | w) | w | w <;> omega
/-- boxes are written -/
theorem s_ref_bx {b : Nat → List UInt8} (h : s_ref S tp kn ki H) (hf : jfr zTS18 H H') (hb : p_b18 b H') : s_ref (s_bx S b) tp kn ki H' := by
  have u : ∀ a j, zTS18 a j → (a = 421 ∧ j = 56) ∨ (510 ≤ a ∧ a ≤ 512) := fun a j w => s_zTS18 w
  obtain ⟨c, hc⟩ := h.1.2.2.2.2.2.2.2.2.2.2.1
  obtain ⟨h1, h2, h3, h4, ⟨h5, h6⟩, h7, h8⟩ := h
  exact ⟨b_RS_T h1 hf (fun a j w => by have := u a j w; omega) ⟨c, p_KC_TC hc hf fun a j w => by have := u a j w; omega⟩ (w_p13_T h1.2.2.2.2.2.2.2.2.2.2.2 hf fun a j w => by have := u a j w; omega), (jfr_I hf fun w => by have := u _ _ w; omega).trans h2, p_PB_fr h3 hf (fun a j w => by have := u a j w; omega), hb, ⟨(jfr_I hf fun w => by have := u _ _ w; omega).trans h5, zRow_eq h6 fun i _ => jfr_B hf fun w => by have := u _ _ w; omega⟩, zRow_eq h7 fun i _ => jfr_B hf fun w => by have := u _ _ w; omega, (jfr_I hf fun w => by have := u _ _ w; omega).trans h8⟩
theorem s_TS_T18 {a j : Nat} (w : zTS18 a j) : s_T18 a j := by
  have := s_zTS18 w
  show 421 ≤ a ∧ a ≤ 512
  omega
end RF18
section TX18
variable {Q : Unit → jH → Prop} {S S' : s_S} {tp kn m : List UInt8} {ki : Int32} {H0 : jH} {p : Nat}
/-- the verdict that it's no message -/
theorem s_no18 {α : Type} {R : α → jH → Prop} {k : Unit → jH → Option (α × jH)} {r : Nat} {o : Nat} (hR : s_ref S tp kn ki H0) (hs : jsh H0) (hp : p < 4) (hk : ∀ H', jsh H' → jfr zTS18 H0 H' → s_ref (s_no p S) tp kn ki H' → jT (k () H') R) : jT (jb (F_18_verdict 421 (Int32.ofNat p) 1 r (Int32.ofNat o) H0) k) R :=
  p_verd18 (len := 0) (nm := p_z32) hs hp hR.2.2.2.1 (Or.inl ⟨rfl, rfl⟩) fun H' s' b' f' => hk H' s' f' (s_ref_bx hR f' b')
theorem y18_tx (hs : jsh H0) (hR : s_ref S tp kn ki H0) (hP : s_pur S) (hp : p < 4) (hz : zRow H0 506 0 m) (hm : m.length ≤ 2000) (hm1 : 1 ≤ m.length)
    (hst : (∃ y, w_ty (m.drop 1) y ∧ S' = s_tx p S (m.drop 1) y) ∨ ((∀ y, ¬ w_ty (m.drop 1) y) ∧ S' = s_no p S))
    (hk : ∀ H', jsh H' → jfr s_T18 H0 H' → s_ref S' tp kn ki H' → Q () H') :
    jT (jb (F_18_comes 421 506 1 (Int32.ofNat m.length - 1) 1 H0) fun x27 h28 => jg ((jK h28 421).1 = 18) (jg ((jK h28 421).1 = 18) (jb (F_18_verdict 421 (Int32.ofNat p) x27 (jR h28 421 49) 0 h28) fun _ h30 => if ¬ (x27 : Int32) = 0 then B_18_message_55 h30 else jg ((jK h30 421).1 = 18) (jg ((jK h30 421).1 = 18) (jb (F_18_tellOthers 421 (Int32.ofNat p) 1 (jR h30 421 49) 0 h30) fun _ h32 => B_18_message_55 h32))))) Q := by
  have k18 : ∀ {H}, jsh H → (jK H 421).1 = 18 := fun hs => gT (sK_421 hs)
  have hzd : zRow H0 506 1 (m.drop 1) := by
    have := s_drop_row hz 1
    rwa [Nat.zero_add] at this
  have ld : (m.drop 1).length = m.length - 1 := List.length_drop ..
  obtain ⟨hw, hT, hD, -, -, htl, h13, hri, -, -, ⟨c, hC⟩, hp13⟩ := hR.1
  have hall := hP.2.2.2.2.2.2.2.1
  have e1 : Int32.ofNat m.length - 1 = Int32.ofNat (m.length - 1) := jo_sub (b := 1) (by omega)
  rcases hst with ⟨y, hy, rfl⟩ | ⟨hno, rfl⟩
  · rw [e1, ← ld]
    refine y18_comes (row := 506) (s := 1) (len := 2000) (tb := m.drop 1) (sent := true) (bs := S.1) (tip := S.2.2.2.1) (c := c) (ps := S.2.2.2.2.1) (Or.inr (Or.inr rfl)) hs hw hT hD htl h13 hri hC hp13 hall.1 hall.2.1 hall.2.2.1 (p_co_vn hw hP.2.2.2.2.2.2.2.2.2.1 htl) hR.2.2.1 hy (sK_506 hs) (by decide) hzd (by omega) fun H1 s1 f1 C1 p1 B1 n1 => ?_
    have u1 : ∀ a j, (p_TC a j ∨ (c ≠ S.2.2.2.1 ∧ b_FN a j)) → (423 ≤ a ∧ a ≤ 444) ∨ (456 ≤ a ∧ a ≤ 473) ∨ a = 481 ∨ (482 ≤ a ∧ a ≤ 488) ∨ (496 ≤ a ∧ a ≤ 503) ∨ a = 507 ∨ (a = 421 ∧ (j = 14 ∨ j = 16 ∨ j = 17 ∨ j = 18 ∨ j = 36 ∨ (57 ≤ j ∧ j ≤ 60))) := fun a j w => by
      rcases w with w | w
      · unfold p_TC at w
        omega
      · have := w.2
        unfold b_FN at this
        omega
    have R1 := s_ref_ps (ps := (s_of S (m.drop 1) y).2) hR f1 (fun a j w => by have := u1 a j w; omega) ⟨_, C1⟩ p1 B1
    have F1 : jfr s_T18 H0 H1 := jfr_mono f1 fun a j w => by have := u1 a j w; show 421 ≤ a ∧ a ≤ 512; omega
    show jT (jg _ (jg _ (jb (F_18_verdict 421 (Int32.ofNat p) (s_of S (m.drop 1) y).1 (jR H1 421 49) 0 H1) _))) Q
    rw [sR_421_49 s1]
    refine jT_g (k18 s1) (jT_g (k18 s1) ?_)
    refine p_verd18 (r := 507) (o := 0) (len := 32) (nm := b_hs (m.drop 1)) s1 hp R1.2.2.2.1 (Or.inr ⟨p_off_1, by decide, by decide, sK_507 s1, by decide, by decide, n1, b_hs_len⟩) fun H2 s2 b2 f2 => ?_
    have R2 := s_ref_bx R1 f2 b2
    have F2 := jfr_trans F1 (jfr_mono f2 fun a j w => s_TS_T18 w)
    by_cases cv : (s_of S (m.drop 1) y).1 = 0
    · refine jT_neg (fun w => w cv) (jT_g (k18 s2) (jT_g (k18 s2) ?_))
      rw [sR_421_49 s2]
      refine p_oth18 (r := 507) (o := 0) (len := 32) (nm := b_hs (m.drop 1)) s2 hp b2 ⟨by decide, by decide⟩ (sK_507 s2) (by decide) (by decide) (zRow_eq n1 fun i _ => jfr_B f2 fun w => by have := s_zTS18 w; omega) b_hs_len fun H3 s3 b3 f3 => jT_ret (hk H3 s3 (jfr_trans F2 (jfr_mono f3 fun a j w => s_TS_T18 w)) ?_)
      have := s_ref_bx R2 f3 b3
      unfold s_tx s_txb
      rw [if_pos cv]
      exact this
    · refine jT_pos cv (jT_ret (hk H2 s2 F2 ?_))
      unfold s_tx s_txb
      rw [if_neg cv]
      exact R2
  · have tail : ∀ H1, jsh H1 → jfr s_T18 H0 H1 → s_ref S tp kn ki H1 → jT (jg ((jK H1 421).1 = 18) (jg ((jK H1 421).1 = 18) (jb (F_18_verdict 421 (Int32.ofNat p) 1 (jR H1 421 49) 0 H1) fun _ h30 => if ¬ (1 : Int32) = 0 then B_18_message_55 h30 else jg ((jK h30 421).1 = 18) (jg ((jK h30 421).1 = 18) (jb (F_18_tellOthers 421 (Int32.ofNat p) 1 (jR h30 421 49) 0 h30) fun _ h32 => B_18_message_55 h32))))) Q := fun H1 s1 F1 R1 => by
      refine jT_g (k18 s1) (jT_g (k18 s1) ?_)
      exact s_no18 (o := 0) R1 s1 hp fun H2 s2 f2 R2 => jT_pos (by decide) (jT_ret (hk H2 s2 (jfr_trans F1 (jfr_mono f2 fun a j w => s_TS_T18 w)) R2))
    have rest : ∀ H1, jsh H1 → jfr s_T18 H0 H1 → s_ref S tp kn ki H1 → zRow H1 506 1 (m.drop 1) → jT (p_rest 506 1 (Int32.ofNat (m.length - 1)) 1 H1) (fun v h => jT (jg ((jK h 421).1 = 18) (jg ((jK h 421).1 = 18) (jb (F_18_verdict 421 (Int32.ofNat p) v (jR h 421 49) 0 h) fun _ h30 => if ¬ (v : Int32) = 0 then B_18_message_55 h30 else jg ((jK h30 421).1 = 18) (jg ((jK h30 421).1 = 18) (jb (F_18_tellOthers 421 (Int32.ofNat p) 1 (jR h30 421 49) 0 h30) fun _ h32 => B_18_message_55 h32))))) Q) := fun H1 s1 F1 R1 z1 => by
      unfold p_rest
      have e2 : (1 : Int32) + Int32.ofNat (m.length - 1) = Int32.ofNat m.length := by
        refine (jo_add (a := 1) (b := m.length - 1)).trans ?_
        rw [show 1 + (m.length - 1) = m.length by omega]
      rw [e2, sR_421_4 s1]
      refine jT_g (k18 s1) (jT_g (gT (sK_456 s1)) (jT_b (jT_imp (z17_read (t := 456) (s := 1) (e := m.length) (row := 506) (len := 2000) (b := jB H1 506) (by unfold zT; decide) s1 (Or.inr (by decide)) (sK_506 s1) hm1 hm (by decide) rfl) fun v H2 q => ?_)))
      obtain ⟨s2, f2, q⟩ := q
      have R2 : s_ref S tp kn ki H2 := s_ref_qt R1 f2 fun a j w => by unfold zS17 at w; omega
      have F2 := jfr_trans F1 (jfr_mono f2 fun a j w => (by unfold zS17 at w; show 421 ≤ a ∧ a ≤ 512; omega : s_T18 a j))
      refine jT_neg (fun w => ?_) (jT_ret (tail H2 s2 F2 R2))
      rcases q with ⟨x, ex, rx, -⟩ | ⟨-, rx⟩
      · obtain ⟨y, e3, e4, e5, e6⟩ := w_own hm1 (by omega) ex
        rw [rx, e3] at w
        have w' : Int32.ofNat (1 + y.2.2) = Int32.ofNat m.length := w
        rw [jo_eq (by omega) (by omega)] at w'
        have etb : zcut (jB H1 506) 1 y.2.2 = m.drop 1 := p_cut_row z1 (by omega)
        rw [etb] at e4
        exact hno y e4
      · rw [rx] at w
        have h0 : ¬ Int32.ofNat m.length < Int32.ofNat 0 := by rw [jo_lt (by omega) (by decide)]; omega
        exact h0 (by rw [← w]; decide)
    rw [e1, p_comes_eq, h13]
    refine jT_b (jT_g (k18 hs) (jT_g (k18 hs) ?_))
    by_cases cc : c = S.2.2.2.1
    · rw [z18_need_here hs (by rw [hC.1, cc]), jb_ok]
      exact rest H0 hs jfr_refl hR hzd
    · refine b_need hw hs hT hD htl hri hC fun H1 s1 f1 C1 => ?_
      have u1 : ∀ a j, b_FN a j → (456 ≤ a ∧ a ≤ 464) ∨ a = 481 ∨ (482 ≤ a ∧ a ≤ 488) ∨ a = 507 ∨ (a = 421 ∧ (j = 14 ∨ j = 16 ∨ j = 17 ∨ j = 18)) := fun a j w => by unfold b_FN at w; omega
      exact rest H1 s1 (jfr_mono f1 fun a j w => (by have := u1 a j w; show 421 ≤ a ∧ a ≤ 512; omega : s_T18 a j)) (s_ref_ps (ps := S.2.2.2.2.1) hR f1 (fun a j w => by have := u1 a j w; omega) ⟨_, C1⟩ (w_p13_T hp13 f1 fun a j w => by have := u1 a j w; omega) (p_PB_fr hR.2.2.1 f1 fun a j w => by have := u1 a j w; omega)) (zRow_eq hzd fun i _ => jfr_B f1 fun w => by have := u1 _ _ w; omega)
end TX18
