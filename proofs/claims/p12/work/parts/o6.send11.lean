/-! The class takes a message, whole. -/
section SD11
variable {Q : Int32 → jH → Prop} {nb : Nat} {os : List Nat} {S : s_S} {tp kn m : List UInt8} {ki : Int32} {H0 : jH} {p r n : Nat}
/-- the message is cut off the tape -/
theorem zA_copy {R : Nat → jH → Prop} {H : jH} {l : List UInt8} (hs : jsh H) (h1 : 1 ≤ n) (hn : n ≤ l.length) (hl : l.length ≤ 2000) (hz : zRow H 33 0 l) (hk : ∀ H', jsh H' → jgx (fun _ _ => False) 1 2000 H H' → jK H' (jn H) = (101, n) → zRow H' (jn H) 0 (l.take n) → R (jn H) H') : jT (F_A_copyOf 33 (Int32.ofNat n) H) R := by
  have h513 : 422 ≤ jn H := hs.2.2.2.2.1
  have k33 := sK_33 hs
  have lt : (l.take n).length = n := by rw [List.length_take]; omega
  unfold F_A_copyOf
  refine jT_g (by rw [k33]) ?_
  rw [k33]
  by_cases c : n = 2000
  · refine jT_neg (fun w => w (by rw [c])) (jT_g rfl ?_)
    have s1 : jsh (jclb H 33) := by
      have h := jsh_new (t := 101) (k := (jK H 33).2) hs
      refine ⟨h.1, h.2.1, h.2.2.1, h.2.2.2.1, h.2.2.2.2⟩
    have kN : jK (jclb H 33) (jn H) = (101, n) := by
      have : jK (jclb H 33) (jn H) = (101, (jK H 33).2) := if_pos rfl
      rw [this, k33, c]
    refine show jT (jg ((jK (jclb H 33) (jn H)).1 = 101) (some (jn H, jclb H 33))) R from jT_g (by rw [kN]) (jT_ret (hk _ s1 ⟨Nat.le_succ _, Nat.le_refl _, ?_, fun a ha => if_neg (by omega), fun a j ha _ => ⟨if_neg (by omega), if_neg (by omega), if_neg (by omega), if_neg (by omega)⟩⟩ kN fun i u hi => ?_))
    · show js H + (jK H 33).2 ≤ _
      rw [k33]
      exact Nat.le_refl _
    · have hi' := hi
      have il : i < n := by have := (List.getElem?_eq_some_iff.mp hi).1; omega
      rw [List.getElem?_take_of_lt il] at hi'
      have e : jB (jclb H 33) (jn H) (0 + i) = jB H 33 (0 + i) := if_pos rfl
      rw [e]
      exact hz i u hi'
  · have mn : jminI (Int32.ofNat 2000) (Int32.ofNat n) = Int32.ofNat n := by
      unfold jminI
      rw [if_pos (by rw [jo_lt (by omega) (by omega)]; omega)]
    have gn : jgn (Int32.ofNat n) := by
      unfold jgn
      constructor
      · rw [jo_int (by omega)]; omega
      · rw [jo_int (by omega)]; omega
    refine jT_pos (by rw [jo_eq (by omega) (by omega)]; exact c) (jT_g gn ?_)
    refine st_new hs (kk := n) (jo_nat (by omega)) fun H1 s1 n1 m1 k1 ko1 o1 z1 => ?_
    have k33b : jK H1 33 = (101, 2000) := sK_33 s1
    refine jT_g (by rw [k33b]) ?_
    have mn' : jminI (Int32.ofNat (jK H1 33).2) (Int32.ofNat n) = Int32.ofNat n := by
      rw [k33b]
      exact mn
    rw [mn']
    have z0 : (0 : Int32).toInt = 0 := rfl
    refine jT_g ⟨by rw [k33b], by rw [k1], by show 31 ≤ _; omega, by decide, by decide, ?_, ?_, ?_⟩ ?_
    · rw [jo_int (by omega)]; omega
    · rw [jo_int (by omega), z0, k33b]
      show (0 : Int) + n ≤ ((2000 : Nat) : Int)
      omega
    · rw [jo_int (by omega), z0, k1]
      show (0 : Int) + n ≤ (n : Int)
      omega
    · rw [jo_nat (n := n) (by omega), show (0 : Int32).toNatClampNeg = 0 from rfl]
      have s2 : jsh (jcpB H1 33 0 (jn H) 0 n) := ⟨s1.1, s1.2.1, s1.2.2.1, s1.2.2.2.1, s1.2.2.2.2⟩
      refine jT_l (jT_ret (hk _ s2 ⟨?_, ?_, ?_, fun a ha => ko1 a ha, fun a j ha _ => ?_⟩ k1 fun i u hi => ?_))
      · show jn H ≤ jn H1; omega
      · show jn H1 ≤ _; omega
      · show js H1 ≤ _; omega
      · obtain ⟨q1, q2, q3, q4⟩ := o1 a j ha
        exact ⟨q1, q2, q3, (jcpf_ne (by omega)).trans q4⟩
      · have hi' := hi
        have il : i < n := by have := (List.getElem?_eq_some_iff.mp hi).1; omega
        rw [List.getElem?_take_of_lt il] at hi'
        have e : jB (jcpB H1 33 0 (jn H) 0 n) (jn H) (0 + i) = jB H1 33 (0 + (0 + i - 0)) := jcpf_in (by omega) (by omega)
        rw [e, show 0 + (0 + i - 0) = 0 + i by omega, (o1 33 _ (by omega)).2.2.2]
        exact hz i u hi'
theorem s_u_eq {u : UInt8} {c : Nat} {cI : Int32} (e : cI = Int32.ofNat c) (hc : c < 128) : jbs u = cI ↔ u.toNat = c := by
  subst e
  rcases jbs_small u with ⟨q1, q2⟩ | ⟨q1, q2⟩
  · rw [q2, jo_eq (by omega) (by omega)]
  · refine ⟨fun w => ?_, fun w => by omega⟩
    rw [w] at q2
    rw [show (0 : Int32) = Int32.ofNat 0 from rfl, jo_lt (by omega) (by decide)] at q2
    omega
/-- the tape is empty -/
theorem s_cls_0 {H : jH} (h : s_cls nb os S tp kn ki H) : s_cls nb os S [] kn ki (jsI H 32 1 0) := by
  obtain ⟨h1, h2, h3, h4, h5, -, h9, h10, h11⟩ := h
  have hf : jfr (fun a j => a = 32 ∧ j = 1) H (jsI H 32 1 0) := jfr_sI jfr_refl ⟨rfl, rfl⟩
  have s1 : jsh (jsI H 32 1 0) := jsh_sI h1 (by decide)
  exact ⟨s1, b_CS_gx h2 h1 s1 h5 (jgx_fr hf) fun a j w => by omega, p_PA_gx h3 h1 (jgx_fr hf) fun a j w => by omega, p_b11_gx h4 (jgx_fr hf) h1.2.2.2.2.1 fun a j w => by omega, h5, ⟨jI_sIe, by decide, fun i u hi => by cases hi⟩, zRow_eq h9 fun i _ => jfr_B hf (by omega), h10, (jfr_I hf (by omega)).trans h11⟩
theorem z11_sendw (hC : s_cls nb os S tp kn ki H0) (hP : s_pur S) (hp : p < 4) (h1 : 1 ≤ n) (hn : n ≤ tp.length)
    (hk : ∀ nb' os' S' H', s_step p (tp.take n) S S' → s_cls nb' os' S' [] kn ki H' → jgx s_TG 78 2800 H0 H' → Q 1 H') : jT (F_11_send 32 (Int32.ofNat p) (Int32.ofNat n) H0) Q := by
  have hs := hC.1
  have h513 : 422 ≤ jn H0 := hs.2.2.2.2.1
  obtain ⟨x1, x2, x3⟩ := hC.2.2.2.2.2.1
  have k11 : (jK H0 32).1 = 11 := gT (sK_32 hs)
  have lm : (tp.take n).length = n := by rw [List.length_take]; omega
  unfold F_11_send
  refine jT_neg (by rw [show (0 : Int32) = Int32.ofNat 0 from rfl, jo_lt (by omega) (by decide)]; omega) (jT_neg (by rw [show (4 : Int32) = Int32.ofNat 4 from rfl, jo_le (by decide) (by omega)]; omega) (jT_neg (by rw [show (1 : Int32) = Int32.ofNat 1 from rfl, jo_lt (by omega) (by decide)]; omega) (jT_g k11 (jT_neg (by rw [x1, jo_lt (by omega) (by omega)]; omega) (jT_g k11 (jT_g (by rw [sR_32_0 hs, sK_33 hs]) (jT_pos (by rw [sR_32_0 hs, sK_33 hs, jo_le (by omega) (by decide)]; omega) (jT_g k11 ?_))))))))
  rw [sR_32_0 hs]
  refine jT_b (zA_copy hs h1 hn x2 x3 fun H1 s1 g1 kr1 zr1 => ?_)
  obtain ⟨r, er⟩ : ∃ r, r = jn H0 := ⟨_, rfl⟩
  rw [← er] at kr1 zr1 ⊢
  have C1 := s_cls_gx hC s1 g1 fun a j w => absurd w id
  refine jT_g (gT (sK_32 s1)) (jT_l ?_)
  have C2 := s_cls_0 C1
  have f2 : jfr (fun a j => a = 32 ∧ j = 1) H1 (jsI H1 32 1 0) := jfr_sI jfr_refl ⟨rfl, rfl⟩
  have kr2 : jK (jsI H1 32 1 0) r = (101, (tp.take n).length) := by rw [lm]; exact kr1
  have zr2 : zRow (jsI H1 32 1 0) r 0 (tp.take n) := zr1
  have g2 : jgx s_TG 1 2000 H0 (jsI H1 32 1 0) := jgx_trans (jgx_mono g1 (fun a j _ w => absurd w id) (Nat.le_refl _) (Nat.le_refl _)) (jfr_TG f2 fun a j w => Or.inl (by omega))
  obtain ⟨H2, e2⟩ : ∃ H2, H2 = jsI H1 32 1 0 := ⟨_, rfl⟩
  rw [← e2] at C2 kr2 zr2 g2 ⊢
  have s2 := C2.1
  obtain ⟨m, em⟩ : ∃ m, m = tp.take n := ⟨_, rfl⟩
  rw [← em] at kr2 zr2 lm hk
  have hm1 : 1 ≤ m.length := by omega
  have hm : m.length ≤ 2000 := by omega
  have eb : jB H2 r 0 = m.getD 0 0 := by
    have := zr2 0 _ (getD_of (by omega))
    rwa [Nat.zero_add] at this
  have k11b : (jK H2 32).1 = 11 := gT (sK_32 s2)
  refine jT_g ⟨by rw [kr2], jo_in (n := 0) (by decide) (by rw [kr2]; omega)⟩ ?_
  rw [show (0 : Int32).toNatClampNeg = 0 from rfl, eb]
  have fin : ∀ {c s : Nat} nb' os' S' H', c ≤ 77 → s ≤ 800 → s_step p m S S' → s_cls nb' os' S' [] kn ki H' → jgx s_TG c s H2 H' → Q 1 H' := fun nb' os' S' H' hc hs' st c' g' => hk nb' os' S' H' st c' (jgx_mono (jgx_trans g2 g') (fun a j _ w => w) (by omega) (by omega))
  have finb : ∀ (b : Nat → List UInt8) H', s_step p m S (s_bx S b) → jsh H' → p_b11 b H' → jfr zTS11 H2 H' → jT (B_11_send_265 H') Q := fun b H' st s' b' f' => jT_g (Or.inr rfl) (jT_ret (fin nb os (s_bx S b) H' (Nat.zero_le _) (Nat.zero_le _) st (s_cls_bx C2 s' f' b') (jfr_TG f' fun a j w => s_TS_TG w)))
  have hw := C2.2.1.1
  have hps := hP.2.2.2.2.2.2.2.1
  have r5 : 422 ≤ r := by omega
  by_cases u1 : (m.getD 0 0).toNat = 1
  · refine jT_pos ((s_u_eq rfl (by decide)).mpr u1) (jT_g k11b ?_)
    exact z11_tx C2 hP hp kr2 r5 zr2 hm hm1 u1 fun S' H' st c' g' => jT_g (Or.inr rfl) (jT_ret (fin nb os S' H' (by decide) (by decide) st c' g'))
  refine jT_neg (fun w => u1 ((s_u_eq rfl (by decide)).mp w)) ?_
  by_cases u2 : (m.getD 0 0).toNat = 2
  · refine jT_pos ((s_u_eq rfl (by decide)).mpr u2) (jT_g k11b (jT_g (by rw [sR_32_12 s2, sK_398 s2]) (jT_l (jT_g k11b ?_))))
    rw [sR_32_12 s2, (s_tip11 C2).1, sR_32_9 s2]
    exact z11_blk C2 hP hp kr2 r5 zr2 hm hm1 u2 fun nb' os' S' H' st c' g' => fin nb' os' S' H' (by decide) (by decide) st c' g'
  refine jT_neg (fun w => u2 ((s_u_eq rfl (by decide)).mp w)) ?_
  by_cases u3 : (m.getD 0 0).toNat = 3
  · refine jT_pos ((s_u_eq rfl (by decide)).mpr u3) (jT_g k11b ?_)
    exact z11_heads s2 hw C2.2.1.2.1 C2.2.1.2.2.1 hp C2.2.2.2.1 kr2 zr2 hm (fun q H' s' b' f' => finb _ H' (Or.inr (Or.inr (Or.inl ⟨u3, Or.inl ⟨q, rfl⟩⟩))) s' b' f') fun q H' s' b' f' => finb _ H' (Or.inr (Or.inr (Or.inl ⟨u3, Or.inr ⟨q, rfl⟩⟩))) s' b' f'
  refine jT_neg (fun w => u3 ((s_u_eq rfl (by decide)).mp w)) ?_
  by_cases u4 : (m.getD 0 0).toNat = 4
  · refine jT_pos ((s_u_eq rfl (by decide)).mpr u4) (jT_g k11b ?_)
    exact z11_give s2 hw hps C2.2.1.2.1 C2.2.2.1 hp C2.2.2.2.1 kr2 r5 zr2 hm (fun q H' s' b' f' => finb _ H' (Or.inr (Or.inr (Or.inr (Or.inl ⟨u4, Or.inl ⟨q, rfl⟩⟩)))) s' b' f') fun q H' s' b' f' => finb _ H' (Or.inr (Or.inr (Or.inr (Or.inl ⟨u4, Or.inr ⟨q, rfl⟩⟩)))) s' b' f'
  refine jT_neg (fun w => u4 ((s_u_eq rfl (by decide)).mp w)) ?_
  have dflt : (m.getD 0 0).toNat ≠ 6 → ∀ {k : Unit → jH → Option (Int32 × jH)}, (∀ x h, k x h = B_11_send_265 h) → jT (jb (F_11_answerVerdict 32 (Int32.ofNat p) 1 0 H2) k) Q := fun u6 k ek => s_no11 C2 hp fun H' c' g' => by
    rw [ek]
    exact jT_g (Or.inr rfl) (jT_ret (fin nb os _ H' (Nat.zero_le _) (Nat.zero_le _) (Or.inr (Or.inr (Or.inr (Or.inr (Or.inr ⟨⟨u1, u2, u3, u4, u6⟩, rfl⟩))))) c' g'))
  by_cases u5 : (m.getD 0 0).toNat = 5
  · exact jT_pos ((s_u_eq rfl (by decide)).mpr u5) (jT_g k11b (dflt (by omega) fun _ _ => rfl))
  refine jT_neg (fun w => u5 ((s_u_eq rfl (by decide)).mp w)) ?_
  by_cases u6 : (m.getD 0 0).toNat = 6
  · refine jT_pos ((s_u_eq rfl (by decide)).mpr u6) (jT_g k11b ?_)
    exact z11_want s2 hw hps C2.2.1.2.1 C2.2.2.1 hp C2.2.2.2.1 kr2 r5 zr2 hm (fun q H' s' b' f' => finb _ H' (Or.inr (Or.inr (Or.inr (Or.inr (Or.inl ⟨u6, Or.inl ⟨q, rfl⟩⟩))))) s' b' f') fun q H' s' b' f' => finb _ H' (Or.inr (Or.inr (Or.inr (Or.inr (Or.inl ⟨u6, Or.inr ⟨q, rfl⟩⟩))))) s' b' f'
  exact jT_neg (fun w => u6 ((s_u_eq rfl (by decide)).mp w)) (jT_g k11b (dflt u6 fun _ _ => rfl))
end SD11
