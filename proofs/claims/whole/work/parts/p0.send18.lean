/-! The reference takes a message, whole. -/
section SD18
variable {S S' : s_S} {tp kn m : List UInt8} {ki : Int32} {H0 : jH} {p n : Nat}
theorem s_ref_0 {H : jH} (h : s_ref S tp kn ki H) : s_ref S [] kn ki (jsI H 421 48 0) := by
  have hf : jfr (fun a j => a = 421 ∧ j = 48) H (jsI H 421 48 0) := jfr_sI jfr_refl ⟨rfl, rfl⟩
  obtain ⟨c, hc⟩ := h.1.2.2.2.2.2.2.2.2.2.2.1
  obtain ⟨h1, h2, h3, h4, ⟨h5, h6⟩, h7, h8⟩ := h
  exact ⟨b_RS_T h1 hf (fun a j w => by omega) ⟨c, p_KC_TC hc hf fun a j w => by omega⟩ (w_p13_T h1.2.2.2.2.2.2.2.2.2.2.2 hf fun a j w => by omega), (jfr_I hf (by omega)).trans h2, p_PB_fr h3 hf (fun a j w => by omega), p_b18_fr h4 hf fun a j w => by omega, ⟨jI_sIe, fun i u hi => by cases hi⟩, zRow_eq h7 fun i _ => jfr_B hf (by omega), (jfr_I hf (by omega)).trans h8⟩
theorem y18_message {Q : Unit → jH → Prop} (hs : jsh H0) (hR : s_ref S tp kn ki H0) (hP : s_pur S) (hp : p < 4) (hz : zRow H0 506 0 m) (hm : m.length ≤ 2000) (hm1 : 1 ≤ m.length) (hst : s_step p m S S')
    (hk : ∀ H', jsh H' → jfr s_T18 H0 H' → s_ref S' tp kn ki H' → Q () H') : jT (F_18_message 421 (Int32.ofNat p) (Int32.ofNat m.length) H0) Q := by
  have k18 : ∀ {H}, jsh H → (jK H 421).1 = 18 := fun hs => gT (sK_421 hs)
  have hps := hP.2.2.2.2.2.2.2.1
  obtain ⟨hw, hT, hD, -, -, htl, h13, -⟩ := hR.1
  have eb : jB H0 506 0 = m.getD 0 0 := by
    have := hz 0 _ (getD_of (by omega))
    rwa [Nat.zero_add] at this
  have k506 := sK_506 hs
  have no : S' = s_no p S → jT (B_18_message_261 421 (Int32.ofNat p) H0) Q := fun e => by
    unfold B_18_message_261 B_18_message_272
    refine jT_g (k18 hs) (jT_g (k18 hs) ?_)
    exact s_no18 (o := 0) (k := fun _ h10 => some ((), h10)) hR hs hp fun H' s' f' R' => jT_ret (hk H' s' (jfr_mono f' fun a j w => s_TS_T18 w) (e ▸ R'))
  have box : ∀ {b : Nat → List UInt8}, S' = s_bx S b → ∀ H', jsh H' → p_b18 b H' → jfr zTS18 H0 H' → jT (B_18_message_272 H') Q := fun e H' s' b' f' => jT_ret (hk H' s' (jfr_mono f' fun a j w => s_TS_T18 w) (e ▸ s_ref_bx hR f' b'))
  have e1 : ∀ {lo hi wd : Nat}, p_isl m lo hi wd → hi < 128 → 2 ≤ m.length ∧ jB H0 506 1 = m.getD 1 0 ∧ jbs (m.getD 1 0) = Int32.ofNat (m.getD 1 0).toNat := fun {lo hi wd} q hh => by
    have q2 : 2 ≤ m.length := q.1
    have q3 : (m.getD 1 0).toNat ≤ hi := q.2.2.1
    refine ⟨q2, ?_, ?_⟩
    · have := hz 1 _ (getD_of q2)
      rwa [Nat.zero_add] at this
    · rcases jbs_small (m.getD 1 0) with ⟨-, r⟩ | ⟨r, -⟩
      · exact r
      · omega
  have b228 : ∀ a3 : Int32, ((m.getD 0 0).toNat = 6 ↔ a3 = 6) → ((m.getD 0 0).toNat ≠ 6 → S' = s_no p S) → ((m.getD 0 0).toNat = 6 → (p_isl m 1 8 33 ∧ S' = s_bx S (p_wtb S.1 S.2.2.2.2.1 m p S.2.2.2.2.2)) ∨ (¬ p_isl m 1 8 33 ∧ S' = s_no p S)) → jT (B_18_message_228 421 (Int32.ofNat p) (Int32.ofNat m.length) a3 H0) Q := fun a3 h1 h2 h3 => by
    unfold B_18_message_228
    by_cases c : (m.getD 0 0).toNat = 6
    · refine jT_neg (fun w => w (h1.mp c)) (jT_g (k18 hs) (jT_b ?_))
      refine z18_isList (n := m.length) (lo := 1) (hi := 8) (wd := 33) (N := 2000) hs k506 hm (by decide) (by decide) rfl rfl rfl rfl (by decide) (by decide) (by decide) (by omega) (fun q => ?_) fun q => ?_
      · have q := (p_isl_row hz).mp q
        obtain ⟨q2, q3, q4⟩ := e1 q (by decide)
        rcases h3 c with ⟨-, e⟩ | ⟨w, -⟩
        · rw [sR_421_47 hs]
          refine jT_neg (by decide) (jT_g (k18 hs) (jT_g ⟨by rw [k506], jo_in (n := 1) (by decide) (by rw [k506]; decide)⟩ (jT_g (k18 hs) ?_)))
          rw [show (1 : Int32).toNatClampNeg = 1 from rfl, q3, q4]
          exact y18_want (k := fun _ h14 => B_18_message_272 h14) hs hw hps hT hD hR.2.2.1 hp hR.2.2.2.1 hz hm q fun H' s' b' f' => box e H' s' b' f'
        · exact absurd q w
      · refine jT_pos rfl (no ?_)
        rcases h3 c with ⟨w, -⟩ | ⟨-, e⟩
        · exact absurd ((p_isl_row hz).mpr w) q
        · exact e
    · exact jT_pos (fun w => c (h1.mpr w)) (no (h2 c))
  have b196 : ∀ a3 : Int32, ((m.getD 0 0).toNat = 4 ↔ a3 = 4) → ((m.getD 0 0).toNat = 6 ↔ a3 = 6) → ((m.getD 0 0).toNat ≠ 4 → (m.getD 0 0).toNat ≠ 6 → S' = s_no p S) → ((m.getD 0 0).toNat = 6 → (p_isl m 1 8 33 ∧ S' = s_bx S (p_wtb S.1 S.2.2.2.2.1 m p S.2.2.2.2.2)) ∨ (¬ p_isl m 1 8 33 ∧ S' = s_no p S)) → ((m.getD 0 0).toNat = 4 → (p_isl m 1 8 33 ∧ S' = s_bx S (p_gvb S.1 S.2.2.2.2.1 m p (m.getD 1 0).toNat 0 S.2.2.2.2.2)) ∨ (¬ p_isl m 1 8 33 ∧ S' = s_no p S)) → jT (B_18_message_196 421 (Int32.ofNat p) (Int32.ofNat m.length) a3 H0) Q := fun a3 h0 h1 h2 h3 h4 => by
    unfold B_18_message_196
    by_cases c : (m.getD 0 0).toNat = 4
    · have n6 : (m.getD 0 0).toNat ≠ 6 := by omega
      refine jT_neg (fun w => w (h0.mp c)) (jT_g (k18 hs) (jT_b ?_))
      refine z18_isList (n := m.length) (lo := 1) (hi := 8) (wd := 33) (N := 2000) hs k506 hm (by decide) (by decide) rfl rfl rfl rfl (by decide) (by decide) (by decide) (by omega) (fun q => ?_) fun q => ?_
      · have q := (p_isl_row hz).mp q
        obtain ⟨q2, q3, q4⟩ := e1 q (by decide)
        rcases h4 c with ⟨-, e⟩ | ⟨w, -⟩
        · rw [sR_421_47 hs]
          refine jT_neg (by decide) (jT_g (k18 hs) (jT_g ⟨by rw [k506], jo_in (n := 1) (by decide) (by rw [k506]; decide)⟩ (jT_g (k18 hs) ?_)))
          rw [show (1 : Int32).toNatClampNeg = 1 from rfl, q3, q4]
          exact y18_give (k := fun _ h14 => B_18_message_272 h14) hs hw hps hT hD hR.2.2.1 hp hR.2.2.2.1 hz hm q fun H' s' b' f' => box e H' s' b' f'
        · exact absurd q w
      · refine jT_pos rfl (b228 a3 h1 (fun _ => ?_) fun w => absurd w n6)
        rcases h4 c with ⟨w, -⟩ | ⟨-, e⟩
        · exact absurd ((p_isl_row hz).mpr w) q
        · exact e
    · exact jT_pos (fun w => c (h0.mpr w)) (b228 a3 h1 (h2 c) h3)
  have i4 : (m.getD 0 0).toNat = 4 ↔ jbs (m.getD 0 0) = 4 := (s_u_eq rfl (by decide)).symm
  have i6 : (m.getD 0 0).toNat = 6 ↔ jbs (m.getD 0 0) = 6 := (s_u_eq rfl (by decide)).symm
  unfold F_18_message
  rw [sR_421_47 hs, show (0 : Int32).toNatClampNeg = 0 from rfl, eb]
  refine jT_g (k18 hs) (jT_g ⟨by rw [k506], jo_in (n := 0) (by decide) (by rw [k506]; decide)⟩ (jT_l ?_))
  rcases hst with ⟨u1, hst⟩ | ⟨u2, hst⟩ | ⟨u3, hst⟩ | ⟨u4, hst⟩ | ⟨u6, hst⟩ | ⟨⟨u1, u2, u3, u4, u6⟩, e⟩
  · refine jT_neg (fun w => w ((s_u_eq rfl (by decide)).mpr u1)) (jT_g (k18 hs) (jT_g (k18 hs) ?_))
    exact y18_tx hs hR hP hp hz hm hm1 hst hk
  · refine jT_pos (fun w => absurd ((s_u_eq (c := 1) rfl (by decide)).mp w) (by omega)) (jT_neg (fun w => w ((s_u_eq rfl (by decide)).mpr u2)) (jT_g (k18 hs) (jT_l (jT_g (k18 hs) ?_))))
    rw [h13]
    exact y18_blk hs hR hP hp hz hm hm1 hst hk
  · refine jT_pos (fun w => absurd ((s_u_eq (c := 1) rfl (by decide)).mp w) (by omega)) (jT_pos (fun w => absurd ((s_u_eq (c := 2) rfl (by decide)).mp w) (by omega)) (jT_neg (fun w => w ((s_u_eq rfl (by decide)).mpr u3)) (jT_g (k18 hs) (jT_b ?_))))
    refine z18_isList (n := m.length) (lo := 0) (hi := 20) (wd := 32) (N := 2000) hs k506 hm (by decide) (by decide) rfl rfl rfl rfl (by decide) (by decide) (by decide) (by omega) (fun q => ?_) fun q => ?_
    · have q := (p_isl_row hz).mp q
      obtain ⟨q2, q3, q4⟩ := e1 q (by decide)
      rcases hst with ⟨-, e⟩ | ⟨w, -⟩
      · rw [sR_421_47 hs]
        refine jT_neg (by decide) (jT_g (k18 hs) (jT_g ⟨by rw [k506], jo_in (n := 1) (by decide) (by rw [k506]; decide)⟩ (jT_g (k18 hs) ?_)))
        rw [show (1 : Int32).toNatClampNeg = 1 from rfl, q3, q4]
        exact y18_heads (k := fun _ h14 => B_18_message_272 h14) hs hw hT hD htl h13 hp hR.2.2.2.1 hz hm q fun H' s' b' f' => box e H' s' b' f'
      · exact absurd q w
    · refine jT_pos rfl (b196 _ i4 i6 (fun _ _ => ?_) (fun w => by omega) fun w => by omega)
      rcases hst with ⟨w, -⟩ | ⟨-, e⟩
      · exact absurd ((p_isl_row hz).mpr w) q
      · exact e
  · exact jT_pos (fun w => absurd ((s_u_eq (c := 1) rfl (by decide)).mp w) (by omega)) (jT_pos (fun w => absurd ((s_u_eq (c := 2) rfl (by decide)).mp w) (by omega)) (jT_pos (fun w => absurd ((s_u_eq (c := 3) rfl (by decide)).mp w) (by omega)) (b196 _ i4 i6 (fun w => absurd u4 w) (fun w => by omega) fun _ => hst)))
  · exact jT_pos (fun w => absurd ((s_u_eq (c := 1) rfl (by decide)).mp w) (by omega)) (jT_pos (fun w => absurd ((s_u_eq (c := 2) rfl (by decide)).mp w) (by omega)) (jT_pos (fun w => absurd ((s_u_eq (c := 3) rfl (by decide)).mp w) (by omega)) (b196 _ i4 i6 (fun _ w => absurd u6 w) (fun _ => hst) fun w => by omega)))
  · exact jT_pos (fun w => absurd ((s_u_eq (c := 1) rfl (by decide)).mp w) u1) (jT_pos (fun w => absurd ((s_u_eq (c := 2) rfl (by decide)).mp w) u2) (jT_pos (fun w => absurd ((s_u_eq (c := 3) rfl (by decide)).mp w) u3) (b196 _ i4 i6 (fun _ _ => e) (fun w => absurd w u6) fun w => absurd w u4)))
theorem y18_sendw {Q : Int32 → jH → Prop} (hs : jsh H0) (hR : s_ref S tp kn ki H0) (hP : s_pur S) (hp : p < 4) (h1 : 1 ≤ n) (hn : n ≤ tp.length) (htp : tp.length ≤ 2000) (hst : s_step p (tp.take n) S S')
    (hk : ∀ H', jsh H' → jfr s_T18 H0 H' → s_ref S' [] kn ki H' → Q 1 H') : jT (F_18_send 421 (Int32.ofNat p) (Int32.ofNat n) H0) Q := by
  have k18 : ∀ {H}, jsh H → (jK H 421).1 = 18 := fun hs => gT (sK_421 hs)
  have lm : (tp.take n).length = n := by rw [List.length_take]; omega
  unfold F_18_send
  rw [z18_isPeer, if_neg (by rw [show (0 : Int32) = Int32.ofNat 0 from rfl, jo_lt (by omega) (by decide)]; omega), if_neg (by rw [show (4 : Int32) = Int32.ofNat 4 from rfl, jo_le (by decide) (by omega)]; omega), jb_ok]
  refine jT_neg (by decide) (jT_neg (by rw [show (1 : Int32) = Int32.ofNat 1 from rfl, jo_lt (by omega) (by decide)]; omega) (jT_g (k18 hs) (jT_pos (by rw [hR.2.2.2.2.1.1, jo_le (by omega) (by omega)]; exact hn) (jT_g (k18 hs) (jT_l ?_)))))
  have R1 := s_ref_0 hR
  have s1 : jsh (jsI H0 421 48 0) := jsh_sI hs (by decide)
  have f1 : jfr s_T18 H0 (jsI H0 421 48 0) := jfr_sI jfr_refl ⟨by decide, by decide⟩
  have z1 : zRow (jsI H0 421 48 0) 506 0 (tp.take n) := zRow_take hR.2.2.2.2.1.2
  refine jT_g (k18 s1) (jT_b ?_)
  have := y18_message (Q := fun _ h5 => jT (jg ((1 : Int32) = 0 ∨ (1 : Int32) = 1) (some (1, h5))) Q) s1 R1 hP hp z1 (by omega) (by omega) hst fun H' s' f' R' => jT_g (Or.inr rfl) (jT_ret (hk H' s' (jfr_trans f1 f') R'))
  rw [lm] at this
  exact this
end SD18
