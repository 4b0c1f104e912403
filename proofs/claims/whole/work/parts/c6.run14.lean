/-! The reference's scripts: a run. -/
theorem w_flow_pb {c : Nat} {st : w_R} {pb : List Bool} {q : w_R × List Bool} (h : w_flow c st pb = some q) : q.2.length ≤ pb.length + 1 := by
  unfold w_flow at h
  split at h
  · split at h
    · split at h
      · rw [← Option.some.inj h]
        exact Nat.le_of_eq List.length_append
      · cases h
    · rw [← Option.some.inj h]
      exact Nat.le_of_eq List.length_append
  · split at h
    · cases h
    · split at h
      · rw [← Option.some.inj h]
        show (pb.take (pb.length - 1) ++ [_]).length ≤ _
        rw [List.length_append, List.length_take]
        show min (pb.length - 1) pb.length + 1 ≤ _
        omega
      · rw [← Option.some.inj h]
        show (pb.take (pb.length - 1)).length ≤ _
        rw [List.length_take]
        omega
/-- what holds after an operation -/
theorem w_on1_ok {scr : List UInt8} {at_ c p : Nat} {S S' : w_S4} (h : w_on1 scr at_ c S = some (p, S')) (hpb : S.2.2.2.length ≤ S.2.2.1) (hat : at_ < scr.length) : S'.2.2.2.length ≤ S'.2.2.1 ∧ S'.2.2.1 ≤ 100 ∧ at_ + 1 ≤ p ∧ p ≤ scr.length := by
  unfold w_on1 at h
  have hop : S.2.2.1 ≤ (if 96 < c then S.2.2.1 + 1 else S.2.2.1) := by split <;> omega
  have hg1 : c ≤ 96 → (if 96 < c then S.2.2.1 + 1 else S.2.2.1) = S.2.2.1 := fun q => if_neg (by omega)
  have hg2 : 96 < c → (if 96 < c then S.2.2.1 + 1 else S.2.2.1) = S.2.2.1 + 1 := fun q => if_pos q
  generalize (if 96 < c then S.2.2.1 + 1 else S.2.2.1) = g at *
  split at h
  · cases h
  · next h100 =>
    split at h
    · next hc =>
      obtain ⟨q, hq, e⟩ := Option.map_eq_some_iff.mp h
      rw [← (Prod.mk.inj e).1, ← (Prod.mk.inj e).2]
      have hpos : at_ + 1 ≤ q.1 ∧ q.1 ≤ scr.length := by
        unfold w_psh at hq
        split at hq
        · cases hq
        · split at hq
          · cases hq
          · rw [← Option.some.inj hq]
            show at_ + 1 ≤ at_ + 1 + w_wd c + w_sz scr at_ c ∧ at_ + 1 + w_wd c + w_sz scr at_ c ≤ scr.length
            omega
      have := hg1 (by omega)
      exact ⟨hpb, by show S.2.2.1 ≤ 100; omega, hpos.1, hpos.2⟩
    · split at h
      · next hF =>
        obtain ⟨q, hq, e⟩ := Option.map_eq_some_iff.mp h
        rw [← (Prod.mk.inj e).1, ← (Prod.mk.inj e).2]
        have h1 := w_flow_pb hq
        have h2 := w_isF_t.mp hF
        have := hg2 (by omega)
        exact ⟨by show q.2.length ≤ S.2.2.1 + 1; omega, by show S.2.2.1 + 1 ≤ 100; omega, Nat.le_refl _, by show at_ + 1 ≤ scr.length; omega⟩
      · split at h
        · have e := Option.some.inj h
          rw [← (Prod.mk.inj e).1, ← (Prod.mk.inj e).2]
          exact ⟨Nat.le_trans hpb hop, by show g ≤ 100; omega, Nat.le_refl _, by omega⟩
        · obtain ⟨q, hq, e⟩ := Option.map_eq_some_iff.mp h
          rw [← (Prod.mk.inj e).1, ← (Prod.mk.inj e).2]
          exact ⟨Nat.le_trans hpb hop, by show g ≤ 100; omega, Nat.le_refl _, by show at_ + 1 ≤ scr.length; omega⟩
theorem w_an_len {fit : List UInt8 → List UInt8 → Bool} {ks ss : w_R} {must : Bool} {n left : Nat} {st : w_R} {q : w_R × Nat} (h : w_an fit ks ss must n st left = some q) (hn : 1 ≤ n) (hl : n ≤ st.length) : q.1.length ≤ st.length := by
  unfold w_an at h
  obtain ⟨x, hx, h⟩ := Option.bind_eq_some_iff.mp h
  have hd : (w_dr st n).length = st.length - n := by
    unfold w_dr
    rw [List.length_take]
    omega
  split at h
  · split at h
    · rw [← Option.some.inj h]
      show (w_dr st n).length ≤ _
      omega
    · cases h
  · rw [← Option.some.inj h]
    show (w_dr st n ++ [_]).length ≤ _
    rw [List.length_append, hd]
    show st.length - n + 1 ≤ _
    omega
theorem w_ask_ok {c ops : Nat} {st : w_R} {a : w_R × w_R × Nat × Nat} (h : w_ask c ops st = some a) (ho : ops ≤ 100) : 1 ≤ a.2.2.1 ∧ a.2.2.1 ≤ st.length ∧ ops ≤ a.2.2.2 ∧ a.2.2.2 ≤ 100 := by
  unfold w_ask at h
  split at h
  · cases h
  · split at h
    · split at h
      · next h2 =>
        rw [← Option.some.inj h]
        exact ⟨by show 1 ≤ 2; decide, h2, Nat.le_refl _, ho⟩
      · cases h
    · split at h
      · cases h
      · split at h
        · cases h
        · next n hn =>
          split at h
          · cases h
          · next h100 =>
            split at h
            · cases h
            · next m hm =>
              split at h
              · cases h
              · next hl =>
                rw [← Option.some.inj h]
                exact ⟨by show 1 ≤ n + m + 3; omega, by show n + m + 3 ≤ st.length; omega, by show ops ≤ ops + n; omega, by show ops + n ≤ 100; omega⟩
theorem w_sg1_ok {fit : List UInt8 → List UInt8 → Bool} {c left left' : Nat} {S S' : w_S4} (h : w_sg1 fit c S left = some (S', left')) (ho : S.2.2.1 + 1 ≤ 100) (hpb : S.2.2.2.length ≤ S.2.2.1) : S'.1.length + S'.2.1.length ≤ S.1.length + S.2.1.length ∧ S'.2.2.2.length ≤ S'.2.2.1 ∧ S'.2.2.1 ≤ 100 := by
  unfold w_sg1 at h
  split at h
  · cases h
  · next a ha =>
    obtain ⟨q, hq, e⟩ := Option.map_eq_some_iff.mp h
    obtain ⟨a1, a2, a3, a4⟩ := w_ask_ok ha ho
    have := w_an_len hq a1 a2
    rw [← (Prod.mk.inj e).1]
    exact ⟨by show q.1.length + S.2.1.length ≤ _; omega, by show S.2.2.2.length ≤ a.2.2.2; omega, a4⟩
/-- after a run that ended well -/
def w_D (tb : List UInt8) (y : w_y) (inp : Nat) (lk : List UInt8) (st : w_R) (lf : Nat) (Hs H : jH) : Prop := jsh H ∧ jfr w_FS Hs H ∧ w_p13 H ∧ w_C tb y inp lk H ∧ jI H 437 2 = Int32.ofNat st.length ∧ jI H 437 8 = Int32.ofNat lf ∧ zIts H 0 st ∧ st.length ≤ 60 ∧ lf < 1000
/-- after a fault -/
def w_B (tb : List UInt8) (y : w_y) (inp : Nat) (lk : List UInt8) (Hs H : jH) : Prop := jsh H ∧ jfr w_FS Hs H ∧ w_p13 H ∧ w_C tb y inp lk H
section RUN14
variable {tb lk scr : List UInt8} {y : w_y} {inp : Nat} {Hs : jH} {Q : Int32 → jH → Prop} {fit : List UInt8 → List UInt8 → Bool}
theorem w_V_B {H : jH} (h : w_V tb y inp lk Hs H) : w_B tb y inp lk Hs H := ⟨h.1.1.1, h.2⟩
theorem w_r93V {H : jH} (h : w_V tb y inp lk Hs H) (hk : ∀ x H', w_B tb y inp lk Hs H' → x ≠ 1 → Q x H') : jT (B_14_run_93 437 H) Q := by
  obtain ⟨f, f1, f2, f3⟩ := w_V6 h
  have le : ¬ Int32.ofNat f ≤ 0 := fun q => by
    have := (jo_le (a := f) (b := 0) (by omega) (by decide)).mp q
    omega
  have h1 := w_V_I (j := 5) (v := 0) h (by decide)
  have h2 := w_V_I (j := 2) (v := 0) h1 (by decide)
  have e1 : jI (jsI H 437 5 0) 437 6 = Int32.ofNat f := (jI_sIn (by decide)).trans f3
  have e2 : jI (jsI (jsI H 437 5 0) 437 2 0) 437 6 = Int32.ofNat f := (jI_sIn (by decide)).trans e1
  unfold B_14_run_93 B_14_run_114 B_14_run_134
  refine jT_g (w_Vk h) (jT_l ?_)
  rw [e1]
  refine jT_g (w_Vk h1) (jT_neg le (jT_g (w_Vk h1) (jT_l ?_)))
  rw [e2]
  refine jT_g (w_Vk h2) (jT_neg le (jT_g (w_Vk h2) (jT_ret (hk _ _ (w_V_B h2) ?_))))
  have : ∀ f, f < 14 → (-1 : Int32) - Int32.ofNat f ≠ 1 := by decide
  exact this f (by omega)
theorem w_r73V {H : jH} (h : w_V tb y inp lk Hs H) (hk : ∀ x H', w_B tb y inp lk Hs H' → x ≠ 1 → Q x H') : jT (B_14_run_73 437 H) Q := by
  unfold B_14_run_73
  exact jT_g (w_Vk h) (jT_pos (w_V6n h) (w_r93V h hk))
theorem w_r22V {H : jH} {x : Int32} {fu : Nat} (h : w_V tb y inp lk Hs H) (hk : ∀ x H', w_B tb y inp lk Hs H' → x ≠ 1 → Q x H') : jT (F_14_run_22 (fu + 1) 437 x H) Q := by
  unfold F_14_run_22 B_14_run_22
  exact jT_g (w_Vk h) (jT_if (fun _ => w_r73V h hk) fun _ => jT_g (w_Vk h) (jT_pos (w_V6n h) (w_r73V h hk)))
theorem w_run22 (hfit : ∀ sg ky, fit sg ky = true ↔ w_fit tb y inp lk sg ky) : ∀ (f at_ : Nat) (S : w_S4) (lf fu : Nat) (H : jH), scr.length < at_ + f → at_ ≤ scr.length → scr.length < at_ + fu → w_U tb y inp lk scr S lf Hs H → S.1.length + S.2.1.length ≤ 60 → S.2.2.2.length ≤ S.2.2.1 → S.2.2.1 ≤ 100 →
    (∀ st' lf' H', w_run fit scr f at_ S lf = some (st', lf') → w_D tb y inp lk st' lf' Hs H' → Q 1 H') →
    (∀ x H', w_run fit scr f at_ S lf = none → w_B tb y inp lk Hs H' → x ≠ 1 → Q x H') →
    jT (F_14_run_22 (fu + 1) 437 (Int32.ofNat at_) H) Q := by
  intro f
  induction f with
  | zero => intro at_ S lf fu H h1 h2; omega
  | succ f ih =>
    intro at_ S lf fu H hf hat hfu h hb hpb hops hk1 hk0
    have l200 : scr.length ≤ 200 := h.1.2.2.2.2.2.1
    have e5 := h.1.2.1.2.2.1
    have e6 := h.1.2.1.2.2.2.1
    have e9 := h.1.2.1.2.2.2.2.2.2
    have er := w_run_s (fit := fit) (S := S) (scr := scr) (f := f) (at_ := at_) (left := lf)
    unfold F_14_run_22 B_14_run_22
    rw [e5, e6]
    refine jT_g (w_Uk h) ?_
    by_cases c1 : scr.length ≤ at_
    · rw [if_pos c1] at er
      refine jT_pos (by rw [jo_le (by omega) (by omega)]; exact c1) ?_
      unfold B_14_run_73
      rw [e6, e9]
      refine jT_g (w_Uk h) (jT_neg (fun q => q rfl) (jT_g (w_Uk h) ?_))
      by_cases c2 : S.2.2.2.length = 0
      · rw [if_pos c2] at er
        have l66 := h.1.2.2.1.2.2.1
        have e2 := h.1.2.1.1
        have e8 := h.1.2.1.2.2.2.2.2.1
        refine jT_pos (by rw [c2]; decide) ?_
        have s1 : jsh (jsI H 437 5 0) := jsh_sI h.1.1.1 (by decide)
        have e26 : jI (jsI H 437 5 0) 437 6 = 0 := (jI_sIn (by decide)).trans e6
        have e22 : jI (jsI H 437 5 0) 437 2 = Int32.ofNat S.1.length := (jI_sIn (by decide)).trans e2
        have e36 : jI (jsI (jsI H 437 5 0) 437 2 (Int32.ofNat S.1.length)) 437 6 = 0 := (jI_sIn (by decide)).trans e26
        have f3 : jfr (fun a j => a = 437 ∧ (j = 5 ∨ j = 2)) H (jsI (jsI H 437 5 0) 437 2 (Int32.ofNat S.1.length)) := jfr_sI (jfr_sI jfr_refl ⟨rfl, Or.inl rfl⟩) ⟨rfl, Or.inr rfl⟩
        have f14 : jfr w_F14 H (jsI (jsI H 437 5 0) 437 2 (Int32.ofNat S.1.length)) := jfr_mono f3 fun a j q => w_F437 (by omega) (by omega)
        have s2 : jsh (jsI (jsI H 437 5 0) 437 2 (Int32.ofNat S.1.length)) := jsh_sI s1 (by decide)
        unfold B_14_run_93 B_14_run_114 B_14_run_134
        refine jT_g (w_Uk h) (jT_l ?_)
        rw [e26, e22]
        refine jT_g (k14 s1) (jT_pos (by decide) (jT_g (k14 s1) (jT_g (k14 s1) (jT_l ?_))))
        rw [e36]
        exact jT_g (k14 s2) (jT_pos (by decide) (jT_ret (hk1 S.1 lf _ er ⟨s2, jfr_trans h.2.1 (w_FS_14 f14), w_p13_fr h.2.2.1 f14, w_C_fr h.2.2.2 s2 (w_FS_14 f14), jI_sIe, (jI_sIn (by decide)).trans ((jI_sIn (by decide)).trans e8), zIts_fr h.1.2.2.1.1 f3 (fun a j k hkl q => by omega), by omega, h.1.2.2.2.2.2.2.2.2⟩)))
      · rw [if_neg c2] at er
        refine jT_neg (fun q => c2 ?_) (jT_g (w_Uk h) (w_fails (n := 12) h.1 rfl (by decide) (by decide) fun H' hy => w_r93V (w_U_Y h hy) fun x H2 h2 => hk0 x H2 er h2))
        have l2 := h.1.2.2.2.2.2.2.2.1
        have := (jo_le (a := S.2.2.2.length) (b := 0) (by omega) (by decide)).mp q
        omega
    · rw [if_neg c1] at er
      obtain ⟨fu, rfl⟩ : ∃ k, fu = k + 1 := ⟨fu - 1, by omega⟩
      refine jT_neg (by rw [jo_le (by omega) (by omega)]; exact c1) (jT_g (w_Uk h) (jT_neg (fun q => q rfl) (jT_g (w_Uk h) ?_)))
      -- after the step
      have afterV : ∀ (x : Int32) (H' : jH), w_run fit scr (f + 1) at_ S lf = none → w_V tb y inp lk Hs H' → jT (jg ((jK H' 437).1 = 14) (if ¬ jI H' 437 6 = 0 then F_14_run_22 (fu + 1) 437 x H' else jg ((jK H' 437).1 = 14) (jg ((jK H' 437).1 = 14) (if jI H' 437 2 + jI H' 437 3 ≤ 60 then F_14_run_22 (fu + 1) 437 x H' else jg ((jK H' 437).1 = 14) (jb (F_14_fails 437 11 H') fun _ h8 => F_14_run_22 (fu + 1) 437 x h8))))) Q := fun x H' e hy => jT_g (w_Vk hy) (jT_pos (w_V6n hy) (w_r22V hy fun x H2 h2 => hk0 x H2 e h2))
      have afterU : ∀ (p : Nat) (S' : w_S4) (lf' : Nat) (H' : jH), w_U tb y inp lk scr S' lf' Hs H' → at_ + 1 ≤ p → p ≤ scr.length → (S'.1.length + S'.2.1.length ≤ 60 → w_run fit scr (f + 1) at_ S lf = w_run fit scr f p S' lf') → (60 < S'.1.length + S'.2.1.length → w_run fit scr (f + 1) at_ S lf = none) → S'.2.2.2.length ≤ S'.2.2.1 → S'.2.2.1 ≤ 100 → jT (jg ((jK H' 437).1 = 14) (if ¬ jI H' 437 6 = 0 then F_14_run_22 (fu + 1) 437 (Int32.ofNat p) H' else jg ((jK H' 437).1 = 14) (jg ((jK H' 437).1 = 14) (if jI H' 437 2 + jI H' 437 3 ≤ 60 then F_14_run_22 (fu + 1) 437 (Int32.ofNat p) H' else jg ((jK H' 437).1 = 14) (jb (F_14_fails 437 11 H') fun _ h8 => F_14_run_22 (fu + 1) 437 (Int32.ofNat p) h8))))) Q := fun p S' lf' H' h' p1 p2 ew en q1 q2 => by
        have g6 := h'.1.2.1.2.2.2.1
        have g2 := h'.1.2.1.1
        have g3 := h'.1.2.1.2.1
        have l1 := h'.1.2.2.1.2.2.1
        have l2 := h'.1.2.2.1.2.2.2
        rw [g6, g2, g3, jo_add]
        refine jT_g (w_Uk h') (jT_neg (fun q => q rfl) (jT_g (w_Uk h') (jT_g (w_Uk h') ?_)))
        by_cases c60 : S'.1.length + S'.2.1.length ≤ 60
        · exact jT_pos (by rw [show (60 : Int32) = Int32.ofNat 60 from rfl, jo_le (by omega) (by omega)]; exact c60) (ih p S' lf' fu H' (by omega) p2 (by omega) h' c60 q1 q2 (fun st2 lf2 H2 e h2 => hk1 st2 lf2 H2 ((ew c60).trans e) h2) fun x H2 e h2 => hk0 x H2 ((ew c60).trans e) h2)
        · exact jT_neg (by rw [show (60 : Int32) = Int32.ofNat 60 from rfl, jo_le (by omega) (by omega)]; exact c60) (jT_g (w_Uk h') (w_fails (n := 11) h'.1 rfl (by decide) (by decide) fun H2 hy => w_r22V (w_U_Y h' hy) fun x H3 h3 => hk0 x H3 (en (by omega)) h3))
      by_cases c2 : 170 < (scr.getD at_ 0).toNat ∧ w_all S.2.2.2 = true
      · rw [if_pos c2] at er
        refine w_step15 (by omega) c2.1 c2.2 hfit h hb hops (fun o1 S' lf' H' e h' => ?_) fun e H' hy => afterV _ H' ?_ hy
        · rw [if_neg (by omega), e] at er
          obtain ⟨s1, s2, s3⟩ := w_sg1_ok e o1 hpb
          exact afterU (at_ + 1) S' lf' H' h' (Nat.le_refl _) (by omega) (fun _ => er) (fun q => by omega) s2 s3
        · rw [er]
          rcases e with e | e
          · rw [if_pos e]
          · by_cases w : 100 < S.2.2.1 + 1
            · rw [if_pos w]
            · rw [if_neg w, e]
              rfl
      · rw [if_neg c2] at er
        have h170 : (scr.getD at_ 0).toNat ≤ 170 ∨ w_all S.2.2.2 = false := by
          by_cases q : 170 < (scr.getD at_ 0).toNat
          · refine Or.inr ?_
            cases hw : w_all S.2.2.2 with
            | false => rfl
            | true => exact absurd ⟨q, hw⟩ c2
          · exact Or.inl (by omega)
        refine w_next14 (by omega) h170 h.1 hb hops (by omega) (fun p S' H' e h' => ?_) fun x H' e hy => afterV x H' ?_ (w_U_Y h hy)
        · obtain ⟨s1, s2, s3, s4⟩ := w_on1_ok e hpb (by omega)
          rw [e] at er
          exact afterU p S' lf H' (w_U_Z h h') s3 s4 (fun q => er.trans (if_neg (by show ¬ 60 < S'.1.length + S'.2.1.length; omega))) (fun q => er.trans (if_pos q)) s1 s2
        · rw [er, e]
end RUN14
