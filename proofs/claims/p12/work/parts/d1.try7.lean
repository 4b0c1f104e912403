/-! The class: one signature against one key. -/
theorem zN8_T {H H' : jH} {r n : Nat} (h : zN8 H r n) (he : ∀ j, jI H' r j = jI H r j) : zN8 H' r n := by
  obtain ⟨w, h1, h2⟩ := h
  exact ⟨w, fun i hi => ⟨(he i).trans (h1 i hi).1, (h1 i hi).2⟩, h2⟩
theorem zodds_T {H H' : jH} {q : Nat} {P : ef × ef} (h : zodds H q P 8) (hI : ∀ i, i < 8 → jI H' (q + 8 * i) 3 = jI H (q + 8 * i) 3) (hL : ∀ i a j, i < 8 → q + 8 * i ≤ a → a < q + 8 * i + 4 → jL H' a j = jL H a j) : zodds H' q P 8 := fun i hi => zP5_T (hI i hi) (fun a j q1 q2 => hL i a j hi q1 q2) (h i hi)
section TRY7
variable {o mk la inp : Nat} {tb lk : List UInt8} {y : w_y} {tn mx : Nat} {g8 : Int32} {r p len at_ : Nat} {scr : List UInt8} {S : w_S4} {Hs H : jH} {Q : Int32 → jH → Prop} {ks ss : w_R} {n kd rr zz : Nat} {must : Bool} {Qk : ef × ef} {a2 a3 : Nat} {a7 : Int32} {k90 : Nat → Nat → Nat → Nat → Int32 → Nat → Int32 → Int32 → jH → Option (Int32 × jH)}
theorem w_P_s {v : Int32} (h : w_P o mk la tb y lk tn mx g8 r p len scr at_ S v Hs H) : jsh H := h.1.1.1
theorem k50' {H : jH} (hs : jsh H) : (jK H 50).1 = 8 := by rw [sK_50 hs]
theorem z7_196 (h : w_P o mk la tb y lk tn mx g8 r p len scr at_ S 3 Hs H) (hK : w_K S.1 ks ss n must H) (hin : inp < y.1.length) (hod : zodds H 108 Qk 8) (hQ : eg_c e7 Qk) (hr : zN8 H 51 rr) (hrN : rr < nN) (hz : zN8 H 52 zz) (h50 : jI H 50 0 = Int32.ofNat kd) (hkd : kd < 256)
    (hk : ∀ x H', (x = 1 ∧ sg_ok rr zz (w_z tb y inp lk kd) Qk ∨ x = 0 ∧ ¬ sg_ok rr zz (w_z tb y inp lk kd) Qk) → w_P o mk la tb y lk tn mx g8 r p len scr at_ S 3 Hs H' → w_K S.1 ks ss n must H' → jT (B_7_pass_273 k90 49 o a2 a3 (Int32.ofNat inp) mk (Int32.ofNat la) a7 x H') Q) : jT (B_7_pass_196 k90 49 o a2 a3 (Int32.ofNat inp) mk (Int32.ofNat la) a7 1 H) Q := by
  have hs := w_P_s h
  unfold B_7_pass_196 B_7_pass_268
  rw [sR_49_2 hs, h50]
  refine jT_neg (by decide) (jT_g (k49 hs) (jT_g (k50' hs) (jT_g (k49 hs) (jT_b ?_))))
  obtain ⟨row, s, len', lr, llen, nm, hc, hy, hlk⟩ := h.2.2.2.1
  -- what follows the bytes
  have after : ∀ (l : List UInt8) (H1 : jH), (l = [] ∧ w_z tb y inp lk kd = 1 ∨ l ≠ [] ∧ l.length ≤ 2300 ∧ w_z tb y inp lk kd = bgn (fun i => znm (fun j => l.getD j 0) l.length i) 0 32) → jsh H1 → jfr w_S7 H H1 → zW7 H1 l → jT (jg ((jK H1 49).1 = 7) (jg ((jK H1 49).1 = 7) (jg ((jK H1 49).1 = 7) (jg ((jK H1 49).1 = 7) (jg ((jK H1 (jR H1 49 0)).1 = 3) (jb (F_3_name (jR H1 49 0) (jR H1 49 3) 0 (jI H1 49 4) (jR H1 49 5) H1) fun _ h9 => jg ((jK h9 49).1 = 7) (jg ((jK h9 (jR h9 49 2)).1 = 8) (jb (F_8_setBase (jR h9 49 2) h9) fun _ h11 => jg ((jK h11 49).1 = 7) (jg ((jK h11 49).1 = 7) (jg ((jK h11 49).1 = 7) (if ¬ jI h11 49 4 = 0 then jg ((jK h11 (jR h11 49 2)).1 = 8) (jb (F_8_holds (jR h11 49 2) (jR h11 49 5) 0 h11) fun x4 h5 => B_7_pass_273 k90 49 o a2 a3 (Int32.ofNat inp) mk (Int32.ofNat la) a7 x4 h5) else jg ((jK h11 (jR h11 49 2)).1 = 8) (jb (F_8_holds (jR h11 49 2) (jR h11 49 5) 1 h11) fun x4 h5 => B_7_pass_273 k90 49 o a2 a3 (Int32.ofNat inp) mk (Int32.ofNat la) a7 x4 h5))))))))))))  Q := by
    intro l H1 hl hs1 f1 hw
    obtain ⟨hw4, hwr⟩ := hw
    have hll : l.length ≤ 2300 := by
      rcases hl with ⟨e, -⟩ | ⟨-, e, -⟩
      · rw [e]
        exact Nat.zero_le _
      · exact e
    have hP1 := w_P_T h hs1 f1 (fun a j q => by unfold w_S7 at q; omega) (zBase_T h.2.2.1 f1 fun a j q => by unfold w_S7 at q; omega)
    have hK1 := w_K_T hK f1 fun a j q => by unfold w_S7 at q; omega
    have od1 := zodds_T hod (fun i hi => jfr_I f1 fun q => by unfold w_S7 at q; omega) fun i a j hi q1 q2 => jfr_L f1 fun q => by unfold w_S7 at q; omega
    have r1 := zN8_T hr fun j => jfr_I f1 fun q => by unfold w_S7 at q; omega
    have z1 := zN8_T hz fun j => jfr_I f1 fun q => by unfold w_S7 at q; omega
    rw [sR_49_0 hs1, sR_49_3 hs1, sR_49_5 hs1, hw4]
    refine jT_g (k49 hs1) (jT_g (k49 hs1) (jT_g (k49 hs1) (jT_g (k49 hs1) (jT_g (gT (sK_43 hs1)) (jT_b (z3_name 168 2400 0 l.length 169 32 (by omega) (by decide) (by omega) (by decide) (by decide) H1 hs1 (sK_168 hs1) (sK_169 hs1) fun H2 hs2 f2 v2 => ?_))))))
    have hP2 := w_P_T hP1 hs2 f2 (fun a j q => by omega) (zBase_T hP1.2.2.1 f2 fun a j q => by omega)
    have hK2 := w_K_T hK1 f2 fun a j q => by omega
    have od2 := zodds_T od1 (fun i hi => jfr_I f2 fun q => by omega) fun i a j hi q1 q2 => jfr_L f2 fun q => by omega
    have r2 := zN8_T r1 fun j => jfr_I f2 fun q => by omega
    have z2 := zN8_T z1 fun j => jfr_I f2 fun q => by omega
    have w42 : jI H2 49 4 = Int32.ofNat l.length := (jfr_I f2 (by omega)).trans hw4
    rw [sR_49_2 hs2]
    refine jT_g (k49 hs2) (jT_g (k50' hs2) (jT_b (z8_setBase hs2 hP2.2.2.1 fun H3 f3 e3 e16 hod3 => ?_)))
    have hs3 : jsh H3 := jsh_fJ hs2 f3 fun a ha q => by unfold zSB zSb at q; omega
    have hP3 := w_P_T hP2 hs3 (jfr_J f3) (fun a j q => by unfold zSB zSb at q; omega) (Or.inr ⟨e16, hod3⟩)
    have hK3 := w_K_T hK2 (jfr_J f3) fun a j q => by unfold zSB zSb at q; omega
    have od3 := zodds_T od2 (fun i hi => jfr_I (jfr_J f3) fun q => by unfold zSB zSb at q; omega) fun i a j hi q1 q2 => jfr_L (jfr_J f3) fun q => by unfold zSB zSb at q; omega
    have r3 := zN8_T r2 fun j => jfr_I (jfr_J f3) fun q => by unfold zSB zSb at q; omega
    have z3 := zN8_T z2 fun j => jfr_I (jfr_J f3) fun q => by unfold zSB zSb at q; omega
    have w43 : jI H3 49 4 = Int32.ofNat l.length := (jfr_I (jfr_J f3) (by unfold zSB zSb; omega)).trans w42
    have b3 : ∀ i, i < 32 → jB H3 169 i = znm (fun j => l.getD j 0) l.length i := fun i hi => by
      rw [f3.2.2.2.2.1, v2 i hi, znm_eq (c := fun j => l.getD j 0) fun j hj => ?_]
      exact hwr j _ (getD_of hj)
    rw [sR_49_2 hs3, sR_49_5 hs3, w43]
    refine jT_g (k49 hs3) (jT_g (k49 hs3) (jT_g (k49 hs3) ?_))
    have fin : ∀ a2' : Int32, (a2' = 0 ∨ a2' = 1) → (if a2' = 0 then bgn (jB H3 169) 0 32 else 1) = w_z tb y inp lk kd → jT (jg ((jK H3 50).1 = 8) (jb (F_8_holds 50 169 a2' H3) fun x4 h5 => B_7_pass_273 k90 49 o a2 a3 (Int32.ofNat inp) mk (Int32.ofNat la) a7 x4 h5)) Q := fun a2' h01 ez => by
      refine jT_g (k50' hs3) (jT_b (z8_holds h01 hs3 (sK_169 hs3) (by decide) (by decide) hQ hod3 od3 r3 hrN z3 fun H4 v f4 hv => ?_))
      have hs4 : jsh H4 := jsh_fJ hs3 f4 zSh_18
      rw [ez] at hv
      exact hk v H4 hv (w_P_T hP3 hs4 (jfr_J f4) (fun a j q => by unfold zSh at q; omega) (zBase_J hP3.2.2.1 f4 ((f4.2.2.2.2.2 50 (by unfold zSh; omega) 16).2) fun a q => by unfold zSh at q; omega)) (w_K_T hK3 (jfr_J f4) fun a j q => by unfold zSh at q; omega)
    by_cases c0 : l = []
    · have ez : w_z tb y inp lk kd = 1 := by
        rcases hl with ⟨-, e⟩ | ⟨e, -⟩
        · exact e
        · exact absurd c0 e
      exact jT_neg (by rw [c0]; decide) (fin 1 (Or.inr rfl) (by rw [ez]; rfl))
    · have hpos : 0 < l.length := List.length_pos_iff.mpr c0
      have ez : w_z tb y inp lk kd = bgn (fun i => znm (fun j => l.getD j 0) l.length i) 0 32 := by
        rcases hl with ⟨e, -⟩ | ⟨-, -, e⟩
        · exact absurd e c0
        · exact e
      refine jT_pos (fun q => ?_) (fin 0 (Or.inl rfl) ?_)
      · have := (jo_eq (a := l.length) (b := 0) (by omega) (by decide)).mp q
        omega
      · rw [ez, if_pos rfl]
        exact bgn_ext (m := 32) (fun j hj => b3 j hj) (Nat.le_refl _)
  refine z7_write hy hkd hin hlk hc (fun H1 h1 c1 f1 hw => ?_) fun H1 h1 c1 f1 hw => ?_
  · exact after [] H1 (Or.inl ⟨rfl, if_pos h1⟩) c1.1 f1 hw
  · have h3 : kd % 32 = 3 → inp < y.2.1.length := fun q => Nat.lt_of_not_le fun w => h1 ⟨q, w⟩
    obtain ⟨l1, l2⟩ := w_msg_len (inp := inp) hy hlk h3
    exact after (w_msg tb y inp lk kd) H1 (Or.inr ⟨fun e => by rw [e] at l2; exact absurd l2 (by decide), l1, if_neg h1⟩) c1.1 f1 hw
end TRY7
