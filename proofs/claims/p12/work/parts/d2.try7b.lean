/-! The class: one signature against one key, from the machine's own rows. -/
section TRY7B
variable {o mk la inp : Nat} {tb lk : List UInt8} {y : w_y} {tn mx : Nat} {g8 : Int32} {r p len at_ : Nat} {scr : List UInt8} {S : w_S4} {Hs H : jH} {Q : Int32 → jH → Prop} {ks ss : w_R} {n : Nat} {must : Bool} {a2 a3 : Nat} {a7 : Int32} {k90 : Nat → Nat → Nat → Nat → Int32 → Nat → Int32 → Int32 → jH → Option (Int32 × jH)}
theorem w_row_b {H : jH} {q : Nat} {l : List UInt8} (h : zRow H q 0 l) {j : Nat} (hj : j < l.length) : jB H q j = l.getD j 0 := by
  have := h j _ (getD_of hj)
  rw [Nat.zero_add] at this
  exact this
theorem z7_try {fit : List UInt8 → List UInt8 → Bool} (hfit : ∀ sg ky, fit sg ky = true ↔ w_fit tb y inp lk sg ky) (h : w_P o mk la tb y lk tn mx g8 r p len scr at_ S 3 Hs H) (hK : w_K S.1 ks ss n must H) (hss : ss.length ≠ 0) (hin : inp < y.1.length)
    (hk : ∀ x H', x = (if fit (ss.getD 0 []) (ks.getD 0 []) = true then 1 else 0) → w_P o mk la tb y lk tn mx g8 r p len scr at_ S 3 Hs H' → w_K S.1 ks ss n must H' → jT (B_7_pass_273 k90 49 o a2 a3 (Int32.ofNat inp) mk (Int32.ofNat la) a7 x H') Q) :
    jT (jb (F_4_signature 170 H) fun x22 h23 => jg ((jK h23 49).1 = 7) (jg ((jK h23 (jR h23 49 1)).1 = 4) (jb (F_4_signatureSize (jR h23 49 1) h23) fun x24 h25 => jg ((jK h25 50).1 = 8) (jb (F_8_setSignature 50 x22 x24 h25) fun x26 h27 => if x26 = 0 then B_7_pass_195 k90 49 o a2 a3 (Int32.ofNat inp) mk (Int32.ofNat la) a7 h27 else jg ((jK h27 49).1 = 7) (jg ((jK h27 49).1 = 7) (jg ((jK h27 (jR h27 49 1)).1 = 4) (jb (F_4_publicKey (jR h27 49 1) h27) fun x28 h29 => jg ((jK h29 49).1 = 7) (jg ((jK h29 (jR h29 49 1)).1 = 4) (jb (F_4_publicKeySize (jR h29 49 1) h29) fun x30 h31 => jg ((jK h31 (jR h27 49 2)).1 = 8) (jb (F_8_setKey (jR h27 49 2) x28 x30 h31) fun x32 h33 => if x32 = 0 then B_7_pass_195 k90 49 o a2 a3 (Int32.ofNat inp) mk (Int32.ofNat la) a7 h33 else B_7_pass_196 k90 49 o a2 a3 (Int32.ofNat inp) mk (Int32.ofNat la) a7 1 h33)))))))))) Q := by
  have hs := w_P_s h
  have k170 : ∀ {H : jH}, jsh H → (jK H 170).1 = 4 := fun hs => gT (sK_170 hs)
  have hks : ks.length ≠ 0 := by
    have := hK.2.2.2.2.2.2.2.1
    omega
  obtain ⟨q1, e1, e2, kq, zq, lq, g1, g2⟩ := z4_signature h.1 hK hss
  rw [e1, jb_ok, sR_49_1 hs]
  refine jT_g (k49 hs) (jT_g (k170 hs) ?_)
  rw [e2, jb_ok]
  generalize hsg : ss.getD 0 [] = sg at *
  -- no signature, or no key
  have no : ∀ H', ¬ w_fit tb y inp lk sg (ks.getD 0 []) → w_P o mk la tb y lk tn mx g8 r p len scr at_ S 3 Hs H' → w_K S.1 ks ss n must H' → jT (B_7_pass_195 k90 49 o a2 a3 (Int32.ofNat inp) mk (Int32.ofNat la) a7 H') Q := fun H' hn hP hK => by
    unfold B_7_pass_195 B_7_pass_196
    exact jT_pos rfl (hk 0 H' (by rw [if_neg fun w => hn ((hfit _ _).mp w)]) hP hK)
  have hb : ∀ j, j < sg.length → jB H q1 j = sg.getD j 0 := fun j hj => w_row_b zq hj
  refine jT_g (k50' hs) (jT_b (z8_setSignature rfl hs kq (by decide) lq (by omega) (fun H1 f1 e50 sb si i50 n51 n52 => ?_) fun H1 f1 e50 sb => ?_))
  rotate_left
  · have hs1 : jsh H1 := jsh_fJ hs f1 fun a ha q => by unfold zSg8 at q; omega
    have fr := jfr_J f1
    refine jT_pos rfl (no H1 (fun ⟨Qk, w1, w2, w3, w4⟩ => sb ?_) (w_P_T h hs1 fr (fun a j q => by unfold zSg8 at q; omega) (zBase_J h.2.2.1 f1 (e50 16 (by decide)) fun a q => by unfold zSg8 at q; omega)) (w_K_T hK fr fun a j q => by unfold zSg8 at q; omega))
    obtain ⟨v1, -, -, v2, v3⟩ := sg_b_imp (c := jB H q1) (fun j hj => (hb j (by omega)).symm) w2
    rw [v2, v3] at w3
    exact ⟨v1, w3⟩
  have hs1 : jsh H1 := jsh_fJ hs f1 fun a ha q => by unfold zSg8 at q; omega
  have fr := jfr_J f1
  have hP1 := w_P_T h hs1 fr (fun a j q => by unfold zSg8 at q; omega) (zBase_J h.2.2.1 f1 (e50 16 (by decide)) fun a q => by unfold zSg8 at q; omega)
  have hK1 := w_K_T hK fr fun a j q => by unfold zSg8 at q; omega
  obtain ⟨v1, -, -, v2, v3⟩ := sg_b_imp (c := fun i => sg.getD i 0) (fun j hj => hb j (by omega)) sb
  have sl := sg_b_len v1
  rw [v2] at n51
  rw [v3] at n52
  rw [v2, v3] at si
  rw [hb _ (by omega)] at i50
  obtain ⟨q2, e3, e4, kq2, zq2, lq2, g3, g4⟩ := z4_publicKey hP1.1 hK1 hks
  rw [sR_49_1 hs1, sR_49_2 hs1, e3, jb_ok, sR_49_1 hs1]
  refine jT_neg (by decide) (jT_g (k49 hs1) (jT_g (k49 hs1) (jT_g (k170 hs1) (jT_g (k49 hs1) (jT_g (k170 hs1) ?_)))))
  rw [e4, jb_ok]
  generalize hky : ks.getD 0 [] = ky at *
  have eky : ky_pt (jB H1 q2) ky.length = ky_pt (fun i => ky.getD i 0) ky.length := ky_pt_ext fun j hj => w_row_b zq2 hj
  refine jT_g (k50' hs1) (jT_b (z8_setKey kq2 (by decide) hs1 lq2 (fun en H2 f2 => ?_) fun Qk es H2 f2 od => ?_))
  · have hs2 : jsh H2 := jsh_fJ hs1 f2 zSk_18
    rw [eky] at en
    refine jT_pos rfl (no H2 (fun ⟨Qk, w1, _⟩ => by rw [en] at w1; cases w1) (w_P_T hP1 hs2 (jfr_J f2) (fun a j q => by unfold zSk zSb at q; omega) (zBase_J hP1.2.2.1 f2 ((f2.2.2.2.2.2 50 (by unfold zSk zSb; omega) 16).2) fun a q => by unfold zSk zSb at q; omega)) (w_K_T hK1 (jfr_J f2) fun a j q => by unfold zSk zSb at q; omega))
  · have hs2 : jsh H2 := jsh_fJ hs1 f2 zSk_18
    rw [eky] at es
    have i2 : ∀ a, a = 50 ∨ a = 51 ∨ a = 52 → ∀ j, jI H2 a j = jI H1 a j := fun a ha j => (f2.2.2.2.2.2 a (by unfold zSk zSb; omega) j).2
    refine jT_neg (by decide) (z7_196 (w_P_T hP1 hs2 (jfr_J f2) (fun a j q => by unfold zSk zSb at q; omega) (zBase_J hP1.2.2.1 f2 (i2 50 (Or.inl rfl) 16) fun a q => by unfold zSk zSb at q; omega)) (w_K_T hK1 (jfr_J f2) fun a j q => by unfold zSk zSb at q; omega) hin od (ky_pt_c es) (zN8_T n51 (i2 51 (Or.inr (Or.inl rfl)))) si.2.2.1 (zN8_T n52 (i2 52 (Or.inr (Or.inr rfl)))) ((i2 50 (Or.inl rfl) 0).trans i50) (sg.getD (sg.length - 1) 0).toNat_lt fun x H3 hx hP3 hK3 => hk x H3 ?_ hP3 hK3)
    rcases hx with ⟨rfl, w⟩ | ⟨rfl, w⟩
    · rw [if_pos ((hfit _ _).mpr ⟨Qk, es, v1, si, w⟩)]
    · rw [if_neg fun z => ?_]
      obtain ⟨Q2, w1, w2, w3, w4⟩ := (hfit _ _).mp z
      rw [es] at w1
      obtain rfl := Option.some.inj w1
      exact w w4
end TRY7B
