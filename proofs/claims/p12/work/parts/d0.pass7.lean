/-! The class: an input's scripts, what holds in between. -/
def w_FC : Nat → Nat → Prop := fun a _ => 43 ≤ a ∧ a ≤ 391
def w_C7 (o mk la : Nat) (tb : List UInt8) (y : w_y) (lk : List UInt8) (H : jH) : Prop := ∃ row s len lr llen nm, w_c7 o row s len mk lr la llen tb nm y lk H ∧ w_ty tb y ∧ lk.length ≤ 200
def w_P (o mk la : Nat) (tb : List UInt8) (y : w_y) (lk : List UInt8) (tn mx : Nat) (g8 : Int32) (r p len : Nat) (scr : List UInt8) (at_ : Nat) (S : w_S4) (v : Int32) (Hs H : jH) : Prop :=
  w_G r p len scr at_ S v H H ∧ jfr w_FC Hs H ∧ zBase H ∧ w_C7 o mk la tb y lk H ∧ jI H 49 6 = Int32.ofNat tn ∧ jI H 49 7 = Int32.ofNat mx ∧ jI H 170 8 = g8
/-- after a fault -/
def w_PX (o mk la : Nat) (tb : List UInt8) (y : w_y) (lk : List UInt8) (tn mx : Nat) (Hs H : jH) : Prop := w_X H H ∧ jfr w_FC Hs H ∧ zBase H ∧ w_C7 o mk la tb y lk H ∧ jI H 49 6 = Int32.ofNat tn ∧ jI H 49 7 = Int32.ofNat mx
theorem w_C7_fr {o mk la : Nat} {tb lk : List UInt8} {y : w_y} {T : Nat → Nat → Prop} {H H' : jH} (h : w_C7 o mk la tb y lk H) (hs : jsh H') (hf : jfr T H H') (hT : ∀ a j, 422 ≤ a → ¬ T a j) : w_C7 o mk la tb y lk H' := by
  obtain ⟨row, s, len, lr, llen, nm, ⟨a, b, c⟩, d, e⟩ := h
  exact ⟨row, s, len, lr, llen, nm, ⟨hs, w_x_jfr b hf hT, w_lk_jfr c hf hT⟩, d, e⟩
theorem zL_T {H H' : jH} {r : Nat} {v : ef} {B : Int} (h : zL H r v B) (he : ∀ j, jL H' r j = jL H r j) : zL H' r v B := by
  obtain ⟨f, h1, h2⟩ := h
  exact ⟨f, fun i hi => (he i).trans (h1 i hi), h2⟩
theorem zP5_T {H H' : jH} {p : Nat} (h3 : jI H' p 3 = jI H p 3) (he : ∀ a j, p ≤ a → a < p + 4 → jL H' a j = jL H a j) : ∀ {o : Option (ef × ef)}, zP5 H p o → zP5 H' p o
  | none, h => h3.trans h
  | some _, h => by
    obtain ⟨a, b, X, Y, Z, c, d, e, f⟩ := h
    exact ⟨h3.trans a, b, X, Y, Z, zL_T c fun j => he _ j (by omega) (by omega), zL_T d fun j => he _ j (by omega) (by omega), zL_T e fun j => he _ j (by omega) (by omega), f⟩
theorem zBase_E {H H' : jH} (h : zBase H) (h16 : jI H' 50 16 = jI H 50 16) (hI : ∀ i, i < 8 → jI H' (104 + 8 * i) 3 = jI H (104 + 8 * i) 3) (hL : ∀ i a j, i < 8 → 104 + 8 * i ≤ a → a < 104 + 8 * i + 4 → jL H' a j = jL H a j) : zBase H' := by
  rcases h with h | ⟨h, hod⟩
  · exact Or.inl (h16.trans h)
  · exact Or.inr ⟨h16.trans h, fun i hi => zP5_T (hI i hi) (fun a j q1 q2 => hL i a j hi q1 q2) (hod i hi)⟩
theorem zBase_T {T : Nat → Nat → Prop} {H H' : jH} (h : zBase H) (hf : jfr T H H') (hT : ∀ a j, T a j → a < 50 ∨ 167 < a) : zBase H' :=
  zBase_E h (jfr_I hf fun q => by have := hT _ _ q; omega) (fun i hi => jfr_I hf fun q => by have := hT _ _ q; omega) fun i a j hi q1 q2 => jfr_L hf fun q => by have := hT _ _ q; omega
theorem zBase_J {T : Nat → Prop} {H H' : jH} (h : zBase H) (hf : jfJ T H H') (h16 : jI H' 50 16 = jI H 50 16) (hT : ∀ a, T a → a < 104 ∨ (108 ≤ a ∧ (a - 104) % 8 ≥ 4)) : zBase H' :=
  zBase_E h h16 (fun i hi => (hf.2.2.2.2.2 _ (fun q => by have := hT _ q; omega) 3).2) fun i a j hi q1 q2 => (hf.2.2.2.2.2 _ (fun q => by have := hT _ q; omega) j).1
theorem jfr_J {T : Nat → Prop} {H H' : jH} (h : jfJ T H H') : jfr (fun a _ => T a) H H' := by
  obtain ⟨e1, e2, e3, e4, e5, e6⟩ := h
  exact ⟨e1, e2, e3, fun a j hn => ⟨(e6 a hn j).2, (e6 a hn j).1, by rw [e4], by rw [e5]⟩⟩
section P7
variable {o mk la : Nat} {tb lk : List UInt8} {y : w_y} {tn mx : Nat} {g8 : Int32} {r p len at_ : Nat} {scr : List UInt8} {S : w_S4} {v : Int32} {Hs H0 H : jH}
theorem w_G_T {T : Nat → Nat → Prop} {H' : jH} (h : w_G r p len scr at_ S v H0 H) (hs : jsh H') (hf : jfr T H H') (hT : ∀ a j, T a j → a < 170) : w_G r p len scr at_ S v H' H' := by
  obtain ⟨⟨a1, a2, a3, sp, a4⟩, b, c, ⟨d1, d2, d3, d4, d5, d6⟩, ⟨e1, e2, e3, e4, e5⟩, g, i1, i2, i3⟩ := h
  have n : ∀ {a j}, 170 ≤ a → ¬ T a j := fun q w => by have := hT _ _ w; omega
  have hh : ∀ S, zS3 S → ∀ a j, T a j → ¬ (a = S ∧ j = 2) ∧ ¬ (S + 1 ≤ a ∧ a ≤ S + 72) := fun S hS a j q => by
    have := hT _ _ q
    unfold zS3 at hS
    omega
  exact ⟨⟨hs, zStk_fr a2 hf (hh _ zS171), zStk_fr a3 hf (hh _ zS244), sp, zStk_fr a4 hf (hh _ zS317)⟩, jfr_refl, (jfr_I hf (n (by decide))).trans c, ⟨(jfr_R hf (n (by decide))).trans d1, by rw [jfr_K hf]; exact d2, zRow_eq d3 fun i _ => jfr_B hf (n (by omega)), d4, d5, d6⟩, ⟨(jfr_I hf (n (by decide))).trans e1, (jfr_I hf (n (by decide))).trans e2, (jfr_I hf (n (by decide))).trans e3, (jfr_I hf (n (by decide))).trans e4, (jfr_I hf (n (by decide))).trans e5⟩, fun k hk => (jfr_I hf (n (by decide))).trans (g k hk), i1, i2, i3⟩
theorem w_K_T {T : Nat → Nat → Prop} {H' : jH} {st ks ss : w_R} {n : Nat} {must : Bool} (h : w_K st ks ss n must H) (hf : jfr T H H') (hT : ∀ a j, T a j → a < 170) : w_K st ks ss n must H' := by
  have e : ∀ j, jI H' 170 j = jI H 170 j := fun j => jfr_I hf fun w => by have := hT _ _ w; omega
  unfold w_K
  rw [e, e, e, e, e, e]
  exact h
theorem w_P_T {T : Nat → Nat → Prop} {H' : jH} (h : w_P o mk la tb y lk tn mx g8 r p len scr at_ S v Hs H) (hs : jsh H') (hf : jfr T H H') (hT : ∀ a j, T a j → 43 ≤ a ∧ a < 170 ∧ ¬ (a = 49 ∧ (j = 6 ∨ j = 7))) (hb : zBase H') : w_P o mk la tb y lk tn mx g8 r p len scr at_ S v Hs H' := by
  obtain ⟨a, b, c, d, e, f, g⟩ := h
  exact ⟨w_G_T a hs hf fun a j q => (hT a j q).2.1, jfr_trans b (jfr_mono hf fun a j q => ⟨(hT a j q).1, by have := (hT a j q).2.1; omega⟩), hb, w_C7_fr d hs hf fun a j q w => by have := hT a j w; omega, (jfr_I hf fun w => (hT _ _ w).2.2 ⟨rfl, Or.inl rfl⟩).trans e, (jfr_I hf fun w => (hT _ _ w).2.2 ⟨rfl, Or.inr rfl⟩).trans f, (jfr_I hf fun w => by have := hT _ _ w; omega).trans g⟩
theorem w_G_re (h : w_G r p len scr at_ S v H0 H) : w_G r p len scr at_ S v H H := by
  obtain ⟨a, b, c⟩ := h
  exact ⟨a, jfr_refl, c⟩
theorem w_P_G {at2 : Nat} {S' : w_S4} {v' : Int32} {H' : jH} (h : w_P o mk la tb y lk tn mx g8 r p len scr at_ S v Hs H) (h' : w_G r p len scr at2 S' v' H H') : w_P o mk la tb y lk tn mx g8 r p len scr at2 S' v' Hs H' := by
  obtain ⟨a, b, c, d, e, f, g⟩ := h
  have hf := h'.2.1
  exact ⟨w_G_re h', jfr_trans b (jfr_mono hf fun a j q => by unfold w_F5 at q; unfold w_FC; omega), zBase_T c hf fun a j q => by unfold w_F5 at q; omega, w_C7_fr d h'.1.1 hf fun a j q w => by unfold w_F5 at w; omega, (jfr_I hf fun w => by unfold w_F5 at w; omega).trans e, (jfr_I hf fun w => by unfold w_F5 at w; omega).trans f, (jfr_I hf fun w => by unfold w_F5 at w; omega).trans g⟩
theorem w_P_X {H' : jH} (h : w_P o mk la tb y lk tn mx g8 r p len scr at_ S v Hs H) (h' : w_X H H') : w_PX o mk la tb y lk tn mx Hs H' := by
  obtain ⟨a, b, c, d, e, f, g⟩ := h
  obtain ⟨⟨x1, x2, hm⟩, hf, h9⟩ := h'
  exact ⟨⟨⟨x1, x2, hm⟩, jfr_refl, h9⟩, jfr_trans b (jfr_mono hf fun a j q => by unfold w_F5 at q; unfold w_FC; omega), zBase_T c hf fun a j q => by unfold w_F5 at q; omega, w_C7_fr d hm.1 hf fun a j q w => by unfold w_F5 at w; omega, (jfr_I hf fun w => by unfold w_F5 at w; omega).trans e, (jfr_I hf fun w => by unfold w_F5 at w; omega).trans f⟩
end P7
