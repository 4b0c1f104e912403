/-! The reference's inputs, and the whole reading. -/
section RTX4
variable {t row len e p : Nat} {g : Int32} {H : jH}
theorem z17_pass_any {α : Type} {Q : α → jH → Prop} {k : Unit → jH → Option (α × jH)} {n : Nat} (ht : zT t) (h : zRd t row len e p g H) (hg : g = 0 ∨ g = 1) (hn : n < 2000000) (hk : ∀ H' p' g', zRd t row len e p' g' H' → (g' = 0 ∨ g' = 1) → (g' = 1 ↔ g = 1 ∧ p + n ≤ e) → (g' = 1 → p' = p + n) → jfr (zSp t) H H' → jT (k () H') Q) : jT (jb (F_17_pass t (Int32.ofNat n) H) k) Q := by
  by_cases hc : g = 1 ∧ p + n ≤ e
  · obtain ⟨rfl, hp⟩ := hc
    exact z17_pass_ok ht h hp fun H' h' f' => hk H' (p + n) 1 h' (Or.inr rfl) ⟨fun _ => ⟨rfl, hp⟩, fun _ => rfl⟩ (fun _ => rfl) f'
  · refine z17_pass_no ht h hn ?_ fun H' h' f' => hk H' p 0 h' (Or.inl rfl) ⟨fun q => absurd q (by decide), fun q => absurd q hc⟩ (fun q => absurd q (by decide)) f'
    rcases hg with hg | hg
    · exact Or.inl hg
    · refine Or.inr ⟨hg, ?_⟩
      by_cases q : p + n ≤ e
      · exact absurd ⟨hg, q⟩ hc
      · omega
theorem z17_low_any {α : Type} {Q : α → jH → Prop} {k : Int64 → jH → Option (α × jH)} {n : Nat} (ht : zT t) (h : zRd t row len e p g H) (hg : g = 0 ∨ g = 1) (hn : 1 ≤ n ∧ n ≤ 8) (hk : ∀ x H' p' g', zRd t row len e p' g' H' → (g' = 0 ∨ g' = 1) → (g' = 1 ↔ g = 1 ∧ p + n ≤ e) → (g' = 1 → p' = p + n ∧ x = zle (jB H row) (p + n) n) → jfr (zSp t) H H' → jT (k x H') Q) : jT (jb (F_17_low t (Int32.ofNat n) H) k) Q := by
  by_cases hc : g = 1 ∧ p + n ≤ e
  · obtain ⟨rfl, hp⟩ := hc
    exact z17_low_ok ht h hp hn.2 fun H' h' f' => hk _ H' (p + n) 1 h' (Or.inr rfl) ⟨fun _ => ⟨rfl, hp⟩, fun _ => rfl⟩ (fun _ => ⟨rfl, rfl⟩) f'
  · refine z17_low_no ht h hn ?_ fun H' h' f' => hk _ H' p 0 h' (Or.inl rfl) ⟨fun q => absurd q (by decide), fun q => absurd q hc⟩ (fun q => absurd q (by decide)) f'
    rcases hg with hg | hg
    · exact Or.inl hg
    · refine Or.inr ⟨hg, ?_⟩
      by_cases q : p + n ≤ e
      · exact absurd ⟨hg, q⟩ hc
      · omega
theorem z17_size_any {α : Type} {Q : α → jH → Prop} {k : Int32 → jH → Option (α × jH)} {mo : Nat} (hmo : mo = 8 ∨ mo = 200) (ht : zT t) (h : zRd t row len e p g H) (hg : g = 0 ∨ g = 1) (hk : ∀ s H' p' g', s ≤ mo → zRd t row len e p' g' H' → (g' = 0 ∨ g' = 1) → (g' = 1 ↔ g = 1 ∧ p + 1 ≤ e ∧ (jB H row p).toNat ≤ mo) → (g' = 1 → p' = p + 1 ∧ s = (jB H row p).toNat) → jfr (zSp t) H H' → jT (k (Int32.ofNat s) H') Q) : jT (jb (F_17_size t (Int32.ofNat mo) H) k) Q := by
  by_cases hc : g = 1 ∧ p + 1 ≤ e ∧ (jB H row p).toNat ≤ mo
  · obtain ⟨rfl, hp, hb⟩ := hc
    exact z17_size_ok hmo ht h hp hb fun H' h' f' => hk _ H' (p + 1) 1 hb h' (Or.inr rfl) ⟨fun _ => ⟨rfl, hp, hb⟩, fun _ => rfl⟩ (fun _ => ⟨rfl, rfl⟩) f'
  · refine z17_size_no hmo ht h ?_ fun H' p' h' f' => hk 0 H' p' 0 (Nat.zero_le _) h' (Or.inl rfl) ⟨fun q => absurd q (by decide), fun q => absurd q hc⟩ (fun q => absurd q (by decide)) f'
    rcases hg with hg | hg
    · exact Or.inl hg
    · refine Or.inr ⟨hg, ?_⟩
      by_cases q : p + 1 ≤ e
      · refine Or.inr ?_
        by_cases q2 : (jB H row p).toNat ≤ mo
        · exact absurd ⟨hg, q, q2⟩ hc
        · omega
      · exact Or.inl (by omega)
theorem zSp_i {a j : Nat} (h : zSp t a j) : zSi t a j := Or.inl h
/-- one input -/
theorem z17_in {Q : Int32 → jH → Prop} {k : Nat → Int32 → jH → Option (Int32 × jH)} {i m : Nat} {b : Nat → UInt8} (ht : zT t) (hi : i < m) (hm : m ≤ 8) (h4 : jI H t 4 = Int32.ofNat m) (hb : jB H row = b) (h : zRd t row len e p g H) (hg : g = 0 ∨ g = 1)
    (hk : ∀ H' p' g', zRd t row len e p' g' H' → (g' = 0 ∨ g' = 1) → (g' = 1 ↔ g = 1 ∧ p + 37 ≤ e ∧ (b (p + 36)).toNat ≤ 200 ∧ p + 41 + (b (p + 36)).toNat ≤ e) → jfr (zSi t) H H' →
      (g' = 1 → p' = p + 41 + (b (p + 36)).toNat ∧ jI H' (t + 1) i = Int32.ofNat p ∧ jL H' (t + 2) i = zle b (p + 36) 4 ∧ jI H' (t + 3) i = Int32.ofNat (p + 37) ∧ jI H' (t + 4) i = Int32.ofNat (b (p + 36)).toNat ∧ jI H' (t + 5) i = Int32.ofNat (p + 37 + (b (p + 36)).toNat)) →
      (∀ a j, t < a → j ≠ i → jI H' a j = jI H a j ∧ jL H' a j = jL H a j) → jT (k t (Int32.ofNat (i + 1)) H') Q) :
    jT (B_17_read_43 k t (Int32.ofNat i) H) Q := by
  have htl := zT_le ht
  have hi8 : i < 8 := by omega
  have g8 : jin (Int32.ofNat i) 8 := jo_in (by omega) hi8
  have f0 : jF0 ≤ t + 1 ∧ jF0 ≤ t + 3 ∧ jF0 ≤ t + 4 ∧ jF0 ≤ t + 5 := by unfold jF0; omega
  have nsp : ∀ a, t < a → ∀ j, ¬ zSp t a j := fun a ha j q => by have := q.1; omega
  have hrow := h.2.2.2.2.2.2.2.2.2
  have spB : ∀ {H1 H2 : jH}, jfr (zSp t) H1 H2 → jB H2 row = jB H1 row := fun hf => funext fun j => jfr_B hf (fun q => by have := q.1; omega)
  have spI : ∀ {H1 H2 : jH}, jfr (zSp t) H1 H2 → ∀ a, t < a → ∀ j, jI H2 a j = jI H1 a j := fun hf a ha j => jfr_I hf (nsp a ha j)
  have spL : ∀ {H1 H2 : jH}, jfr (zSp t) H1 H2 → ∀ a, t < a → ∀ j, jL H2 a j = jL H1 a j := fun hf a ha j => jfr_L hf (nsp a ha j)
  clear nsp hrow
  unfold B_17_read_43
  have e_i : Int32.ofNat i + 1 = Int32.ofNat (i + 1) := jo_add (a := i) (b := 1)
  rw [h4, e_i, t_r7 h.1 ht, t_k1 h.1 ht, h.2.2.2.2.1, jo_nat (n := i) (by omega)]
  have k0 := t_k h.1 ht
  refine jT_g k0 (jT_neg (by rw [jo_le (by omega) (by omega)]; omega) (jT_g k0 (jT_g k0 (jT_g ⟨rfl, f0.1, g8⟩ (jT_l ?_)))))
  have ha : zRd t row len e p g (jsI H (t + 1) i (Int32.ofNat p)) := zRd_I ht h (by omega)
  have fa : jfr (zSi t) H (jsI H (t + 1) i (Int32.ofNat p)) := jfr_sI jfr_refl (Or.inr (Or.inl rfl))
  have va : jI (jsI H (t + 1) i (Int32.ofNat p)) (t + 1) i = Int32.ofNat p := jI_sIe
  have oa : ∀ a j, j ≠ i → jI (jsI H (t + 1) i (Int32.ofNat p)) a j = jI H a j := fun a j hj => jup_ne fun q => hj q.2
  have la : jL (jsI H (t + 1) i (Int32.ofNat p)) = jL H := rfl
  have ba : jB (jsI H (t + 1) i (Int32.ofNat p)) row = b := hb
  generalize jsI H (t + 1) i (Int32.ofNat p) = Ha at *
  clear h k0 h4 hb
  refine jT_g (t_k ha.1 ht) (z17_pass_any (n := 32) ht ha hg (by decide) fun Hb p1 g1 hb1 hg1 q1 w1 fb => ?_)
  refine jT_g (t_k hb1.1 ht) (jT_g (t_k hb1.1 ht) (z17_low_any (n := 4) ht hb1 hg1 (by decide) fun x Hc p2 g2 hc2 hg2 q2 w2 fc => ?_))
  rw [t_r8 hb1.1 ht, t_k2 hc2.1 ht]
  refine jT_g ⟨rfl, g8⟩ (jT_l ?_)
  have hd : zRd t row len e p2 g2 (jsL Hc (t + 2) i x) := zRd_L hc2
  have fd : jfr (zSi t) H (jsL Hc (t + 2) i x) := jfr_sL (jfr_trans (jfr_trans fa (jfr_mono fb fun a j q => zSp_i q)) (jfr_mono fc fun a j q => zSp_i q)) (Or.inr (Or.inr (Or.inl rfl)))
  have vd1 : jI (jsL Hc (t + 2) i x) (t + 1) i = Int32.ofNat p := (spI fc (t + 1) (by omega) i).trans ((spI fb (t + 1) (by omega) i).trans va)
  have vd2 : jL (jsL Hc (t + 2) i x) (t + 2) i = x := jL_sLe
  have od : ∀ a j, t < a → j ≠ i → jI (jsL Hc (t + 2) i x) a j = jI H a j ∧ jL (jsL Hc (t + 2) i x) a j = jL H a j := fun a j ha2 hj => ⟨(spI fc a ha2 j).trans ((spI fb a ha2 j).trans (oa a j hj)), (jup_ne fun q => hj q.2).trans ((spL fc a ha2 j).trans ((spL fb a ha2 j).trans (by rw [la])))⟩
  have bd : jB (jsL Hc (t + 2) i x) row = b := (spB fc).trans ((spB fb).trans ba)
  have bb : jB Hb row = b := (spB fb).trans ba
  rw [bb] at w2
  generalize jsL Hc (t + 2) i x = Hd at *
  clear fa va oa la ba ha hb1 hc2 fb fc bb
  refine jT_g (t_k hd.1 ht) (jT_g (t_k hd.1 ht) (z17_size_any (mo := 200) (Or.inr rfl) ht hd hg2 fun s3 He p3 g3 hs3 he hg3 q3 w3 fe => ?_))
  rw [bd] at q3 w3
  rw [t_r10 hd.1 ht, t_k4 he.1 ht]
  refine jT_g ⟨rfl, f0.2.2.1, g8⟩ (jT_l ?_)
  have hf : zRd t row len e p3 g3 (jsI He (t + 4) i (Int32.ofNat s3)) := zRd_I ht he (by omega)
  have ff : jfr (zSi t) H (jsI He (t + 4) i (Int32.ofNat s3)) := jfr_sI (jfr_trans fd (jfr_mono fe fun a j q => zSp_i q)) (by unfold zSi; omega)
  have vf1 : jI (jsI He (t + 4) i (Int32.ofNat s3)) (t + 1) i = Int32.ofNat p := (jI_sIa (by omega)).trans ((spI fe (t + 1) (by omega) i).trans vd1)
  have vf2 : jL (jsI He (t + 4) i (Int32.ofNat s3)) (t + 2) i = x := (spL fe (t + 2) (by omega) i).trans vd2
  have vf4 : jI (jsI He (t + 4) i (Int32.ofNat s3)) (t + 4) i = Int32.ofNat s3 := jI_sIe
  have of' : ∀ a j, t < a → j ≠ i → jI (jsI He (t + 4) i (Int32.ofNat s3)) a j = jI H a j ∧ jL (jsI He (t + 4) i (Int32.ofNat s3)) a j = jL H a j := fun a j ha2 hj => ⟨(jup_ne fun q => hj q.2).trans ((spI fe a ha2 j).trans (od a j ha2 hj).1), (spL fe a ha2 j).trans (od a j ha2 hj).2⟩
  generalize jsI He (t + 4) i (Int32.ofNat s3) = Hf at *
  clear hd fd vd1 vd2 od bd he fe
  rw [t_r9 hf.1 ht, t_k3 hf.1 ht, hf.2.2.2.2.1]
  refine jT_g (t_k hf.1 ht) (jT_g (t_k hf.1 ht) (jT_g ⟨rfl, f0.2.1, g8⟩ (jT_l ?_)))
  have hg' : zRd t row len e p3 g3 (jsI Hf (t + 3) i (Int32.ofNat p3)) := zRd_I ht hf (by omega)
  have fg : jfr (zSi t) H (jsI Hf (t + 3) i (Int32.ofNat p3)) := jfr_sI ff (by unfold zSi; omega)
  have vg1 : jI (jsI Hf (t + 3) i (Int32.ofNat p3)) (t + 1) i = Int32.ofNat p := (jI_sIa (by omega)).trans vf1
  have vg2 : jL (jsI Hf (t + 3) i (Int32.ofNat p3)) (t + 2) i = x := vf2
  have vg3 : jI (jsI Hf (t + 3) i (Int32.ofNat p3)) (t + 3) i = Int32.ofNat p3 := jI_sIe
  have vg4 : jI (jsI Hf (t + 3) i (Int32.ofNat p3)) (t + 4) i = Int32.ofNat s3 := (jI_sIa (by omega)).trans vf4
  have og : ∀ a j, t < a → j ≠ i → jI (jsI Hf (t + 3) i (Int32.ofNat p3)) a j = jI H a j ∧ jL (jsI Hf (t + 3) i (Int32.ofNat p3)) a j = jL H a j := fun a j ha2 hj => ⟨(jup_ne fun q => hj q.2).trans (of' a j ha2 hj).1, (of' a j ha2 hj).2⟩
  generalize jsI Hf (t + 3) i (Int32.ofNat p3) = Hg at *
  clear hf ff vf1 vf2 vf4 of'
  rw [t_r10 hg'.1 ht, t_k4 hg'.1 ht, vg4]
  refine jT_g (t_k hg'.1 ht) (jT_g ⟨rfl, g8⟩ (jT_g (t_k hg'.1 ht) (z17_pass_any (n := s3) ht hg' hg3 (by omega) fun Hh p4 g4 hh hg4 q4 w4 fh => ?_)))
  rw [t_r11 hh.1 ht, t_k5 hh.1 ht, hh.2.2.2.2.1]
  refine jT_g (t_k hh.1 ht) (jT_g (t_k hh.1 ht) (jT_g ⟨rfl, f0.2.2.2, g8⟩ (jT_l ?_)))
  have hi' : zRd t row len e p4 g4 (jsI Hh (t + 5) i (Int32.ofNat p4)) := zRd_I ht hh (by omega)
  have fi : jfr (zSi t) H (jsI Hh (t + 5) i (Int32.ofNat p4)) := jfr_sI (jfr_trans fg (jfr_mono fh fun a j q => zSp_i q)) (by unfold zSi; omega)
  have vi1 : jI (jsI Hh (t + 5) i (Int32.ofNat p4)) (t + 1) i = Int32.ofNat p := (jI_sIa (by omega)).trans ((spI fh (t + 1) (by omega) i).trans vg1)
  have vi2 : jL (jsI Hh (t + 5) i (Int32.ofNat p4)) (t + 2) i = x := (spL fh (t + 2) (by omega) i).trans vg2
  have vi3 : jI (jsI Hh (t + 5) i (Int32.ofNat p4)) (t + 3) i = Int32.ofNat p3 := (jI_sIa (by omega)).trans ((spI fh (t + 3) (by omega) i).trans vg3)
  have vi4 : jI (jsI Hh (t + 5) i (Int32.ofNat p4)) (t + 4) i = Int32.ofNat s3 := (jI_sIa (by omega)).trans ((spI fh (t + 4) (by omega) i).trans vg4)
  have vi5 : jI (jsI Hh (t + 5) i (Int32.ofNat p4)) (t + 5) i = Int32.ofNat p4 := jI_sIe
  have oi : ∀ a j, t < a → j ≠ i → jI (jsI Hh (t + 5) i (Int32.ofNat p4)) a j = jI H a j ∧ jL (jsI Hh (t + 5) i (Int32.ofNat p4)) a j = jL H a j := fun a j ha2 hj => ⟨(jup_ne fun q => hj q.2).trans ((spI fh a ha2 j).trans (og a j ha2 hj).1), (spL fh a ha2 j).trans (og a j ha2 hj).2⟩
  generalize jsI Hh (t + 5) i (Int32.ofNat p4) = Hi at *
  clear hg' fg vg1 vg2 vg3 vg4 og hh fh
  refine jT_g (t_k hi'.1 ht) (z17_pass_any (n := 4) ht hi' hg4 (by decide) fun Hj p5 g5 hj hg5 q5 w5 fj => jT_l ?_)
  have all : g5 = 1 → g = 1 ∧ p1 = p + 32 ∧ p2 = p + 36 ∧ x = zle b (p + 36) 4 ∧ p3 = p + 37 ∧ s3 = (b (p + 36)).toNat ∧ p4 = p + 37 + s3 ∧ p5 = p + 41 + s3 ∧ p + 37 ≤ e ∧ s3 ≤ 200 ∧ p + 41 + s3 ≤ e := by
    intro h5
    obtain ⟨h4, a5⟩ := q5.mp h5
    obtain ⟨h3, a4⟩ := q4.mp h4
    obtain ⟨h2, a3, a3b⟩ := q3.mp h3
    obtain ⟨h1, a2⟩ := q2.mp h2
    obtain ⟨h0, a1⟩ := q1.mp h1
    have e1 := w1 h1
    obtain ⟨e2, ex⟩ := w2 h2
    obtain ⟨e3, es⟩ := w3 h3
    have e4 := w4 h4
    have e5 := w5 h5
    have e12 : p2 = p + 36 := by omega
    rw [e12] at es
    refine ⟨h0, e1, e12, ?_, by omega, es, by omega, by omega, by omega, hs3, by omega⟩
    rw [ex, show p1 + 4 = p + 36 by omega]
  refine hk Hj p5 g5 hj hg5 ⟨fun h5 => ?_, fun hc => ?_⟩ (jfr_trans fi (jfr_mono fj fun a j q => zSp_i q)) (fun h5 => ?_) (fun a j ha2 hj2 => ⟨(spI fj a ha2 j).trans (oi a j ha2 hj2).1, (spL fj a ha2 j).trans (oi a j ha2 hj2).2⟩)
  · obtain ⟨h0, -, -, -, -, es, -, -, c1, c2, c3⟩ := all h5
    rw [es] at c2 c3
    exact ⟨h0, c1, c2, c3⟩
  · obtain ⟨h0, c1, c2, c3⟩ := hc
    have h1 := q1.mpr ⟨h0, by omega⟩
    have e1 := w1 h1
    have h2 := q2.mpr ⟨h1, by omega⟩
    have e2 := (w2 h2).1
    have e12 : p2 = p + 36 := by omega
    rw [e12] at q3 w3
    have h3 := q3.mpr ⟨h2, by omega, c2⟩
    obtain ⟨e3, es⟩ := w3 h3
    have h4 := q4.mpr ⟨h3, by omega⟩
    have e4 := w4 h4
    exact q5.mpr ⟨h4, by omega⟩
  · obtain ⟨-, -, -, ex, e3, es, e4, e5, -, -, -⟩ := all h5
    refine ⟨by omega, (spI fj _ (by omega) i).trans vi1, ?_, ?_, ?_, ?_⟩
    · rw [spL fj _ (by omega) i, vi2, ex]
    · rw [spI fj _ (by omega) i, vi3, e3]
    · rw [spI fj _ (by omega) i, vi4, es]
    · rw [spI fj _ (by omega) i, vi5, e4, es]
end RTX4
