/-! Calls of both programs, one behind the other. -/
def s_I (H : jH) : Prop := ∃ (S : s_S) (tp kn : List UInt8) (ki : Int32) (nb : Nat) (os : List Nat), s_pur S ∧ s_cls nb os S tp kn ki H ∧ s_ref S tp kn ki H
/-- both answer alike, and stay alike -/
def s_two {β : Type} (F G : jH → Option (β × jH)) (H : jH) : Prop := jT (F H) (fun r H1 => jsh H1 ∧ jgx s_TG 78 2800 H H1 ∧ jT (G H1) (fun r2 H2 => r2 = r ∧ s_I H2 ∧ jfr s_T18 H1 H2))
section CALLS
variable {nb : Nat} {os : List Nat} {S : s_S} {tp kn : List UInt8} {ki : Int32} {T : Nat → Nat → Prop} {H H' : jH}
theorem s_cls_sm {tp' kn' : List UInt8} {ki' : Int32} {b : Nat → List UInt8} (h : s_cls nb os S tp kn ki H) (hs : jsh H') (hf : jfr T H H') (hT : ∀ a j, T a j → (a = 32 ∧ (j = 1 ∨ j = 3)) ∨ a = 33 ∨ a = 34 ∨ (36 ≤ a ∧ a ≤ 41)) (hb : p_b11 b H') (ht : jI H' 32 1 = Int32.ofNat tp'.length ∧ tp'.length ≤ 2000 ∧ zRow H' 33 0 tp') (hk : zRow H' 34 0 kn' ∧ kn'.length = 32 ∧ jI H' 32 3 = ki') : s_cls nb os (s_bx S b) tp' kn' ki' H' := by
  obtain ⟨h1, h2, h3, h4, h5, -, -⟩ := h
  exact ⟨hs, b_CS_gx h2 h1 hs h5 (jgx_fr hf) fun a j w => by have := hT a j w; omega, p_PA_gx h3 h1 (jgx_fr hf) fun a j w => by have := hT a j w; omega, hb, by rw [hf.2.1]; exact h5, ht, hk⟩
theorem s_ref_sm {tp' kn' : List UInt8} {ki' : Int32} {b : Nat → List UInt8} (h : s_ref S tp kn ki H) (hf : jfr T H H') (hT : ∀ a j, T a j → (a = 421 ∧ (j = 48 ∨ j = 52)) ∨ a = 506 ∨ a = 509 ∨ a = 510 ∨ a = 511) (hb : p_b18 b H') (ht : jI H' 421 48 = Int32.ofNat tp'.length ∧ zRow H' 506 0 tp') (hk : zRow H' 509 0 kn' ∧ jI H' 421 52 = ki') : s_ref (s_bx S b) tp' kn' ki' H' := by
  obtain ⟨c, hc⟩ := h.1.2.2.2.2.2.2.2.2.2.2.1
  obtain ⟨h1, h2, h3, -, -, -⟩ := h
  exact ⟨b_RS_T h1 hf (fun a j w => by have := hT a j w; omega) ⟨c, p_KC_TC hc hf fun a j w => by have := hT a j w; omega⟩ (w_p13_T h1.2.2.2.2.2.2.2.2.2.2.2 hf fun a j w => by have := hT a j w; omega), (jfr_I hf fun w => by have := hT _ _ w; omega).trans h2, p_PB_fr h3 hf (fun a j w => by have := hT a j w; omega), hb, ht, hk⟩
theorem jgx_sm {c s : Nat} {T : Nat → Nat → Prop} (hf : jfr T H H') (hT : ∀ a j, T a j → s_TG a j) : jgx s_TG c s H H' := jgx_mono (jfr_TG hf hT) (fun a j _ w => w) (Nat.zero_le _) (Nat.zero_le _)
theorem s_ref_cf (h : s_ref S tp kn ki H) (hs : jsh H) (hf : jfr T H H') (hT : ∀ a j, T a j → a < 421) : s_ref S tp kn ki H' := s_ref_gx h (jgx_fr hf) hs.2.2.2.2.1 fun a j w => Or.inl (hT a j w)
theorem s_cls_rf (h : s_cls nb os S tp kn ki H) (hs : jsh H') (hf : jfr s_T18 H H') : s_cls nb os S tp kn ki H' := s_cls_fr h hs hf fun a j w => w
/-- both answer without a change -/
theorem s_ask {β : Type} {F G : jH → Option (β × jH)} {v : β} (hP : s_pur S) (hC : s_cls nb os S tp kn ki H) (e : F H = some (v, H)) (h : jT (G H) (fun r2 H2 => r2 = v ∧ jsh H2 ∧ jfr s_T18 H H2 ∧ s_ref S tp kn ki H2)) : s_two F G H := by
  unfold s_two
  rw [e]
  exact jT_ret ⟨hC.1, jgx_sm jfr_refl fun _ _ w => absurd w id, jT_imp h fun r2 H2 q => ⟨q.1, ⟨S, tp, kn, ki, nb, os, hP, s_cls_rf hC q.2.1 q.2.2.1, q.2.2.2⟩, q.2.2.1⟩⟩
/-- bytes of words -/
def s_fb (g : Nat → UInt8) (n : Nat) : List UInt8 := (List.range n).map g
theorem s_fb_len {g : Nat → UInt8} {n : Nat} : (s_fb g n).length = n := by
  unfold s_fb
  rw [List.length_map, List.length_range]
theorem s_fb_row {g : Nat → UInt8} {n r p : Nat} (h : ∀ i, i < n → jB H r (p + i) = g i) : zRow H r p (s_fb g n) := fun i u hi => by
  unfold s_fb at hi
  obtain ⟨h1, h2⟩ := List.getElem?_eq_some_iff.mp hi
  rw [List.getElem_map, List.getElem_range] at h2
  rw [List.length_map, List.length_range] at h1
  rw [h i h1, h2]
theorem c_feed {w1 w2 w3 w4 w5 : Int32} (hI : s_I H) : s_two (F_11_feed 32 w1 w2 w3 w4 w5) (F_18_feed 421 w1 w2 w3 w4 w5) H := by
  obtain ⟨S, tp, kn, ki, nb, os, hP, hC, hR⟩ := hI
  have hs := hC.1
  obtain ⟨x1, x2, x3⟩ := hC.2.2.2.2.2.1
  refine z11_feed (t := tp.length) hs x2 x1 (fun h20 => ?_) fun H1 h20 s1 f1 v1 b1 => ?_
  · exact ⟨hs, jgx_sm jfr_refl fun _ _ w => absurd w id, z18_feed (t := tp.length) hs x2 hR.2.2.2.2.1.1 (fun _ => ⟨rfl, ⟨S, tp, kn, ki, nb, os, hP, hC, hR⟩, jfr_refl⟩) fun H2 h _ _ _ _ => by omega⟩
  · have u1 : ∀ a j, ((a = 33 ∧ tp.length ≤ j ∧ j < tp.length + 20) ∨ (a = 32 ∧ j = 1)) → a < 42 := fun a j w => by omega
    have tl : (tp ++ s_fb (fun i => zwb ([w1, w2, w3, w4, w5].getD (i / 4) 0) (i % 4)) 20).length = tp.length + 20 := by rw [List.length_append, s_fb_len]
    have C1 : s_cls nb os (s_bx S S.2.2.2.2.2) (tp ++ s_fb (fun i => zwb ([w1, w2, w3, w4, w5].getD (i / 4) 0) (i % 4)) 20) kn ki H1 := s_cls_sm hC s1 f1 (fun a j w => by omega) (p_b11_fr hC.2.2.2.1 f1 fun a j w => by omega) ⟨by rw [tl]; exact v1, by omega, zRow_app (zRow_eq x3 fun i hi => jfr_B f1 (by omega)) (by rw [Nat.zero_add]; exact s_fb_row b1)⟩ ⟨zRow_eq hC.2.2.2.2.2.2.1 fun i _ => jfr_B f1 (by omega), hC.2.2.2.2.2.2.2.1, (jfr_I f1 (by omega)).trans hC.2.2.2.2.2.2.2.2⟩
    have R1 := s_ref_cf hR hs f1 fun a j w => by omega
    refine ⟨s1, jgx_sm f1 fun a j w => Or.inl (by omega), z18_feed (t := tp.length) s1 x2 R1.2.2.2.2.1.1 (fun h => by omega) fun H2 _ s2 f2 v2 b2 => ?_⟩
    have F2 : jfr s_T18 H1 H2 := jfr_mono f2 fun a j w => by show 421 ≤ a ∧ a ≤ 512; omega
    refine ⟨rfl, ⟨s_bx S S.2.2.2.2.2, _, kn, ki, nb, os, hP, s_cls_rf C1 s2 F2, ?_⟩, F2⟩
    exact s_ref_sm R1 f2 (fun a j w => by omega) (p_b18_fr R1.2.2.2.1 f2 fun a j w => by omega) ⟨by rw [tl]; exact v2, zRow_app (zRow_eq R1.2.2.2.2.1.2 fun i hi => jfr_B f2 (by omega)) (by rw [Nat.zero_add]; exact s_fb_row b2)⟩ ⟨zRow_eq R1.2.2.2.2.2.1 fun i _ => jfr_B f2 (by omega), (jfr_I f2 (by omega)).trans R1.2.2.2.2.2.2⟩
theorem i32_lt {a b : Int32} : a < b ↔ a.toInt < b.toInt := Int32.lt_iff_toInt_lt
theorem c_send {p n : Int32} (hI : s_I H) : s_two (F_11_send 32 p n) (F_18_send 421 p n) H := by
  obtain ⟨S, tp, kn, ki, nb, os, hP, hC, hR⟩ := hI
  have hs := hC.1
  obtain ⟨x1, x2, x3⟩ := hC.2.2.2.2.2.1
  by_cases bad : p < 0 ∨ 4 ≤ p ∨ n < 1 ∨ Int32.ofNat tp.length < n
  · refine z11_send_no hs x1 bad ⟨hs, jgx_sm jfr_refl fun _ _ w => absurd w id, z18_send_no hs hR.2.2.2.2.1.1 bad ⟨rfl, ⟨S, tp, kn, ki, nb, os, hP, hC, hR⟩, jfr_refl⟩⟩
  · obtain ⟨q, hq, rfl⟩ := i32_small (k := 4) (by decide) (fun w => bad (Or.inl w)) (fun w => bad (Or.inr (Or.inl w)))
    have n1 : ¬ n < 1 := fun w => bad (Or.inr (Or.inr (Or.inl w)))
    have n2 : ¬ Int32.ofNat tp.length < n := fun w => bad (Or.inr (Or.inr (Or.inr w)))
    have e1 : (1 : Int32).toInt = 1 := by decide
    have e0 : (0 : Int32).toInt = 0 := by decide
    have et : (Int32.ofNat tp.length).toInt = tp.length := jo_int (by omega)
    rw [i32_lt, e1] at n1
    rw [i32_lt, et] at n2
    obtain ⟨k, hk, rfl⟩ := i32_small (p := n) (k := 2001) (by decide) (fun w => by rw [i32_lt, e0] at w; omega) (fun w => by
      rw [Int32.le_iff_toInt_le, jo_int (by decide)] at w
      omega)
    have ek : (Int32.ofNat k).toInt = k := jo_int (by omega)
    rw [ek] at n1 n2
    refine z11_sendw hC hP hq (by omega) (by omega) fun nb' os' S' H1 st C1 g1 => ⟨C1.1, g1, ?_⟩
    have R1 : s_ref S tp kn ki H1 := s_ref_gx hR g1 hs.2.2.2.2.1 fun a j w => by rcases w with w | w <;> omega
    refine y18_sendw C1.1 R1 hP hq (by omega) (by omega) x2 st fun H2 s2 f2 R2 => ⟨rfl, ⟨S', [], kn, ki, nb', os', s_step_pur hP (by rw [List.length_take]; omega) (by rw [List.length_take]; omega) st, s_cls_rf C1 s2 f2, R2⟩, f2⟩
def s_bd (b : Nat → List UInt8) (q : Nat) : Nat → List UInt8 := fun k => if k = q then (b q).drop 7 else b k
theorem c_fetch {p : Int32} (hI : s_I H) : s_two (F_11_fetch 32 p) (F_18_fetch 421 p) H := by
  obtain ⟨S, tp, kn, ki, nb, os, hP, hC, hR⟩ := hI
  have hs := hC.1
  by_cases bad : p < 0 ∨ 4 ≤ p
  · exact z11_fetch_no bad ⟨hs, jgx_sm jfr_refl fun _ _ w => absurd w id, z18_fetch_no bad ⟨rfl, ⟨S, tp, kn, ki, nb, os, hP, hC, hR⟩, jfr_refl⟩⟩
  · obtain ⟨q, hq, rfl⟩ := i32_small (k := 4) (by decide) (fun w => bad (Or.inl w)) (fun w => bad (Or.inr w))
    refine z11_fetchB hs hq (hC.2.2.2.1 q hq) fun H1 s1 b1 f1 => ?_
    have B1 : p_b11 (s_bd S.2.2.2.2.2 q) H1 := fun k hk => by
      unfold s_bd
      by_cases c : k = q
      · rw [c, if_pos rfl]
        exact b1
      · rw [if_neg c]
        exact zBx11_fr (hC.2.2.2.1 k hk) f1 fun a j w => by omega
    have C1 : s_cls nb os (s_bx S (s_bd S.2.2.2.2.2 q)) tp kn ki H1 := s_cls_sm hC s1 f1 (fun a j w => by omega) B1 ⟨(jfr_I f1 (by omega)).trans hC.2.2.2.2.2.1.1, hC.2.2.2.2.2.1.2.1, zRow_eq hC.2.2.2.2.2.1.2.2 fun i hi => jfr_B f1 (by omega)⟩ ⟨zRow_eq hC.2.2.2.2.2.2.1 fun i _ => jfr_B f1 (by omega), hC.2.2.2.2.2.2.2.1, (jfr_I f1 (by omega)).trans hC.2.2.2.2.2.2.2.2⟩
    have R1 := s_ref_cf hR hs f1 fun a j w => by omega
    refine ⟨s1, jgx_sm f1 fun a j w => Or.inl (by omega), z18_fetchB s1 hq (R1.2.2.2.1 q hq) fun H2 s2 b2 f2 => ?_⟩
    have F2 : jfr s_T18 H1 H2 := jfr_mono f2 fun a j w => by show 421 ≤ a ∧ a ≤ 512; omega
    have B2 : p_b18 (s_bd S.2.2.2.2.2 q) H2 := fun k hk => by
      unfold s_bd
      by_cases c : k = q
      · rw [c, if_pos rfl]
        exact b2
      · rw [if_neg c]
        exact zBx18_fr (R1.2.2.2.1 k hk) f2 fun a j w => by omega
    exact ⟨rfl, ⟨s_bx S (s_bd S.2.2.2.2.2 q), tp, kn, ki, nb, os, hP, s_cls_rf C1 s2 F2, s_ref_sm R1 f2 (fun a j w => by omega) B2 ⟨(jfr_I f2 (by omega)).trans R1.2.2.2.2.1.1, zRow_eq R1.2.2.2.2.1.2 fun i _ => jfr_B f2 (by omega)⟩ ⟨zRow_eq R1.2.2.2.2.2.1 fun i _ => jfr_B f2 (by omega), (jfr_I f2 (by omega)).trans R1.2.2.2.2.2.2⟩⟩, F2⟩
theorem c_key {a b c d : Int64} {ix : Int32} (hI : s_I H) : s_two (F_11_key 32 a b c d ix) (F_18_key 421 a b c d ix) H := by
  obtain ⟨S, tp, kn, ki, nb, os, hP, hC, hR⟩ := hI
  have hs := hC.1
  unfold s_two F_11_key F_18_key
  refine z11_key (H0 := H) (fun H1 s1 f1 v1 b1 => ?_) 8 0 jfuel H rfl (by unfold jfuel; omega) hs jfr_refl fun j hj => absurd hj (Nat.not_lt_zero j)
  have kl : (s_fb (fun i => zlb (if i < 8 then a else if i < 16 then b else if i < 24 then c else d) (i % 8)) 32).length = 32 := s_fb_len
  have k1 : zRow H1 34 0 (s_fb (fun i => zlb (if i < 8 then a else if i < 16 then b else if i < 24 then c else d) (i % 8)) 32) := s_fb_row fun i hi => by
    rw [Nat.zero_add]
    rcases (show i < 8 ∨ (8 ≤ i ∧ i < 16) ∨ (16 ≤ i ∧ i < 24) ∨ (24 ≤ i ∧ i < 32) by omega) with h | h | h | h
    · rw [if_pos h, show i % 8 = i by omega]
      exact (b1 i h).1
    · rw [if_neg (by omega), if_pos h.2]
      have := (b1 (i % 8) (by omega)).2.1
      rwa [show 8 + i % 8 = i by omega] at this
    · rw [if_neg (by omega), if_neg (by omega), if_pos h.2]
      have := (b1 (i % 8) (by omega)).2.2.1
      rwa [show 16 + i % 8 = i by omega] at this
    · rw [if_neg (by omega), if_neg (by omega), if_neg (by omega)]
      have := (b1 (i % 8) (by omega)).2.2.2
      rwa [show 24 + i % 8 = i by omega] at this
  have C1 : s_cls nb os (s_bx S S.2.2.2.2.2) tp _ ix H1 := s_cls_sm hC s1 f1 (fun a j w => by omega) (p_b11_fr hC.2.2.2.1 f1 fun a j w => by omega) ⟨(jfr_I f1 (by omega)).trans hC.2.2.2.2.2.1.1, hC.2.2.2.2.2.1.2.1, zRow_eq hC.2.2.2.2.2.1.2.2 fun i hi => jfr_B f1 (by omega)⟩ ⟨k1, kl, v1⟩
  have R1 := s_ref_cf hR hs f1 fun a j w => by omega
  refine ⟨s1, jgx_sm f1 fun a j w => Or.inl (by omega), ?_⟩
  refine z18_key (H0 := H1) (fun H2 s2 f2 v2 b2 => ?_) 32 0 jfuel H1 rfl (by unfold jfuel; omega) s1 jfr_refl fun j hj => absurd hj (Nat.not_lt_zero j)
  have F2 : jfr s_T18 H1 H2 := jfr_mono f2 fun a j w => by show 421 ≤ a ∧ a ≤ 512; omega
  exact ⟨rfl, ⟨s_bx S S.2.2.2.2.2, tp, _, ix, nb, os, hP, s_cls_rf C1 s2 F2, s_ref_sm R1 f2 (fun a j w => by omega) (p_b18_fr R1.2.2.2.1 f2 fun a j w => by omega) ⟨(jfr_I f2 (by omega)).trans R1.2.2.2.2.1.1, zRow_eq R1.2.2.2.2.1.2 fun i _ => jfr_B f2 (by omega)⟩ ⟨s_fb_row fun i hi => by rw [Nat.zero_add]; exact b2 i hi, v2⟩⟩, F2⟩
end CALLS
