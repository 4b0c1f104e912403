/-! Whether a signature fits a key: the reference's Signing.fits. -/
theorem ky_pt_c {b : Nat → UInt8} {n : Nat} {q : ef × ef} (h : ky_pt b n = some q) : eg_c e7 q := by
  have hm : ∀ x : ef, (-x) * (-x) = x * x := fun x => by grind
  unfold ky_pt at h
  split at h
  · split at h
    · next hc =>
      obtain rfl := Option.some.inj h
      unfold eg_c
      show (if _ then _ else _) * (if _ then _ else _) = ky_c (bgn b 1 32)
      split
      · exact hc.2
      · rw [hm]
        exact hc.2
    · cases h
  · split at h
    · split at h
      · next hc =>
        obtain rfl := Option.some.inj h
        exact hc.2.2
      · cases h
    · cases h
/-- the number that is signed -/
def w_z (tb : List UInt8) (y : w_y) (inp : Nat) (lk : List UInt8) (kd : Nat) : Nat :=
  if kd % 32 = 3 ∧ y.2.1.length ≤ inp then 1 else bgn (fun i => znm (fun j => (w_msg tb y inp lk kd).getD j 0) (w_msg tb y inp lk kd).length i) 0 32
def w_fit (tb : List UInt8) (y : w_y) (inp : Nat) (lk sg ky : List UInt8) : Prop :=
  ∃ q, ky_pt (fun i => ky.getD i 0) ky.length = some q ∧ sg_b (fun i => sg.getD i 0) sg.length ∧ sg_in (sg_r fun i => sg.getD i 0) (sg_s fun i => sg.getD i 0) ∧
    sg_ok (sg_r fun i => sg.getD i 0) (sg_s fun i => sg.getD i 0) (w_z tb y inp lk (sg.getD (sg.length - 1) 0).toNat) q
theorem ky_pt_len {b : Nat → UInt8} {n : Nat} {q : ef × ef} (h : ky_pt b n = some q) : n = 33 ∨ n = 65 := by
  unfold ky_pt at h
  split at h
  · next hc => exact Or.inl hc.1
  · split at h
    · next hc => exact Or.inr hc.1
    · cases h
theorem sg_b_len {b : Nat → UInt8} {n : Nat} (h : sg_b b n) : 9 ≤ n ∧ n ≤ 73 := by
  obtain ⟨⟨q0, q1, q2, q3, q4, q5, q6, q7, q8⟩, -⟩ := h
  omega
theorem bgn_add (b : Nat → UInt8) (f i : Nat) : ∀ j, bgn b f (i + j) = bgn b f i * 2 ^ (8 * j) + bgn b (f + i) j
  | 0 => by
    have : bgn b (f + i) 0 = 0 := rfl
    rw [this, Nat.mul_zero, Nat.pow_zero, Nat.mul_one]
    rfl
  | j + 1 => by
    rw [← Nat.add_assoc, bgn_next, bgn_add b f i j, bgn_next, ← Nat.add_assoc f i j, show 8 * (j + 1) = 8 * j + 8 by omega, Nat.pow_add, Nat.add_mul, Nat.mul_assoc, Nat.add_assoc]
theorem bgn_4 (b : Nat → UInt8) : nv 18446744073709551616 (fun k => bgn b (8 * (3 - k)) 8) 4 = bgn b 0 32 := by
  have h3 := bgn_add b 0 24 8
  have h2 := bgn_add b 0 16 8
  have h1 := bgn_add b 0 8 8
  rw [nv_succ, nv_succ, nv_succ, nv_succ, nv_nil]
  show 0 + bgn b 24 8 * 18446744073709551616 ^ 0 + bgn b 16 8 * 18446744073709551616 ^ 1 + bgn b 8 8 * 18446744073709551616 ^ 2 + bgn b 0 8 * 18446744073709551616 ^ 3 = bgn b 0 (24 + 8)
  rw [h3, h2, h1, Nat.zero_add, Nat.zero_add, Nat.zero_add]
  generalize bgn b 0 8 = a
  generalize bgn b 8 8 = c
  generalize bgn b 16 8 = d
  generalize bgn b 24 8 = e
  omega
theorem bgn_lt (b : Nat → UInt8) (f n : Nat) : bgn b f n < 256 ^ n := nv_lt fun _ _ => u8_lt _
theorem bgn_8 (b : Nat → UInt8) (f : Nat) : bgn b f 8 < 18446744073709551616 := by
  have h := bgn_lt b f 8
  have e : (256 : Nat) ^ 8 = 18446744073709551616 := by decide +kernel
  rw [e] at h
  exact h
theorem bgn_4w {b : Nat → UInt8} {w : Nat → Nat} (h0 : w 0 = bgn b 24 8) (h1 : w 1 = bgn b 16 8) (h2 : w 2 = bgn b 8 8) (h3 : w 3 = bgn b 0 8) : nv 18446744073709551616 w 4 = bgn b 0 32 := by
  rw [← bgn_4]
  rw [nv_succ, nv_succ, nv_succ, nv_succ, nv_nil, nv_succ, nv_succ, nv_succ, nv_succ, nv_nil, h0, h1, h2, h3]
theorem bgn_w (b : Nat → UInt8) : ∃ w : Nat → Nat, w 0 = bgn b 24 8 ∧ w 1 = bgn b 16 8 ∧ w 2 = bgn b 8 8 ∧ w 3 = bgn b 0 8 ∧ ∀ i, i < 4 → w i < 18446744073709551616 :=
  ⟨fun k => if k = 0 then bgn b 24 8 else if k = 1 then bgn b 16 8 else if k = 2 then bgn b 8 8 else bgn b 0 8, rfl, rfl, rfl, rfl, fun i _ => by
    show (if i = 0 then bgn b 24 8 else if i = 1 then bgn b 16 8 else if i = 2 then bgn b 8 8 else bgn b 0 8) < 18446744073709551616
    split
    · exact bgn_8 _ _
    · split
      · exact bgn_8 _ _
      · split
        · exact bgn_8 _ _
        · exact bgn_8 _ _⟩
theorem zr_I {H H' : jH} {m n : Nat} (h : zr H m n) (he : ∀ j, jI H' 429 j = jI H 429 j) : zr H' m n := by
  obtain ⟨u, u1, u2⟩ := h
  exact ⟨u, fun i hi => ⟨(he _).trans (u1 i hi).1, (u1 i hi).2⟩, u2⟩
theorem z13C_I {H H' : jH} (h : z13C H) (he : ∀ j, jI H' 429 j = jI H 429 j) (he2 : ∀ j, jI H' 432 j = jI H 432 j) : z13C H' := by
  obtain ⟨h1, h2, h3, h4, h5, h6, h7⟩ := h
  exact ⟨zr_I h1 he, zr_I h2 he, zr_I h3 he, zr_I h4 he, zr_I h5 he, zr_I h6 he, fun m i q1 q2 => (he2 _).trans (h7 m i q1 q2)⟩
theorem z25_I {H H' : jH} (h : z25 H) (he : ∀ j, jI H' 429 j = jI H 429 j) : z25 H' := by
  obtain ⟨X, Y, a, b⟩ := h
  exact ⟨X, Y, zr_I a he, zr_I b he⟩
def w_S15 : Nat → Nat → Prop := fun a j => (423 ≤ a ∧ a ≤ 426) ∨ (a = 427 ∧ j = 8) ∨ (a = 428 ∧ j = 6) ∨ (429 ≤ a ∧ a ≤ 431) ∨ (433 ≤ a ∧ a ≤ 436)
theorem jfr_f3 {M : Nat → Prop} {H H' : jH} (h : jf3 M H H') : jfr w_S15 H H' := by
  obtain ⟨h1, h2, h3, h4, h5, h6, h7⟩ := h
  refine ⟨h1, h2, h3, fun a j hn => ⟨h7 a j fun q => hn (by unfold w_S15; omega), h6 a (fun q => hn (by unfold w_S15; omega)) (fun q => hn (by unfold w_S15; omega)) j, by rw [h4], by rw [h5]⟩⟩
theorem jfr_fP {H H' : jH} (h : jfP H H') : jfr w_S15 H H' := by
  obtain ⟨h1, h2, h3, h4, h5, h6, h7⟩ := h
  refine ⟨h1, h2, h3, fun a j hn => ⟨h7 a j (fun q => hn (by unfold w_S15; omega)) fun q => hn (by unfold w_S15; omega), by rw [h5], by rw [h4], by rw [h6]⟩⟩
theorem jfr_f15 {H H' : jH} (h : jf15 H H') : jfr w_S15 H H' := by
  obtain ⟨h1, h2, h3, h4, h5, h6, h7⟩ := h
  refine ⟨h1, h2, h3, fun a j hn => ⟨h7 a j fun q => hn (by unfold w_S15; omega), by rw [h5], by rw [h4], h6 a (fun q => hn (by unfold w_S15; omega)) j⟩⟩
/-- what the points need between calls -/
def w_p13 (H : jH) : Prop := z13C H ∧ z25 H ∧ (∃ b, zB13 H b) ∧ jI H 428 6 = 0
section FITS15
variable {Q : Int32 → jH → Prop} {row s len lr la llen inp : Nat} {tb lk sg ky : List UInt8} {y : w_y} {H0 : jH}
theorem w_c15_I {H H' : jH} (h : w_c15 row s len lr la llen inp tb y lk H) (hs : jsh H') (eK : jK H' = jK H) (eR : jR H' = jR H) (eB : jB H' = jB H) (eL : ∀ a, a ≠ 430 → a ≠ 431 → ∀ j, jL H' a j = jL H a j) (eI : ∀ a, a ≠ 428 → a ≠ 429 → a ≠ 433 → a ≠ 434 → ∀ j, jI H' a j = jI H a j) : w_c15 row s len lr la llen inp tb y lk H' := by
  obtain ⟨⟨a1, a2, a3, a4, a5, a6⟩, ⟨b1, b2, b3, b4, b5⟩, ⟨c1, c2, c3, c4, c5, c6⟩, ⟨d1, d2, d3, d4⟩, e1, e2, e3⟩ := h
  have q7 : ∀ a, a ≠ 428 → a ≠ 429 → a ≠ 433 → a ≠ 434 → ∀ j, jI H' a j = jI H a j := eI
  refine ⟨⟨hs, by rw [eR]; exact a2, (q7 427 (by decide) (by decide) (by decide) (by decide) _).trans a3, by rw [eR]; exact a4, (q7 427 (by decide) (by decide) (by decide) (by decide) _).trans a5, (q7 427 (by decide) (by decide) (by decide) (by decide) _).trans a6⟩, ⟨by rw [eK]; exact b1, b2, b3, zRow_eq b4 fun i _ => by rw [eB], b5⟩, ⟨by rw [eR]; exact c1, by rw [eK]; exact c2, c3, c4, c5, zRow_eq c6 fun i _ => by rw [eB]⟩, ⟨(q7 456 (by decide) (by decide) (by decide) (by decide) _).trans d1, (q7 456 (by decide) (by decide) (by decide) (by decide) _).trans d2, (q7 456 (by decide) (by decide) (by decide) (by decide) _).trans d3, (q7 456 (by decide) (by decide) (by decide) (by decide) _).trans d4⟩, fun k hk => ?_, fun k hk => ?_, e3⟩
  · exact ⟨(q7 457 (by decide) (by decide) (by decide) (by decide) _).trans (e1 k hk).1, (q7 461 (by decide) (by decide) (by decide) (by decide) _).trans (e1 k hk).2⟩
  · rw [eL 462 (by decide) (by decide), eB]
    exact ⟨(e2 k hk).1, (q7 463 (by decide) (by decide) (by decide) (by decide) _).trans (e2 k hk).2.1, (q7 464 (by decide) (by decide) (by decide) (by decide) _).trans (e2 k hk).2.2⟩
theorem w_c15_f3 {M : Nat → Prop} {H H' : jH} (h : w_c15 row s len lr la llen inp tb y lk H) (hf : jf3 M H H') : w_c15 row s len lr la llen inp tb y lk H' :=
  w_c15_I h (jsh_f3 h.1.1 hf) hf.1 hf.2.2.2.1 hf.2.2.2.2.1 hf.2.2.2.2.2.1 fun a h1 h2 h3 h4 j => hf.2.2.2.2.2.2 a j fun q => h2 q.1
theorem w_c15_fP {H H' : jH} (h : w_c15 row s len lr la llen inp tb y lk H) (hf : jfP H H') : w_c15 row s len lr la llen inp tb y lk H' :=
  w_c15_I h (jsh_fP h.1.1 hf) hf.1 hf.2.2.2.1 hf.2.2.2.2.2.1 (fun a _ _ j => by rw [hf.2.2.2.2.1]) fun a h1 h2 h3 h4 j => hf.2.2.2.2.2.2 a j h4 fun q => h1 q.1
theorem w_c15_sI {H : jH} {a i : Nat} {v : Int32} (h : w_c15 row s len lr la llen inp tb y lk H) (ha : a = 428 ∨ a = 433) : w_c15 row s len lr la llen inp tb y lk (jsI H a i v) :=
  w_c15_I h (jsh_sI h.1.1 (by omega)) rfl rfl rfl (fun _ _ _ _ => rfl) fun b h1 h2 h3 h4 j => jup_a (by omega)
/-- the last step -/
theorem z15_w222 {kd r t z : Nat} {q : ef × ef} (hs : jsh H0) (hp : w_p13 H0) (hc : eg_c e7 q) (h433 : jI H0 433 0 = 0) (hx : zr H0 10 q.1.val) (hyy : zr H0 11 q.2.val) (hr : zr H0 0 r) (ht : zr H0 1 t) (hz : zr H0 2 z) (lz : z < t256)
    (hk : ∀ H' v, jsh H' → w_p13 H' → jfr w_S15 H0 H' → (v = 1 ∧ sg_in r t ∧ sg_ok r t z q ∨ v = 0 ∧ ¬ (sg_in r t ∧ sg_ok r t z q)) → Q v H') : jT (B_15_fits_222 427 H0) Q := by
  obtain ⟨p1, p2, ⟨b, p3⟩, p4⟩ := hp
  unfold B_15_fits_222
  rw [sR_427_1 hs]
  refine jT_g (k15 hs) (jT_g (k13 hs) (jT_b (z13_fits (i := 0) (ra := 0) (sa := 1) (za := 2) (x := q.1) (y := q.2) rfl rfl rfl rfl (by decide) (by decide) (by decide) (by decide) hs p1 p2 h433 hc hx hyy hr ht hz lz fun H' v s' C' q' f' hv => ?_)))
  have hp' : w_p13 H' := ⟨C', q', ⟨b, zB13_f3 p3 f'⟩, (f'.2.2.2.2.2.2 428 6 fun q => absurd q.1 (by decide)).trans p4⟩
  unfold B_15_fits_242
  rcases hv with ⟨e, h⟩ | ⟨e, h⟩
  · exact jT_neg (by rw [e]; decide) (jT_g (by decide) (jT_ret (hk H' 1 s' hp' (jfr_f3 f') (Or.inl ⟨rfl, h⟩))))
  · exact jT_pos (by rw [e]; decide) (jT_g (by decide) (jT_ret (hk H' 0 s' hp' (jfr_f3 f') (Or.inr ⟨rfl, h⟩))))
theorem w_msg_len {kd : Nat} (hy : w_ty tb y) (hlk : lk.length ≤ 200) (h3 : kd % 32 = 3 → inp < y.2.1.length) : (w_msg tb y inp lk kd).length ≤ 2300 ∧ 1 ≤ (w_msg tb y inp lk kd).length := by
  have lt := hy.2.2
  have h10 : 10 ≤ y.2.2 := by have := (ztx_spec hy.1).2.2.1; omega
  have hty := hy.2.1
  have hl := w_len (inp := inp) (lk := lk) (al := decide (128 ≤ kd)) (ba := w_ba kd) (b3 := decide (kd % 32 = 3)) hy (Nat.le_refl y.1.length) (w_no_le (kd := kd) h3)
  have p4 : (w_sl tb 0 4).length = 4 := w_sl_len (by omega)
  have p5 : (w_sl tb (tb.length - 4) 4).length = 4 := w_sl_len (by omega)
  unfold w_msg w_m3 w_m2 w_m1
  simp only [List.length_append, p4, p5, List.length_cons, List.length_nil, List.length_replicate]
  omega
/-- what is signed is written, named, and looked at -/
theorem z15_w166 {kd r t : Nat} {q : ef × ef} (hy : w_ty tb y) (hkd : kd < 256) (h3 : kd % 32 = 3 → inp < y.2.1.length) (hlk : lk.length ≤ 200) (hc : w_c15 row s len lr la llen inp tb y lk H0) (hp : w_p13 H0) (hq : eg_c e7 q) (h433 : jI H0 433 0 = 0) (hx : zr H0 10 q.1.val) (hyy : zr H0 11 q.2.val) (hr : zr H0 0 r) (ht : zr H0 1 t)
    (hk : ∀ H' v, jsh H' → w_p13 H' → jfr w_S15 H0 H' → (v = 1 ∧ sg_in r t ∧ sg_ok r t (w_z tb y inp lk kd) q ∨ v = 0 ∧ ¬ (sg_in r t ∧ sg_ok r t (w_z tb y inp lk kd) q)) → Q v H') : jT (B_15_fits_166 427 (Int32.ofNat kd) H0) Q := by
  have ez : w_z tb y inp lk kd = bgn (fun i => znm (fun j => (w_msg tb y inp lk kd).getD j 0) (w_msg tb y inp lk kd).length i) 0 32 := by
    unfold w_z
    exact if_neg fun q => by have := h3 q.1; omega
  obtain ⟨ml, -⟩ := w_msg_len (inp := inp) (kd := kd) hy hlk h3
  have hs := hc.1.1
  unfold B_15_fits_166
  refine jT_g (k15 hs) (jT_b (z15_write hy hkd h3 hlk hc fun H1 c1 f1 z1 => ?_))
  have s1 := c1.1.1
  simp only [sR_427_0 s1, sR_427_7 s1, sR_427_9 s1, z1.1]
  refine jT_g (k15 s1) (jT_g (k15 s1) (jT_g (k15 s1) (jT_g (k15 s1) (jT_g (by rw [sK_422 s1]) (jT_b (z12_name (len := 4000) (at_ := 0) (n := (w_msg tb y inp lk kd).length) (pl := 0) (len4 := 32) (by omega) (by decide) (by omega) (sK_435 s1) (by decide) (by decide) (sK_436 s1) s1 fun H2 s2 f2 n2 => ?_))))))
  simp only [sR_427_1 s2]
  have e429 : ∀ j, jI H2 429 j = jI H0 429 j := fun j => (jfr_I f2 (by omega)).trans (f1.2.2.2.2.2.2 429 j (by omega))
  have e432 : ∀ j, jI H2 432 j = jI H0 432 j := fun j => (jfr_I f2 (by omega)).trans (f1.2.2.2.2.2.2 432 j (by omega))
  have e433 : jI H2 433 0 = 0 := ((jfr_I f2 (by omega)).trans (f1.2.2.2.2.2.2 433 0 (by omega))).trans h433
  obtain ⟨p1, p2, ⟨b, p3⟩, p4⟩ := hp
  have C2 := z13C_I p1 e429 e432
  have B2 : zB13 H2 b := fun j hj => ((jfr_I f2 (by omega)).trans (f1.2.2.2.2.2.2 434 j (by omega))).trans (p3 j hj)
  have m2 : jI H2 428 6 = 0 := ((jfr_I f2 (by omega)).trans (f1.2.2.2.2.2.2 428 6 (by omega))).trans p4
  refine jT_g (k15 s2) (jT_g (k15 s2) (jT_b (z15_word (k := 0) rfl (by decide) s2 ?_)))
  refine jT_g (k15 s2) (jT_b (z15_word (k := 1) rfl (by decide) s2 ?_))
  refine jT_g (k15 s2) (jT_b (z15_word (k := 2) rfl (by decide) s2 ?_))
  refine jT_g (k15 s2) (jT_b (z15_word (k := 3) rfl (by decide) s2 ?_))
  obtain ⟨w, w0, w1, w2, w3, wl⟩ := bgn_w (jB H2 436)
  rw [show 8 * 0 = 0 from rfl, show 8 * 1 = 8 from rfl, show 8 * 2 = 16 from rfl, show 8 * 3 = 24 from rfl, ← w0, ← w1, ← w2, ← w3]
  refine jT_g (k13 s2) (jT_b (z13_set (a := 2) (w := w) rfl rfl rfl rfl rfl wl (by decide) s2 fun H3 s3 f3 z3 => ?_))
  rw [bgn_4w w0 w1 w2 w3] at z3
  have en : bgn (jB H2 436) 0 32 = w_z tb y inp lk kd := by
    rw [ez]
    refine bgn_ext (m := 32) (fun j hj => ?_) (by decide)
    have := n2 j hj
    rw [Nat.zero_add] at this
    have e : znm (fun i => jB H1 435 (0 + i)) (w_msg tb y inp lk kd).length = znm (fun j => (w_msg tb y inp lk kd).getD j 0) (w_msg tb y inp lk kd).length := znm_eq fun i hi => by
      rw [Nat.zero_add]
      exact z1.2 i _ (getD_of hi)
    rw [this, e]
  rw [en] at z3
  refine z15_w222 (kd := kd) s3 ⟨?_, z25_f3 (z25_I p2 e429) f3 (by decide) (by decide), ⟨b, zB13_f3 B2 f3⟩, (f3.2.2.2.2.2.2 428 6 fun q => absurd q.1 (by decide)).trans m2⟩ hq ((f3.2.2.2.2.2.2 433 0 fun q => absurd q.1 (by decide)).trans e433) (zr_f3 (zr_I hx e429) f3 (by decide)) (zr_f3 (zr_I hyy e429) f3 (by decide)) (zr_f3 (zr_I hr e429) f3 (by decide)) (zr_f3 (zr_I ht e429) f3 (by decide)) z3 ?_ fun H' v s' p' f' hv => hk H' v s' p' (jfr_trans (jfr_trans (jfr_trans (jfr_f15 f1) (jfr_mono f2 fun a j q => by unfold w_S15; omega)) (jfr_f3 f3)) f') hv
  · obtain ⟨h1, h2, h3', h4, h5, h6, h7⟩ := C2
    exact ⟨zr_f3 h1 f3 (by decide), zr_f3 h2 f3 (by decide), zr_f3 h3' f3 (by decide), zr_f3 h4 f3 (by decide), zr_f3 h5 f3 (by decide), zr_f3 h6 f3 (by decide), fun m i q1 q2 => (f3.2.2.2.2.2.2 432 _ fun q => absurd q.1 (by decide)).trans (h7 m i q1 q2)⟩
  · rw [← en]
    exact Nat.lt_of_lt_of_le (bgn_lt _ _ _) (by unfold t256; decide +kernel)
end FITS15
