/-! The class's object of a transaction as it stays; what is signed, as the class writes it: put and fill. -/
def w_sum (tb : List UInt8) (y : w_y) : Int64 := (zvs (fun i => tb.getD i 0) y.2.1).foldl (· + ·) 0
def w_rt (tb : List UInt8) (y : w_y) : Int32 := zany (fun i => tb.getD i 0) tb.length (y.1.map (·.1))
def w_x (o row s len : Nat) (tb : List UInt8) (y : w_y) (nm : List UInt8) (H : jH) : Prop :=
  ((jK H o).1 = 10 ∧ jR H o 0 = row ∧ jK H row = (101, len) ∧ s + tb.length ≤ len ∧ len < 2000000 ∧ zRow H row s tb) ∧
  (jI H o 1 = Int32.ofNat s ∧ jI H o 2 = Int32.ofNat tb.length ∧ jR H o 4 = o + 4 ∧ jK H (o + 4) = (100, y.1.length) ∧ jR H o 5 = o + 5 ∧ jK H (o + 5) = (100, y.2.1.length)) ∧
  (∀ k, k < y.1.length → jI H (o + 4) k = Int32.ofNat (s + (y.1.getD k (0, 0)).1)) ∧ (∀ k, k < y.2.1.length → jI H (o + 5) k = Int32.ofNat (s + (y.2.1.getD k (0, 0)).1)) ∧
  (jR H o 3 = o + 1 ∧ jK H (o + 1) = (101, 32) ∧ zRow H (o + 1) 0 nm ∧ nm.length = 32 ∧ jL H o 6 = w_sum tb y ∧ jI H o 7 = w_rt tb y ∧ 422 ≤ o ∧ 422 ≤ row)
theorem w_x_fr {o row s len : Nat} {tb nm : List UInt8} {y : w_y} {H H' : jH} (h : w_x o row s len tb y nm H) (he : ∀ a, a = o ∨ a = o + 1 ∨ a = o + 4 ∨ a = o + 5 ∨ a = row → jK H' a = jK H a ∧ ∀ j, jI H' a j = jI H a j ∧ jL H' a j = jL H a j ∧ jR H' a j = jR H a j ∧ jB H' a j = jB H a j) : w_x o row s len tb y nm H' := by
  obtain ⟨⟨a1, a2, a3, a4, a5, a6⟩, ⟨b1, b2, b3, b4, b5, b6⟩, c1, c2, d1, d2, d3, d4, d5, d6, d7, d8⟩ := h
  obtain ⟨k0, q0⟩ := he o (by simp)
  obtain ⟨k1, q1⟩ := he (o + 1) (by simp)
  obtain ⟨k4, q4⟩ := he (o + 4) (by simp)
  obtain ⟨k5, q5⟩ := he (o + 5) (by simp)
  obtain ⟨kr, qr⟩ := he row (by simp)
  refine ⟨⟨by rw [k0]; exact a1, (q0 _).2.2.1.trans a2, kr.trans a3, a4, a5, zRow_eq a6 fun i _ => (qr _).2.2.2⟩, ⟨(q0 _).1.trans b1, (q0 _).1.trans b2, (q0 _).2.2.1.trans b3, k4.trans b4, (q0 _).2.2.1.trans b5, k5.trans b6⟩, fun k hk => (q4 _).1.trans (c1 k hk), fun k hk => (q5 _).1.trans (c2 k hk), (q0 _).2.2.1.trans d1, k1.trans d2, zRow_eq d3 fun i _ => (q1 _).2.2.2, d4, (q0 _).2.1.trans d5, (q0 _).1.trans d6, d7, d8⟩
section X10
variable {o row s len : Nat} {tb nm : List UInt8} {y : w_y} {H : jH}
theorem w_x_jfr {S : Nat → Nat → Prop} {H' : jH} (h : w_x o row s len tb y nm H) (hf : jfr S H H') (hS : ∀ a j, 422 ≤ a → ¬ S a j) : w_x o row s len tb y nm H' :=
  w_x_fr h fun a ha => ⟨jfr_K hf a, fun j => hf.2.2.2 a j (hS a j (by have := h.2.2.2.2; omega))⟩
theorem z10_inputScript (h : w_x o row s len tb y nm H) (hy : w_ty tb y) {i : Nat} (hi : i < y.1.length) : F_10_inputScript o (Int32.ofNat i) H = some (Int32.ofNat (s + (y.1.getD i (0, 0)).1 + 37), H) := by
  obtain ⟨⟨a1, a2, a3, a4, a5, a6⟩, ⟨b1, b2, b3, b4, b5, b6⟩, c1, c2, -⟩ := h
  have l8 : y.1.length ≤ 8 := (ztx_spec hy.1).1
  have e : Int32.ofNat (s + (y.1.getD i (0, 0)).1) + 37 = Int32.ofNat (s + (y.1.getD i (0, 0)).1 + 37) := jo_add (a := s + (y.1.getD i (0, 0)).1) (b := 37)
  unfold F_10_inputScript B_10_inputScript_26
  rw [if_neg (by rw [show (0 : Int32) = Int32.ofNat 0 from rfl, jo_lt (by omega) (by omega)]; omega), jg_t a1, b3, jg_t (by rw [b4]), if_pos (by rw [b4]; show Int32.ofNat i < Int32.ofNat y.1.length; rw [jo_lt (by omega) (by omega)]; exact hi), jg_t a1, jg_t (gA b4 (jo_in (by omega) hi)), jo_nat (n := i) (by omega), c1 i hi, e]
theorem z10_outputScript (h : w_x o row s len tb y nm H) (hy : w_ty tb y) {i : Nat} (hi : i < y.2.1.length) : F_10_outputScript o (Int32.ofNat i) H = some (Int32.ofNat (s + (y.2.1.getD i (0, 0)).1 + 9), H) := by
  obtain ⟨⟨a1, a2, a3, a4, a5, a6⟩, ⟨b1, b2, b3, b4, b5, b6⟩, c1, c2, -⟩ := h
  have l8 : y.2.1.length ≤ 8 := (ztx_spec hy.1).2.1
  have e : Int32.ofNat (s + (y.2.1.getD i (0, 0)).1) + 9 = Int32.ofNat (s + (y.2.1.getD i (0, 0)).1 + 9) := jo_add (a := s + (y.2.1.getD i (0, 0)).1) (b := 9)
  unfold F_10_outputScript B_10_outputScript_26
  rw [if_neg (by rw [show (0 : Int32) = Int32.ofNat 0 from rfl, jo_lt (by omega) (by omega)]; omega), jg_t a1, b5, jg_t (by rw [b6]), if_pos (by rw [b6]; show Int32.ofNat i < Int32.ofNat y.2.1.length; rw [jo_lt (by omega) (by omega)]; exact hi), jg_t a1, jg_t (gA b6 (jo_in (by omega) hi)), jo_nat (n := i) (by omega), c2 i hi, e]
theorem z10_scriptSize {p : Nat} (k : (jK H o).1 = 10) (hr : jR H o 0 = row) (hk : jK H row = (101, len)) (hl : len < 2000000) (hp : 1 ≤ p) (hp2 : p ≤ len) : F_10_scriptSize o (Int32.ofNat p) H = some (Int32.ofNat (jB H row (p - 1)).toNat, H) := by
  have e : Int32.ofNat p - 1 = Int32.ofNat (p - 1) := jo_sub (a := p) (b := 1) hp
  unfold F_10_scriptSize B_10_scriptSize_30
  rw [if_neg (by rw [show (1 : Int32) = Int32.ofNat 1 from rfl, jo_lt (by omega) (by omega)]; omega), jg_t k, hr, jg_t (by rw [hk]), if_pos (by rw [hk]; show Int32.ofNat p ≤ Int32.ofNat len; rw [jo_le (by omega) (by omega)]; exact hp2), jg_t k, e, jg_t (gA hk (jo_in (by omega) (by omega))), jo_nat (n := p - 1) (by omega), jb_and]
end X10
def w_S7 : Nat → Nat → Prop := fun a j => (a = 49 ∧ j = 4) ∨ a = 168
def zW7 (H : jH) (l : List UInt8) : Prop := jI H 49 4 = Int32.ofNat l.length ∧ zRow H 168 0 l
theorem k49 {H : jH} (hs : jsh H) : (jK H 49).1 = 7 := by rw [sK_49 hs]
theorem w_S7_513 : ∀ a j, 422 ≤ a → ¬ w_S7 a j := by
  intro a j h q
  unfold w_S7 at q
  omega
section PUT7
variable {Q : Unit → jH → Prop} {L : List UInt8} {H0 : jH}
theorem z7_put {r f n len : Nat} {f' n' : Int32} (ef : f' = Int32.ofNat f) (en : n' = Int32.ofNat n) (hs : jsh H0) (hr : jK H0 r = (101, len)) (hlen : len < 2000000) (hp : f + n ≤ len) (hl : L.length + n ≤ 2400) (hw : zW7 H0 L)
    (hk : ∀ H', jsh H' → jfr w_S7 H0 H' → zW7 H' (L ++ zcut (jB H0 r) f n) → Q () H') : jT (F_7_put 49 r f' n' H0) Q := by
  subst ef
  subst en
  have hn : jI H0 49 4 = Int32.ofNat L.length := hw.1
  generalize hm : L.length = m at *
  have n0 : ∀ x, x < 2147483600 → ¬ (Int32.ofNat x < 0) := fun x hx => by
    rw [show (0 : Int32) = Int32.ofNat 0 from rfl, jo_lt (by omega) (by omega)]
    omega
  have e1 : Int32.ofNat f + Int32.ofNat n = Int32.ofNat (f + n) := jo_add
  have e2 : Int32.ofNat m + Int32.ofNat n = Int32.ofNat (m + n) := jo_add
  unfold F_7_put
  simp only [hn, sR_49_3 hs, e1, e2]
  refine jT_neg (n0 _ (by omega)) (jT_neg (n0 _ (by omega)) (jT_g (by rw [hr]) (jT_neg (by rw [hr]; show ¬ Int32.ofNat len < _; rw [jo_lt (by omega) (by omega)]; omega) (jT_g (k49 hs) (jT_pos (by rw [show (2400 : Int32) = Int32.ofNat 2400 from rfl, jo_le (by omega) (by omega)]; omega) (jT_g (k49 hs) (jT_g (k49 hs) (jT_g ?_ (jT_l ?_)))))))))
  · unfold jcg
    rw [hr, sK_168 hs, jo_int (by omega), jo_int (by omega), jo_int (by omega)]
    exact ⟨rfl, rfl, by decide, by omega, by omega, by omega, by show (f : Int) + n ≤ (len : Nat); omega, by show (m : Int) + n ≤ (2400 : Nat); omega⟩
  rw [jo_nat (n := m) (by omega), jo_nat (n := n) (by omega), jo_nat (n := f) (by omega)]
  have hs1 : jsh (jcpB H0 r f 168 m n) := jsh_cpB hs
  have e3 : jI (jcpB H0 r f 168 m n) 49 4 = Int32.ofNat m := hn
  rw [e3, e2]
  refine jT_g (k49 hs1) (jT_g (k49 hs1) (jT_l (jT_ret (hk _ (jsh_sI hs1 (by decide)) (jfr_sI (jfr_cpB jfr_refl fun _ _ _ => Or.inr rfl) (Or.inl ⟨rfl, rfl⟩)) ⟨?_, ?_⟩))))
  · rw [jI_sIe, List.length_append, hm, zcut_len]
  · refine zRow_app (zRow_eq hw.2 fun i hi => ?_) fun i u hi => ?_
    · exact jcpf_ne (by omega)
    · obtain ⟨hi, rfl⟩ := zcut_at hi
      rw [hm, Nat.zero_add]
      have : jB (jcpB H0 r f 168 m n) 168 (m + i) = jB H0 r (f + (m + i - m)) := jB_cp (by omega) (by omega)
      rw [show m + i - m = i by omega] at this
      exact this
theorem z7_fill {n : Nat} {v n' : Int32} (en : n' = Int32.ofNat n) (hs : jsh H0) (hl : L.length + n ≤ 2400) (hw : zW7 H0 L)
    (hk : ∀ H', jsh H' → jfr w_S7 H0 H' → zW7 H' (L ++ List.replicate n (jbu (ji2b v))) → Q () H') : jT (F_7_fill 49 n' v H0) Q := by
  subst en
  have loop : ∀ (d i fu : Nat) (H : jH), i + d = n → d < fu → jsh H → jfr w_S7 H0 H → zW7 H (L ++ List.replicate i (jbu (ji2b v))) → jT (F_7_fill_2 fu 49 (Int32.ofNat n) v (Int32.ofNat i) H) Q := by
    intro d
    induction d with
    | zero =>
      intro i fu H hi hfu hsH hfr hb
      obtain ⟨fu, rfl⟩ : ∃ k, fu = k + 1 := ⟨fu - 1, by omega⟩
      obtain rfl : i = n := by omega
      unfold F_7_fill_2 B_7_fill_2 B_7_fill_44
      exact jT_pos (by rw [jo_le (by omega) (by omega)]; exact Nat.le_refl _) (jT_ret (hk H hsH hfr hb))
    | succ d ih =>
      intro i fu H hi hfu hsH hfr hb
      obtain ⟨fu, rfl⟩ : ∃ k, fu = k + 1 := ⟨fu - 1, by omega⟩
      unfold F_7_fill_2 B_7_fill_2
      have e1 : Int32.ofNat i + 1 = Int32.ofNat (i + 1) := jo_add (a := i) (b := 1)
      have hln : (L ++ List.replicate i (jbu (ji2b v))).length = L.length + i := by rw [List.length_append, List.length_replicate]
      have h4 : jI H 49 4 = Int32.ofNat (L.length + i) := by rw [hb.1, hln]
      have e2 : Int32.ofNat (L.length + i) + 1 = Int32.ofNat (L.length + i + 1) := jo_add (a := L.length + i) (b := 1)
      simp only [h4, sR_49_3 hsH, e1, jo_nat (n := L.length + i) (by omega)]
      have hs1 : jsh (jsB H 168 (L.length + i) (jbu (ji2b v))) := jsh_sB hsH
      refine jT_neg (by rw [jo_le (by omega) (by omega)]; omega) (jT_g (k49 hsH) (jT_neg (by rw [show (2400 : Int32) = Int32.ofNat 2400 from rfl, jo_le (by omega) (by omega)]; omega) (jT_g (k49 hsH) (jT_g (k49 hsH) (jT_g (gA (sK_168 hsH) (jo_in (by omega) (by omega))) (jT_l (jT_g (k49 hs1) (jT_g (k49 hs1) (jT_l (jT_l ?_))))))))))
      rw [show jI (jsB H 168 (L.length + i) (jbu (ji2b v))) 49 4 = Int32.ofNat (L.length + i) from h4, e2]
      refine ih (i + 1) fu _ (by omega) (by omega) (jsh_sI hs1 (by decide)) (jfr_sI (jfr_sB hfr (Or.inr rfl)) (Or.inl ⟨rfl, rfl⟩)) ⟨?_, ?_⟩
      · rw [jI_sIe, List.length_append, List.length_replicate]
        rfl
      · rw [List.replicate_succ', ← List.append_assoc]
        refine zRow_app (zRow_eq hb.2 fun k hk2 => ?_) (zRow_one ?_)
        · exact jB_sBn (H := H) (a := 168) (by omega)
        · rw [hln, Nat.zero_add]
          exact jB_sBe (H := H) (a := 168) (i := L.length + i)
  unfold F_7_fill
  refine loop n 0 jfuel H0 (by omega) (by unfold jfuel; omega) hs jfr_refl ?_
  show zW7 H0 (L ++ [])
  rw [List.append_nil]
  exact hw
end PUT7
