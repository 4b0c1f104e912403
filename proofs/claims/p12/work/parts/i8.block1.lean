/-! A block of a message: the class reads its transactions. -/
/-- the name of bytes -/
def b_hs (tb : List UInt8) : List UInt8 := (List.range 32).map (znm (fun i => tb.getD i 0) tb.length)
theorem b_hs_len {tb : List UInt8} : (b_hs tb).length = 32 := by
  unfold b_hs
  rw [List.length_map, List.length_range]
theorem b_hs_at {tb : List UInt8} {i : Nat} {u : UInt8} (h : (b_hs tb)[i]? = some u) : i < 32 ∧ u = znm (fun i => tb.getD i 0) tb.length i := by
  unfold b_hs at h
  obtain ⟨h1, h2⟩ := List.getElem?_eq_some_iff.mp h
  rw [List.getElem_map, List.getElem_range] at h2
  rw [List.length_map, List.length_range] at h1
  exact ⟨h1, h2.symm⟩
theorem zTx10_eq {t row len s : Nat} {b : Nat → UInt8} {x : List (Nat × Nat) × List (Nat × Nat) × Nat} {h h' : jH} (hz : zTx10 t row len s b x h) (hn : jn h' = jn h) (hK : ∀ a, a = t ∨ a = t + 1 ∨ a = t + 4 ∨ a = t + 5 → jK h' a = jK h a) (hC : ∀ a, a = t ∨ a = t + 4 ∨ a = t + 5 → ∀ j, jI h' a j = jI h a j ∧ jL h' a j = jL h a j ∧ jR h' a j = jR h a j) : zTx10 t row len s b x h' := by
  obtain ⟨a1, a2, a3, a4, a5, a6, a7, a8, a9, a10, a11, a12, a13, a14, a15⟩ := hz
  have c0 := hC t (Or.inl rfl)
  exact ⟨by rw [hK t (Or.inl rfl)]; exact a1, (c0 0).2.2.trans a2, (c0 1).1.trans a3, (c0 2).1.trans a4, (c0 3).2.2.trans a5, by rw [hK _ (Or.inr (Or.inl rfl))]; exact a6, (c0 4).2.2.trans a7, by rw [hK _ (Or.inr (Or.inr (Or.inl rfl)))]; exact a8, fun k w hk => ((hC (t + 4) (Or.inr (Or.inl rfl)) k).1).trans (a9 k w hk), (c0 5).2.2.trans a10, by rw [hK _ (Or.inr (Or.inr (Or.inr rfl)))]; exact a11, fun k w hk => ((hC (t + 5) (Or.inr (Or.inr rfl)) k).1).trans (a12 k w hk), (c0 6).2.1.trans a13, (c0 7).1.trans a14, by rw [hn]; exact a15⟩
def b_Th3 : Nat → Nat → Prop := fun a j => a = 44 ∨ (a = 43 ∧ j = 1) ∨ a = 45 ∨ a = 46 ∨ a = 48
def b_Trd (A : Nat) : Nat → Nat → Prop := fun a j => b_Th3 a j ∨ a = A
/-- what stands in a row of transactions that were read -/
def b_rdx (n0 A row len : Nat) (txs : List b_t) (H : jH) : Prop := ∀ j x, txs[j]? = some x → w_xn (jn H) (jR H A j) row (82 + b_tot (txs.take j)) len x.2.1 x.2.2 x.1 H ∧ n0 ≤ jR H A j
theorem b_tot_app {l r : List b_t} : b_tot (l ++ r) = b_tot l + b_tot r := by
  unfold b_tot
  rw [List.map_append, List.sum_append]
theorem b_fl_app {l r : List b_t} : b_fl (l ++ r) = b_fl l ++ b_fl r := by
  unfold b_fl
  rw [List.map_append, List.flatten_append]
theorem b_pl_app {x : b_t} : ∀ {l : List b_t} {s : Nat}, b_pl s (l ++ [x]) = b_pl s l ++ [(s + b_tot l, zshx (s + b_tot l) x.2.2)]
  | [], s => rfl
  | z :: l, s => by
    rw [List.cons_append, b_pl, b_pl_app, b_pl, b_tot_cons, Nat.add_assoc]
    rfl
section RD0
variable {Q : Nat → jH → Prop} {Hs : jH} {row len A t nmr c : Nat}
theorem z0_rd39 (hs0 : jsh Hs) (hkr0 : jK Hs row = (101, len)) (hlen : len ≤ 2001) (hrow : 422 ≤ row ∧ row < jn Hs) (hA : 422 ≤ A ∧ A < jn Hs ∧ jK Hs A = (113, c)) (hAr : A ≠ row) (hc : c ≤ 12) (ht : 422 ≤ t ∧ t < jn Hs ∧ (jK Hs t).1 = 0 ∧ jR Hs t 4 = A ∧ jR Hs t 1 = nmr) (htA : t ≠ A) (hnm : 422 ≤ nmr ∧ nmr < jn Hs ∧ jK Hs nmr = (101, 32)) (hnA : nmr ≠ row ∧ nmr ≠ A)
    (hk : ∀ txs H, txs.length = c → 82 + b_tot txs = len → zRow Hs row 82 (b_fl txs) → (∀ x ∈ txs, w_ty x.2.1 x.2.2 ∧ x.1 = b_hs x.2.1) → jsh H → jgx (fun a j => b_Trd A a j ∨ (a = nmr ∧ j < 32)) (6 * c) (56 * c) Hs H → b_rdx (jn Hs) A row len txs H → (∀ i, i < 32 → jB H nmr i = znm (fun i => jB Hs row (1 + i)) 80 i) → Q t H)
    (hk0 : ∀ H, (∀ l, b_prs (jB Hs row) len c 82 ≠ some (l, len)) → jsh H → jgx (b_Trd A) (6 * c) (56 * c) Hs H → Q 0 H) (h81 : 81 ≤ len) :
    ∀ (d i fu p : Nat) (H : jH) (txs : List b_t), i + d = c → d < fu → jsh H → jgx (b_Trd A) (6 * i) (56 * i) Hs H → txs.length = i → p = 82 + b_tot txs → p ≤ len → zRow Hs row 82 (b_fl txs) → (∀ x ∈ txs, w_ty x.2.1 x.2.2 ∧ x.1 = b_hs x.2.1) → b_rdx (jn Hs) A row len txs H → (b_prs (jB Hs row) len c 82 = (b_prs (jB Hs row) len d p).map fun q => (b_pl 82 txs ++ q.1, q.2)) →
      jT (F_0_read_39 fu row 43 (Int32.ofNat c) t (Int32.ofNat p) (Int32.ofNat i) H) Q := by
  intro d
  have hB : ∀ {H m u}, jgx (b_Trd A) m u Hs H → jB H row = jB Hs row := fun hg => funext fun j => jgx_B hg hrow.2 (fun w => by unfold b_Trd b_Th3 at w; omega)
  induction d with
  | zero =>
    intro i fu p H txs hi hfu hs hg hl hp hpl hz hty hx hpr
    obtain ⟨fu, rfl⟩ : ∃ k, fu = k + 1 := ⟨fu - 1, by omega⟩
    obtain rfl : i = c := by omega
    have kr : jK H row = (101, len) := by rw [jgx_K hg hrow.2]; exact hkr0
    unfold F_0_read_39 B_0_read_39
    refine jT_pos (by rw [jo_le (by omega) (by omega)]; exact Nat.le_refl _) (jT_g (by rw [kr]) ?_)
    rw [kr]
    by_cases ce : p = len
    · have kt : (jK H t).1 = 0 := by rw [jgx_K hg ht.2.1]; exact ht.2.2.1
      have r1 : jR H t 1 = nmr := (jgx_R hg ht.2.1 (fun w => by unfold b_Trd b_Th3 at w; omega)).trans ht.2.2.2.2
      have kn : jK H nmr = (101, 32) := by rw [jgx_K hg hnm.2.1]; exact hnm.2.2
      refine jT_pos (by rw [ce]) (jT_g kt (jT_g (by rw [sK_43 hs]) (jT_b ?_)))
      rw [r1]
      refine z3_name row len 1 80 nmr 32 (by omega) (by omega) (by decide) ⟨Nat.le_refl _, by decide⟩ (by omega) H hs kr kn fun H2 s2 f2 v2 => jT_ret ?_
      refine hk txs H2 hl (by omega) hz hty s2 ?_ (fun j x hj => ?_) fun i hi => ?_
      · have := jgx_trans (jgx_mono (S' := fun a j => b_Trd A a j ∨ (a = nmr ∧ j < 32)) hg (fun a j _ w => Or.inl w) (Nat.le_refl _) (Nat.le_refl _)) (jgx_mono (S' := fun a j => b_Trd A a j ∨ (a = nmr ∧ j < 32)) (jgx_fr f2) (fun a j _ w => by unfold b_Trd b_Th3; omega) (Nat.le_refl _) (Nat.le_refl _))
        exact jgx_mono this (fun a j _ w => w) (by omega) (by omega)
      · obtain ⟨⟨w1, w2, w3⟩, w4⟩ := hx j x hj
        have o513 := w1.2.2.2.2.2.2.2.2.2.2.1
        rw [show jR H2 A j = jR H A j from jfr_R f2 (by omega), f2.2.1]
        refine ⟨⟨w_x_fr w1 fun a ha => ⟨jfr_K f2 a, fun j => f2.2.2.2 a j fun w => by omega⟩, w2, w3⟩, w4⟩
      · rw [v2 i hi, hB hg]
    · refine jT_neg (fun w => ce ((jo_eq (by omega) (by omega)).mp w)) (jT_ret (hk0 H ?_ hs hg))
      intro l w
      rw [hpr] at w
      have : (b_pl 82 txs ++ [], p) = (l, len) := Option.some.inj w
      exact ce (congrArg Prod.snd this)
  | succ d ih =>
    intro i fu p H txs hi hfu hs hg hl hp hpl hz hty hx hpr
    obtain ⟨fu, rfl⟩ : ∃ k, fu = k + 1 := ⟨fu - 1, by omega⟩
    have kr : jK H row = (101, len) := by rw [jgx_K hg hrow.2]; exact hkr0
    have n0 := hg.1
    have e1 : Int32.ofNat i + 1 = Int32.ofNat (i + 1) := jo_add (a := i) (b := 1)
    have bigger : ∀ {S : Nat → Nat → Prop} {m u : Nat} {H' : jH}, jgx S m u Hs H' → m ≤ 6 * (i + 1) → u ≤ 56 * (i + 1) → (∀ a j, S a j → b_Trd A a j) → jgx (b_Trd A) (6 * c) (56 * c) Hs H' := fun h q1 q2 q3 => jgx_mono h (fun a j _ w => q3 a j w) (by omega) (by omega)
    unfold F_0_read_39 B_0_read_39
    refine jT_neg (by rw [jo_le (by omega) (by omega)]; omega) (jT_b (jT_imp (z10_read (b := jB Hs row) hs kr (by omega) (by omega) hpl (hB hg)) fun r H1 q => ?_))
    obtain ⟨s1, g1, q⟩ := q
    have g1' : jgx (b_Trd A) (6 * i + 6) (56 * i + 56) Hs H1 := jgx_trans hg (jgx_mono g1 (fun a j _ w => absurd w id) (Nat.le_refl _) (Nat.le_refl _))
    rcases q with ⟨x, ex, rfl, zx⟩ | ⟨ex, rfl⟩
    · obtain ⟨y, e2, e3, e4, e5⟩ := w_own hpl (by omega) ex
      rw [e2] at zx ex
      have zx0 := zx
      obtain ⟨a1, a2, a3, a4, a5, a6, -, -, -, -, -, -, -, -, a15⟩ := zx
      have o513 : 422 ≤ jn H := hs.2.2.2.2.1
      generalize ho : jn H = o at *
      have ey : (zshx p y).2.2 - p = y.2.2 := Nat.add_sub_cancel_left _ _
      rw [ey] at a4
      have kr1 : jK H1 row = (101, len) := by rw [jgx_K g1' hrow.2]; exact hkr0
      have tl : (zcut (jB Hs row) p y.2.2).length = y.2.2 := e5
      have t2000 := e3.2.2
      refine jT_pos (by omega) (jT_g a1 (jT_g a1 (jT_g (by rw [sK_43 s1]) ?_)))
      rw [a4, a5]
      refine jT_b (z3_name row len p y.2.2 (o + 1) 32 (by omega) (by omega) (by omega) ⟨Nat.le_refl _, by decide⟩ (by omega) H1 s1 kr1 a6 fun H2 s2 f2 v2 => ?_)
      have kt2 : (jK H2 t).1 = 0 := by rw [jfr_K f2, jgx_K g1' ht.2.1]; exact ht.2.2.1
      have r4 : jR H2 t 4 = A := (jfr_R f2 (by omega)).trans ((jgx_R g1' ht.2.1 (fun w => by unfold b_Trd b_Th3 at w; omega)).trans ht.2.2.2.1)
      have kA2 : jK H2 A = (113, c) := by rw [jfr_K f2, jgx_K g1' hA.2.1]; exact hA.2.2
      have ko2 : (jK H2 o).1 = 10 := by rw [jfr_K f2]; exact a1
      rw [r4, kA2, jo_nat (n := i) (by omega)]
      refine jT_g kt2 (jT_g ⟨rfl, jo_in (by omega) (by show i < c; omega), Or.inr ko2⟩ (jT_l (jT_g ko2 ?_)))
      have es : jI (jsR H2 A i o) o 2 = Int32.ofNat y.2.2 := (jfr_I f2 (by omega)).trans a4
      rw [es, jo_add, e1]
      refine jT_l (jT_l ?_)
      have s3 : jsh (jsR H2 A i o) := jsh_sR s2 hA.1
      have n3 : jn (jsR H2 A i o) = o + 6 := by
        show jn H2 = _
        rw [f2.2.1]
        exact a15
      have g3 : jgx (b_Trd A) (6 * i + 6) (56 * i + 56) Hs (jsR H2 A i o) := by
        refine ⟨by rw [n3]; have := g1'.1; omega, ?_, ?_, fun a ha => (jfr_K f2 a).trans (jgx_K g1' ha), fun a j ha hn => ?_⟩
        · have := g1'.2.1
          rw [n3]
          omega
        · have := g1'.2.2.1
          have := f2.2.2.1
          show js H2 ≤ _
          omega
        · have nT : ¬ (a = 44 ∨ (a = 43 ∧ j = 1) ∨ a = 45 ∨ a = 46 ∨ a = 48 ∨ (a = o + 1 ∧ j < 32)) := fun w => by
            unfold b_Trd b_Th3 at hn
            omega
          obtain ⟨z1, z2, z3, z4⟩ := f2.2.2.2 a j nT
          obtain ⟨u1, u2, u3, u4⟩ := g1'.2.2.2.2 a j ha hn
          exact ⟨z1.trans u1, z2.trans u2, (jup_ne (fun w => hn (Or.inr w.1))).trans (z3.trans u3), z4.trans u4⟩
      have eB3 : jB (jsR H2 A i o) row = jB Hs row := hB g3
      have tx : b_tot (txs ++ [(b_hs (zcut (jB Hs row) p y.2.2), zcut (jB Hs row) p y.2.2, y)]) = b_tot txs + y.2.2 := by
        rw [b_tot_app, b_tot_cons, b_tot_nil, Nat.add_zero, tl]
      have tk : ∀ j, j ≤ i → (txs ++ [(b_hs (zcut (jB Hs row) p y.2.2), zcut (jB Hs row) p y.2.2, y)]).take j = txs.take j := fun j hj => List.take_append_of_le_length (by omega)
      refine ih (i + 1) fu (p + y.2.2) (jsR H2 A i o) (txs ++ [(b_hs (zcut (jB Hs row) p y.2.2), zcut (jB Hs row) p y.2.2, y)]) (by omega) (by omega) s3 (jgx_mono g3 (fun a j _ w => w) (by omega) (by omega)) (by rw [List.length_append, hl]; rfl) (by rw [tx]; omega) e4 ?_ (fun z hz1 => ?_) (fun j z hj => ?_) ?_
      · rw [b_fl_app]
        refine zRow_app hz ?_
        rw [b_fl_len, ← hp, b_fl_cons]
        show zRow Hs row p (zcut (jB Hs row) p y.2.2 ++ [])
        rw [List.append_nil]
        exact zcut_row
      · rcases List.mem_append.mp hz1 with h | h
        · exact hty z h
        · rw [List.mem_singleton.mp h]
          exact ⟨e3, rfl⟩
      · by_cases cj : j < i
        · rw [List.getElem?_append_left (by omega)] at hj
          obtain ⟨⟨w1, w2, w3⟩, w4⟩ := hx j z hj
          rw [show jR (jsR H2 A i o) A j = jR H A j from (jR_sRn (by omega)).trans ((jfr_R f2 (by omega)).trans (jgx_R g1 (by omega) id)), tk j (by omega), n3]
          have o5 := w1.2.2.2.2.2.2.2.2.2.2.1
          refine ⟨⟨w_x_fr w1 fun a ha => ?_, by omega, by omega⟩, w4⟩
          have ha2 : a < o ∧ a ≠ A ∧ 422 ≤ a := by omega
          refine ⟨(jfr_K f2 a).trans (jgx_K g1 (by omega)), fun q => ?_⟩
          obtain ⟨z1, z2, z3, z4⟩ := f2.2.2.2 a q (by omega)
          obtain ⟨u1, u2, u3, u4⟩ := g1.2.2.2.2 a q (by omega) id
          exact ⟨z1.trans u1, z2.trans u2, (jup_a ha2.2.1).trans (z3.trans u3), z4.trans u4⟩
        · have hjl := (List.getElem?_eq_some_iff.mp hj).1
          rw [List.length_append, hl] at hjl
          have hjl' : j < i + 1 := hjl
          obtain rfl : j = i := by omega
          rw [List.getElem?_append_right (by omega), hl, Nat.sub_self] at hj
          have hz2 : (b_hs (zcut (jB Hs row) p y.2.2), zcut (jB Hs row) p y.2.2, y) = z := Option.some.inj hj
          subst hz2
          rw [show jR (jsR H2 A j o) A j = o from jR_sRe, tk j (Nat.le_refl _), List.take_of_length_le (by omega), ← hp, n3]
          refine ⟨⟨?_, by omega, by omega⟩, by omega⟩
          have hzz : zTx10 o row len p (jB (jsR H2 A j o) row) (zshx p y) (jsR H2 A j o) := by
            rw [eB3]
            refine zTx10_eq zx0 (n3.trans a15.symm) (fun a ha => jfr_K f2 a) fun a ha q => ?_
            obtain ⟨z1, z2, z3, z4⟩ := f2.2.2.2 a q (by omega)
            exact ⟨z1, z2, (jup_a (by omega)).trans z3⟩
          have := w_x_of (nm := b_hs (zcut (jB Hs row) p y.2.2)) hzz (by rw [eB3]; exact e3) ((jfr_K f2 row).trans kr1) (by omega) e4 o513 hrow.1 (fun q u hq => ?_) b_hs_len
          · rw [eB3] at this
            exact this
          · obtain ⟨q1, q2⟩ := b_hs_at hq
            rw [Nat.zero_add, q2]
            show jB H2 (o + 1) q = _
            rw [v2 q q1, tl]
            refine congrFun (znm_eq fun k hk => ?_) q
            rw [zcut_gd hk, hB g1']
      · rw [hpr]
        have : b_prs (jB Hs row) len (d + 1) p = (b_prs (jB Hs row) len d (p + y.2.2)).map fun q => ((p, zshx p y) :: q.1, q.2) := by
          show (ztx (jB Hs row) p len).bind _ = _
          rw [ex]
          rfl
        rw [this, Option.map_map]
        congr 1
        funext q
        show (b_pl 82 txs ++ ((p, zshx p y) :: q.1), q.2) = (b_pl 82 (txs ++ [_]) ++ q.1, q.2)
        rw [b_pl_app, ← hp, List.append_assoc]
        rfl
    · refine jT_neg (fun w => w rfl) (jT_ret (hk0 H1 ?_ s1 (bigger g1' (by omega) (by omega) fun a j w => w)))
      intro l w
      have h2 : b_prs (jB Hs row) len (d + 1) p = none := by
        show (ztx (jB Hs row) p len).bind _ = none
        rw [ex]
        rfl
      rw [hpr, h2] at w
      cases w
end RD0
