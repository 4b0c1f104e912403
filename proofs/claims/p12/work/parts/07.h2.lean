theorem jnew_arr {G : jG} {H : jH} {U : State} {Hr Hr2 : Heap} {t n : Nat} (hR : jRel G H U Hr) (hm : t ∈ jtags) (hsz : Hr2.size = Hr.size + 1) (hoff : ∀ q, q < Hr.size → Hr2[q]? = Hr[q]?)
    (hc : Hr2[Hr.size]? = some (arrV (G.2.2.2 t) n (fun _ => if jkd (jty t) = 0 then .int 0 else if jkd (jty t) = 1 then .long 0 else if jkd (jty t) = 2 then .null else .int 0))) : jRel G (jnew H t n) U Hr2 := by
  have hge := jtag_ge hm
  have hsz1 := hR.1
  have hF := hR.2.1
  have hk1 : jK (jnew H t n) (jn H) = (t, n) := by
    show (if jn H = jn H then (t, n) else jK H (jn H)) = _
    rw [if_pos rfl]
  refine jrel_new hR (by omega) hsz hoff (Or.inr ⟨?_, ?_, ?_⟩)
  · rw [hk1]; exact hm
  · rw [hk1]; exact jcl_none (by show 12 ≤ t; omega)
  · rw [hk1, jad_own hF, show G.1 + (jn H - jF0) = Hr.size by omega, hc]
    congr 2
    funext j
    have hI : jI (jnew H t n) (jn H) j = 0 := if_pos rfl
    have hL : jL (jnew H t n) (jn H) j = 0 := if_pos rfl
    have hRr : jR (jnew H t n) (jn H) j = 0 := if_pos rfl
    have hBr : jB (jnew H t n) (jn H) j = 0 := if_pos rfl
    show _ = jcv G (jnew H t n) (jn H) j (jkd (jty t))
    unfold jcv
    rw [hI, hL, hRr, hBr]
    rfl
theorem jgn_nat {n : Int32} (h : jgn n) : ¬ n < 0 ∧ n.toNatClampNeg ≤ 1000000 := by
  obtain ⟨h1, h2⟩ := h
  refine ⟨fun h3 => ?_, ?_⟩
  · rw [Int32.lt_iff_toInt_lt] at h3
    have : (0 : Int32).toInt = 0 := rfl
    omega
  · show n.toInt.toNat ≤ _
    omega
/-- goes on behind a new cell -/
theorem jnew_go {l : Launch} {mi : jM} {α : Type} {emb : α → Option Value} {pc q : Nat} {ls : List (Nat × Value)} {st st0 : List Value} {H : jH} {t N : Nat} {k0 : Nat → jH → Option (α × jH)} (kk0 : ∀ r H1, JV l mi emb q ls (.ref r :: st) H1 (k0 r H1))
    (hrow : ∀ (c : jX) (Hr : Heap) (la : Array Slot) (locs : List Loc) (H' : jH) (Q : State → Prop), jC mi c → jRel c.2.2.1 H c.1.2.2.2 Hr → jn c.2.2.2 ≤ jn H → js c.2.2.2 ≤ js H → jn H + 1 ≤ jn H' → js H + N ≤ js H' →
      (∀ Hr2 : Heap, jRel c.2.2.1 (jnew H t N) c.1.2.2.2 Hr2 → Hr2.size = Hr.size + 1 → (∀ q, q < Hr.size → Hr2[q]? = Hr[q]?) → W c.1.1 c.1.2.1 c.1.2.2.1 (jroom mi.2.2.2.2.2.2.1 (jn H' - jn c.2.2.2) (js H' - js c.2.2.2) mi.2.2.2.2.2.2.2) c.1.2.2.2 c.2.1.1 c.2.1.2.1 c.2.1.2.2.1 c.2.1.2.2.2.1 c.2.1.2.2.2.2 Hr2 locs (jn H - jn c.2.2.2 + 1) (js H - js c.2.2.2 + N) Q (F0 c.2.1.1 q la (.ref Hr.size :: jstk c.2.2.1 st))) →
      W c.1.1 c.1.2.1 c.1.2.2.1 (jroom mi.2.2.2.2.2.2.1 (jn H' - jn c.2.2.2) (js H' - js c.2.2.2) mi.2.2.2.2.2.2.2) c.1.2.2.2 c.2.1.1 c.2.1.2.1 c.2.1.2.2.1 c.2.1.2.2.2.1 c.2.1.2.2.2.2 Hr locs (jn H - jn c.2.2.2) (js H - js c.2.2.2) Q (F0 c.2.1.1 pc la (jstk c.2.2.1 st0))) : JV l mi emb pc ls st0 H (jnw H t N k0) := by
  intro r H' ho
  obtain ⟨hm, kk⟩ := kk0 _ _ r H' ho
  have hjn : jn (jnew H t N) = jn H + 1 := rfl
  have hjs : js (jnew H t N) = js H + N := rfl
  rw [hjn, hjs] at hm
  refine ⟨⟨by omega, by omega⟩, fun c hc e1 n1 n2 Hr la locs hR hS hl => ?_⟩
  refine hrow c Hr la locs H' _ hc hR n1 n2 hm.1 hm.2 fun Hr2 hR2 a2 a3 => ?_
  have hsz := hR.1
  have hF := hR.2.1
  have hS2 : va_S (jA c.2.2.1) c.1.2.2.2.heap Hr2 locs := ⟨by rw [a2]; exact Nat.le_succ_of_le hS.1, fun q h1 h2 => by rw [a3 q (Nat.lt_of_lt_of_le h1 hS.1)]; exact hS.2.1 q h1 h2, hS.2.2⟩
  have h1 := kk c hc e1 (by rw [hjn]; omega) (by rw [hjs]; omega) Hr2 la locs hR2 hS2 hl
  simp only [jstk, List.map_cons, jv_ref] at h1
  rw [jrv_own hF, jad_own hF, show c.2.2.1.1 + (jn H - jF0) = Hr.size by omega, hjn, hjs] at h1
  refine W.cs (cells' := jn H + 1 - jn c.2.2.2) (slots' := js H + N - js c.2.2.2) (by omega) (by omega) ?_
  exact h1
theorem s_188_10 {l : Launch} {mi : jM} {α : Type} {emb : α → Option Value} {pc : Nat} {ls : List (Nat × Value)} {st : List Value} {H : jH} {k0 : Nat → jH → Option (α × jH)} (q : Nat) {n : Int32} (hcl : Cond.arrayClass .int ∈ jws) (hw : jx2 mi.1 mi.2.1 pc 188 10 q = true) (kk0 : ∀ r H1, JV l mi emb q ls (.ref r :: st) H1 (k0 r H1)) : JV l mi emb pc ls (.int n :: st) H (jg (jgn n) (jnw H 100 n.toNatClampNeg k0)) := by
  obtain ⟨hw1, rfl⟩ := jx2_spec hw
  intro r H' ho
  obtain ⟨hg, ho⟩ := jg_some ho
  obtain ⟨g1, g2⟩ := jgn_nat hg
  refine jnew_go (pc := pc) (st0 := .int n :: st) kk0 ?_ r H' ho
  intro c Hr la locs H' Q hc hR n1 n2 m1 m2 kk
  refine W.newa hc.1 rfl (atype := .int) (hc.2.2.2.2.2.2.2.1 _ hcl) rfl (jd_188_10 hc.2.1 hw1) rfl g1 (by show _ * 4 ≤ _; omega) (by show _ ≤ jn H' - jn c.2.2.2; omega) (by show _ ≤ js H' - js c.2.2.2; omega) fun cA kA comp h1 h2 h3 => ?_
  have hra := (jrel_ty hR (t := 100) (by decide)).2
  have hcA : cA = c.2.2.1.2.2.2 100 := Option.some.inj (h1.symm.trans hra)
  subst hcA
  refine kk _ (jnew_arr hR (by decide) (by simp) (fun q hq => by rw [Array.getElem?_push, if_neg (Nat.ne_of_lt hq)]) ?_) (by simp) (fun q hq => by rw [Array.getElem?_push, if_neg (Nat.ne_of_lt hq)])
  rw [Array.getElem?_push, if_pos rfl, ← arrV_new]
  rfl
theorem s_188_8 {l : Launch} {mi : jM} {α : Type} {emb : α → Option Value} {pc : Nat} {ls : List (Nat × Value)} {st : List Value} {H : jH} {k0 : Nat → jH → Option (α × jH)} (q : Nat) {n : Int32} (hcl : Cond.arrayClass .byte ∈ jws) (hw : jx2 mi.1 mi.2.1 pc 188 8 q = true) (kk0 : ∀ r H1, JV l mi emb q ls (.ref r :: st) H1 (k0 r H1)) : JV l mi emb pc ls (.int n :: st) H (jg (jgn n) (jnw H 101 n.toNatClampNeg k0)) := by
  obtain ⟨hw1, rfl⟩ := jx2_spec hw
  intro r H' ho
  obtain ⟨hg, ho⟩ := jg_some ho
  obtain ⟨g1, g2⟩ := jgn_nat hg
  refine jnew_go (pc := pc) (st0 := .int n :: st) kk0 ?_ r H' ho
  intro c Hr la locs H' Q hc hR n1 n2 m1 m2 kk
  refine W.newa hc.1 rfl (atype := .byte) (hc.2.2.2.2.2.2.2.1 _ hcl) rfl (jd_188_8 hc.2.1 hw1) rfl g1 (by show _ * 1 ≤ _; omega) (by show _ ≤ jn H' - jn c.2.2.2; omega) (by show _ ≤ js H' - js c.2.2.2; omega) fun cA kA comp h1 h2 h3 => ?_
  have hra := (jrel_ty hR (t := 101) (by decide)).2
  have hcA : cA = c.2.2.1.2.2.2 101 := Option.some.inj (h1.symm.trans hra)
  subst hcA
  refine kk _ (jnew_arr hR (by decide) (by simp) (fun q hq => by rw [Array.getElem?_push, if_neg (Nat.ne_of_lt hq)]) ?_) (by simp) (fun q hq => by rw [Array.getElem?_push, if_neg (Nat.ne_of_lt hq)])
  rw [Array.getElem?_push, if_pos rfl, ← arrV_new]
  rfl
theorem s_188_4 {l : Launch} {mi : jM} {α : Type} {emb : α → Option Value} {pc : Nat} {ls : List (Nat × Value)} {st : List Value} {H : jH} {k0 : Nat → jH → Option (α × jH)} (q : Nat) {n : Int32} (hcl : Cond.arrayClass .boolean ∈ jws) (hw : jx2 mi.1 mi.2.1 pc 188 4 q = true) (kk0 : ∀ r H1, JV l mi emb q ls (.ref r :: st) H1 (k0 r H1)) : JV l mi emb pc ls (.int n :: st) H (jg (jgn n) (jnw H 102 n.toNatClampNeg k0)) := by
  obtain ⟨hw1, rfl⟩ := jx2_spec hw
  intro r H' ho
  obtain ⟨hg, ho⟩ := jg_some ho
  obtain ⟨g1, g2⟩ := jgn_nat hg
  refine jnew_go (pc := pc) (st0 := .int n :: st) kk0 ?_ r H' ho
  intro c Hr la locs H' Q hc hR n1 n2 m1 m2 kk
  refine W.newa hc.1 rfl (atype := .boolean) (hc.2.2.2.2.2.2.2.1 _ hcl) rfl (jd_188_4 hc.2.1 hw1) rfl g1 (by show _ * 1 ≤ _; omega) (by show _ ≤ jn H' - jn c.2.2.2; omega) (by show _ ≤ js H' - js c.2.2.2; omega) fun cA kA comp h1 h2 h3 => ?_
  have hra := (jrel_ty hR (t := 102) (by decide)).2
  have hcA : cA = c.2.2.1.2.2.2 102 := Option.some.inj (h1.symm.trans hra)
  subst hcA
  refine kk _ (jnew_arr hR (by decide) (by simp) (fun q hq => by rw [Array.getElem?_push, if_neg (Nat.ne_of_lt hq)]) ?_) (by simp) (fun q hq => by rw [Array.getElem?_push, if_neg (Nat.ne_of_lt hq)])
  rw [Array.getElem?_push, if_pos rfl, ← arrV_new]
  rfl
theorem s_188_11 {l : Launch} {mi : jM} {α : Type} {emb : α → Option Value} {pc : Nat} {ls : List (Nat × Value)} {st : List Value} {H : jH} {k0 : Nat → jH → Option (α × jH)} (q : Nat) {n : Int32} (hcl : Cond.arrayClass .long ∈ jws) (hw : jx2 mi.1 mi.2.1 pc 188 11 q = true) (kk0 : ∀ r H1, JV l mi emb q ls (.ref r :: st) H1 (k0 r H1)) : JV l mi emb pc ls (.int n :: st) H (jg (jgn n) (jnw H 103 n.toNatClampNeg k0)) := by
  obtain ⟨hw1, rfl⟩ := jx2_spec hw
  intro r H' ho
  obtain ⟨hg, ho⟩ := jg_some ho
  obtain ⟨g1, g2⟩ := jgn_nat hg
  refine jnew_go (pc := pc) (st0 := .int n :: st) kk0 ?_ r H' ho
  intro c Hr la locs H' Q hc hR n1 n2 m1 m2 kk
  refine W.newa hc.1 rfl (atype := .long) (hc.2.2.2.2.2.2.2.1 _ hcl) rfl (jd_188_11 hc.2.1 hw1) rfl g1 (by show _ * 8 ≤ _; omega) (by show _ ≤ jn H' - jn c.2.2.2; omega) (by show _ ≤ js H' - js c.2.2.2; omega) fun cA kA comp h1 h2 h3 => ?_
  have hra := (jrel_ty hR (t := 103) (by decide)).2
  have hcA : cA = c.2.2.1.2.2.2 103 := Option.some.inj (h1.symm.trans hra)
  subst hcA
  refine kk _ (jnew_arr hR (by decide) (by simp) (fun q hq => by rw [Array.getElem?_push, if_neg (Nat.ne_of_lt hq)]) ?_) (by simp) (fun q hq => by rw [Array.getElem?_push, if_neg (Nat.ne_of_lt hq)])
  rw [Array.getElem?_push, if_pos rfl, ← arrV_new]
  rfl
theorem s_189 {l : Launch} {mi : jM} {α : Type} {emb : α → Option Value} {pc : Nat} {ls : List (Nat × Value)} {st : List Value} {H : jH} {k0 : Nat → jH → Option (α × jH)} (b d q i t : Nat) {n : Int32} {C : String} (ht : t ∈ jtags ∧ jty t = .object C) (hC : C ∈ ["CoinNode$Tx", "CoinNode$Block", "CoinNode$Point"]) (hcl : Cond.classLink mi.2.2.2.1 i C ∈ jws) (hi : b * 256 + d = i) (hw : jx3 mi.1 mi.2.1 pc 189 b d q = true) (kk0 : ∀ r H1, JV l mi emb q ls (.ref r :: st) H1 (k0 r H1)) : JV l mi emb pc ls (.int n :: st) H (jg (jgn n) (jnw H t n.toNatClampNeg k0)) := by
  obtain ⟨hw1, rfl⟩ := jx3_spec hw
  subst hi
  intro r H' ho
  obtain ⟨hg, ho⟩ := jg_some ho
  obtain ⟨g1, g2⟩ := jgn_nat hg
  refine jnew_go (pc := pc) (st0 := .int n :: st) kk0 ?_ r H' ho
  intro c Hr la locs H' Q hc hR n1 n2 m1 m2 kk
  refine W.anew hc.1 rfl hc.2.2.2.1 (hc.2.2.2.2.2.2.2.1 _ hcl) (va_AO.use (hc.2.2.2.2.2.2.2.2.2.2.2.1.1 _ hC)) rfl (jd_189 hc.2.1 hw1) rfl g1 (by omega) (by show _ ≤ jn H' - jn c.2.2.2; omega) (by show _ ≤ js H' - js c.2.2.2; omega) fun cA kA comp h1 h2 h3 h4 => ?_
  have hra := (jrel_ty hR ht.1).2
  rw [ht.2] at hra
  obtain ⟨kA', comp', -, -, -, hra⟩ := hra
  have hcA : cA = c.2.2.1.2.2.2 t := Option.some.inj (h1.symm.trans hra)
  subst hcA
  have hkd : jkd (jty t) = 2 := by rw [ht.2]; rfl
  refine kk _ (jnew_arr hR ht.1 (by simp) (fun q hq => by rw [Array.getElem?_push, if_neg (Nat.ne_of_lt hq)]) ?_) (by simp) (fun q hq => by rw [Array.getElem?_push, if_neg (Nat.ne_of_lt hq)])
  rw [Array.getElem?_push, if_pos rfl, ← arrV_new, hkd]
  rfl
theorem jrv_inj {G : jG} {a b : Nat} (ha : a = 0 ∨ jF0 ≤ a) (hb : b = 0 ∨ jF0 ≤ b) (h : (if a = 0 then none else some (jad G a)) = (if b = 0 then none else some (jad G b))) : a = b := by
  by_cases h1 : a = 0 <;> by_cases h2 : b = 0
  · rw [h1, h2]
  · rw [if_pos h1, if_neg h2] at h; cases h
  · rw [if_neg h1, if_pos h2] at h; cases h
  · rw [if_neg h1, if_neg h2] at h
    exact jad_inj (ha.resolve_left h1) (hb.resolve_left h2) (Option.some.inj h)
theorem jrv_rf (G : jG) (a : Nat) : jrv G a = va_rf (if a = 0 then none else some (jad G a)) := by
  unfold jrv
  split <;> rfl
theorem s_165 {l : Launch} {mi : jM} {α : Type} {emb : α → Option Value} {pc : Nat} {ls : List (Nat × Value)} {st : List Value} {H : jH} {o o2 : Option (α × jH)} (b d t q : Nat) {x y : Nat} (hw : jx3 mi.1 mi.2.1 pc 165 b d q = true) (ht : jt pc b d t = true) (k1 : JV l mi emb t ls st H o) (k2 : JV l mi emb q ls st H o2) : JV l mi emb pc ls (.ref y :: .ref x :: st) H (jg ((x = 0 ∨ jF0 ≤ x) ∧ (y = 0 ∨ jF0 ≤ y)) (if x = y then o else o2)) := by
  obtain ⟨hw1, rfl⟩ := jx3_spec hw
  intro r H' ho
  obtain ⟨hg, ho⟩ := jg_some ho
  by_cases h : x = y
  · rw [if_pos h] at ho
    obtain ⟨hm, kk⟩ := k1 r H' ho
    refine ⟨hm, fun c hc e1 n1 n2 Hr la locs hR hS hl => ?_⟩
    simp only [jstk, List.map_cons, jv_ref]
    rw [jrv_rf, jrv_rf]
    exact lv_acmp_eq hc.1 rfl (jd_165 hc.2.1 hw1) (jt_spec ht) (fun _ => kk c hc e1 n1 n2 Hr la locs hR hS hl) (fun h9 => absurd (by rw [h]) h9)
  · rw [if_neg h] at ho
    obtain ⟨hm, kk⟩ := k2 r H' ho
    refine ⟨hm, fun c hc e1 n1 n2 Hr la locs hR hS hl => ?_⟩
    simp only [jstk, List.map_cons, jv_ref]
    rw [jrv_rf, jrv_rf]
    exact lv_acmp_eq hc.1 rfl (jd_165 hc.2.1 hw1) (jt_spec ht) (fun h9 => absurd (jrv_inj hg.1 hg.2 h9) h) (fun _ => kk c hc e1 n1 n2 Hr la locs hR hS hl)
theorem s_166 {l : Launch} {mi : jM} {α : Type} {emb : α → Option Value} {pc : Nat} {ls : List (Nat × Value)} {st : List Value} {H : jH} {o o2 : Option (α × jH)} (b d t q : Nat) {x y : Nat} (hw : jx3 mi.1 mi.2.1 pc 166 b d q = true) (ht : jt pc b d t = true) (k1 : JV l mi emb t ls st H o) (k2 : JV l mi emb q ls st H o2) : JV l mi emb pc ls (.ref y :: .ref x :: st) H (jg ((x = 0 ∨ jF0 ≤ x) ∧ (y = 0 ∨ jF0 ≤ y)) (if ¬ x = y then o else o2)) := by
  obtain ⟨hw1, rfl⟩ := jx3_spec hw
  intro r H' ho
  obtain ⟨hg, ho⟩ := jg_some ho
  by_cases h : ¬ x = y
  · rw [if_pos h] at ho
    obtain ⟨hm, kk⟩ := k1 r H' ho
    refine ⟨hm, fun c hc e1 n1 n2 Hr la locs hR hS hl => ?_⟩
    simp only [jstk, List.map_cons, jv_ref]
    rw [jrv_rf, jrv_rf]
    exact lv_acmp_ne hc.1 rfl (jd_166 hc.2.1 hw1) (jt_spec ht) (fun _ => kk c hc e1 n1 n2 Hr la locs hR hS hl) (fun h9 => absurd h9 (fun q => h (jrv_inj hg.1 hg.2 q)))
  · rw [if_neg h] at ho
    obtain ⟨hm, kk⟩ := k2 r H' ho
    refine ⟨hm, fun c hc e1 n1 n2 Hr la locs hR hS hl => ?_⟩
    simp only [jstk, List.map_cons, jv_ref]
    rw [jrv_rf, jrv_rf]
    exact lv_acmp_ne hc.1 rfl (jd_166 hc.2.1 hw1) (jt_spec ht) (fun h9 => absurd (by rw [Classical.not_not.mp h]) h9) (fun _ => kk c hc e1 n1 n2 Hr la locs hR hS hl)
theorem jQ_ok {G : jG} {H : jH} {c : jX} {Hr : Heap} {locs : List Loc} {v : Option Value} (hR : jRel G H c.1.2.2.2 Hr) (hS : va_S (jA G) c.1.2.2.2.heap Hr locs) (t : State) (ht : t.heap = Hr) (hW : c.1.2.2.2.WarmedH t.vm) : jQ G v H c.2.1.2.1 c.1.2.2.2 (.returned (v.map (jv G))) t :=
  ⟨rfl, by rw [ht]; exact jrel_moved hW.alike hR, hS.F ht⟩
theorem s_172 {l : Launch} {mi : jM} {pc : Nat} {ls : List (Nat × Value)} {H : jH} {x : Int32} (hr : mi.2.2.2.2.1 = some .int) (hw : jw1 mi.1 mi.2.1 pc 172 = true) : JV l mi jeI pc ls [.int x] H (some (x, H)) := by
  intro r H' ho
  skip
  cases ho
  refine ⟨⟨Nat.le_refl _, Nat.le_refl _⟩, fun c hc e1 n1 n2 Hr la locs hR hS hl => ?_⟩
  exact W.iret (v := x) hc.1 rfl (hc.2.2.2.2.1.trans hr)  (jQ_ok (v := jeI x) hR hS) hS.2.2 (jd_172 hc.2.1 hw) (hlocks := hc.2.2.2.2.2.2.1)
theorem s_172Z {l : Launch} {mi : jM} {pc : Nat} {ls : List (Nat × Value)} {H : jH} {x : Int32} (hr : mi.2.2.2.2.1 = some .boolean) (hw : jw1 mi.1 mi.2.1 pc 172 = true) : JV l mi jeI pc ls [.int x] H (jg (x = 0 ∨ x = 1) (some (x, H))) := by
  intro r H' ho
  obtain ⟨hg, ho⟩ := jg_some ho
  cases ho
  refine ⟨⟨Nat.le_refl _, Nat.le_refl _⟩, fun c hc e1 n1 n2 Hr la locs hR hS hl => ?_⟩
  exact W.zret (v := x) hc.1 rfl (hc.2.2.2.2.1.trans hr) (jz_b hg) (jQ_ok (v := jeI x) hR hS) hS.2.2 (jd_172 hc.2.1 hw) (hlocks := hc.2.2.2.2.2.2.1)
theorem s_173 {l : Launch} {mi : jM} {pc : Nat} {ls : List (Nat × Value)} {H : jH} {x : Int64} (hr : mi.2.2.2.2.1 = some .long) (hw : jw1 mi.1 mi.2.1 pc 173 = true) : JV l mi jeL pc ls [.long x] H (some (x, H)) := by
  intro r H' ho
  skip
  cases ho
  refine ⟨⟨Nat.le_refl _, Nat.le_refl _⟩, fun c hc e1 n1 n2 Hr la locs hR hS hl => ?_⟩
  exact W.lret (v := x) hc.1 rfl (hc.2.2.2.2.1.trans hr)  (jQ_ok (v := jeL x) hR hS) hS.2.2 (jd_173 hc.2.1 hw) (hlocks := hc.2.2.2.2.2.2.1)
def jrm (a b c d : Nat) : Bool := Nat.ble a b && Nat.ble c d
theorem jrm_spec {a b c d : Nat} (h : jrm a b c d = true) : a ≤ b ∧ c ≤ d := by
  simp only [jrm, Bool.and_eq_true] at h
  exact ⟨Nat.le_of_ble_eq_true h.1, Nat.le_of_ble_eq_true h.2⟩
theorem s_177 {l : Launch} {mi : jM} {pc : Nat} {ls : List (Nat × Value)} {H : jH} (hr : mi.2.2.2.2.1 = none) (hw : jw1 mi.1 mi.2.1 pc 177 = true) : JV l mi jeV pc ls [] H (some ((), H)) := by
  intro r H' ho
  cases ho
  refine ⟨⟨Nat.le_refl _, Nat.le_refl _⟩, fun c hc e1 n1 n2 Hr la locs hR hS hl => ?_⟩
  exact W.vret hc.1 rfl (hc.2.2.2.2.1.trans hr) (jQ_ok (v := jeV ()) hR hS) hS.2.2 (jd_177 hc.2.1 hw) (hlocks := hc.2.2.2.2.2.2.1)
theorem s_176 {l : Launch} {mi : jM} {pc : Nat} {ls : List (Nat × Value)} {H : jH} {x : Nat} {rt : FieldType} (hr : mi.2.2.2.2.1 = some rt) (hrt : jisref rt = true) (hw : jw1 mi.1 mi.2.1 pc 176 = true) : JV l mi jeR pc ls [.ref x] H (some (x, H)) := by
  intro r H' ho
  cases ho
  refine ⟨⟨Nat.le_refl _, Nat.le_refl _⟩, fun c hc e1 n1 n2 Hr la locs hR hS hl => ?_⟩
  refine W.aret (v := jrv c.2.2.1 x) hc.1 rfl (hc.2.2.2.2.1.trans hr) ?_ ?_ (jQ_ok (v := jeR x) hR hS) hS.2.2 (jd_176 hc.2.1 hw) (hlocks := hc.2.2.2.2.2.2.1)
  · cases rt <;> first | (cases hrt; done) | exact Or.inl ⟨_, rfl⟩ | exact Or.inr ⟨_, rfl⟩
  · unfold jrv
    split
    · exact Or.inl rfl
    · exact Or.inr ⟨_, rfl⟩
theorem s_oinit {l : Launch} {mi : jM} {α : Type} {emb : α → Option Value} {pc : Nat} {ls : List (Nat × Value)} {st : List Value} {H : jH} {o : Option (α × jH)} (b d q i : Nat) {x : Nat} (hl0 : Cond.methodLink mi.2.2.2.1 i Lib.objectInit ∈ jws) (hins : Cond.instanceMethod Lib.objectInit ∈ jws) (hco : Cond.code Lib.objectInit ⟨#[0xb1]⟩ 1 none ∈ jws) (hi : b * 256 + d = i) (hrm : jrm 1 mi.2.2.2.2.2.2.1 ((st.map fun v => v.category).sum + 12) mi.2.2.2.2.2.2.2 = true) (hw : jx3 mi.1 mi.2.1 pc 183 b d q = true) (kk0 : JV l mi emb q ls st H o) : JV l mi emb pc ls (.ref x :: st) H (jg (jF0 ≤ x) o) := by
  obtain ⟨hw1, rfl⟩ := jx3_spec hw
  subst hi
  intro r H' ho
  obtain ⟨hg, ho⟩ := jg_some ho
  obtain ⟨hm, kk⟩ := kk0 r H' ho
  refine ⟨hm, fun c hc e1 n1 n2 Hr la locs hR hS hl => ?_⟩
  obtain ⟨hrm1, hrm2⟩ := jrm_spec hrm
  simp only [jstk, List.map_cons, jv_ref]
  rw [jrv_own hg]
  have hcat : ((st.map (jv c.2.2.1)).map fun v => v.category).sum = (st.map fun v => v.category).sum := by
    rw [List.map_map]
    congr 2
    funext v
    exact jv_cat _ v
  exact W.objInit hc.1 rfl hc.2.2.2.1 (hc.2.2.2.2.2.2.2.1 _ hl0) (hc.2.2.2.2.2.2.2.1 _ hins) (hc.2.2.2.2.2.2.2.1 _ hco) rfl (hl.1.trans hc.2.2.1.symm) rfl (jd_183 hc.2.1 hw1) hrm1 (by show 2 * 0 + ((st.map (jv c.2.2.1)).map fun v => v.category).sum + 12 ≤ mi.2.2.2.2.2.2.2; rw [hcat, Nat.mul_zero, Nat.zero_add]; exact hrm2) (kk c hc e1 n1 n2 Hr la locs hR hS hl)
