theorem jassign_self (vm : Vm) (c : ClassId) : vm.assignable c c = true := by
  first | (show vm.assignableAux _ c c = true; unfold Vm.assignableAux; simp)
def jmul (H : jH) (t1 t2 n1 n2 : Nat) : jH := (fun b => if b = jn H then (t1, n1) else if jn H < b ∧ b ≤ jn H + n1 then (t2, n2) else jK H b, fun b j => if jn H ≤ b ∧ b ≤ jn H + n1 then 0 else jI H b j, fun b j => if jn H ≤ b ∧ b ≤ jn H + n1 then 0 else jL H b j,
  fun b j => if b = jn H then (if j < n1 then jn H + 1 + j else 0) else if jn H < b ∧ b ≤ jn H + n1 then 0 else jR H b j, jn H + 1 + n1, js H + n1 + n1 * n2, fun b j => if jn H ≤ b ∧ b ≤ jn H + n1 then 0 else jB H b j)
def jnm {β : Type} (H : jH) (t1 t2 n1 n2 : Nat) (k : Nat → jH → β) : β := k (jn H) (jmul H t1 t2 n1 n2)
theorem jouter (c : ClassId) (N h0 : Nat) : ∀ i : Nat, Jvm.Free.Multi.outerC c N h0 i = arrV c N (fun j => if j < i then .ref (h0 + 1 + j) else .null)
  | 0 => by
    show ({ cls := c, slots := Array.replicate N .null, vm := .none } : Cell) = _
    rw [arrV_new]
    refine congrArg (arrV c N) (funext fun j => ?_)
    simp
  | i + 1 => by
    show (Jvm.Free.Multi.outerC c N h0 i).setSlot i (.ref (h0 + 1 + i)) = _
    rw [jouter c N h0 i, arrV_store]
    refine congrArg (arrV c N) (funext fun j => ?_)
    by_cases e : j = i
    · subst e
      simp [updV]
    · by_cases h : j < i
      · simp [updV, e, h, Nat.lt_succ_of_lt h]
      · simp [updV, e, h, show ¬ j < i + 1 by omega]
/-- a row of rows: the outer one and its rows are new -/
theorem jrel_multi {G : jG} {H : jH} {U : State} {Hr Hr2 : Heap} {t1 t2 n1 n2 : Nat} (hR : jRel G H U Hr) (h1 : t1 ∈ jtags) (h2 : t2 ∈ jtags) (hk1 : jkd (jty t1) = 2) (hk2 : jkd (jty t2) ≠ 2) (hsz : Hr2.size = Hr.size + 1 + n1) (hoff : ∀ q, q < Hr.size → Hr2[q]? = Hr[q]?)
    (ho : Hr2[Hr.size]? = some (arrV (G.2.2.2 t1) n1 (fun j => if j < n1 then .ref (Hr.size + 1 + j) else .null)))
    (hi : ∀ j, j < n1 → Hr2[Hr.size + 1 + j]? = some (arrV (G.2.2.2 t2) n2 (fun _ => if jkd (jty t2) = 1 then .long 0 else .int 0))) : jRel G (jmul H t1 t2 n1 n2) U Hr2 := by
  obtain ⟨r1, r2, r3, r4, r5, r6⟩ := hR
  have g1 := jtag_ge h1
  have g2 := jtag_ge h2
  have hn : jn (jmul H t1 t2 n1 n2) = jn H + 1 + n1 := rfl
  have hKn : ∀ b, b < jn H ∨ jn H + n1 < b → jK (jmul H t1 t2 n1 n2) b = jK H b := fun b hb => by
    show (if b = jn H then _ else if jn H < b ∧ b ≤ jn H + n1 then _ else jK H b) = _
    rw [if_neg (by omega), if_neg (by omega)]
  have hKo : jK (jmul H t1 t2 n1 n2) (jn H) = (t1, n1) := if_pos rfl
  have hKi : ∀ b, jn H < b → b ≤ jn H + n1 → jK (jmul H t1 t2 n1 n2) b = (t2, n2) := fun b a1 a2 => by
    show (if b = jn H then _ else if jn H < b ∧ b ≤ jn H + n1 then _ else jK H b) = _
    rw [if_neg (by omega), if_pos ⟨a1, a2⟩]
  refine ⟨by rw [hsz, hn]; omega, by rw [hn]; omega, fun a ha => ?_, by rw [hKn 0 (by unfold jF0 at r2; omega)]; exact r4, r5, fun q hq => (r6 q hq).kept fun a ha _ => hoff a ha⟩
  by_cases hb0 : a = jn H
  · subst hb0
    refine ⟨by rw [hn]; omega, fun h => by omega, fun _ => Or.inr ⟨by rw [hKo]; exact h1, by rw [hKo]; exact jcl_none (by show 12 ≤ t1; omega), ?_⟩⟩
    rw [hKo, jad_own r2, show G.1 + (jn H - jF0) = Hr.size by omega, ho]
    congr 2
    funext j
    show _ = jcv G (jmul H t1 t2 n1 n2) (jn H) j (jkd (jty t1))
    rw [hk1]
    show _ = jrv G (if jn H = jn H then (if j < n1 then jn H + 1 + j else 0) else _)
    rw [if_pos rfl]
    by_cases hj : j < n1
    · rw [if_pos hj, if_pos hj, jrv_own (by omega), jad_own (by omega), show G.1 + (jn H + 1 + j - jF0) = Hr.size + 1 + j by omega]
    · rw [if_neg hj, if_neg hj]
      rfl
  · by_cases hbi : jn H < a ∧ a ≤ jn H + n1
    · refine ⟨by rw [hn]; omega, fun h => by omega, fun _ => Or.inr ⟨by rw [hKi a hbi.1 hbi.2]; exact h2, by rw [hKi a hbi.1 hbi.2]; exact jcl_none (by show 12 ≤ t2; omega), ?_⟩⟩
      have h9 := hi (a - jn H - 1) (by omega)
      rw [hKi a hbi.1 hbi.2, jad_own (by omega), show G.1 + (a - jF0) = Hr.size + 1 + (a - jn H - 1) by omega, h9]
      congr 2
      funext j
      have hI : jI (jmul H t1 t2 n1 n2) a j = 0 := if_pos ⟨by omega, hbi.2⟩
      have hL : jL (jmul H t1 t2 n1 n2) a j = 0 := if_pos ⟨by omega, hbi.2⟩
      have hB : jB (jmul H t1 t2 n1 n2) a j = 0 := if_pos ⟨by omega, hbi.2⟩
      unfold jcv
      rw [hI, hL, hB]
      by_cases q0 : jkd (jty t2) = 0
      · rw [if_pos q0, if_neg (by omega)]
      · rw [if_neg q0]
        by_cases q1 : jkd (jty t2) = 1
        · rw [if_pos q1, if_pos q1]
        · rw [if_neg q1, if_neg q1, if_neg hk2]
          rfl
    · rw [hKn a (by omega)] at ha
      obtain ⟨s1, s2, s3⟩ := r3 a ha
      have hI : ∀ j, jI (jmul H t1 t2 n1 n2) a j = jI H a j := fun j => if_neg (by omega)
      have hL : ∀ j, jL (jmul H t1 t2 n1 n2) a j = jL H a j := fun j => if_neg (by omega)
      have hB : ∀ j, jB (jmul H t1 t2 n1 n2) a j = jB H a j := fun j => if_neg (by omega)
      have hRr : ∀ j, jR (jmul H t1 t2 n1 n2) a j = jR H a j := fun j => by
        show (if a = jn H then _ else if jn H < a ∧ a ≤ jn H + n1 then _ else jR H a j) = _
        rw [if_neg hb0, if_neg hbi]
      refine ⟨by rw [hn]; omega, fun hlt => ?_, fun hge => ?_⟩
      · obtain ⟨u1, cell, u2, u3, u4, u5, u6, u7, u8⟩ := s2 hlt
        refine ⟨by rw [hKn a (by omega)]; exact u1, cell, ?_, u3, u4, by rw [hKn a (by omega)]; exact u5, by rw [hKn a (by omega)]; exact u6, fun j hj => ?_, u8⟩
        · rw [hoff _ (Array.getElem?_eq_some_iff.mp u2).1]; exact u2
        · rw [hKn a (by omega)] at hj
          rw [hI]
          exact u7 j hj
      · refine jcell_congr (s3 hge) (hKn a (by omega)) (fun j k => jcv_congr (hI j) (hL j) (hRr j) (hB j)) (hoff _ ?_)
        rw [jad_own hge]
        omega
section JS2
variable {l : Launch} {mi : jM} {α : Type} {emb : α → Option Value} {pc : Nat} {ls : List (Nat × Value)} {st st0 : List Value} {H : jH}
theorem s_197 {k1 : Nat → jH → Option (α × jH)} (x y q i t1 t2 : Nat) {n m : Int32} {ty : FieldType} (h1 : t1 ∈ jtags ∧ jty t1 = .array ty) (h2 : t2 ∈ jtags ∧ jty t2 = ty ∧ jkd ty ≠ 2) (hnm : (FieldType.array ty).toString = "[" ++ ty.toString) (hra : ∀ (U : State) (c : ClassId), va_RA U c ty = (U.vm.findClass ("[" ++ ty.toString) = some c))
    (hdf : fits ty (defaultValue ty) = true) (hdd : (defaultValue ty).isDefault = true) (hdv : defaultValue ty = if jkd ty = 1 then .long 0 else .int 0) (hcb : componentBytes ty ≤ 8) (hA : ∀ U, jNw U → jAOA ty U) (hcl : Cond.classLink mi.2.2.2.1 i ("[" ++ (FieldType.array ty).toString) ∈ jws) (hac : Cond.arrayClass ty ∈ jws) (hi : x * 256 + y = i) {b : ByteArray} (hb : jn_is b mi.1 mi.2.1) (hd : decode b pc = .ok (.multianewarray i 2, 4)) (hq : pc + 4 = q) (kk0 : ∀ r H1, JV l mi emb q ls (.ref r :: st) H1 (k1 r H1)) :
    JV l mi emb pc ls (.int m :: .int n :: st) H (jg (jgn n ∧ jgn m) (jnm H t1 t2 n.toNatClampNeg m.toNatClampNeg k1)) := by
  subst hi
  subst hq
  intro r H' ho
  obtain ⟨⟨hg1, hg2⟩, ho⟩ := jg_some ho
  obtain ⟨hm, kk⟩ := kk0 _ _ r H' ho
  have hjn : jn (jmul H t1 t2 n.toNatClampNeg m.toNatClampNeg) = jn H + 1 + n.toNatClampNeg := rfl
  have hjs : js (jmul H t1 t2 n.toNatClampNeg m.toNatClampNeg) = js H + n.toNatClampNeg + n.toNatClampNeg * m.toNatClampNeg := rfl
  rw [hjn, hjs] at hm
  refine ⟨⟨by omega, by omega⟩, fun c hc e1 n1 n2 Hr la locs hR hS hl => ?_⟩
  obtain ⟨a1, a2⟩ := jgn_nat hg1
  obtain ⟨b1, b2⟩ := jgn_nat hg2
  have hsz := hR.1
  have hF := hR.2.1
  simp only [jstk, List.map_cons]
  intro T hT X
  obtain ⟨vm₁, cA, comp, -, fA, fC, -, -, X', step⟩ := X.multianewarray2F hc.1 hc.2.2.2.1 (hc.2.2.2.2.2.2.2.1 _ hcl) (hA _ hc.2.2.2.2.2.2.2.2.2) (hc.2.2.2.2.2.2.2.1 _ hac) (g := F0 c.2.1.1 pc la (.int m :: .int n :: st.map (jv c.2.2.1))) rfl (by rw [jn_inj hc.2.1 hb]; exact hd) rfl a1 b1 (by omega) (Nat.le_trans (Nat.mul_le_mul b2 hcb) (by decide)) (by omega) hdf hdd (by show _ ≤ jn H' - jn c.2.2.2; omega) (by show _ ≤ js H' - js c.2.2.2; omega)
  have r1 : c.1.2.2.2.vm.findClass ("[" ++ (FieldType.array ty).toString) = some (c.2.2.1.2.2.2 t1) := by
    have := (jrel_ty hR h1.1).2
    rw [h1.2] at this
    exact this
  have r2 : c.1.2.2.2.vm.findClass (FieldType.array ty).toString = some (c.2.2.1.2.2.2 t2) := by
    have := (jrel_ty hR h2.1).2
    rw [h2.2.1, hra] at this
    rw [hnm]
    exact this
  cases fA.symm.trans r1
  cases fC.symm.trans r2
  generalize hFl : Jvm.Free.Multi.fill (T.setVm vm₁) (c.2.2.1.2.2.2 t1) (c.2.2.1.2.2.2 t2) n.toNatClampNeg m.toNatClampNeg (defaultValue ty) n.toNatClampNeg = F at X' step
  have hTh : (T.setVm vm₁).heap = Hr := hT
  obtain ⟨f1, f2, -, -⟩ := Jvm.Free.Multi.fill_facts (T.setVm vm₁) (c.2.2.1.2.2.2 t1) (c.2.2.1.2.2.2 t2) n.toNatClampNeg m.toNatClampNeg (defaultValue ty) n.toNatClampNeg
  rw [hFl, hTh] at f1 f2
  have hold : ∀ x : Nat, x < Hr.size → F.heap[x]? = Hr[x]? := fun x hx => by
    have := Jvm.Free.Multi.fill_old (T.setVm vm₁) (c.2.2.1.2.2.2 t1) (c.2.2.1.2.2.2 t2) n.toNatClampNeg m.toNatClampNeg (defaultValue ty) (a := x) (by rw [hTh]; exact hx) n.toNatClampNeg
    rw [hFl, hTh] at this
    exact this
  have hrow : ∀ j : Nat, j < n.toNatClampNeg → F.heap[Hr.size + 1 + j]? = some (arrV (c.2.2.1.2.2.2 t2) m.toNatClampNeg (fun _ => if jkd (jty t2) = 1 then .long 0 else .int 0)) := fun j hj => by
    have := Jvm.Free.Multi.fill_inner (T.setVm vm₁) (c.2.2.1.2.2.2 t1) (c.2.2.1.2.2.2 t2) n.toNatClampNeg m.toNatClampNeg (defaultValue ty) n.toNatClampNeg j hj
    rw [hFl, hTh] at this
    rw [this, h2.2.1, ← hdv, ← arrV_new]
    rfl
  rw [jouter] at f2
  have hR2 := jrel_multi (n1 := n.toNatClampNeg) (n2 := m.toNatClampNeg) hR h1.1 h2.1 (by rw [h1.2]; rfl) (by rw [h2.2.1]; exact h2.2.2) f1 hold f2 hrow
  have hS2 : va_S (jA c.2.2.1) c.1.2.2.2.heap F.heap locs := ⟨by rw [f1]; have := hS.1; omega, fun q h1 h2 => by rw [hold q (Nat.lt_of_lt_of_le h1 hS.1)]; exact hS.2.1 q h1 h2, hS.2.2⟩
  have h9 := kk c hc e1 (by rw [hjn]; omega) (by rw [hjs]; omega) F.heap la locs hR2 hS2 hl
  simp only [jstk, List.map_cons, jv_ref] at h9
  rw [jrv_own hF, jad_own hF, show c.2.2.1.1 + (jn H - jF0) = Hr.size by omega, hjn, hjs] at h9
  have h8 := W.cs (cells := jn H - jn c.2.2.2 + 1 + n.toNatClampNeg) (slots := js H - js c.2.2.2 + n.toNatClampNeg + n.toNatClampNeg * m.toNatClampNeg) (by omega) (by omega) h9
  obtain ⟨t, b3, b4⟩ := h8 F rfl X'
  refine ⟨t, step t ?_, b4⟩
  rw [hT]
  exact b3
theorem s_83A {k0 : jH → Option (α × jH)} (q : Nat) {a x : Nat} {i : Int32} (hw : jx1 mi.1 mi.2.1 pc 83 q = true) (kk0 : ∀ H1, JV l mi emb q ls st H1 (k0 H1)) : JV l mi emb pc ls (.ref x :: .int i :: .ref a :: st) H (jg ((jK H a).1 = 110 ∧ jin i (jK H a).2 ∧ (jK H x).1 = 101) (jl (jsR H a i.toNatClampNeg x) k0)) := by
  obtain ⟨hw1, rfl⟩ := jx1_spec hw
  intro r H' ho
  obtain ⟨hg, ho⟩ := jg_some ho
  obtain ⟨hm, kk⟩ := kk0 _ r H' ho
  refine ⟨hm, fun c hc e1 n1 n2 Hr la locs hR hS hl => ?_⟩
  obtain ⟨h1, h3⟩ := jrel_arr hR hg.1 (by decide) (Or.inr (by decide))
  obtain ⟨g1, g3⟩ := jrel_arr hR hg.2.2 (by decide) (Or.inr (by decide))
  have hlt := jin_lt hg.2.1
  have h0 : ¬ i < 0 := fun q => jin_vp hg.2.1 (Or.inl q)
  obtain ⟨comp, cc, kA, f1, -, f3, f4, f5⟩ := arrayOverA_spec (hc.2.2.2.2.2.2.2.2.2.2.2.1.2.1)
  have r1 : c.1.2.2.2.vm.findClass ("[" ++ (FieldType.array .byte).toString) = some (c.2.2.1.2.2.2 110) := (jrel_ty hR (t := 110) (by decide)).2
  have r2 : c.1.2.2.2.vm.findClass (FieldType.array .byte).toString = some (c.2.2.1.2.2.2 101) := (jrel_ty hR (t := 101) (by decide)).2
  cases f5.symm.trans r1
  cases f1.symm.trans r2
  obtain ⟨kC, hkC, -⟩ := Vm.findClass_spec r2
  simp only [jstk, List.map_cons, jv_ref]
  rw [jrv_own h1, jrv_own g1]
  exact W.aast hc.1 rfl h3 (fun q h => by cases h) (fun h => by cases h) f3 f4 rfl hkC ⟨h0, by show _ < (arrV _ _ _).slots.size; rw [arrV_size]; exact hlt⟩ g3 (fun q h => by cases h) hkC (jassign_self _ _) rfl rfl (jd_83 hc.2.1 hw1) fun Hr2 e4 e5 e6 => kk c hc e1 n1 n2 Hr2 la _ (jstore_rel (t := 110) hR hg.1 (by decide) (Or.inr (by decide)) (jput1_R (x := x)) (by rw [jrv_own g1]; exact e4) e5 e6) (hS.put e5 e6 (jad_A h1)) hl
end JS2
