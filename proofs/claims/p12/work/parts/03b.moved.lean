theorem jAOA_moved {t : FieldType} {u U : State} (hvm : u.vm.Alike U.vm) (h : jAOA t u) : jAOA t U := by
  unfold jAOA at h ⊢
  simp only [Cond.before, Cond.holds, Cond.value] at h ⊢
  rw [hvm.findClass]
  cases hf : u.vm.findClass (FieldType.array t).toString with
  | none => rw [hf] at h; simp at h
  | some comp =>
    rw [hf] at h
    simp only [Option.bind_some] at h ⊢
    rw [hvm.findIdx_congr _ (fun _ _ _ _ => rfl)]
    refine Eq.trans (congrArg (fun o => o == some true) (congrArg (Option.bind _) (funext fun c => ?_))) h
    cases hk : u.vm.classes[c]? with
    | none =>
      cases hk' : U.vm.classes[c]? with
      | none => rfl
      | some k' =>
        obtain ⟨k, h1, -⟩ := hvm.symm.2.2 _ _ hk'
        rw [hk] at h1
        cases h1
    | some k =>
      obtain ⟨k', hk', ek⟩ := hvm.2.2 _ _ hk
      rw [hk', hvm.findClass]
      have ekind : k'.kind = k.kind := by rw [ek]
      simp only [Option.map_some, ekind]
theorem jNw_warm {s U : State} (hW : s.WarmedH U.vm) (h : jNw s) : jNw U := by
  obtain ⟨h1, h2, h3, h4⟩ := h
  exact ⟨fun q hq => (h1 q hq).warmF hW, fun q hq => (h2 q hq).warmM hW, ⟨fun q hq => (h3.1 q hq).moved hW.alike, jAOA_moved hW.alike h3.2.1, jAOA_moved hW.alike h3.2.2.1, jAOA_moved hW.alike h3.2.2.2⟩, h4.warmC hW⟩
/-- the start of a method by contract -/
def jPc (G : jG) (av : List Value) (H : jH) : Array Value → State → Prop := fun a U => a = (av.map (jv G)).toArray ∧ jRel G H U U.heap ∧ jNw U
def JMet (l : Launch) (y : MethodName) (b : ByteArray) (mi : jM) {α : Type} (emb : α → Option Value) (av : List Value) (H : jH) (o : Option (α × jH)) : Prop :=
  ∀ (r : α) (H' : jH), o = some (r, H') → (jn H ≤ jn H' ∧ js H ≤ js H') ∧ ∀ G : jG,
    Met l y (.code y b mi.2.2.1 mi.2.2.2.2.1 :: jws) (jroom mi.2.2.2.2.2.2.1 (jn H' - jn H) (js H' - js H) mi.2.2.2.2.2.2.2) (jPc G av H) (jQ G (emb r) H') (jn H' - jn H) (js H' - js H) (jA G)
theorem jrel_calling {G : jG} {H : jH} {U : State} {Hr : Heap} (g : JFrame) (mk : MethodId) (a : Array Value) (h : jRel G H U Hr) : jRel G H (U.calling g mk a) Hr := jrel_moved (u := U) (U := U.calling g mk a) (Vm.Alike.refl U.vm) h
theorem jNw_same {u U : State} (h : u.vm = U.vm) (hn : jNw u) : jNw U := by
  obtain ⟨h1, h2, h3, h4⟩ := hn
  exact ⟨fun q hq => (h1 q hq).same rfl h, fun q hq => (h2 q hq).same rfl h, ⟨fun q hq => (h3.1 q hq).moved (h ▸ Vm.Alike.refl u.vm), jAOA_moved (h ▸ Vm.Alike.refl u.vm) h3.2.1, jAOA_moved (h ▸ Vm.Alike.refl u.vm) h3.2.2.1, jAOA_moved (h ▸ Vm.Alike.refl u.vm) h3.2.2.2⟩, h4.same rfl h⟩
theorem jblind (G : jG) (av : List Value) (H : jH) : FrameBlind (jPc G av H) := by
  intro a U g mk h
  obtain ⟨h1, h2, h3⟩ := h
  exact ⟨h1, jrel_calling g mk a h2, jNw_same rfl h3⟩
theorem jargs_eq (G : jG) : ∀ (vs : List Value) (i : Nat), lv_args i (vs.map (jv G)) = (lv_args i vs).map (fun q => (q.1, jv G q.2))
  | [], _ => rfl
  | v :: vs, i => by
    simp only [List.map_cons, lv_args, jv_cat, jargs_eq G vs]
theorem jsl_len (G : jG) : ∀ (vs : List Value), (lg_sl (vs.map (jv G))).length = (lg_sl vs).length := by
  intro vs
  induction vs with
  | nil => rfl
  | cons v vs ih =>
    simp only [lg_sl, List.map_cons, List.flatMap_cons, List.length_append] at ih ⊢
    rw [ih, jv_cat]
    split <;> rfl
theorem jlookup_map (f : Value → Value) : ∀ (ls : List (Nat × Value)) (i : Nat) (v : Value), ls.lookup i = some v → (i, f v) ∈ ls.map (fun q => (q.1, f q.2)) := fun ls i v h => List.mem_map.mpr ⟨(i, v), jmem_lookup h, rfl⟩
/-- a method's contract out of its walk -/
theorem jmet_of {l : Launch} {y : MethodName} {b : ByteArray} {mi : jM} {α : Type} {emb : α → Option Value} {av : List Value} {H : jH} {o : Option (α × jH)} (hb : jn_is b mi.1 mi.2.1) (hp : plainName y.cls = true)
    (hy : y.cls = mi.2.2.2.1 ∧ y.name = mi.2.2.2.2.2.1) (hl : (lg_sl av).length ≤ mi.2.2.1) (h : JV l mi emb 0 (lv_args 0 av) [] H o) : JMet l y b mi emb av H o := by
  intro r H' ho
  obtain ⟨hm, hw⟩ := h r H' ho
  refine ⟨hm, fun G => ?_⟩
  refine Met.ofW (cc := b) (maxL := mi.2.2.1) (ret := mi.2.2.2.2.1) hp rfl ?_
  intro p e s m args below meth c s₁ B hml hv
  obtain ⟨rfl, hR, hNw⟩ := hv
  have hx := B.exec
  have hbb := B.bytes
  have hr := B.returns
  have hts := atoms_spec (ws := .code y b mi.2.2.1 mi.2.2.2.2.1 :: jws) B.pre
  have hown : s.vm.findClass y.cls = some m.cls := findClass_of_methodNamed B.named
  have hlocks := B.notSynchronized
  have hin : meth.name = y.name := (name_of_methodNamed B.named B.method).1
  have hc : jC mi ((p, l, e, s), (m, (av.map (jv G)).toArray, below, meth, c), G, H) := by
    refine ⟨hx, ?_, hml, ?_, hr, ?_, hlocks, fun w hw => hts w (List.mem_cons_of_mem _ hw), hR, hNw⟩
    · show jn_is c.code _ _
      rw [hbb]
      exact hb
    · rw [← hy.1]; exact hown
    · rw [← hy.2]; exact hin
  have hent := lv_entry (av.map (jv G)) (n := mi.2.2.1) (by rw [jsl_len]; exact hl)
  rw [lg_entry_eq]
  generalize (lg_sl (av.map (jv G)) ++ List.replicate (mi.2.2.1 - (lg_sl (av.map (jv G))).length) Slot.unset).toArray = ls at hent ⊢
  have hW := hw ((p, l, e, s), (m, (av.map (jv G)).toArray, below, meth, c), G, H) hc rfl (Nat.le_refl _) (Nat.le_refl _) s.heap ls [] hR va_S.rf ⟨hent.1, hent.2.1, fun i v hi => hent.2.2 (i, jv G v) (by rw [jargs_eq]; exact jlookup_map (jv G) _ i v hi)⟩
  refine W.cs (cells' := jn H - jn H) (slots' := js H - js H) (Nat.sub_self _).symm (Nat.sub_self _).symm ?_
  exact hW
