def jnf : FieldType → Bool
  | .float => false
  | .double => false
  | _ => true
def jcok (ci : Nat) (C : String) (T : u_T) (N : Nat) (Y : Nat → FieldType) : Prop :=
  jcl[ci]? = some (C, T, N) ∧ (∀ w ∈ u_ws C T N, w ∈ jws) ∧ (∀ k, k < N → parseFieldDescriptor (T k).2.2.1 = some (Y k)) ∧ (∀ a, a < N → ∀ b, b < N → a ≠ b → (T a).2.1 ≠ (T b).2.1) ∧ (∀ k, k < N → (T k).1 = C) ∧ ∀ k, k < N → jnf (Y k) = true
theorem jfd_ok {ci : Nat} {C : String} {T : u_T} {N k : Nat} {Y : Nat → FieldType} (h : jcok ci C T N Y) (hk : k < N) : jfd (T k).2.2.1 = jkd (Y k) := by
  unfold jfd
  rw [h.2.2.1 k hk]
theorem jrv_own {G : jG} {o : Nat} (h : jF0 ≤ o) : jrv G o = .ref (jad G o) := if_neg (by unfold jF0 at h; omega)
/-- one object as a world of the kit's -/
def jfs (G : jG) (H : jH) (o N : Nat) (T : u_T) : List Value := (List.range N).map (fun k => jcv G H o k (jfd (T k).2.2.1))
theorem jfs_get {G : jG} {H : jH} {o N k : Nat} {T : u_T} (h : k < N) : (jfs G H o N T)[k]? = some (jcv G H o k (jfd (T k).2.2.1)) := by
  unfold jfs
  rw [List.getElem?_map, List.getElem?_range h]
  rfl
theorem jworld {G : jG} {H : jH} {U : State} {Hr : Heap} {o ci : Nat} {C : String} {T : u_T} {N : Nat} (hR : jRel G H U Hr) (ht : (jK H o).1 = ci) (hq : jcl[ci]? = some (C, T, N)) : va_P G.2.2.1 jcl [(jad G o, .inr (ci, jfs G H o N T))] Hr := by
  intro k q hk
  have hk0 : k < 1 := (List.getElem?_eq_some_iff.mp hk).1
  have : k = 0 := by omega
  subst this
  cases hk
  refine ⟨_, hq, ?_⟩
  refine (jrel_obj hR ht hq).2.2.to fun k hk => ?_
  show _ = (jfs G H o N T).getD k .null
  rw [List.getD_eq_getElem?_getD, jfs_get hk]
  rfl
section JH
variable {p : Program} {l : Launch} {e : Env} {R : Room} {s : State} {m : MethodId} {args : Array Value} {below : List Frame} {meth : Method} {c : Code} {Hr : Heap} {locs : List Loc} {cells slots : Nat} {Q : State → Prop}
variable {pc : Nat} {la : Array Slot} {rest : List Value} {G : jG} {H : jH} {o i ci N k : Nat} {C own host : String} {T : u_T} {Y : Nat → FieldType}
theorem jget_core (hx : p.tables.exec = Jvm.exec) (hts : ∀ w ∈ jws, w.before args s = true) (hown : s.vm.findClass own = some m.cls) (hok : jcok ci C T N Y) (hR : jRel G H s Hr) (ht : (jK H o).1 = ci) (hk : k < N) (hl : (Cond.fieldLink own i C (T k).2.1 (T k).2.2.1).before args s = true)
    (hd : decode c.code pc = .ok (.getfield i, 3)) (kk : W p l e R s m args below meth c Hr locs cells slots Q (F0 m (pc + 3) la (jcv G H o k (jkd (Y k)) :: rest))) : W p l e R s m args below meth c Hr locs cells slots Q (F0 m pc la (jrv G o :: rest)) := by
  rw [jrv_own (jrel_obj hR ht hok.1).1]
  refine va_get (D := G.2.2.1) (ci := ci) (C := C) (T := T) (N := N) hx rfl hts hok.2.1 hown hR.2.2.2.2.1 (jworld hR ht hok.1) 0 rfl hok.1 k hk hl (fun x h => by rw [hok.2.2.2.2.1 k hk] at h; exact h) (jfs_get hk) hd ?_
  rw [jfd_ok hok hk]
  exact kk
theorem jgetN_core (hx : p.tables.exec = Jvm.exec) (hts : ∀ w ∈ jws, w.before args s = true) (hown : s.vm.findClass own = some m.cls) (hok : jcok ci C T N Y) (hR : jRel G H s Hr) (ht : (jK H o).1 = ci) (hk : k < N) (hl : (Cond.fieldLinkNest own i C (T k).2.1 (T k).2.2.1 host).before args s = true)
    (hd : decode c.code pc = .ok (.getfield i, 3)) (kk : W p l e R s m args below meth c Hr locs cells slots Q (F0 m (pc + 3) la (jcv G H o k (jkd (Y k)) :: rest))) : W p l e R s m args below meth c Hr locs cells slots Q (F0 m pc la (jrv G o :: rest)) := by
  rw [jrv_own (jrel_obj hR ht hok.1).1]
  refine va_getN (D := G.2.2.1) (ci := ci) (C := C) (T := T) (N := N) hx rfl hts hok.2.1 hown hR.2.2.2.2.1 (jworld hR ht hok.1) 0 rfl hok.1 k hk hl (fun x h => by rw [hok.2.2.2.2.1 k hk] at h; exact h) (jfs_get hk) hd ?_
  rw [jfd_ok hok hk]
  exact kk
/-- a field's new value: the object as it is then -/
def jput1 (G : jG) (H H2 : jH) (o k : Nat) (v : Value) (kd : Nat) : Prop := jK H2 = jK H ∧ jn H2 = jn H ∧ (∀ a, a ≠ o → ∀ j, jI H2 a j = jI H a j ∧ jL H2 a j = jL H a j ∧ jR H2 a j = jR H a j ∧ jB H2 a j = jB H a j) ∧ (∀ j kd', j ≠ k → jcv G H2 o j kd' = jcv G H o j kd') ∧ jcv G H2 o k kd = v
theorem jput_rel {U : State} {Hr H' : Heap} {H2 : jH} {v : Value} {cell : Cell} (hts : ∀ w ∈ jws, w.before args s = true) (hok : jcok ci C T N Y) (hR : jRel G H s Hr) (ht : (jK H o).1 = ci) (hk : k < N)
    (h2 : jput1 G H H2 o k v (jkd (Y k))) (q1 : Hr[jad G o]? = some cell) (q2 : cell.cls = G.2.2.1.1 ci) (q3 : cell.vm = .none) (q4 : ∀ k, k < N → cell.slots[G.2.2.1.2 ci k]? = some (jcv G H o k (jfd (T k).2.2.1)))
    (e1 : H'[jad G o]? = some (cell.setSlot (G.2.2.1.2 ci k) v)) (e2 : H'.size = Hr.size) (e3 : ∀ q, q ≠ jad G o → H'[q]? = Hr[q]?) : jRel G H2 s H' := by
  obtain ⟨a1, a2, a3, a4, a5⟩ := h2
  have hap := va_apart (own := C) hts hok.2.1 Y hok.2.2.1 hok.2.2.2.1 hR.2.2.2.2.1 hok.1
  obtain ⟨g1, g2, g3⟩ := jrel_obj hR ht hok.1
  refine jrel_upd hR g1 e2 e3 a1 a2 a3 (Or.inl ⟨(C, T, N), ?_, ?_, ?_⟩)
  · rw [a1, ht]; exact hok.1
  · rw [a1]; exact g2
  · rw [a1, ht]
    refine t_OB.to (V := updV (fun k => jcv G H o k (jfd (T k).2.2.1)) k v) ⟨_, e1, q2, q3, t_set q4 hap hk v⟩ fun j hj => ?_
    unfold updV
    split
    · rename_i hjk
      subst hjk
      show v = jcv G H2 o j (jfd (T j).2.2.1)
      rw [jfd_ok hok hj, a5]
    · rename_i hjk
      exact (a4 j _ hjk).symm
theorem jput_core {H2 : jH} {v : Value} (hx : p.tables.exec = Jvm.exec) (hts : ∀ w ∈ jws, w.before args s = true) (hown : s.vm.findClass own = some m.cls) (hok : jcok ci C T N Y) (hR : jRel G H s Hr) (hS : va_S (jA G) s.heap Hr locs) (ht : (jK H o).1 = ci) (hk : k < N) (hl : (Cond.fieldLink own i C (T k).2.1 (T k).2.2.1).before args s = true)
    (hfin : (T k).2.2.2 = false ∨ ((T k).2.2.2 = true ∧ meth.name = "<init>" ∧ C = own)) (hn : narrow (Y k) v = v) (hfit : fits (Y k) v = true) (h2 : jput1 G H H2 o k v (jkd (Y k)))
    (hd : decode c.code pc = .ok (.putfield i, 3)) (kk : ∀ (H' : Heap) (locs1 : List Loc), jRel G H2 s H' → va_S (jA G) s.heap H' locs1 → W p l e R s m args below meth c H' locs1 cells slots Q (F0 m (pc + 3) la rest)) : W p l e R s m args below meth c Hr locs cells slots Q (F0 m pc la (v :: jrv G o :: rest)) := by
  obtain ⟨g1, g2, cell, q1, q2, q3, q4⟩ := jrel_obj hR ht hok.1
  rw [jrv_own g1]
  obtain ⟨hSl, hfc, kC, hkC, hkind⟩ := hR.2.2.2.2.1.1 ci _ hok.1
  obtain ⟨cf, kf, fi, f, hi, hsl⟩ := hSl k hk
  have hi2 : s.fieldFound? C (T k).2.1 (T k).2.2.1 = some (cf, kf, fi, f) := by
    have h9 := hi
    simp only at h9
    rw [hok.2.2.2.2.1 k hk] at h9
    exact h9
  have hlay := hts _ (hok.2.1 _ (u_in_lay hk))
  have hst := (u_facts hfc hkC (u_lays hts hok.2.1 hk) hi).1
  rcases hfin with hfin | ⟨hfin, hini, hC⟩
  · unfold u_lay at hlay
    rw [if_neg (by rw [hfin]; decide)] at hlay
    have h6 := u_store hfc hkC hkind hlay hi (hok.2.2.1 k hk) hn hfit
    refine W.putK hx rfl (f := f) ⟨hown, hl, ⟨_, _, _, hi2⟩, hst⟩ (by rw [q2]; exact h6) q1 q3 (by rw [hsl]; exact k2_hasslot (q4 k hk)) rfl rfl hd fun H' e1 e2 e3 => ?_
    rw [hsl] at e1 ⊢
    exact kk H' _ (jput_rel (U := s) hts hok hR ht hk h2 q1 q2 q3 q4 e1 e2 e3) (hS.put e2 e3 (jad_A g1))
  · unfold u_lay at hlay
    rw [if_pos hfin] at hlay
    have hcf : m.cls = cf := by
      obtain ⟨_, _, c', _, _, _, -, -, hf', -, -, -, hown2, -⟩ := Cond.laysFinal_spec hlay
      have e1 : c' = cf := by have := hi.symm.trans hf'; simp at this; exact this.1.symm
      rw [hok.2.2.2.2.1 k hk, hC] at hown2
      rw [← e1]; exact Option.some.inj (hown.symm.trans hown2)
    have h6 := u_fits hfc hkC hkind (Or.inr hlay) hi (hok.2.2.1 k hk) hn hfit
    refine W.putFinK hx rfl hown hl hi2 hst hcf hini (by rw [q2]; exact h6) q1 q3 (by rw [hsl]; exact k2_hasslot (q4 k hk)) rfl rfl hd fun H' e1 e2 e3 => ?_
    rw [hsl] at e1 ⊢
    exact kk H' _ (jput_rel (U := s) hts hok hR ht hk h2 q1 q2 q3 q4 e1 e2 e3) (hS.put e2 e3 (jad_A g1))
theorem jputN_core {H2 : jH} {v : Value} (hx : p.tables.exec = Jvm.exec) (hts : ∀ w ∈ jws, w.before args s = true) (hown : s.vm.findClass own = some m.cls) (hok : jcok ci C T N Y) (hR : jRel G H s Hr) (hS : va_S (jA G) s.heap Hr locs) (ht : (jK H o).1 = ci) (hk : k < N) (hl : (Cond.fieldLinkNest own i C (T k).2.1 (T k).2.2.1 host).before args s = true)
    (hfin : (T k).2.2.2 = false) (hn : narrow (Y k) v = v) (hfit : fits (Y k) v = true) (h2 : jput1 G H H2 o k v (jkd (Y k)))
    (hd : decode c.code pc = .ok (.putfield i, 3)) (kk : ∀ (H' : Heap) (locs1 : List Loc), jRel G H2 s H' → va_S (jA G) s.heap H' locs1 → W p l e R s m args below meth c H' locs1 cells slots Q (F0 m (pc + 3) la rest)) : W p l e R s m args below meth c Hr locs cells slots Q (F0 m pc la (v :: jrv G o :: rest)) := by
  obtain ⟨g1, g2, cell, q1, q2, q3, q4⟩ := jrel_obj hR ht hok.1
  rw [jrv_own g1]
  obtain ⟨hSl, hfc, kC, hkC, hkind⟩ := hR.2.2.2.2.1.1 ci _ hok.1
  obtain ⟨cf, kf, fi, f, hi, hsl⟩ := hSl k hk
  have hi2 : s.fieldFound? C (T k).2.1 (T k).2.2.1 = some (cf, kf, fi, f) := by
    have h9 := hi
    simp only at h9
    rw [hok.2.2.2.2.1 k hk] at h9
    exact h9
  have hlay := hts _ (hok.2.1 _ (u_in_lay hk))
  have hst := (u_facts hfc hkC (u_lays hts hok.2.1 hk) hi).1
  unfold u_lay at hlay
  rw [if_neg (by rw [hfin]; decide)] at hlay
  have h6 := u_store hfc hkC hkind hlay hi (hok.2.2.1 k hk) hn hfit
  refine va_WputK hx rfl (f := f) hown hl hi2 hst (by rw [q2]; exact h6) q1 q3 (by rw [hsl]; exact k2_hasslot (q4 k hk)) rfl rfl hd fun H' e1 e2 e3 => ?_
  rw [hsl] at e1 ⊢
  exact kk H' _ (jput_rel (U := s) hts hok hR ht hk h2 q1 q2 q3 q4 e1 e2 e3) (hS.put e2 e3 (jad_A g1))
/-- what an array's read finds -/
theorem jread {U : State} {a t : Nat} {i : Int32} (hR : jRel G H U Hr) (ht : (jK H a).1 = t) (hm : t ∈ jtags) (hin : jin i (jK H a).2) : a ≠ 0 ∧ ∃ cell : Cell, Hr[jad G a]? = some cell ∧ U.isArrayOf cell (jty t) ∧ cell.vm ≠ .unknown ∧ ¬ (i < 0 ∨ cell.slots.size ≤ i.toNatClampNeg) ∧ cell.slots[i.toNatClampNeg]? = some (jcv G H a i.toNatClampNeg (jkd (jty t))) := by
  have hge := jtag_ge hm
  have ha0 : a ≠ 0 := fun e => by rw [e, hR.2.2.2.1] at ht; omega
  refine ⟨ha0, ?_⟩
  obtain ⟨s1, s2, s3⟩ := hR.2.2.1 a (by omega)
  have hlt := jin_lt hin
  have hv := jin_vp hin
  by_cases ho : jF0 ≤ a
  · obtain ⟨-, h3⟩ := jrel_arr hR ht hm (Or.inl ho)
    exact ⟨_, h3, (jrel_ty hR hm).1 _ _, (fun h => by cases h), by rw [arrV_size]; exact hv, by rw [arrV_read _ _ hlt]⟩
  · obtain ⟨u1, cell, u2, u3, u4, u5, u6, u7, u8⟩ := s2 (Nat.not_le.mp ho)
    have : t = 100 := by omega
    subst this
    refine ⟨cell, ?_, u3, u4, fun h => hv (h.imp id fun q => Nat.le_trans u5 q), ?_⟩
    · rw [show jad G a = G.2.1 a from if_pos (Nat.not_le.mp ho)]; exact u2
    · exact u7 _ hlt
/-- an array's new element -/
theorem jstore_rel {H' : Heap} {H2 : jH} {a t : Nat} {i : Nat} {v : Value} (hR : jRel G H s Hr) (ht : (jK H a).1 = t) (hm : t ∈ jtags) (ho : jF0 ≤ a ∨ t ≠ 100) (h2 : jput1 G H H2 a i v (jkd (jty t)))
    (e1 : H'[jad G a]? = some ((arrV (G.2.2.2 t) (jK H a).2 (fun j => jcv G H a j (jkd (jty t)))).setSlot i v)) (e2 : H'.size = Hr.size) (e3 : ∀ q, q ≠ jad G a → H'[q]? = Hr[q]?) : jRel G H2 s H' := by
  obtain ⟨a1, a2, a3, a4, a5⟩ := h2
  have hge := jtag_ge hm
  obtain ⟨g1, -⟩ := jrel_arr hR ht hm ho
  refine jrel_upd hR g1 e2 e3 a1 a2 a3 (Or.inr ⟨?_, ?_, ?_⟩)
  · rw [a1, ht]; exact hm
  · rw [a1, ht]; exact jcl_none (by omega)
  · rw [a1, ht, e1, arrV_store]
    congr 2
    funext j
    unfold updV
    split
    · rename_i hj
      subst hj
      exact a5.symm
    · rename_i hj
      exact (a4 j _ hj).symm
theorem jput1_I {x : Int32} : jput1 G H (jsI H o k x) o k (.int x) 0 := by
  refine ⟨rfl, rfl, fun a ha j => ⟨if_neg fun q => ha q.1, rfl, rfl, rfl⟩, fun j kd hj => jcv_congr (if_neg fun q => hj q.2) rfl rfl rfl, ?_⟩
  show (if (0 : Nat) = 0 then Value.int (jI (jsI H o k x) o k) else _) = _
  rw [if_pos rfl]
  exact congrArg _ (if_pos ⟨rfl, rfl⟩)
theorem jput1_L {x : Int64} : jput1 G H (jsL H o k x) o k (.long x) 1 := by
  refine ⟨rfl, rfl, fun a ha j => ⟨rfl, if_neg fun q => ha q.1, rfl, rfl⟩, fun j kd hj => jcv_congr rfl (if_neg fun q => hj q.2) rfl rfl, ?_⟩
  show (if (1 : Nat) = 0 then _ else if (1 : Nat) = 1 then Value.long (jL (jsL H o k x) o k) else _) = _
  rw [if_neg (by decide), if_pos rfl]
  exact congrArg _ (if_pos ⟨rfl, rfl⟩)
theorem jput1_R {x : Nat} : jput1 G H (jsR H o k x) o k (jrv G x) 2 := by
  refine ⟨rfl, rfl, fun a ha j => ⟨rfl, rfl, if_neg fun q => ha q.1, rfl⟩, fun j kd hj => jcv_congr rfl rfl (if_neg fun q => hj q.2) rfl, ?_⟩
  show (if (2 : Nat) = 0 then _ else if (2 : Nat) = 1 then _ else if (2 : Nat) = 2 then jrv G (jR (jsR H o k x) o k) else _) = _
  rw [if_neg (by decide), if_neg (by decide), if_pos rfl]
  exact congrArg _ (if_pos ⟨rfl, rfl⟩)
theorem jput1_B {x : UInt8} : jput1 G H (jsB H o k x) o k (.int (jbs x)) 3 := by
  refine ⟨rfl, rfl, fun a ha j => ⟨rfl, rfl, rfl, if_neg fun q => ha q.1⟩, fun j kd hj => jcv_congr rfl rfl rfl (if_neg fun q => hj q.2), ?_⟩
  show (if (3 : Nat) = 0 then _ else if (3 : Nat) = 1 then _ else if (3 : Nat) = 2 then _ else Value.int (jbs (jB (jsB H o k x) o k))) = _
  rw [if_neg (by decide), if_neg (by decide), if_neg (by decide)]
  exact congrArg (fun u => Value.int (jbs u)) (if_pos ⟨rfl, rfl⟩)
theorem jbs_bu (x : Int32) : jbs (jbu x) = x.toInt8.toInt32 := rfl
end JH
