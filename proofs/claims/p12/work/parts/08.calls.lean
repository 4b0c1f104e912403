def jb {α β : Type} (o : Option (α × jH)) (k : α → jH → Option (β × jH)) : Option (β × jH) := match o with
  | some x => k x.1 x.2
  | none => none
theorem jb_some {α β : Type} {o : Option (α × jH)} {k : α → jH → Option (β × jH)} {r : β × jH} (h : jb o k = some r) : ∃ (x : α) (H1 : jH), o = some (x, H1) ∧ k x H1 = some r := by
  unfold jb at h
  split at h
  · rename_i x
    exact ⟨x.1, x.2, rfl, h⟩
  · cases h
def jmok (y : MethodName) (b : ByteArray) (mi : jM) (n : Nat) : Prop := Cond.code y b mi.2.2.1 mi.2.2.2.2.1 ∈ jws ∧ Cond.initialized y.cls ∈ jws ∧ (y.cls ≠ "java/lang/invoke/MethodHandle" ∧ y.cls ≠ "java/lang/invoke/VarHandle") ∧ (parseMethodDescriptor y.desc).map (fun d => d.parameters.length) = some n
theorem jgoodIn {y : MethodName} {b : ByteArray} {maxL : Nat} {ret : Option FieldType} (h : Cond.code y b maxL ret ∈ jws) : GoodIn jws (Cond.code y b maxL ret :: jws) := by
  intro w hw
  rcases List.mem_cons.mp hw with rfl | h2
  · exact ⟨h, good_of_word (jws_good _ h)⟩
  · exact ⟨h2, good_of_word (jws_good _ h2)⟩
theorem jcats (G : jG) (st : List Value) : ((st.map (jv G)).map fun v => v.category).sum = (st.map fun v => v.category).sum := by
  rw [List.map_map]
  congr 2
  funext v
  exact jv_cat _ v
section JC
variable {p : Program} {l : Launch} {e : Env} {R : Room} {s : State} {m : MethodId} {args : Array Value} {below : List Frame} {meth : Method} {c : Code} {Hr : Heap} {locs : List Loc} {cells slots : Nat} {Q : State → Prop}
variable {pc : Nat} {la : Array Slot} {rest st0 : List Value} {G : jG} {H1 : jH} {mc ms : Nat} {a : Array Value}
theorem jcall_core {v : Option Value} (hr : va_Run p l e R s m args below meth c Hr locs cells slots mc ms (F0 m pc la st0) rest (jQ G v H1 a) (jA G)) (hS : va_S (jA G) s.heap Hr locs)
    (kk : ∀ (Hr1 : Heap) (locs1 : List Loc), jRel G H1 s Hr1 → va_S (jA G) s.heap Hr1 locs1 → W p l e R s m args below meth c Hr1 locs1 (cells + mc) (slots + ms) Q (F0 m (pc + 3) la ((v.map (jv G)).toList ++ rest))) : W p l e R s m args below meth c Hr locs cells slots Q (F0 m pc la st0) := by
  intro T hT X
  obtain ⟨v', st₀, t, T', L, h0, X', hL, e1, e2, ⟨hv, hR1, hz, hk⟩, st⟩ := hr T hT X
  have hv' : v' = v.map (jv G) := Outcome.returned.inj hv
  subst hv'
  rw [h0] at hz hk
  have hal : s.vm.Alike t.vm := by rw [← e2]; exact X'.warmed.alike
  have hR2 : jRel G H1 s T'.heap := by
    rw [e1]
    exact jrel_moved hal.symm hR1
  obtain ⟨t2, a1, b1⟩ := kk T'.heap (locs ++ L) hR2 ⟨Nat.le_trans hS.1 (by rw [e1]; exact hz), fun q h1 h2 => by rw [e1, hk q (Nat.lt_of_lt_of_le h1 hS.1) h2]; exact hS.2.1 q h1 h2, fun q hq => by
      rcases List.mem_append.mp hq with h | h
      · exact hS.2.2 q h
      · exact hL q h⟩ T' rfl X'
  exact ⟨t2, st t2 a1, b1⟩
end JC
theorem s_182 {l : Launch} {mi : jM} {α : Type} {emb : α → Option Value} {pc : Nat} {ls : List (Nat × Value)} {st st0 : List Value} {H : jH} {α2 : Type} {emb2 : α2 → Option Value} {o1 : Option (α2 × jH)} {k0 : α2 → jH → Option (α × jH)} (b d q i : Nat) {y : MethodName} {b2 : ByteArray} {mi2 : jM} {n : Nat} {av : List Value} {o ci N : Nat} {T : u_T} {Y : Nat → FieldType} (hM : JMet l y b2 mi2 emb2 (.ref o :: av) H o1) (hs : st0 = av.reverse ++ .ref o :: st) (hk : jmok y b2 mi2 n) (hok : jcok ci y.cls T N Y) (hl0 : Cond.methodLink mi.2.2.2.1 i y ∈ jws) (hin : Cond.instanceMethod y ∈ jws) (hsel : Cond.selects y.cls y y ∈ jws) (hi : b * 256 + d = i) (hn : av.length = n) (hst : Nat.ble ((st.map fun v => v.category).sum) 8 = true) (hrm : jrm (mi2.2.2.2.2.2.2.1 + 1) mi.2.2.2.2.2.2.1 (8 + (mi2.2.2.1 + 11) + mi2.2.2.2.2.2.2.2) mi.2.2.2.2.2.2.2 = true) (hw : jx3 mi.1 mi.2.1 pc 182 b d q = true) (kk0 : ∀ x H1, JV l mi emb q ls ((emb2 x).toList ++ st) H1 (k0 x H1)) : JV l mi emb pc ls st0 H (jg ((jK H o).1 = ci) (jb o1 k0)) := by
  obtain ⟨hw1, rfl⟩ := jx3_spec hw
  subst hi
  subst hs
  intro r H' ho
  obtain ⟨hg, ho⟩ := jg_some ho
  obtain ⟨x, H1, ho1, ho2⟩ := jb_some ho
  obtain ⟨hm1, hMet⟩ := hM x H1 ho1
  obtain ⟨hm, kk⟩ := kk0 x H1 r H' ho2
  refine ⟨⟨by omega, by omega⟩, fun c hc e1 n1 n2 Hr la locs hR hS hl => ?_⟩
  subst e1
  obtain ⟨r1, r2⟩ := jrm_spec hrm
  have hMG := hMet c.2.2.1
  have hPc : ∀ U : State, U.heap = Hr → c.1.2.2.2.WarmedH U.vm → jPc c.2.2.1 (.ref o :: av) H ((.ref o :: av).map (jv c.2.2.1)).toArray U := fun U hU hW => ⟨rfl, by rw [hU]; exact jrel_moved hW.alike hR, jNw_warm hW hc.2.2.2.2.2.2.2.2.2⟩
  have hrest : 2 * (F0 c.2.1.1 pc la (jstk c.2.2.1 (av.reverse ++ .ref o :: st))).monitorRoom + ((st.map (jv c.2.2.1)).map fun v => v.category).sum ≤ 8 := by
    show 2 * 0 + _ ≤ 8
    rw [jcats, Nat.mul_zero, Nat.zero_add]
    exact Nat.le_of_ble_eq_true hst
  obtain ⟨g1, g2, cellB, q1, q2, q3, -⟩ := jrel_obj hR hg hok.1
  have hfc := (hR.2.2.2.2.1.1 ci _ hok.1).2.1
  rw [List.map_cons, jv_ref, jrv_own g1] at hPc
  refine jcall_core (v := emb2 x) (rest := st.map (jv c.2.2.1)) (va_runV (As := av.map (jv c.2.2.1)) (b := jad c.2.2.1 o) (C := y.cls) (n := n) ⟨hc.1, rfl, hc.2.2.1, hc.2.2.2.1, hc.2.2.2.2.2.2.2.1⟩ hMG ⟨callB_of (ws := Cond.code y b2 mi2.2.2.1 mi2.2.2.2.2.1 :: jws) n hc.2.2.2.2.2.2.2.1 (jgoodIn hk.1) rfl rfl rfl (hc.2.2.2.2.2.2.2.1 _ hk.2.1) (hc.2.2.2.2.2.2.2.1 _ hl0) ⟨hk.2.2.1.1, hk.2.2.1.2, hk.2.2.2⟩ ⟨r1, r2⟩, hc.2.2.2.2.2.2.2.1 _ hin, hc.2.2.2.2.2.2.2.1 _ hsel⟩ ⟨jblind _ _ _, ⟨cellB, q1, by rw [q3]; rfl, by rw [q2]; exact hfc⟩, hPc⟩ rfl (by rw [List.length_map]; exact hn) hl.1 (by unfold jstk; rw [List.map_append, List.map_reverse, List.map_cons, jv_ref, jrv_own g1]) hrest (jd_182 hc.2.1 hw1) ⟨by show jn H - jn c.2.2.2 + (jn H1 - jn H) ≤ jn H' - jn c.2.2.2; omega, by show js H - js c.2.2.2 + (js H1 - js H) ≤ js H' - js c.2.2.2; omega⟩) hS fun Hr1 locs1 hR1 hS1 => ?_
  have h9 := kk c hc rfl (by omega) (by omega) Hr1 la locs1 hR1 hS1 hl
  refine W.cs (cells' := jn H1 - jn c.2.2.2) (slots' := js H1 - js c.2.2.2) (by omega) (by omega) ?_
  have hst9 : jstk c.2.2.1 ((emb2 x).toList ++ st) = ((emb2 x).map (jv c.2.2.1)).toList ++ st.map (jv c.2.2.1) := by
    unfold jstk
    rw [List.map_append]
    cases emb2 x <;> rfl
  rw [hst9] at h9
  exact h9
theorem s_184 {l : Launch} {mi : jM} {α : Type} {emb : α → Option Value} {pc : Nat} {ls : List (Nat × Value)} {st st0 : List Value} {H : jH} {α2 : Type} {emb2 : α2 → Option Value} {o1 : Option (α2 × jH)} {k0 : α2 → jH → Option (α × jH)} (b d q i : Nat) {y : MethodName} {b2 : ByteArray} {mi2 : jM} {n : Nat} {av : List Value} (hM : JMet l y b2 mi2 emb2 av H o1) (hs : st0 = av.reverse ++ st) (hk : jmok y b2 mi2 n) (hl0 : Cond.methodLink mi.2.2.2.1 i y ∈ jws) (hin : Cond.static y ∈ jws) (hi : b * 256 + d = i) (hn : av.length = n) (hst : Nat.ble ((st.map fun v => v.category).sum) 8 = true) (hrm : jrm (mi2.2.2.2.2.2.2.1 + 1) mi.2.2.2.2.2.2.1 (8 + (mi2.2.2.1 + 11) + mi2.2.2.2.2.2.2.2) mi.2.2.2.2.2.2.2 = true) (hw : jx3 mi.1 mi.2.1 pc 184 b d q = true) (kk0 : ∀ x H1, JV l mi emb q ls ((emb2 x).toList ++ st) H1 (k0 x H1)) : JV l mi emb pc ls st0 H (jb o1 k0) := by
  obtain ⟨hw1, rfl⟩ := jx3_spec hw
  subst hi
  subst hs
  intro r H' ho
  skip
  obtain ⟨x, H1, ho1, ho2⟩ := jb_some ho
  obtain ⟨hm1, hMet⟩ := hM x H1 ho1
  obtain ⟨hm, kk⟩ := kk0 x H1 r H' ho2
  refine ⟨⟨by omega, by omega⟩, fun c hc e1 n1 n2 Hr la locs hR hS hl => ?_⟩
  subst e1
  obtain ⟨r1, r2⟩ := jrm_spec hrm
  have hMG := hMet c.2.2.1
  have hPc : ∀ U : State, U.heap = Hr → c.1.2.2.2.WarmedH U.vm → jPc c.2.2.1 (av) H ((av).map (jv c.2.2.1)).toArray U := fun U hU hW => ⟨rfl, by rw [hU]; exact jrel_moved hW.alike hR, jNw_warm hW hc.2.2.2.2.2.2.2.2.2⟩
  have hrest : 2 * (F0 c.2.1.1 pc la (jstk c.2.2.1 (av.reverse ++ st))).monitorRoom + ((st.map (jv c.2.2.1)).map fun v => v.category).sum ≤ 8 := by
    show 2 * 0 + _ ≤ 8
    rw [jcats, Nat.mul_zero, Nat.zero_add]
    exact Nat.le_of_ble_eq_true hst
  refine jcall_core (v := emb2 x) (rest := st.map (jv c.2.2.1)) (va_runS (As := av.map (jv c.2.2.1)) (n := n) ⟨hc.1, rfl, hc.2.2.1, hc.2.2.2.1, hc.2.2.2.2.2.2.2.1⟩ hMG ⟨callB_of (ws := Cond.code y b2 mi2.2.2.1 mi2.2.2.2.2.1 :: jws) n hc.2.2.2.2.2.2.2.1 (jgoodIn hk.1) rfl rfl rfl (hc.2.2.2.2.2.2.2.1 _ hk.2.1) (hc.2.2.2.2.2.2.2.1 _ hl0) ⟨hk.2.2.1.1, hk.2.2.1.2, hk.2.2.2⟩ ⟨r1, r2⟩, hc.2.2.2.2.2.2.2.1 _ hin⟩ ⟨jblind _ _ _, hPc⟩ rfl (by rw [List.length_map]; exact hn) hl.1 (by unfold jstk; rw [List.map_append, List.map_reverse]) hrest (jd_184 hc.2.1 hw1) ⟨by show jn H - jn c.2.2.2 + (jn H1 - jn H) ≤ jn H' - jn c.2.2.2; omega, by show js H - js c.2.2.2 + (js H1 - js H) ≤ js H' - js c.2.2.2; omega⟩) hS fun Hr1 locs1 hR1 hS1 => ?_
  have h9 := kk c hc rfl (by omega) (by omega) Hr1 la locs1 hR1 hS1 hl
  refine W.cs (cells' := jn H1 - jn c.2.2.2) (slots' := js H1 - js c.2.2.2) (by omega) (by omega) ?_
  have hst9 : jstk c.2.2.1 ((emb2 x).toList ++ st) = ((emb2 x).map (jv c.2.2.1)).toList ++ st.map (jv c.2.2.1) := by
    unfold jstk
    rw [List.map_append]
    cases emb2 x <;> rfl
  rw [hst9] at h9
  exact h9
theorem s_184N {l : Launch} {mi : jM} {α : Type} {emb : α → Option Value} {pc : Nat} {ls : List (Nat × Value)} {st st0 : List Value} {H : jH} {α2 : Type} {emb2 : α2 → Option Value} {o1 : Option (α2 × jH)} {k0 : α2 → jH → Option (α × jH)} (b d q i : Nat) {y : MethodName} {b2 : ByteArray} {mi2 : jM} {n : Nat} {av : List Value} {host : String} (hM : JMet l y b2 mi2 emb2 av H o1) (hs : st0 = av.reverse ++ st) (hk : jmok y b2 mi2 n) (hl0 : (mi.2.2.2.1, i, y, host) ∈ jnM) (hin : Cond.static y ∈ jws) (hi : b * 256 + d = i) (hn : av.length = n) (hst : Nat.ble ((st.map fun v => v.category).sum) 8 = true) (hrm : jrm (mi2.2.2.2.2.2.2.1 + 1) mi.2.2.2.2.2.2.1 (8 + (mi2.2.2.1 + 11) + mi2.2.2.2.2.2.2.2) mi.2.2.2.2.2.2.2 = true) (hw : jx3 mi.1 mi.2.1 pc 184 b d q = true) (kk0 : ∀ x H1, JV l mi emb q ls ((emb2 x).toList ++ st) H1 (k0 x H1)) : JV l mi emb pc ls st0 H (jb o1 k0) := by
  obtain ⟨hw1, rfl⟩ := jx3_spec hw
  subst hi
  subst hs
  intro r H' ho
  skip
  obtain ⟨x, H1, ho1, ho2⟩ := jb_some ho
  obtain ⟨hm1, hMet⟩ := hM x H1 ho1
  obtain ⟨hm, kk⟩ := kk0 x H1 r H' ho2
  refine ⟨⟨by omega, by omega⟩, fun c hc e1 n1 n2 Hr la locs hR hS hl => ?_⟩
  subst e1
  obtain ⟨r1, r2⟩ := jrm_spec hrm
  have hMG := hMet c.2.2.1
  have hPc : ∀ U : State, U.heap = Hr → c.1.2.2.2.WarmedH U.vm → jPc c.2.2.1 (av) H ((av).map (jv c.2.2.1)).toArray U := fun U hU hW => ⟨rfl, by rw [hU]; exact jrel_moved hW.alike hR, jNw_warm hW hc.2.2.2.2.2.2.2.2.2⟩
  have hrest : 2 * (F0 c.2.1.1 pc la (jstk c.2.2.1 (av.reverse ++ st))).monitorRoom + ((st.map (jv c.2.2.1)).map fun v => v.category).sum ≤ 8 := by
    show 2 * 0 + _ ≤ 8
    rw [jcats, Nat.mul_zero, Nat.zero_add]
    exact Nat.le_of_ble_eq_true hst
  refine jcall_core (v := emb2 x) (rest := st.map (jv c.2.2.1)) (va_runSN (As := av.map (jv c.2.2.1)) (n := n) ⟨hc.1, rfl, hc.2.2.1, hc.2.2.2.1, hc.2.2.2.2.2.2.2.1⟩ hMG ⟨va_cnB (ws := Cond.code y b2 mi2.2.2.1 mi2.2.2.2.2.1 :: jws) n hc.2.2.2.2.2.2.2.1 (jgoodIn hk.1) rfl rfl rfl (hc.2.2.2.2.2.2.2.2.2.2.1 _ hl0) (hc.2.2.2.2.2.2.2.1 _ hk.2.1) ⟨hk.2.2.1.1, hk.2.2.1.2, hk.2.2.2⟩ ⟨r1, r2⟩, hc.2.2.2.2.2.2.2.1 _ hin, trivial⟩ ⟨jblind _ _ _, hPc⟩ rfl (by rw [List.length_map]; exact hn) hl.1 (by unfold jstk; rw [List.map_append, List.map_reverse]) hrest (jd_184 hc.2.1 hw1) ⟨by show jn H - jn c.2.2.2 + (jn H1 - jn H) ≤ jn H' - jn c.2.2.2; omega, by show js H - js c.2.2.2 + (js H1 - js H) ≤ js H' - js c.2.2.2; omega⟩) hS fun Hr1 locs1 hR1 hS1 => ?_
  have h9 := kk c hc rfl (by omega) (by omega) Hr1 la locs1 hR1 hS1 hl
  refine W.cs (cells' := jn H1 - jn c.2.2.2) (slots' := js H1 - js c.2.2.2) (by omega) (by omega) ?_
  have hst9 : jstk c.2.2.1 ((emb2 x).toList ++ st) = ((emb2 x).map (jv c.2.2.1)).toList ++ st.map (jv c.2.2.1) := by
    unfold jstk
    rw [List.map_append]
    cases emb2 x <;> rfl
  rw [hst9] at h9
  exact h9
theorem s_183 {l : Launch} {mi : jM} {α : Type} {emb : α → Option Value} {pc : Nat} {ls : List (Nat × Value)} {st st0 : List Value} {H : jH} {α2 : Type} {emb2 : α2 → Option Value} {o1 : Option (α2 × jH)} {k0 : α2 → jH → Option (α × jH)} (b d q i : Nat) {y : MethodName} {b2 : ByteArray} {mi2 : jM} {n : Nat} {av : List Value} {o : Nat} (hM : JMet l y b2 mi2 emb2 (.ref o :: av) H o1) (hs : st0 = av.reverse ++ .ref o :: st) (hk : jmok y b2 mi2 n) (hret : mi2.2.2.2.2.1 = none) (hy1 : y.name = "<init>") (hl0 : Cond.methodLink mi.2.2.2.1 i y ∈ jws) (hin : Cond.instanceMethod y ∈ jws) (hi : b * 256 + d = i) (hn : av.length = n) (hst : Nat.ble ((st.map fun v => v.category).sum) 8 = true) (hrm : jrm (mi2.2.2.2.2.2.2.1 + 1) mi.2.2.2.2.2.2.1 (8 + (mi2.2.2.1 + 11) + mi2.2.2.2.2.2.2.2) mi.2.2.2.2.2.2.2 = true) (hw : jx3 mi.1 mi.2.1 pc 183 b d q = true) (kk0 : ∀ x H1, JV l mi emb q ls ((emb2 x).toList ++ st) H1 (k0 x H1)) : JV l mi emb pc ls st0 H (jg (jF0 ≤ o) (jb o1 k0)) := by
  obtain ⟨hw1, rfl⟩ := jx3_spec hw
  subst hi
  subst hs
  intro r H' ho
  obtain ⟨hg, ho⟩ := jg_some ho
  obtain ⟨x, H1, ho1, ho2⟩ := jb_some ho
  obtain ⟨hm1, hMet⟩ := hM x H1 ho1
  obtain ⟨hm, kk⟩ := kk0 x H1 r H' ho2
  refine ⟨⟨by omega, by omega⟩, fun c hc e1 n1 n2 Hr la locs hR hS hl => ?_⟩
  subst e1
  obtain ⟨r1, r2⟩ := jrm_spec hrm
  have hMG := hMet c.2.2.1
  have hPc : ∀ U : State, U.heap = Hr → c.1.2.2.2.WarmedH U.vm → jPc c.2.2.1 (.ref o :: av) H ((.ref o :: av).map (jv c.2.2.1)).toArray U := fun U hU hW => ⟨rfl, by rw [hU]; exact jrel_moved hW.alike hR, jNw_warm hW hc.2.2.2.2.2.2.2.2.2⟩
  have hrest : 2 * (F0 c.2.1.1 pc la (jstk c.2.2.1 (av.reverse ++ .ref o :: st))).monitorRoom + ((st.map (jv c.2.2.1)).map fun v => v.category).sum ≤ 8 := by
    show 2 * 0 + _ ≤ 8
    rw [jcats, Nat.mul_zero, Nat.zero_add]
    exact Nat.le_of_ble_eq_true hst
  rw [List.map_cons, jv_ref, jrv_own hg] at hPc
  rw [hret] at hMG
  refine jcall_core (v := emb2 x) (rest := st.map (jv c.2.2.1)) (va_runI (As := av.map (jv c.2.2.1)) (b := jad c.2.2.1 o) (n := n) ⟨hc.1, rfl, hc.2.2.1, hc.2.2.2.1, hc.2.2.2.2.2.2.2.1⟩ hMG ⟨callB_of (ws := Cond.code y b2 mi2.2.2.1 none :: jws) n hc.2.2.2.2.2.2.2.1 (jgoodIn (hret ▸ hk.1)) rfl rfl rfl (hc.2.2.2.2.2.2.2.1 _ hk.2.1) (hc.2.2.2.2.2.2.2.1 _ hl0) ⟨hk.2.2.1.1, hk.2.2.1.2, hk.2.2.2⟩ ⟨r1, r2⟩, hy1, hc.2.2.2.2.2.2.2.1 _ hin⟩ ⟨jblind _ _ _, hPc⟩ rfl (by rw [List.length_map]; exact hn) hl.1 (by unfold jstk; rw [List.map_append, List.map_reverse, List.map_cons, jv_ref, jrv_own hg]) hrest (jd_183 hc.2.1 hw1) ⟨by show jn H - jn c.2.2.2 + (jn H1 - jn H) ≤ jn H' - jn c.2.2.2; omega, by show js H - js c.2.2.2 + (js H1 - js H) ≤ js H' - js c.2.2.2; omega⟩) hS fun Hr1 locs1 hR1 hS1 => ?_
  have h9 := kk c hc rfl (by omega) (by omega) Hr1 la locs1 hR1 hS1 hl
  refine W.cs (cells' := jn H1 - jn c.2.2.2) (slots' := js H1 - js c.2.2.2) (by omega) (by omega) ?_
  have hst9 : jstk c.2.2.1 ((emb2 x).toList ++ st) = ((emb2 x).map (jv c.2.2.1)).toList ++ st.map (jv c.2.2.1) := by
    unfold jstk
    rw [List.map_append]
    cases emb2 x <;> rfl
  rw [hst9] at h9
  exact h9
theorem s_183N {l : Launch} {mi : jM} {α : Type} {emb : α → Option Value} {pc : Nat} {ls : List (Nat × Value)} {st st0 : List Value} {H : jH} {α2 : Type} {emb2 : α2 → Option Value} {o1 : Option (α2 × jH)} {k0 : α2 → jH → Option (α × jH)} (b d q i : Nat) {y : MethodName} {b2 : ByteArray} {mi2 : jM} {n : Nat} {av : List Value} {o : Nat} {host : String} (hM : JMet l y b2 mi2 emb2 (.ref o :: av) H o1) (hs : st0 = av.reverse ++ .ref o :: st) (hk : jmok y b2 mi2 n) (hret : mi2.2.2.2.2.1 = none) (hy1 : y.name = "<init>") (hl0 : (mi.2.2.2.1, i, y, host) ∈ jnM) (hin : Cond.instanceMethod y ∈ jws) (hi : b * 256 + d = i) (hn : av.length = n) (hst : Nat.ble ((st.map fun v => v.category).sum) 8 = true) (hrm : jrm (mi2.2.2.2.2.2.2.1 + 1) mi.2.2.2.2.2.2.1 (8 + (mi2.2.2.1 + 11) + mi2.2.2.2.2.2.2.2) mi.2.2.2.2.2.2.2 = true) (hw : jx3 mi.1 mi.2.1 pc 183 b d q = true) (kk0 : ∀ x H1, JV l mi emb q ls ((emb2 x).toList ++ st) H1 (k0 x H1)) : JV l mi emb pc ls st0 H (jg (jF0 ≤ o) (jb o1 k0)) := by
  obtain ⟨hw1, rfl⟩ := jx3_spec hw
  subst hi
  subst hs
  intro r H' ho
  obtain ⟨hg, ho⟩ := jg_some ho
  obtain ⟨x, H1, ho1, ho2⟩ := jb_some ho
  obtain ⟨hm1, hMet⟩ := hM x H1 ho1
  obtain ⟨hm, kk⟩ := kk0 x H1 r H' ho2
  refine ⟨⟨by omega, by omega⟩, fun c hc e1 n1 n2 Hr la locs hR hS hl => ?_⟩
  subst e1
  obtain ⟨r1, r2⟩ := jrm_spec hrm
  have hMG := hMet c.2.2.1
  have hPc : ∀ U : State, U.heap = Hr → c.1.2.2.2.WarmedH U.vm → jPc c.2.2.1 (.ref o :: av) H ((.ref o :: av).map (jv c.2.2.1)).toArray U := fun U hU hW => ⟨rfl, by rw [hU]; exact jrel_moved hW.alike hR, jNw_warm hW hc.2.2.2.2.2.2.2.2.2⟩
  have hrest : 2 * (F0 c.2.1.1 pc la (jstk c.2.2.1 (av.reverse ++ .ref o :: st))).monitorRoom + ((st.map (jv c.2.2.1)).map fun v => v.category).sum ≤ 8 := by
    show 2 * 0 + _ ≤ 8
    rw [jcats, Nat.mul_zero, Nat.zero_add]
    exact Nat.le_of_ble_eq_true hst
  rw [List.map_cons, jv_ref, jrv_own hg] at hPc
  rw [hret] at hMG
  refine jcall_core (v := emb2 x) (rest := st.map (jv c.2.2.1)) (va_runIN (As := av.map (jv c.2.2.1)) (b := jad c.2.2.1 o) (n := n) ⟨hc.1, rfl, hc.2.2.1, hc.2.2.2.1, hc.2.2.2.2.2.2.2.1⟩ hMG ⟨va_cnB (ws := Cond.code y b2 mi2.2.2.1 none :: jws) n hc.2.2.2.2.2.2.2.1 (jgoodIn (hret ▸ hk.1)) rfl rfl rfl (hc.2.2.2.2.2.2.2.2.2.2.1 _ hl0) (hc.2.2.2.2.2.2.2.1 _ hk.2.1) ⟨hk.2.2.1.1, hk.2.2.1.2, hk.2.2.2⟩ ⟨r1, r2⟩, hy1, hc.2.2.2.2.2.2.2.1 _ hin⟩ ⟨jblind _ _ _, hPc⟩ rfl (by rw [List.length_map]; exact hn) hl.1 (by unfold jstk; rw [List.map_append, List.map_reverse, List.map_cons, jv_ref, jrv_own hg]) hrest (jd_183 hc.2.1 hw1) ⟨by show jn H - jn c.2.2.2 + (jn H1 - jn H) ≤ jn H' - jn c.2.2.2; omega, by show js H - js c.2.2.2 + (js H1 - js H) ≤ js H' - js c.2.2.2; omega⟩) hS fun Hr1 locs1 hR1 hS1 => ?_
  have h9 := kk c hc rfl (by omega) (by omega) Hr1 la locs1 hR1 hS1 hl
  refine W.cs (cells' := jn H1 - jn c.2.2.2) (slots' := js H1 - js c.2.2.2) (by omega) (by omega) ?_
  have hst9 : jstk c.2.2.1 ((emb2 x).toList ++ st) = ((emb2 x).map (jv c.2.2.1)).toList ++ st.map (jv c.2.2.1) := by
    unfold jstk
    rw [List.map_append]
    cases emb2 x <;> rfl
  rw [hst9] at h9
  exact h9
