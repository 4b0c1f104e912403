def jcpf {α : Type} (f : Nat → Nat → α) (a sp b dp n : Nat) : Nat → Nat → α := fun x j => if x = b ∧ dp ≤ j ∧ j < dp + n then f a (sp + (j - dp)) else f x j
def jcpI (H : jH) (a sp b dp n : Nat) : jH := (jK H, jcpf (jI H) a sp b dp n, jL H, jR H, jn H, js H, jB H)
def jcpR (H : jH) (a sp b dp n : Nat) : jH := (jK H, jI H, jL H, jcpf (jR H) a sp b dp n, jn H, js H, jB H)
def jcpB (H : jH) (a sp b dp n : Nat) : jH := (jK H, jI H, jL H, jR H, jn H, js H, jcpf (jB H) a sp b dp n)
abbrev jcg (H : jH) (t a : Nat) (sp : Int32) (b : Nat) (dp n : Int32) : Prop := (jK H a).1 = t ∧ (jK H b).1 = t ∧ jF0 ≤ b ∧ 0 ≤ sp.toInt ∧ 0 ≤ dp.toInt ∧ 0 ≤ n.toInt ∧ sp.toInt + n.toInt ≤ (jK H a).2 ∧ dp.toInt + n.toInt ≤ (jK H b).2
theorem jnn {z : Int32} (h : 0 ≤ z.toInt) : ¬ z < 0 ∧ z.toInt = (z.toNatClampNeg : Int) := by
  refine ⟨fun h3 => ?_, ?_⟩
  · rw [Int32.lt_iff_toInt_lt] at h3
    have : (0 : Int32).toInt = 0 := rfl
    omega
  · show z.toInt = ((z.toInt.toNat : Nat) : Int)
    omega
theorem jread2 {G : jG} {H : jH} {U : State} {Hr : Heap} {a t : Nat} (hR : jRel G H U Hr) (ht : (jK H a).1 = t) (hm : t ∈ jtags) : a ≠ 0 ∧ ∃ cell : Cell, Hr[jad G a]? = some cell ∧ U.isArrayOf cell (jty t) ∧ cell.vm ≠ .unknown ∧ (jK H a).2 ≤ cell.slots.size ∧ ∀ j : Nat, j < (jK H a).2 → cell.slots[j]? = some (jcv G H a j (jkd (jty t))) := by
  have hge := jtag_ge hm
  have ha0 : a ≠ 0 := fun e => by rw [e, hR.2.2.2.1] at ht; omega
  refine ⟨ha0, ?_⟩
  obtain ⟨s1, s2, s3⟩ := hR.2.2.1 a (by omega)
  by_cases ho : jF0 ≤ a
  · obtain ⟨-, h3⟩ := jrel_arr hR ht hm (Or.inl ho)
    exact ⟨_, h3, (jrel_ty hR hm).1 _ _, (fun h => by cases h), by rw [arrV_size]; exact Nat.le_refl _, fun j hj => by rw [arrV_read _ _ hj]⟩
  · obtain ⟨u1, cell, u2, u3, u4, u5, u6, u7, u8⟩ := s2 (Nat.not_le.mp ho)
    have : t = 100 := by omega
    subst this
    refine ⟨cell, ?_, u3, u4, u5, u7⟩
    rw [show jad G a = G.2.1 a from if_pos (Nat.not_le.mp ho)]; exact u2
theorem jac_core {p : Program} {l : Launch} {e : Env} {R : Room} {s : State} {m : MethodId} {args : Array Value} {below : List Frame} {meth : Method} {c : Code} {Hr : Heap} {locs : List Loc} {cells slots : Nat} {Q : State → Prop} {pc : Nat} {la : Array Slot} {rest : List Value} {G : jG} {H H2 : jH} {a b t i : Nat} {sp dp n : Int32} {own : String}
    (hx : p.tables.exec = Jvm.exec) (hml : c.maxLocals = la.size) (hown : s.vm.findClass own = some m.cls) (hlink : (Cond.methodLink own i arraycopyName).before args s = true) (hnat : (Cond.native arraycopyName).before args s = true) (hstat : (Cond.static arraycopyName).before args s = true) (hini : (Cond.initialized "java/lang/System").before args s = true)
    (hR : jRel G H s Hr) (hS : va_S (jA G) s.heap Hr locs) (ht : t ∈ jtags) (hg : jcg H t a sp b dp n)
    (hfit : ∀ k, k < n.toNatClampNeg → fits (jty t) (jcv G H a (sp.toNatClampNeg + k) (jkd (jty t))) = true)
    (htk : ∀ (comp : ClassId) (T : State) (vm' : Vm), T.heap = Hr → s.vm.Alike vm' → (∃ k : Class, s.vm.classes[G.2.2.2 t]? = some k ∧ k.kind = .array comp (jty t)) → ∀ k, k < n.toNatClampNeg → (T.setVm vm').takes comp (jcv G H a (sp.toNatClampNeg + k) (jkd (jty t))))
    (h1 : jK H2 = jK H) (h2 : jn H2 = jn H) (h3 : ∀ x, x ≠ b → ∀ j, jI H2 x j = jI H x j ∧ jL H2 x j = jL H x j ∧ jR H2 x j = jR H x j ∧ jB H2 x j = jB H x j)
    (h4 : ∀ j, jcv G H2 b j (jkd (jty t)) = va_cpy (fun j => jcv G H a j (jkd (jty t))) (fun j => jcv G H b j (jkd (jty t))) sp.toNatClampNeg dp.toNatClampNeg n.toNatClampNeg j)
    (hframes : 1 ≤ R.frames) (hlocals : (rest.map fun v => v.category).sum + (nativeFrameWords "java/lang/System" "arraycopy" 5 + 11) ≤ R.locals) (hd : decode c.code pc = .ok (.invokestatic i, 3))
    (kk : ∀ (H' : Heap) (locs1 : List Loc), jRel G H2 s H' → va_S (jA G) s.heap H' locs1 → W p l e R s m args below meth c H' locs1 cells slots Q (F0 m (pc + 3) la rest)) :
    W p l e R s m args below meth c Hr locs cells slots Q (F0 m pc la (.int n :: .int dp :: jrv G b :: .int sp :: jrv G a :: rest)) := by
  obtain ⟨g1, g2, g3, g4, g5, g6, g7, g8⟩ := hg
  obtain ⟨ha0, cs, c1, c2, c3, c4, c5⟩ := jread2 hR g1 ht
  obtain ⟨-, d1⟩ := jrel_arr hR g2 ht (Or.inl g3)
  rw [jrv_own g3, show jrv G a = .ref (jad G a) from if_neg ha0]
  obtain ⟨s1, s2⟩ := jnn g4
  obtain ⟨t1, t2⟩ := jnn g5
  obtain ⟨n1, n2⟩ := jnn g6
  obtain ⟨cno, ks, hks, cms, hkks⟩ := c2
  obtain ⟨-, kd, hkd, cmd, hkkd⟩ := (jrel_ty hR ht).1 (jK H b).2 (fun j => jcv G H b j (jkd (jty t)))
  intro T hT X
  have hge : ∀ k, k < n.toNatClampNeg → cs.slots.getD (sp.toNatClampNeg + k) .null = jcv G H a (sp.toNatClampNeg + k) (jkd (jty t)) := fun k hk => by
    rw [Array.getD_eq_getD_getElem?, c5 _ (by omega)]
    rfl
  obtain ⟨vm', X', step⟩ := X.arraycopy hx hown hlink hnat hstat hini (src := jad G a) (dst := jad G b) (cs := cs) (cd := arrV (G.2.2.2 t) (jK H b).2 (fun j => jcv G H b j (jkd (jty t)))) (srcPos := sp) (destPos := dp) (n := n) (by rw [hT]; exact c1) (by rw [hT]; exact d1)
    cno (fun _ h => by cases h) c3 (fun h => by cases h) hks hkd hkks hkkd (by simp) s1 t1 n1
    (by rw [s2, n2]; omega) (by rw [t2, n2, arrV_size]; omega)
    (fun vm₁ hal k hk => by
      rw [hge k hk]
      exact ⟨hfit k hk, htk cmd T vm₁ hT hal ⟨kd, hkd, hkkd⟩ k hk⟩)
    (g := F0 m pc la (.int n :: .int dp :: .ref (jad G b) :: .int sp :: .ref (jad G a) :: rest)) rfl (by rw [hml]) (rest := rest) rfl hd hframes (by show 2 * 0 + _ + _ ≤ _; omega)
  have e1 : copied cs (arrV (G.2.2.2 t) (jK H b).2 (fun j => jcv G H b j (jkd (jty t)))) sp dp n = arrV (G.2.2.2 t) (jK H b).2 (fun j => jcv G H2 b j (jkd (jty t))) := by
    rw [show (fun j => jcv G H2 b j (jkd (jty t))) = fun j => va_cpy (fun j => jcv G H a j (jkd (jty t))) (fun j => jcv G H b j (jkd (jty t))) sp.toNatClampNeg dp.toNatClampNeg n.toNatClampNeg j from funext h4]
    exact va_copiedX (fun z => z) cs (G.2.2.2 t) (n0 := (jK H a).2) (fun j => jcv G H a j (jkd (jty t))) (fun j => jcv G H b j (jkd (jty t))) c5 (by omega)
  rw [e1] at X' step
  have hl : jad G b < Hr.size := (Array.getElem?_eq_some_iff.mp d1).1
  have hheap : ((T.setVm vm').setCell (jad G b) (arrV (G.2.2.2 t) (jK H b).2 (fun j => jcv G H2 b j (jkd (jty t))))).heap = Hr.setIfInBounds (jad G b) (arrV (G.2.2.2 t) (jK H b).2 (fun j => jcv G H2 b j (jkd (jty t)))) := by rw [← hT]; rfl
  have oq : ∀ q : Nat, q ≠ jad G b → (Hr.setIfInBounds (jad G b) (arrV (G.2.2.2 t) (jK H b).2 (fun j => jcv G H2 b j (jkd (jty t)))))[q]? = Hr[q]? := fun q hq => by simp [Array.getElem?_setIfInBounds, Ne.symm hq]
  have hge2 := jtag_ge ht
  obtain ⟨z, a1, b1⟩ := kk _ _ (jrel_upd hR g3 (by simp) oq h1 h2 h3 (Or.inr ⟨by rw [h1, g2]; exact ht, by rw [h1, g2]; exact jcl_none (by omega), by rw [h1, g2]; simp [Array.getElem?_setIfInBounds, hl]⟩)) ⟨by simp; exact hS.1, fun q q1 q2 => by
      rw [oq q (fun e => q2 (by rw [e]; exact jad_A g3))]
      exact hS.2.1 q q1 q2, fun q hq => by
      rcases List.mem_append.mp hq with h | h
      · exact hS.2.2 q h
      · obtain ⟨z, -, hz⟩ := List.mem_map.mp h
        rw [← hz]
        exact jad_A g3⟩ _ hheap X'
  exact ⟨z, step z a1, b1⟩
theorem jcpf_off {α : Type} {f : Nat → Nat → α} {a sp b dp n x j : Nat} (h : x ≠ b) : jcpf f a sp b dp n x j = f x j := if_neg fun q => h q.1
theorem jcpf_on {α : Type} {f : Nat → Nat → α} {a sp b dp n j : Nat} : jcpf f a sp b dp n b j = va_cpy (f a) (f b) sp dp n j := by
  unfold jcpf va_cpy
  by_cases h : dp ≤ j ∧ j < dp + n
  · rw [if_pos h, if_pos ⟨rfl, h⟩]
  · rw [if_neg h, if_neg fun q => h q.2]
theorem jcpy_map {α β : Type} (F : α → β) (f g : Nat → α) (sp dp n j : Nat) : F (va_cpy f g sp dp n j) = va_cpy (fun j => F (f j)) (fun j => F (g j)) sp dp n j := by
  unfold va_cpy
  split <;> rfl
section JS
variable {l : Launch} {mi : jM} {α : Type} {emb : α → Option Value} {pc : Nat} {ls : List (Nat × Value)} {st : List Value} {H : jH} {k0 : jH → Option (α × jH)} {a b : Nat} {sp dp n : Int32}
theorem s_acI (x y q i : Nat) (hl0 : Cond.methodLink mi.2.2.2.1 i arraycopyName ∈ jws) (hnat : Cond.native arraycopyName ∈ jws) (hstat : Cond.static arraycopyName ∈ jws) (hini : Cond.initialized "java/lang/System" ∈ jws) (hi : x * 256 + y = i) (hw : jx3 mi.1 mi.2.1 pc 184 x y q = true) (hnw : nativeFrameWords "java/lang/System" "arraycopy" 5 = nativeFrameWords "java/lang/System" "arraycopy" 5)
    (hrm : jrm 1 mi.2.2.2.2.2.2.1 ((st.map fun v => v.category).sum + (nativeFrameWords "java/lang/System" "arraycopy" 5 + 11)) mi.2.2.2.2.2.2.2 = true) (kk0 : ∀ H1, JV l mi emb q ls st H1 (k0 H1)) :
    JV l mi emb pc ls (.int n :: .int dp :: .ref b :: .int sp :: .ref a :: st) H (jg (jcg H 100 a sp b dp n) (jl (jcpI H a sp.toNatClampNeg b dp.toNatClampNeg n.toNatClampNeg) k0)) := by
  obtain ⟨hw1, rfl⟩ := jx3_spec hw
  subst hi
  intro r H' ho
  obtain ⟨hg, ho⟩ := jg_some ho
  obtain ⟨hm, kk⟩ := kk0 _ r H' ho
  obtain ⟨r1, r2⟩ := jrm_spec hrm
  refine ⟨hm, fun c hc e1 n1 n2 Hr la locs hR hS hl => ?_⟩
  exact jac_core (t := 100) (H2 := jcpI H a sp.toNatClampNeg b dp.toNatClampNeg n.toNatClampNeg) hc.1 (hc.2.2.1.trans hl.1.symm) hc.2.2.2.1 (hc.2.2.2.2.2.2.2.1 _ hl0) (hc.2.2.2.2.2.2.2.1 _ hnat) (hc.2.2.2.2.2.2.2.1 _ hstat) (hc.2.2.2.2.2.2.2.1 _ hini) hR hS (by decide) hg (fun _ _ => rfl) (fun _ _ _ _ _ _ _ _ => trivial) rfl rfl
    (fun z hz j => ⟨jcpf_off hz, rfl, rfl, rfl⟩) (fun j => by
      show Value.int (jcpf (jI H) a sp.toNatClampNeg b dp.toNatClampNeg n.toNatClampNeg b j) = _
      rw [jcpf_on]
      exact jcpy_map Value.int _ _ _ _ _ _) r1 (by rw [jcats]; exact r2) (jd_184 hc.2.1 hw1) fun Hr2 locs2 hR2 hS2 => kk c hc e1 n1 n2 Hr2 la locs2 hR2 hS2 hl
theorem jfits_b (u : UInt8) : fits .byte (.int (jbs u)) = true := by
  have h : ∀ n, n < 256 → fits .byte (.int (jbs (UInt8.ofNat n))) = true := by decide +kernel
  have h2 := h u.toNat (UInt8.toNat_lt u)
  rwa [UInt8.ofNat_toNat] at h2
theorem s_acB (x y q i : Nat) (hl0 : Cond.methodLink mi.2.2.2.1 i arraycopyName ∈ jws) (hnat : Cond.native arraycopyName ∈ jws) (hstat : Cond.static arraycopyName ∈ jws) (hini : Cond.initialized "java/lang/System" ∈ jws) (hi : x * 256 + y = i) (hw : jx3 mi.1 mi.2.1 pc 184 x y q = true) (hnw : nativeFrameWords "java/lang/System" "arraycopy" 5 = nativeFrameWords "java/lang/System" "arraycopy" 5)
    (hrm : jrm 1 mi.2.2.2.2.2.2.1 ((st.map fun v => v.category).sum + (nativeFrameWords "java/lang/System" "arraycopy" 5 + 11)) mi.2.2.2.2.2.2.2 = true) (kk0 : ∀ H1, JV l mi emb q ls st H1 (k0 H1)) :
    JV l mi emb pc ls (.int n :: .int dp :: .ref b :: .int sp :: .ref a :: st) H (jg (jcg H 101 a sp b dp n) (jl (jcpB H a sp.toNatClampNeg b dp.toNatClampNeg n.toNatClampNeg) k0)) := by
  obtain ⟨hw1, rfl⟩ := jx3_spec hw
  subst hi
  intro r H' ho
  obtain ⟨hg, ho⟩ := jg_some ho
  obtain ⟨hm, kk⟩ := kk0 _ r H' ho
  obtain ⟨r1, r2⟩ := jrm_spec hrm
  refine ⟨hm, fun c hc e1 n1 n2 Hr la locs hR hS hl => ?_⟩
  exact jac_core (t := 101) (H2 := jcpB H a sp.toNatClampNeg b dp.toNatClampNeg n.toNatClampNeg) hc.1 (hc.2.2.1.trans hl.1.symm) hc.2.2.2.1 (hc.2.2.2.2.2.2.2.1 _ hl0) (hc.2.2.2.2.2.2.2.1 _ hnat) (hc.2.2.2.2.2.2.2.1 _ hstat) (hc.2.2.2.2.2.2.2.1 _ hini) hR hS (by decide) hg (fun _ _ => jfits_b _) (fun _ _ _ _ _ _ _ _ => trivial) rfl rfl
    (fun z hz j => ⟨rfl, rfl, rfl, jcpf_off hz⟩) (fun j => by
      show Value.int (jbs (jcpf (jB H) a sp.toNatClampNeg b dp.toNatClampNeg n.toNatClampNeg b j)) = _
      rw [jcpf_on]
      exact jcpy_map (fun u => Value.int (jbs u)) _ _ _ _ _ _) r1 (by rw [jcats]; exact r2) (jd_184 hc.2.1 hw1) fun Hr2 locs2 hR2 hS2 => kk c hc e1 n1 n2 Hr2 la locs2 hR2 hS2 hl
abbrev jcgR (H : jH) (t et a : Nat) (sp : Int32) (b : Nat) (dp n : Int32) : Prop := jcg H t a sp b dp n ∧ ∀ k, k < n.toNatClampNeg → jR H a (sp.toNatClampNeg + k) = 0 ∨ (jK H (jR H a (sp.toNatClampNeg + k))).1 = et
theorem s_acR {t et N : Nat} {C : String} {T : u_T} {Y : Nat → FieldType} (x y q i : Nat) (ht : t ∈ jtags ∧ t ≠ 100 ∧ jty t = .object C) (he : jcok et C T N Y) (hl0 : Cond.methodLink mi.2.2.2.1 i arraycopyName ∈ jws) (hnat : Cond.native arraycopyName ∈ jws) (hstat : Cond.static arraycopyName ∈ jws) (hini : Cond.initialized "java/lang/System" ∈ jws) (hi : x * 256 + y = i) (hw : jx3 mi.1 mi.2.1 pc 184 x y q = true) (hnw : nativeFrameWords "java/lang/System" "arraycopy" 5 = nativeFrameWords "java/lang/System" "arraycopy" 5)
    (hrm : jrm 1 mi.2.2.2.2.2.2.1 ((st.map fun v => v.category).sum + (nativeFrameWords "java/lang/System" "arraycopy" 5 + 11)) mi.2.2.2.2.2.2.2 = true) (kk0 : ∀ H1, JV l mi emb q ls st H1 (k0 H1)) :
    JV l mi emb pc ls (.int n :: .int dp :: .ref b :: .int sp :: .ref a :: st) H (jg (jcgR H t et a sp b dp n) (jl (jcpR H a sp.toNatClampNeg b dp.toNatClampNeg n.toNatClampNeg) k0)) := by
  obtain ⟨hw1, rfl⟩ := jx3_spec hw
  subst hi
  intro r H' ho
  obtain ⟨⟨hg, hel⟩, ho⟩ := jg_some ho
  obtain ⟨hm, kk⟩ := kk0 _ r H' ho
  obtain ⟨r1, r2⟩ := jrm_spec hrm
  refine ⟨hm, fun c hc e1 n1 n2 Hr la locs hR hS hl => ?_⟩
  have hkd : jkd (jty t) = 2 := by rw [ht.2.2]; rfl
  have hjv : ∀ z j, jcv c.2.2.1 H z j (jkd (jty t)) = jrv c.2.2.1 (jR H z j) := fun z j => by rw [hkd]; rfl
  refine jac_core (t := t) (H2 := jcpR H a sp.toNatClampNeg b dp.toNatClampNeg n.toNatClampNeg) hc.1 (hc.2.2.1.trans hl.1.symm) hc.2.2.2.1 (hc.2.2.2.2.2.2.2.1 _ hl0) (hc.2.2.2.2.2.2.2.1 _ hnat) (hc.2.2.2.2.2.2.2.1 _ hstat) (hc.2.2.2.2.2.2.2.1 _ hini) hR hS ht.1 hg (fun k hk => by rw [hjv, ht.2.2]; exact (jfits_ref (t := .object C) rfl).2) ?_ rfl rfl
    (fun z hz j => ⟨rfl, rfl, jcpf_off hz, rfl⟩) (fun j => by
      rw [hkd]
      show jrv c.2.2.1 (jcpf (jR H) a sp.toNatClampNeg b dp.toNatClampNeg n.toNatClampNeg b j) = _
      rw [jcpf_on]
      exact jcpy_map (jrv c.2.2.1) _ _ _ _ _ _) r1 (by rw [jcats]; exact r2) (jd_184 hc.2.1 hw1) fun Hr2 locs2 hR2 hS2 => kk c hc e1 n1 n2 Hr2 la locs2 hR2 hS2 hl
  intro comp T vm' hT hal ⟨kA, hkA, hkkA⟩ k hk
  rw [hjv]
  rcases hel k hk with h0 | h0
  · rw [h0]
    exact trivial
  · obtain ⟨o1, o2, cellV, q1, q2, q3, q4⟩ := jrel_obj hR h0 he.1
    rw [jrv_own o1]
    have hra := (jrel_ty hR ht.1).2
    rw [ht.2.2] at hra
    obtain ⟨kA', comp', w1, w2, w3, -⟩ := hra
    cases hkA.symm.trans w1
    rw [hkkA, ht.2.2] at w2
    cases w2
    have hcls := (hR.2.2.2.2.1.1 et _ he.1).2
    have hcomp : comp = c.2.2.1.2.2.1.1 et := Option.some.inj (w3.symm.trans hcls.1)
    subst hcomp
    obtain ⟨kC, hkC, -⟩ := id hcls.2
    obtain ⟨kC', hkC', -⟩ := hal.2.2 _ _ hkC
    refine ⟨cellV, (show T.heap[_]? = some cellV by rw [hT]; exact q1), (fun q h => by rw [q3] at h; cases h), ⟨kC', by rw [q2]; exact hkC'⟩, ⟨kC', hkC'⟩, ?_⟩
    show vm'.assignable _ _ = true
    rw [hal.assignable, q2]
    exact va_assign hcls
/-- a clone of a byte array -/
def jclb (H : jH) (a : Nat) : jH := (fun x => if x = jn H then (101, (jK H a).2) else jK H x, jz (jI H) (jn H) 0, jz (jL H) (jn H) 0, jz (jR H) (jn H) 0, jn H + 1, js H + (jK H a).2, fun x j => if x = jn H then jB H a j else jB H x j)
def jcl_ {β : Type} (H : jH) (a : Nat) (k : Nat → jH → β) : β := k (jn H) (jclb H a)
theorem s_192B {o1 : Option (α × jH)} (x y q i : Nat) (hl0 : Cond.classLink mi.2.2.2.1 i "[B" ∈ jws) (hi : x * 256 + y = i) (hw : jx3 mi.1 mi.2.1 pc 192 x y q = true) (kk0 : JV l mi emb q ls (.ref a :: st) H o1) : JV l mi emb pc ls (.ref a :: st) H (jg ((jK H a).1 = 101) o1) := by
  obtain ⟨hw1, rfl⟩ := jx3_spec hw
  subst hi
  intro r H' ho
  obtain ⟨hg, ho⟩ := jg_some ho
  obtain ⟨hm, kk⟩ := kk0 r H' ho
  refine ⟨hm, fun c hc e1 n1 n2 Hr la locs hR hS hl => ?_⟩
  have h9 := kk c hc e1 n1 n2 Hr la locs hR hS hl
  obtain ⟨g1, g2⟩ := jrel_arr hR hg (by decide) (Or.inr (by decide))
  simp only [jstk, List.map_cons, jv_ref] at h9 ⊢
  rw [jrv_own g1] at h9 ⊢
  refine va_castA (D := c.2.2.1.2.2.1) (cl := jcl) (ws := [(jad c.2.2.1 a, .inl (c.2.2.1.2.2.2 101, (jK H a).2, .inl (fun j => jbs (jB H a j))))]) hc.1 rfl hc.2.2.2.1 (hc.2.2.2.2.2.2.2.1 _ hl0) (H := Hr) ?_ 0 rfl ?_ (jd_192 hc.2.1 hw1) h9
  · intro k q hk
    have hk0 : k < 1 := (List.getElem?_eq_some_iff.mp hk).1
    rw [show k = 0 by omega] at hk
    cases hk
    exact g2
  · exact (jrel_ty hR (t := 101) (by decide)).2
theorem s_clone {k1 : Nat → jH → Option (α × jH)} (x y q i : Nat) (hl0 : Cond.methodLink mi.2.2.2.1 i ⟨"[B", "clone", "()Ljava/lang/Object;"⟩ ∈ jws) (hsame : Cond.sameMethod "[B" "java/lang/Object" "clone" "()Ljava/lang/Object;" ∈ jws) (hnat : Cond.native ⟨"java/lang/Object", "clone", "()Ljava/lang/Object;"⟩ ∈ jws) (hinst : Cond.instanceMethod ⟨"java/lang/Object", "clone", "()Ljava/lang/Object;"⟩ ∈ jws)
    (hsel : Cond.selects "[B" ⟨"[B", "clone", "()Ljava/lang/Object;"⟩ ⟨"java/lang/Object", "clone", "()Ljava/lang/Object;"⟩ ∈ jws) (hi : x * 256 + y = i) (hw : jx3 mi.1 mi.2.1 pc 182 x y q = true) (hrm : jrm 1 mi.2.2.2.2.2.2.1 ((st.map fun v => v.category).sum + 14) mi.2.2.2.2.2.2.2 = true) (kk0 : ∀ r H1, JV l mi emb q ls (.ref r :: st) H1 (k1 r H1)) : JV l mi emb pc ls (.ref a :: st) H (jg ((jK H a).1 = 101) (jcl_ H a k1)) := by
  obtain ⟨hw1, rfl⟩ := jx3_spec hw
  subst hi
  intro r H' ho
  obtain ⟨hg, ho⟩ := jg_some ho
  obtain ⟨hm, kk⟩ := kk0 _ _ r H' ho
  obtain ⟨r1, r2⟩ := jrm_spec hrm
  have hjn : jn (jclb H a) = jn H + 1 := rfl
  have hjs : js (jclb H a) = js H + (jK H a).2 := rfl
  rw [hjn, hjs] at hm
  refine ⟨⟨by omega, by omega⟩, fun c hc e1 n1 n2 Hr la locs hR hS hl => ?_⟩
  have hsz := hR.1
  have hF := hR.2.1
  obtain ⟨g1, g2⟩ := jrel_arr hR hg (by decide) (Or.inr (by decide))
  obtain ⟨c0, t0', f1, f2, f3⟩ := Cond.castable_spec (va_Nw.use (A := c.2.1.2.1) rfl hc.2.2.2.2.2.2.2.2.2.2.2.2)
  have hra : c.1.2.2.2.vm.findClass "[B" = some (c.2.2.1.2.2.2 101) := (jrel_ty hR (t := 101) (by decide)).2
  cases hra.symm.trans f1
  have hty := (jrel_ty hR (t := 101) (by decide)).1
  simp only [jstk, List.map_cons, jv_ref]
  rw [jrv_own g1]
  intro T hT X
  obtain ⟨-, kA, hkA, comp, hkind⟩ := State.isArrayOf_alike X.warmed.alike (hty 0 (fun _ => .null))
  obtain ⟨-, kS, hkS, compS, hkindS⟩ := hty 0 (fun _ => .null)
  obtain ⟨vm', X', st'⟩ := X.cloneArray hc.1 hc.2.2.2.1 (hc.2.2.2.2.2.2.2.1 _ hl0) (hc.2.2.2.2.2.2.2.1 _ hsame) (hc.2.2.2.2.2.2.2.1 _ hnat) (hc.2.2.2.2.2.2.2.1 _ hinst) (hc.2.2.2.2.2.2.2.1 _ hsel) (a := jad c.2.2.1 a) (cell := arrV (c.2.2.1.2.2.2 101) (jK H a).2 (fun j => jcv c.2.2.1 H a j (jkd (jty 101)))) (by rw [hT]; exact g2) (fun k h => by cases h) (fun h => by cases h) hra f2 f3
    (fun i v hv => by
      have hk' : T.vm.classes[c.2.2.1.2.2.2 101]? = some kA := hkA
      have hilt : i < (jK H a).2 := by
        have := (Array.getElem?_eq_some_iff.mp hv).1
        rwa [arrV_size] at this
      rw [arrV_read _ _ hilt] at hv
      cases hv
      show State.fitsSlot _ (c.2.2.1.2.2.2 101) _ _ _ = true
      have h7 : fits (jty 101) (jcv c.2.2.1 H a i (jkd (jty 101))) = true := jfits_b (jB H a i)
      simpa [State.fitsSlot, State.slotType?, arrV, hk', hkind] using h7)
    (g := F0 c.2.1.1 pc la (.ref (jad c.2.2.1 a) :: st.map (jv c.2.2.1))) rfl (hl.1.trans hc.2.2.1.symm) rfl (jd_182 hc.2.1 hw1) r1 (by show 2 * 0 + _ + 14 ≤ mi.2.2.2.2.2.2.2; rw [jcats]; omega) (by show _ ≤ jn H' - jn c.2.2.2; omega) (by rw [arrV_size]; show _ ≤ js H' - js c.2.2.2; omega) (hloader := Vm.clonesLoader_of_array hkS hkindS)
  rw [arrV_size] at X'
  have hE : ({ cls := (arrV (c.2.2.1.2.2.2 101) (jK H a).2 (fun j => jcv c.2.2.1 H a j (jkd (jty 101)))).cls, slots := (arrV (c.2.2.1.2.2.2 101) (jK H a).2 (fun j => jcv c.2.2.1 H a j (jkd (jty 101)))).slots } : Cell) = arrV (c.2.2.1.2.2.2 101) (jK H a).2 (fun j => jcv c.2.2.1 H a j (jkd (jty 101))) := rfl
  rw [hE] at X' st'
  generalize hH1 : Hr.push (arrV (c.2.2.1.2.2.2 101) (jK H a).2 (fun j => jcv c.2.2.1 H a j (jkd (jty 101)))) = H1
  have z1 : H1.size = Hr.size + 1 := by rw [← hH1, Array.size_push]
  have e2 : H1[Hr.size]? = some (arrV (c.2.2.1.2.2.2 101) (jK H a).2 (fun j => jcv c.2.2.1 H a j (jkd (jty 101)))) := by rw [← hH1, Array.getElem?_push_size]
  have o1 : ∀ q : Nat, q < Hr.size → H1[q]? = Hr[q]? := fun q hq => by rw [← hH1, Array.getElem?_push, if_neg (Nat.ne_of_lt hq)]
  have hne : a ≠ jn H := by
    have := (hR.2.2.1 a (by omega)).1
    omega
  have hR2 : jRel c.2.2.1 (jclb H a) c.1.2.2.2 H1 := by
    obtain ⟨w1, w2, w3, w4, w5, w6⟩ := hR
    have hKn : ∀ b, b ≠ jn H → jK (jclb H a) b = jK H b := fun b hb => if_neg hb
    have hKs : jK (jclb H a) (jn H) = (101, (jK H a).2) := if_pos rfl
    refine ⟨by rw [z1, hjn]; omega, by rw [hjn]; omega, fun b hb => ?_, by rw [hKn 0 (by unfold jF0 at w2; omega)]; exact w4, w5, fun q hq => (w6 q hq).kept fun a ha _ => o1 a ha⟩
    by_cases hbn : b = jn H
    · subst hbn
      refine ⟨by rw [hjn]; omega, fun h => by omega, fun _ => Or.inr ⟨by rw [hKs]; exact (by decide : (101 : Nat) ∈ jtags), by rw [hKs]; rfl, ?_⟩⟩
      rw [hKs, jad_own w2, show c.2.2.1.1 + (jn H - jF0) = Hr.size by omega, e2]
      congr 2
      funext j
      show Value.int (jbs (jB H a j)) = Value.int (jbs (if jn H = jn H then jB H a j else jB H (jn H) j))
      rw [if_pos rfl]
    · rw [hKn b hbn] at hb
      obtain ⟨s1, s2, s3⟩ := w3 b hb
      refine ⟨by rw [hjn]; omega, fun hlt => ?_, fun hge => ?_⟩
      · obtain ⟨t1, cell, t2, t3, t4, t5, t6, t7, t8⟩ := s2 hlt
        refine ⟨by rw [hKn b hbn]; exact t1, cell, ?_, t3, t4, by rw [hKn b hbn]; exact t5, by rw [hKn b hbn]; exact t6, fun j hj => ?_, t8⟩
        · rw [o1 _ (Array.getElem?_eq_some_iff.mp t2).1]; exact t2
        · rw [hKn b hbn] at hj
          rw [show jI (jclb H a) b j = jI H b j from if_neg hbn]
          exact t7 j hj
      · refine jcell_congr (s3 hge) (hKn b hbn) (fun j k => jcv_congr (if_neg hbn) (if_neg hbn) (if_neg hbn) (if_neg hbn)) (o1 _ ?_)
        rw [jad_own hge]
        omega
  have hS2 : va_S (jA c.2.2.1) c.1.2.2.2.heap H1 locs := ⟨by rw [z1]; exact Nat.le_succ_of_le hS.1, fun q h1 h2 => by rw [o1 q (Nat.lt_of_lt_of_le h1 hS.1)]; exact hS.2.1 q h1 h2, hS.2.2⟩
  have h1 := kk c hc e1 (by rw [hjn]; omega) (by rw [hjs]; omega) H1 la locs hR2 hS2 hl
  simp only [jstk, List.map_cons, jv_ref] at h1
  rw [jrv_own hF, jad_own hF, show c.2.2.1.1 + (jn H - jF0) = Hr.size by omega, hjn, hjs] at h1
  have h2 := W.cs (cells := jn H - jn c.2.2.2 + 1) (slots := js H - js c.2.2.2 + (jK H a).2) (by omega) (by omega) h1
  obtain ⟨t, b1, b2⟩ := h2 ((T.setVm vm').pushCell _) (by rw [← hH1, ← hT]; rfl) X'
  refine ⟨t, st' t ?_, b2⟩
  rw [hT]
  exact b1
end JS
