theorem jst_one {args : Array Value} {s : State} {C n : String} {l : List Int32} {k m : Nat} (hn : ∀ w ∈ jNar, w.before args s = true) (ht : ∀ w ∈ tables_1, w.before args s = true) (e : (jNar.drop k).take m = jsw C n l) (hl : l.length < 2 ^ 31) (h1 : Cond.laysStatic C n "[I" ∈ tables_1) (h2 : Cond.initialized C ∈ tables_1) :
    ∃ t : Nat, va_Z C n "[I" (.ref t) (fun q => s.heap.size ≤ q) s s.heap ∧ va_T .int t l.length (fun j => .int (l.getD j 0)) (fun q => s.heap.size ≤ q) s s.heap := by
  obtain ⟨t, e1, e2⟩ := jsw_T hl (fun w hw => hn w (jNar_in e hw))
  exact ⟨t, va_Zof (ht _ h1) (ht _ h2) e1 (fun a ha => Nat.not_le.mpr ha), e2⟩
def jst_P (s : State) (k t : Nat) : Prop := va_Z (jsts.getD (k - 1) (0, "", "")).2.1 (jsts.getD (k - 1) (0, "", "")).2.2 "[I" (.ref t) (fun q => s.heap.size ≤ q) s s.heap ∧ va_T .int t (jvals.getD k []).length (fun j => .int ((jvals.getD k []).getD j 0)) (fun q => s.heap.size ≤ q) s s.heap
theorem jst_all {args : Array Value} {s : State} (hn : ∀ w ∈ jNar, w.before args s = true) (ht : ∀ w ∈ tables_1, w.before args s = true) : ∃ f : Nat → Nat, ∀ k, 1 ≤ k → k ≤ 12 → jst_P s k (f k) := by
  have h : ∀ k, ∃ t, 1 ≤ k → k ≤ 12 → jst_P s k t := by
    intro k
    by_cases hk : 1 ≤ k ∧ k ≤ 12
    · have : ∃ t, jst_P s k t := by
        rcases (show k = 1 ∨ k = 2 ∨ k = 3 ∨ k = 4 ∨ k = 5 ∨ k = 6 ∨ k = 7 ∨ k = 8 ∨ k = 9 ∨ k = 10 ∨ k = 11 ∨ k = 12 by omega) with rfl | rfl | rfl | rfl | rfl | rfl | rfl | rfl | rfl | rfl | rfl | rfl
        · exact jst_one hn ht jsw_1 (by decide +kernel) jlw_1 jiw_1
        · exact jst_one hn ht jsw_2 (by decide +kernel) jlw_2 jiw_2
        · exact jst_one hn ht jsw_3 (by decide +kernel) jlw_3 jiw_3
        · exact jst_one hn ht jsw_4 (by decide +kernel) jlw_4 jiw_4
        · exact jst_one hn ht jsw_5 (by decide +kernel) jlw_5 jiw_5
        · exact jst_one hn ht jsw_6 (by decide +kernel) jlw_6 jiw_6
        · exact jst_one hn ht jsw_7 (by decide +kernel) jlw_7 jiw_7
        · exact jst_one hn ht jsw_8 (by decide +kernel) jlw_8 jiw_8
        · exact jst_one hn ht jsw_9 (by decide +kernel) jlw_9 jiw_9
        · exact jst_one hn ht jsw_10 (by decide +kernel) jlw_10 jiw_10
        · exact jst_one hn ht jsw_11 (by decide +kernel) jlw_11 jiw_11
        · exact jst_one hn ht jsw_12 (by decide +kernel) jlw_12 jiw_12
      obtain ⟨t, ht⟩ := this
      exact ⟨t, fun _ _ => ht⟩
    · exact ⟨0, fun h1 h2 => absurd ⟨h1, h2⟩ hk⟩
  obtain ⟨f, hf⟩ := Classical.axiomOfChoice h
  exact ⟨f, hf⟩
theorem jcls_one {a : Array Value} {s : State} {ci : Nat} {C : String} {T : u_T} {N : Nat} {Y : Nat → FieldType} (hts : ∀ w ∈ jws, w.before a s = true) (hc : jcok ci C T N Y) (hi : Cond.instantiable C N ∈ jws) : ∃ x : ClassId × (Nat → Nat), ∀ q : vw_C, jcl[ci]? = some q → u_Kn s q.1 q.2.1 q.2.2 x.1 x.2 := by
  obtain ⟨cC, iS, h⟩ := u_known hts hc.2.1 (hts _ hi)
  refine ⟨(cC, iS), fun q hq => ?_⟩
  rw [hc.1] at hq
  cases hq
  exact h
theorem jcls_all {a : Array Value} {s : State} (hts : ∀ w ∈ jws, w.before a s = true) : ∃ D : Nat → ClassId × (Nat → Nat), ∀ (ci : Nat) (q : vw_C), jcl[ci]? = some q → u_Kn s q.1 q.2.1 q.2.2 (D ci).1 (D ci).2 := by
  have h : ∀ ci : Nat, ∃ x : ClassId × (Nat → Nat), ∀ q : vw_C, jcl[ci]? = some q → u_Kn s q.1 q.2.1 q.2.2 x.1 x.2 := by
    intro ci
    by_cases hk : ci < 12
    · rcases (show ci = 0 ∨ ci = 1 ∨ ci = 2 ∨ ci = 3 ∨ ci = 4 ∨ ci = 5 ∨ ci = 6 ∨ ci = 7 ∨ ci = 8 ∨ ci = 9 ∨ ci = 10 ∨ ci = 11 by omega) with rfl | rfl | rfl | rfl | rfl | rfl | rfl | rfl | rfl | rfl | rfl | rfl
      · exact jcls_one hts jc_0 jw_313
      · exact jcls_one hts jc_1 jw_304
      · exact jcls_one hts jc_2 jw_266
      · exact jcls_one hts jc_3 jw_30
      · exact jcls_one hts jc_4 jw_151
      · exact jcls_one hts jc_5 jw_74
      · exact jcls_one hts jc_6 jw_439
      · exact jcls_one hts jc_7 jw_57
      · exact jcls_one hts jc_8 jw_63
      · exact jcls_one hts jc_9 jw_157
      · exact jcls_one hts jc_10 jw_701
      · exact jcls_one hts jc_11 jw_20
    · exact ⟨default, fun q hq => absurd (jcl_lt hq) hk⟩
  obtain ⟨f, hf⟩ := Classical.axiomOfChoice h
  exact ⟨f, hf⟩
theorem jarr_prim {a : Array Value} {s : State} {ty : FieldType} (h : (Cond.arrayClass ty).before a s = true) (h2 : ∀ cA, s.vm.findClass ("[" ++ ty.toString) = some cA → va_RA s cA ty) : ∃ cA : ClassId, ArrOfT s cA ty ∧ va_RA s cA ty := by
  obtain ⟨c, k, comp, h1, h3, h4⟩ := Cond.arrayClass_spec h
  exact ⟨c, fun n z => ⟨(fun k h => by cases h), k, h3, comp, h4⟩, h2 c h1⟩
theorem jarr_arr {s : State} {ty : FieldType} (h : jAOA ty s) : ∃ cA : ClassId, ArrOfT s cA (.array ty) ∧ va_RA s cA (.array ty) := by
  obtain ⟨comp, c, k, h1, h3, h4, h5⟩ := Cond.arrayOver_specA h
  exact ⟨c, fun n z => ⟨(fun k h => by cases h), k, h3, comp, h4⟩, h5⟩
theorem jarr_obj {s : State} {C : String} (h : va_AO C s) : ∃ cA : ClassId, ArrOfT s cA (.object C) ∧ va_RA s cA (.object C) := by
  obtain ⟨comp, c, k, h1, h2, h3, h4, h5⟩ := Cond.arrayOver_spec h
  exact ⟨c, fun n z => ⟨(fun k h => by cases h), k, h3, comp, h4⟩, k, comp, h3, h4, h1, h5⟩
theorem jarr_all {a : Array Value} {s : State} (hts : ∀ w ∈ jws, w.before a s = true) (hN : jNw s) : ∃ D : Nat → ClassId, ∀ t ∈ jtags, ArrOfT s (D t) (jty t) ∧ va_RA s (D t) (jty t) := by
  have h : ∀ t, ∃ cA, t ∈ jtags → ArrOfT s cA (jty t) ∧ va_RA s cA (jty t) := by
    intro t
    by_cases ht : t ∈ jtags
    · have : ∃ cA, ArrOfT s cA (jty t) ∧ va_RA s cA (jty t) := by
        have ht' := ht
        simp only [jtags, List.mem_cons, List.not_mem_nil, or_false] at ht'
        obtain ⟨-, -, ⟨n1, n2, n3, n4⟩, -⟩ := hN
        rcases ht' with rfl | rfl | rfl | rfl | rfl | rfl | rfl | rfl | rfl | rfl
        · exact jarr_prim (hts _ jw_55) (fun _ h => h)
        · exact jarr_prim (hts _ jw_54) (fun _ h => h)
        · exact jarr_prim (hts _ jw_239) (fun _ h => h)
        · exact jarr_prim (hts _ jw_96) (fun _ h => h)
        · exact jarr_arr n2
        · exact jarr_arr n3
        · exact jarr_arr n4
        · exact jarr_obj (n1 _ (by simp))
        · exact jarr_obj (n1 _ (by simp))
        · exact jarr_obj (n1 _ (by simp))
      obtain ⟨c, hc⟩ := this
      exact ⟨c, fun _ => hc⟩
    · exact ⟨default, fun h => absurd h ht⟩
  obtain ⟨f, hf⟩ := Classical.axiomOfChoice h
  exact ⟨f, hf⟩
/-- the heap at the start: the static arrays, the script of L ints -/
def jK0 (L a : Nat) : Nat × Nat := if a = 0 then (99, 0) else if a < 13 then (100, (jvals.getD a []).length) else if a = 18 then (100, L) else (99, 0)
def jH0 (L : Nat) (xs : Nat → Int32) : jH := (jK0 L, fun a j => if a = 18 then xs j else (jvals.getD a []).getD j 0, fun _ _ => 0, fun _ _ => 0, 31, 0, fun _ _ => 0)
theorem jstart {s : State} {b L : Nat} {xs : Nat → Int32} (hn : ∀ w ∈ jNar, w.before #[Value.ref b] s = true) (ht : ∀ w ∈ tables_1, w.before #[Value.ref b] s = true) (hX : va_X b L xs s s.heap) : ∃ G : jG, G.1 = s.heap.size ∧ G.2.1 18 = b ∧ jRel G (jH0 L xs) s s.heap := by
  have hts := jstart_ws ht
  obtain ⟨f, hf⟩ := jst_all hn ht
  obtain ⟨D, hD⟩ := jcls_all hts
  obtain ⟨E, hE⟩ := jarr_all hts (jstart_nw ht)
  have hbl : b < s.heap.size := by
    obtain ⟨scr, h1, -⟩ := hX
    exact (Array.getElem?_eq_some_iff.mp h1).1
  refine ⟨(s.heap.size, fun a => if a = 18 then b else f a, (fun k => (D k).1, fun k => (D k).2), E), rfl, rfl, rfl, Nat.le_refl _, ?_, rfl, ⟨fun c q hq => hD c q hq, ?_⟩, ?_⟩
  · intro a ha
    have ha : (jK0 L a).1 ≠ 99 := ha
    have hk : (1 ≤ a ∧ a ≤ 12) ∨ a = 18 := by
      unfold jK0 at ha
      split at ha
      · exact absurd rfl ha
      · split at ha
        · omega
        · split at ha
          · omega
          · exact absurd rfl ha
    have hlt : a < 31 := by omega
    refine ⟨hlt, fun _ => ?_, fun h => absurd h (Nat.not_le.mpr hlt)⟩
    rcases hk with ⟨k1, k2⟩ | rfl
    · have e1 : jK0 L a = (100, (jvals.getD a []).length) := by
        unfold jK0
        rw [if_neg (by omega), if_pos (by omega)]
      have e2 : jK (jH0 L xs) a = (100, (jvals.getD a []).length) := e1
      refine ⟨by rw [e2], ?_⟩
      obtain ⟨-, cell, t1, t2, t3, t4, t5, t6, t7⟩ := hf a k1 k2
      have hne : a ≠ 18 := by omega
      refine ⟨cell, ?_, t2, t3, by rw [e2]; exact t4, by rw [e2]; exact t5, fun j hj => ?_, ?_⟩
      · show s.heap[if a = 18 then b else f a]? = _
        rw [if_neg hne]
        exact t1
      · rw [e2] at hj
        rw [t6 j hj]
        show _ = some (Value.int (if a = 18 then xs j else _))
        rw [if_neg hne]
      · show (if a = 18 then b else f a) < _
        rw [if_neg hne]
        exact Nat.not_le.mp t7
    · obtain ⟨scr, h1, h2, h3, h4, h5⟩ := hX
      refine ⟨rfl, scr, h1, h2, h3, Nat.le_of_eq h4.symm, ?_, fun j hj => h5 j hj, hbl⟩
      rw [h4]
      rfl
  · intro k q hq
    rw [List.getElem?_map] at hq
    cases hk : jtags[k]? with
    | none => rw [hk] at hq; cases hq
    | some t =>
      rw [hk] at hq
      cases hq
      exact hE t (List.mem_of_getElem? hk)
  · intro q hq
    obtain ⟨k, hk⟩ := List.getElem?_of_mem hq
    have hkl : k < 12 := (List.getElem?_eq_some_iff.mp hk).1
    have hz := (hf (k + 1) (by omega) (by omega)).1
    have e : jsts.getD (k + 1 - 1) (0, "", "") = q := by
      show jsts.getD k _ = q
      rw [List.getD_eq_getElem?_getD, hk]
      rfl
    rw [e] at hz
    have e1 : q.1 = k + 1 := by
      have : ∀ k, k < 12 → ∀ q, jsts[k]? = some q → q.1 = k + 1 := by
        intro k hk q hq
        rcases (show k = 0 ∨ k = 1 ∨ k = 2 ∨ k = 3 ∨ k = 4 ∨ k = 5 ∨ k = 6 ∨ k = 7 ∨ k = 8 ∨ k = 9 ∨ k = 10 ∨ k = 11 by omega) with rfl | rfl | rfl | rfl | rfl | rfl | rfl | rfl | rfl | rfl | rfl | rfl <;> (cases hq; rfl)
      exact this k hkl q hk
    show va_Z q.2.1 q.2.2 "[I" (.ref (if q.1 = 18 then b else f q.1)) _ s s.heap
    rw [if_neg (by omega), e1]
    exact hz
/-- what is left: the law's function answers 1, within the room -/
def jPURE : Prop := ∀ (L : Nat) (xs : Nat → Int32), L ≤ 260 → ∃ H' : jH, F_L_law 18 (jH0 L xs) = some (1, H') ∧ jn H' ≤ 600031 ∧ js H' ≤ 7302250
def lw_P (b : Addr) (xs : List Int32) (args : Array Value) (s : State) : Prop := args = #[.ref b] ∧ s.IntsAt b xs ∧ xs.length ≤ 260 ∧ (Jvm.Cond.and given_1 narrow_1).before args s = true
def lw_Q (_ : Array Value) (s : State) (o : Outcome) (t : State) : Prop := o = .returned (some (.int 1)) ∧ Framed s o t [] 600000 7302250
theorem lw_pre_spec {args : Array Value} {s : State} (h : (Jvm.Cond.and given_1 narrow_1).before args s = true) (hr : rest_1_c.before args s = true) : ∃ (b : Addr) (xs : List Int32), lw_P b xs args s := by
  have hs := flat_of_before _ h
  have hq := flat_of_before _ hr
  have hc : (Cond.count 1).before args s = true := hs _ (by decide +kernel)
  have harr : (Cond.arrayOf (.arg 0) .int).before args s = true := hs _ (by decide +kernel)
  have hle : (Cond.le (.length (.arg 0)) (.int 260)).before args s = true := hs _ (by decide +kernel)
  have hlen : (Cond.isInt (.length (.arg 0))).before args s = true := hq _ (by decide +kernel)
  have hall : (Cond.all (.arg 0) (.isInt (.elem (.arg 0) (.index 0)))).before args s = true := hq _ (by decide +kernel)
  obtain ⟨b, xs, hb, hx⟩ := State.ints_of_pre rfl harr hlen hall
  have hsm : xs.length < 2 ^ 31 := hx.choose_spec.2.2.2
  have hev : (Term.length (.arg 0)).eval args s none [] s = some (.int xs.length.toInt32) := hx.length_eval hb
  have hv := Cond.le_ints hev (show (Term.int 260).eval args s none [] s = some (.int 260) from rfl)
  have hd : xs.length.toInt32 ≤ 260 := by
    simpa [Cond.before, Cond.holds, hv] using hle
  have hN : xs.length ≤ 260 := (Int32.ofNat_le_ofNat hsm (by decide)).mp (show Int32.ofNat xs.length ≤ Int32.ofNat 260 from hd)
  exact ⟨b, xs, Cond.one_arg hc (show args[0]? = some (.ref b) from hb), hx, hN, h⟩
theorem jroom_mono {s : State} {pl : Platform} {r r' : Room} (h : s.hasRoom pl r = true) (h1 : r'.frames ≤ r.frames) (h2 : r'.cells ≤ r.cells) (h3 : r'.slots ≤ r.slots) (h4 : r'.locals ≤ r.locals) : s.hasRoom pl r' = true := by
  simp only [State.hasRoom, Bool.and_eq_true, decide_eq_true_eq] at h ⊢
  obtain ⟨⟨⟨⟨a1, a2, a3, a4, a5, a6⟩, a7⟩, a8⟩, a9⟩ := h
  exact ⟨⟨⟨⟨by omega, by omega, by omega, by omega, by omega, a6⟩, by omega⟩, by omega⟩, a9⟩
theorem lw_walk (hpure : jPURE) (l : Launch) (b : Addr) (xs : List Int32) : MetFree l x (headSpec (Jvm.Cond.code x code maxLocals ret :: tables_1) room_1) (lw_P b xs) (fun _ _ _ _ _ => True) lw_Q := by
  intro p e ha hc hk s m args below hf happ hP _
  obtain ⟨rfl, hx, hbd, hgv⟩ := hP
  obtain ⟨scr, harrAt, hlist, hof, hsmall⟩ := hx
  obtain ⟨hcb, hkn, -, -⟩ := State.arrayAt?_spec harrAt
  obtain ⟨p1, p2, p3, p4, p5, p6, p7, p8⟩ := (Spec.appliesLoose_iff hf).mp happ
  have hts0 : ∀ c ∈ (Jvm.Cond.code x code maxLocals ret :: tables_1), c.before #[Value.ref b] s = true := atoms_spec (ws := Jvm.Cond.code x code maxLocals ret :: tables_1) p8
  have ht : ∀ w ∈ tables_1, w.before #[Value.ref b] s = true := fun w hw => hts0 w (List.mem_cons_of_mem _ hw)
  have hsz : scr.slots.size = xs.length := by rw [← Array.length_toList, hlist, List.length_map]
  have hval : ∀ j : Nat, j < xs.length → scr.slots[j]? = some (.int (xs.getD j 0)) := fun j hj => by
    rw [← Array.getElem?_toList, hlist]
    simp [hj]
  have hX : va_X b xs.length (fun j => xs.getD j 0) s s.heap := ⟨scr, hcb, hof, hkn, hsz, hval⟩
  obtain ⟨G, hG1, hG2, hR⟩ := jstart (flat_of_before _ hgv) ht hX
  obtain ⟨H', h1, h2, h3⟩ := hpure xs.length (fun j => xs.getD j 0) hbd
  obtain ⟨hm, hmet⟩ := m_L_law l 18 (jH0 xs.length (fun j => xs.getD j 0)) _ _ h1
  have hr2 : s.hasRoom e.platform (jroom mi_L_law.2.2.2.2.2.2.1 (jn H' - jn (jH0 xs.length (fun j => xs.getD j 0))) (js H' - js (jH0 xs.length (fun j => xs.getD j 0))) mi_L_law.2.2.2.2.2.2.2) = true := by
    refine jroom_mono p7 ?_ ?_ ?_ ?_
    · exact Nat.le_of_ble_eq_true rfl
    · show jn H' - 31 ≤ 600000
      omega
    · show js H' - 0 ≤ 7302250
      omega
    · exact Nat.le_of_ble_eq_true rfl
  have happ2 := (Spec.appliesLoose_iff (S := headSpec (Jvm.Cond.code y_L_law code mi_L_law.2.2.1 mi_L_law.2.2.2.2.1 :: jws) (jroom mi_L_law.2.2.2.2.2.2.1 (jn H' - jn (jH0 xs.length (fun j => xs.getD j 0))) (js H' - js (jH0 xs.length (fun j => xs.getD j 0))) mi_L_law.2.2.2.2.2.2.2)) (x := y_L_law) (pl := e.platform) hf).mpr
    ⟨p1, p2, p3, p4, p5, p6, hr2, atoms_intro (jcons_mem (p := fun w : Cond => w.before #[Value.ref b] s = true) (hts0 _ List.mem_cons_self) (jstart_ws ht))⟩
  obtain ⟨n, o, q1, q2, q3, ⟨⟨q4, q5, q6⟩, Ls, ⟨q7, q8, q9⟩, q10⟩⟩ := hmet G p e ha hc hk s m #[Value.ref b] below hf happ2 ⟨by rw [show ([Value.ref 18].map (jv G)) = [Value.ref b] by rw [← hG2]; rfl], hR, jstart_nw ht⟩ trivial
  refine ⟨n, o, q1, q2, q3, q4, q7, q8, ?_⟩
  refine State.sameButNew.mono (State.sameButNew.sift q9 fun x hx => Or.inr ?_) (show jn H' - 31 ≤ 600000 by omega) (show js H' - 0 ≤ 7302250 by omega)
  rw [← hG1]
  exact q10 x hx
theorem lw_comes (hpure : jPURE) (l : Launch) : Comes l x (Jvm.Cond.code x code maxLocals ret :: tables_1) room_1 (fun tb e args s => Calls_1 tb e args s ∧ rest_1 tb e args s ∧ Pre_1 tb e args s)
    (fun _ _ args s o t => lw_Q args s o t) := by
  intro p e ha hc hk s m args below hf hfit hheap happ hpre
  obtain ⟨b, xs, hP⟩ := lw_pre_spec hpre.2.2 hpre.2.1
  obtain ⟨k, o, h1, h2, h3, hQ⟩ := lw_walk hpure l b xs p e ha hc hk s m args below hf ((Spec.applies_iff_loose hf).mp happ).1 hP trivial
  exact ⟨k, o, h1, h2, h3, hQ⟩
theorem lw_frame {s t : State} {o : Outcome} {args : Array Value} (h : Framed s o t [] 600000 7302250) :
    Framed s o t (fieldLocs frame_1_writes args s ++ arrayLocs frame_1_arrays args s ++ staticLocs frame_1_statics s) 600000 7302250 := h
theorem lw_limb (hpure : jPURE) (L : Cond) (hL : ∀ (args : Array Value) (s t : State), L.after args s (.returned (some (.int 1))) t = true) :
    ArmFor flags0 classFile x code maxLocals ret World_1 tables_1 room_1 Calls_1 rest_1 Pre_1
      (fun tb e a s o t => postC L tb e a s o t ∧ Framed s o t (fieldLocs frame_1_writes a s ++ arrayLocs frame_1_arrays a s ++ staticLocs frame_1_statics s) 600000 7302250) := by
  intro l hflags _ _ p e ha hc hk s m args below hf hfit hheap happ hpre
  obtain ⟨k, o, h1, h2, h3, rfl, hF⟩ := lw_comes hpure l p e ha hc hk s m args below hf hfit hheap happ hpre
  exact ⟨k, _, h1, h2, h3, hL args s _, lw_frame hF⟩
/-- the claim, once the law's function is known to answer 1 -/
theorem jclaim (hpure : jPURE) : Claimed_1_1 ∧ Claimed_1_2 := ⟨lw_limb hpure limb_1_1 (fun args s t => by simp [limb_1_1, Cond.after, Cond.holds, Cond.value]), lw_limb hpure limb_1_2 (fun args s t => Cond.after_iff.mpr (by
  first | (rw [show limb_1_2 = Cond.eq .result (.int 1) from rfl, Cond.eq_ints (x := 1) (y := 1) rfl rfl]; simp; done) | (simp [limb_1_2, Cond.value, Term.eval]; done)))⟩
