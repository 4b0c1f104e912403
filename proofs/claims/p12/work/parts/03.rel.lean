theorem jcl_lt {t : Nat} {q : vw_C} (h : jcl[t]? = some q) : t < 12 := (List.getElem?_eq_some_iff.mp h).1
theorem jtag_ge {t : Nat} (h : t ∈ jtags) : 100 ≤ t := by
  simp only [jtags, List.mem_cons, List.not_mem_nil, or_false] at h
  omega
theorem jcl_none {t : Nat} (h : 12 ≤ t) : jcl[t]? = none := List.getElem?_eq_none h
theorem jad_own {G : jG} {a : Nat} (h : jF0 ≤ a) : jad G a = G.1 + (a - jF0) := if_neg (Nat.not_lt.mpr h)
theorem jad_inj {G : jG} {a b : Nat} (ha : jF0 ≤ a) (hb : jF0 ≤ b) (h : jad G a = jad G b) : a = b := by
  rw [jad_own ha, jad_own hb] at h
  omega
theorem jad_A {G : jG} {a : Nat} (h : jF0 ≤ a) : jA G (jad G a) := by
  rw [jad_own h]
  exact Nat.le_add_right _ _
theorem jcv_congr {G : jG} {H H2 : jH} {a j k : Nat} (h1 : jI H2 a j = jI H a j) (h2 : jL H2 a j = jL H a j) (h3 : jR H2 a j = jR H a j) (h4 : jB H2 a j = jB H a j) : jcv G H2 a j k = jcv G H a j k := by
  unfold jcv
  rw [h1, h2, h3, h4]
theorem jcell_congr {G : jG} {H H2 : jH} {Hr Hr2 : Heap} {a : Nat} (h : jcell G H Hr a) (hk : jK H2 a = jK H a) (hv : ∀ j k, jcv G H2 a j k = jcv G H a j k) (hq : Hr2[jad G a]? = Hr[jad G a]?) : jcell G H2 Hr2 a := by
  unfold jcell at h ⊢
  rw [hk]
  rcases h with ⟨q, h1, h2, h3⟩ | ⟨h1, h2, h3⟩
  · exact Or.inl ⟨q, h1, h2, (h3.kept hq).to fun k _ => (hv k _).symm⟩
  · refine Or.inr ⟨h1, h2, ?_⟩
    rw [hq, h3]
    simp only [hv]
/-- one own cell changes, its kind stays -/
theorem jrel_upd {G : jG} {H H2 : jH} {U : State} {Hr Hr2 : Heap} {o : Nat} (hR : jRel G H U Hr) (ho : jF0 ≤ o) (hsz : Hr2.size = Hr.size) (hoff : ∀ q, q ≠ jad G o → Hr2[q]? = Hr[q]?)
    (hK : jK H2 = jK H) (hn : jn H2 = jn H) (hv : ∀ a, a ≠ o → ∀ j, jI H2 a j = jI H a j ∧ jL H2 a j = jL H a j ∧ jR H2 a j = jR H a j ∧ jB H2 a j = jB H a j) (hc : jcell G H2 Hr2 o) : jRel G H2 U Hr2 := by
  obtain ⟨r1, r2, r3, r4, r5, r6⟩ := hR
  refine ⟨by rw [hsz, hn]; exact r1, by rw [hn]; exact r2, fun a ha => ?_, by rw [hK]; exact r4, r5, fun q hq => ?_⟩
  · rw [hK] at ha
    obtain ⟨s1, s2, s3⟩ := r3 a ha
    refine ⟨by rw [hn]; exact s1, fun hlt => ?_, fun hge => ?_⟩
    · obtain ⟨t1, cell, t2, t3, t4, t5, t6, t7, t8⟩ := s2 hlt
      have hne : a ≠ o := by omega
      refine ⟨by rw [hK]; exact t1, cell, ?_, t3, t4, by rw [hK]; exact t5, by rw [hK]; exact t6, fun j hj => ?_, t8⟩
      · rw [hoff _ (by rw [jad_own ho]; omega)]
        exact t2
      · rw [hK] at hj
        rw [(hv a hne j).1]
        exact t7 j hj
    · by_cases hao : a = o
      · subst hao
        exact hc
      · exact jcell_congr (s3 hge) (by rw [hK]) (fun j k => jcv_congr (hv a hao j).1 (hv a hao j).2.1 (hv a hao j).2.2.1 (hv a hao j).2.2.2) (hoff _ fun e => hao (jad_inj hge ho e))
  · refine (r6 q hq).kept fun a ha hA => hoff a fun e => hA ?_
    rw [e]
    exact jad_A ho
/-- a new cell -/
theorem jrel_new {G : jG} {H : jH} {U : State} {Hr Hr2 : Heap} {t k : Nat} (hR : jRel G H U Hr) (ht : t ≠ 99) (hsz : Hr2.size = Hr.size + 1) (hoff : ∀ q, q < Hr.size → Hr2[q]? = Hr[q]?)
    (hc : jcell G (jnew H t k) Hr2 (jn H)) : jRel G (jnew H t k) U Hr2 := by
  obtain ⟨r1, r2, r3, r4, r5, r6⟩ := hR
  have hn : jn (jnew H t k) = jn H + 1 := rfl
  have hKn : ∀ b, b ≠ jn H → jK (jnew H t k) b = jK H b := fun b hb => if_neg hb
  refine ⟨by rw [hsz, hn]; omega, by rw [hn]; omega, fun a ha => ?_, by rw [hKn 0 (by unfold jF0 at r2; omega)]; exact r4, r5, fun q hq => ?_⟩
  · by_cases hao : a = jn H
    · subst hao
      exact ⟨by rw [hn]; omega, fun h => by omega, fun _ => hc⟩
    · rw [hKn a hao] at ha
      obtain ⟨s1, s2, s3⟩ := r3 a ha
      have hI : ∀ j, jI (jnew H t k) a j = jI H a j := fun j => if_neg hao
      have hL : ∀ j, jL (jnew H t k) a j = jL H a j := fun j => if_neg hao
      have hRr : ∀ j, jR (jnew H t k) a j = jR H a j := fun j => if_neg hao
      have hBr : ∀ j, jB (jnew H t k) a j = jB H a j := fun j => if_neg hao
      refine ⟨by rw [hn]; omega, fun hlt => ?_, fun hge => ?_⟩
      · obtain ⟨t1, cell, t2, t3, t4, t5, t6, t7, t8⟩ := s2 hlt
        refine ⟨by rw [hKn a hao]; exact t1, cell, ?_, t3, t4, by rw [hKn a hao]; exact t5, by rw [hKn a hao]; exact t6, fun j hj => ?_, t8⟩
        · rw [hoff _ (Array.getElem?_eq_some_iff.mp t2).1]
          exact t2
        · rw [hKn a hao] at hj
          rw [hI]
          exact t7 j hj
      · refine jcell_congr (s3 hge) (hKn a hao) (fun j k => jcv_congr (hI j) (hL j) (hRr j) (hBr j)) (hoff _ ?_)
        rw [jad_own hge]
        omega
  · exact (r6 q hq).kept fun a ha _ => hoff a ha
theorem jrel_moved {G : jG} {H : jH} {u U : State} {Hr : Heap} (hvm : u.vm.Alike U.vm) (hR : jRel G H u Hr) : jRel G H U Hr := by
  obtain ⟨r1, r2, r3, r4, r5, r6⟩ := hR
  refine ⟨r1, r2, fun a ha => ?_, r4, va_K.moved hvm r5, fun q hq => (r6 q hq).moved hvm⟩
  obtain ⟨s1, s2, s3⟩ := r3 a ha
  refine ⟨s1, fun hlt => ?_, s3⟩
  obtain ⟨t1, cell, t2, t3, t4⟩ := s2 hlt
  exact ⟨t1, cell, t2, State.isArrayOf_alike hvm t3, t4⟩
/-- an object -/
theorem jrel_obj {G : jG} {H : jH} {U : State} {Hr : Heap} {o t : Nat} {q : vw_C} (hR : jRel G H U Hr) (ht : (jK H o).1 = t) (hq : jcl[t]? = some q) : jF0 ≤ o ∧ (jK H o).2 = q.2.2 ∧ t_OB (jad G o) (G.2.2.1.1 t) q.2.2 (G.2.2.1.2 t) Hr (fun k => jcv G H o k (jfd (q.2.1 k).2.2.1)) := by
  have hlt := jcl_lt hq
  obtain ⟨-, s2, s3⟩ := hR.2.2.1 o (by omega)
  have hge : jF0 ≤ o := by
    apply Nat.not_lt.mp
    intro h
    have := (s2 h).1
    omega
  refine ⟨hge, ?_⟩
  rcases s3 hge with ⟨q', h1, h2, h3⟩ | ⟨h1, -, -⟩
  · rw [ht] at h1 h3
    rw [h1] at hq
    cases hq
    exact ⟨h2, h3⟩
  · have := jtag_ge h1
    omega
/-- an own array -/
theorem jrel_arr {G : jG} {H : jH} {U : State} {Hr : Heap} {o t : Nat} (hR : jRel G H U Hr) (ht : (jK H o).1 = t) (hm : t ∈ jtags) (ho : jF0 ≤ o ∨ t ≠ 100) : jF0 ≤ o ∧ Hr[jad G o]? = some (arrV (G.2.2.2 t) (jK H o).2 (fun j => jcv G H o j (jkd (jty t)))) := by
  have hge := jtag_ge hm
  obtain ⟨-, s2, s3⟩ := hR.2.2.1 o (by omega)
  have hge2 : jF0 ≤ o := by
    rcases ho with h | h
    · exact h
    · apply Nat.not_lt.mp
      intro h2
      have := (s2 h2).1
      omega
  refine ⟨hge2, ?_⟩
  rcases s3 hge2 with ⟨q', h1, -, -⟩ | ⟨-, -, h3⟩
  · have := jcl_lt h1
    omega
  · rw [ht] at h3
    exact h3
theorem jrel_ty {G : jG} {H : jH} {U : State} {Hr : Heap} {t : Nat} (hR : jRel G H U Hr) (hm : t ∈ jtags) : ArrOfT U (G.2.2.2 t) (jty t) ∧ va_RA U (G.2.2.2 t) (jty t) := by
  obtain ⟨k, hk⟩ := List.getElem?_of_mem hm
  exact hR.2.2.2.2.1.2 k (G.2.2.2 t, jty t) (by rw [List.getElem?_map, hk]; rfl)
abbrev jin (i : Int32) (n : Nat) : Prop := 0 ≤ i.toInt ∧ i.toInt < n
theorem jin_vp {i : Int32} {n : Nat} (h : jin i n) : vp_in i n := vp_in_iff.mpr h
theorem jin_lt {i : Int32} {n : Nat} (h : jin i n) : i.toNatClampNeg < n := by
  have := jin_vp h
  exact Nat.not_le.mp fun q => this (Or.inr q)
theorem jLoc_at {G : jG} {la : Array Slot} {nL : Nat} {ls : List (Nat × Value)} {i : Nat} {v : Value} (h : jLoc G la nL ls) (hi : ls.lookup i = some v) : la[i]? = some (.val (jv G v)) := h.2.2 i v hi
/-- the list of what look-ups find -/
def jE (G : jG) (ls : List (Nat × Value)) : List (Nat × Value) := ls.filterMap (fun q => (ls.lookup q.1).map (fun v => (q.1, jv G v)))
theorem jLoc_has {G : jG} {la : Array Slot} {nL : Nat} {ls : List (Nat × Value)} (h : jLoc G la nL ls) : lv_has la nL (jE G ls) := by
  refine ⟨h.1, h.2.1, fun q hq => ?_⟩
  obtain ⟨q0, -, h2⟩ := List.mem_filterMap.mp hq
  cases hl : ls.lookup q0.1 with
  | none => rw [hl] at h2; cases h2
  | some v =>
    rw [hl] at h2
    cases h2
    exact h.2.2 _ _ hl
theorem jmem_lookup {ls : List (Nat × Value)} {i : Nat} {v : Value} (h : ls.lookup i = some v) : (i, v) ∈ ls := by
  induction ls with
  | nil => cases h
  | cons q l ih =>
    obtain ⟨a, b⟩ := q
    simp only [List.lookup] at h
    split at h
    · rename_i he
      have : i = a := by simpa using he
      cases h
      rw [this]
      exact List.mem_cons_self
    · exact List.mem_cons_of_mem _ (ih h)
theorem jE_mem {G : jG} {ls : List (Nat × Value)} {i : Nat} {v : Value} (h : ls.lookup i = some v) : (i, jv G v) ∈ jE G ls := by
  refine List.mem_filterMap.mpr ⟨(i, v), jmem_lookup h, ?_⟩
  show (ls.lookup i).map _ = _
  rw [h]
  rfl
theorem jv_cat (G : jG) (v : Value) : (jv G v).category = v.category := by
  cases v <;> try rfl
  unfold jv jrv
  simp only
  split <;> rfl
/-- no long stands at a place -/
def jnol (ls : List (Nat × Value)) (i : Nat) : Bool := match ls.lookup i with
  | some (.long _) => false
  | some (.double _) => false
  | _ => true
theorem jnol_cat {ls : List (Nat × Value)} {i : Nat} {v : Value} (h : jnol ls i = true) (hv : ls.lookup i = some v) : v.category ≠ 2 := by
  unfold jnol at h
  rw [hv] at h
  cases v <;> simp_all [Value.category]
/-- what a store of a value of one word leaves -/
theorem jLoc_store {G : jG} {la' : Array Slot} {nL i : Nat} {v : Value} {ls : List (Nat × Value)} (hn : i = 0 ∨ jnol ls (i - 1) = true)
    (h' : lv_has la' nL ((i, jv G v) :: (jE G ls).filter (fun q => !(q.1 == i) && !(q.1 + 1 == i && q.2.category == 2)))) : jLoc G la' nL ((i, v) :: ls) := by
  refine ⟨h'.1, h'.2.1, fun j w hj => ?_⟩
  simp only [List.lookup] at hj
  split at hj
  · rename_i he
    have : j = i := by simpa using he
    subst this
    cases hj
    exact h'.2.2 (j, _) List.mem_cons_self
  · rename_i he
    have hji : j ≠ i := by simpa using he
    refine h'.2.2 (j, jv G w) (List.mem_cons_of_mem _ (List.mem_filter.mpr ⟨jE_mem hj, ?_⟩))
    simp only [Bool.and_eq_true, Bool.not_eq_true', beq_eq_false_iff_ne, ne_eq, Bool.and_eq_false_iff]
    refine ⟨hji, ?_⟩
    by_cases h1 : j + 1 = i
    · right
      rcases hn with h0 | h0
      · omega
      · have : i - 1 = j := by omega
        rw [this] at h0
        show ¬ (jv G w).category = 2
        rw [jv_cat]
        exact jnol_cat h0 hj
    · exact Or.inl h1
/-- what a store of a long leaves -/
theorem jLoc_store2 {G : jG} {la' : Array Slot} {nL i : Nat} {v : Value} {ls : List (Nat × Value)} (hn : i = 0 ∨ jnol ls (i - 1) = true) (hn2 : ls.lookup (i + 1) = none)
    (h' : lv_has la' nL ((i, jv G v) :: (jE G ls).filter (fun q => !(q.1 == i) && (!(q.1 == i + 1) && !(q.1 + 1 == i && q.2.category == 2))))) : jLoc G la' nL ((i, v) :: ls) := by
  refine ⟨h'.1, h'.2.1, fun j w hj => ?_⟩
  simp only [List.lookup] at hj
  split at hj
  · rename_i he
    have : j = i := by simpa using he
    subst this
    cases hj
    exact h'.2.2 (j, _) List.mem_cons_self
  · rename_i he
    have hji : j ≠ i := by simpa using he
    have hji2 : j ≠ i + 1 := fun e => by rw [e, hn2] at hj; cases hj
    refine h'.2.2 (j, jv G w) (List.mem_cons_of_mem _ (List.mem_filter.mpr ⟨jE_mem hj, ?_⟩))
    simp only [Bool.and_eq_true, Bool.not_eq_true', beq_eq_false_iff_ne, ne_eq, Bool.and_eq_false_iff]
    refine ⟨hji, hji2, ?_⟩
    by_cases h1 : j + 1 = i
    · right
      rcases hn with h0 | h0
      · omega
      · have : i - 1 = j := by omega
        rw [this] at h0
        show ¬ (jv G w).category = 2
        rw [jv_cat]
        exact jnol_cat h0 hj
    · exact Or.inl h1
/-- fewer locals: each is found in the longer list -/
def jsub : List (Nat × Value) → List (Nat × Value) → Prop
  | [], _ => True
  | q :: t, ls => ls.lookup q.1 = some q.2 ∧ jsub t ls
theorem jsub_mem {l ls : List (Nat × Value)} (h : jsub l ls) : ∀ q ∈ l, ls.lookup q.1 = some q.2 := by
  induction l with
  | nil => intro q hq; cases hq
  | cons a t ih =>
    intro q hq
    rcases List.mem_cons.mp hq with e | e
    · rw [e]; exact h.1
    · exact ih h.2 q e
theorem jLoc_sub {G : jG} {la : Array Slot} {nL : Nat} {l ls : List (Nat × Value)} (h : jLoc G la nL ls) (hs : jsub l ls) : jLoc G la nL l :=
  ⟨h.1, h.2.1, fun i v hi => h.2.2 i v (jsub_mem hs (i, v) (jmem_lookup hi))⟩
