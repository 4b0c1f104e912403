def jmaxI (x y : Int32) : Int32 := if x < y then y else x
def jminI (x y : Int32) : Int32 := if y < x then y else x
def jabsI (x : Int32) : Int32 := if 0 ≤ x then x else 0 - x
def jmaxL (x y : Int64) : Int64 := if y < x then x else y
def jminL (x y : Int64) : Int64 := if y < x then y else x
def jabsL (x : Int64) : Int64 := if 0 < x then x else -x
theorem s_maxI {l : Launch} {mi : jM} {α : Type} {emb : α → Option Value} {pc : Nat} {ls : List (Nat × Value)} {st : List Value} {H : jH} {o : Option (α × jH)} (b d q i : Nat) {x y : Int32} (hl0 : Cond.methodLink mi.2.2.2.1 i Lib.Math.max.name ∈ jws) (hst : Cond.static Lib.Math.max.name ∈ jws) (hini : Cond.initialized "java/lang/Math" ∈ jws) (hco : Cond.code Lib.Math.max.name Lib.Math.max.code 2 (some .int) ∈ jws) (hi : b * 256 + d = i) (hrm : jrm 1 mi.2.2.2.2.2.2.1 ((st.map fun v => v.category).sum + 15) mi.2.2.2.2.2.2.2 = true) (hw : jx3 mi.1 mi.2.1 pc 184 b d q = true) (kk0 : JV l mi emb q ls (.int (jmaxI x y) :: st) H o) : JV l mi emb pc ls (.int y :: .int x :: st) H o := by
  obtain ⟨hw1, rfl⟩ := jx3_spec hw
  subst hi
  intro r H' ho
  obtain ⟨hm, kk⟩ := kk0 r H' ho
  obtain ⟨r1, r2⟩ := jrm_spec hrm
  refine ⟨hm, fun c hc e1 n1 n2 Hr la locs hR hS hl => ?_⟩
  exact va_mmax hc.1 rfl (hc.2.2.1.trans hl.1.symm) hc.2.2.2.1 (hc.2.2.2.2.2.2.2.1 _ hl0) (hc.2.2.2.2.2.2.2.1 _ hst) (hc.2.2.2.2.2.2.2.1 _ hini) (hc.2.2.2.2.2.2.2.1 _ hco) r1 (by rw [jcats]; show _ ≤ mi.2.2.2.2.2.2.2; omega) (by show _ ≤ jn H' - jn c.2.2.2; omega) (by show _ ≤ js H' - js c.2.2.2; omega) (jd_184 hc.2.1 hw1) (kk c hc e1 n1 n2 Hr la locs hR hS hl)
theorem s_minI {l : Launch} {mi : jM} {α : Type} {emb : α → Option Value} {pc : Nat} {ls : List (Nat × Value)} {st : List Value} {H : jH} {o : Option (α × jH)} (b d q i : Nat) {x y : Int32} (hl0 : Cond.methodLink mi.2.2.2.1 i Lib.Math.min.name ∈ jws) (hst : Cond.static Lib.Math.min.name ∈ jws) (hini : Cond.initialized "java/lang/Math" ∈ jws) (hco : Cond.code Lib.Math.min.name Lib.Math.min.code 2 (some .int) ∈ jws) (hi : b * 256 + d = i) (hrm : jrm 1 mi.2.2.2.2.2.2.1 ((st.map fun v => v.category).sum + 15) mi.2.2.2.2.2.2.2 = true) (hw : jx3 mi.1 mi.2.1 pc 184 b d q = true) (kk0 : JV l mi emb q ls (.int (jminI x y) :: st) H o) : JV l mi emb pc ls (.int y :: .int x :: st) H o := by
  obtain ⟨hw1, rfl⟩ := jx3_spec hw
  subst hi
  intro r H' ho
  obtain ⟨hm, kk⟩ := kk0 r H' ho
  obtain ⟨r1, r2⟩ := jrm_spec hrm
  refine ⟨hm, fun c hc e1 n1 n2 Hr la locs hR hS hl => ?_⟩
  exact va_mmin hc.1 rfl (hc.2.2.1.trans hl.1.symm) hc.2.2.2.1 (hc.2.2.2.2.2.2.2.1 _ hl0) (hc.2.2.2.2.2.2.2.1 _ hst) (hc.2.2.2.2.2.2.2.1 _ hini) (hc.2.2.2.2.2.2.2.1 _ hco) r1 (by rw [jcats]; show _ ≤ mi.2.2.2.2.2.2.2; omega) (by show _ ≤ jn H' - jn c.2.2.2; omega) (by show _ ≤ js H' - js c.2.2.2; omega) (jd_184 hc.2.1 hw1) (kk c hc e1 n1 n2 Hr la locs hR hS hl)
theorem s_absI {l : Launch} {mi : jM} {α : Type} {emb : α → Option Value} {pc : Nat} {ls : List (Nat × Value)} {st : List Value} {H : jH} {o : Option (α × jH)} (b d q i : Nat) {x : Int32} (hl0 : Cond.methodLink mi.2.2.2.1 i Lib.Math.abs.name ∈ jws) (hst : Cond.static Lib.Math.abs.name ∈ jws) (hini : Cond.initialized "java/lang/Math" ∈ jws) (hco : Cond.code Lib.Math.abs.name Lib.Math.abs.code 1 (some .int) ∈ jws) (hi : b * 256 + d = i) (hrm : jrm 1 mi.2.2.2.2.2.2.1 ((st.map fun v => v.category).sum + 15) mi.2.2.2.2.2.2.2 = true) (hw : jx3 mi.1 mi.2.1 pc 184 b d q = true) (kk0 : JV l mi emb q ls (.int (jabsI x) :: st) H o) : JV l mi emb pc ls (.int x :: st) H o := by
  obtain ⟨hw1, rfl⟩ := jx3_spec hw
  subst hi
  intro r H' ho
  obtain ⟨hm, kk⟩ := kk0 r H' ho
  obtain ⟨r1, r2⟩ := jrm_spec hrm
  refine ⟨hm, fun c hc e1 n1 n2 Hr la locs hR hS hl => ?_⟩
  exact va_mabs hc.1 rfl (hc.2.2.1.trans hl.1.symm) hc.2.2.2.1 (hc.2.2.2.2.2.2.2.1 _ hl0) (hc.2.2.2.2.2.2.2.1 _ hst) (hc.2.2.2.2.2.2.2.1 _ hini) (hc.2.2.2.2.2.2.2.1 _ hco) r1 (by rw [jcats]; show _ ≤ mi.2.2.2.2.2.2.2; omega) (by show _ ≤ jn H' - jn c.2.2.2; omega) (by show _ ≤ js H' - js c.2.2.2; omega) (jd_184 hc.2.1 hw1) (kk c hc e1 n1 n2 Hr la locs hR hS hl)
theorem s_maxL {l : Launch} {mi : jM} {α : Type} {emb : α → Option Value} {pc : Nat} {ls : List (Nat × Value)} {st : List Value} {H : jH} {o : Option (α × jH)} (b d q i : Nat) {x y : Int64} (hl0 : Cond.methodLink mi.2.2.2.1 i Lib.MathLoose.max_long.x ∈ jws) (hst : Cond.static Lib.MathLoose.max_long.x ∈ jws) (hini : Cond.initialized "java/lang/Math" ∈ jws) (hco : Cond.code Lib.MathLoose.max_long.x Lib.MathLoose.max_long.code 4 (some .long) ∈ jws) (hi : b * 256 + d = i) (hrm : jrm 1 mi.2.2.2.2.2.2.1 ((st.map fun v => v.category).sum + 15) mi.2.2.2.2.2.2.2 = true) (hw : jx3 mi.1 mi.2.1 pc 184 b d q = true) (kk0 : JV l mi emb q ls (.long (jmaxL x y) :: st) H o) : JV l mi emb pc ls (.long y :: .long x :: st) H o := by
  obtain ⟨hw1, rfl⟩ := jx3_spec hw
  subst hi
  intro r H' ho
  obtain ⟨hm, kk⟩ := kk0 r H' ho
  obtain ⟨r1, r2⟩ := jrm_spec hrm
  refine ⟨hm, fun c hc e1 n1 n2 Hr la locs hR hS hl => ?_⟩
  exact va_mmax_long hc.1 rfl (hc.2.2.1.trans hl.1.symm) hc.2.2.2.1 (hc.2.2.2.2.2.2.2.1 _ hl0) (hc.2.2.2.2.2.2.2.1 _ hst) (hc.2.2.2.2.2.2.2.1 _ hini) (hc.2.2.2.2.2.2.2.1 _ hco) r1 (by rw [jcats]; show _ ≤ mi.2.2.2.2.2.2.2; omega) (by show _ ≤ jn H' - jn c.2.2.2; omega) (by show _ ≤ js H' - js c.2.2.2; omega) (jd_184 hc.2.1 hw1) (kk c hc e1 n1 n2 Hr la locs hR hS hl)
theorem s_minL {l : Launch} {mi : jM} {α : Type} {emb : α → Option Value} {pc : Nat} {ls : List (Nat × Value)} {st : List Value} {H : jH} {o : Option (α × jH)} (b d q i : Nat) {x y : Int64} (hl0 : Cond.methodLink mi.2.2.2.1 i Lib.MathLoose.min_long.x ∈ jws) (hst : Cond.static Lib.MathLoose.min_long.x ∈ jws) (hini : Cond.initialized "java/lang/Math" ∈ jws) (hco : Cond.code Lib.MathLoose.min_long.x Lib.MathLoose.min_long.code 4 (some .long) ∈ jws) (hi : b * 256 + d = i) (hrm : jrm 1 mi.2.2.2.2.2.2.1 ((st.map fun v => v.category).sum + 15) mi.2.2.2.2.2.2.2 = true) (hw : jx3 mi.1 mi.2.1 pc 184 b d q = true) (kk0 : JV l mi emb q ls (.long (jminL x y) :: st) H o) : JV l mi emb pc ls (.long y :: .long x :: st) H o := by
  obtain ⟨hw1, rfl⟩ := jx3_spec hw
  subst hi
  intro r H' ho
  obtain ⟨hm, kk⟩ := kk0 r H' ho
  obtain ⟨r1, r2⟩ := jrm_spec hrm
  refine ⟨hm, fun c hc e1 n1 n2 Hr la locs hR hS hl => ?_⟩
  exact va_mmin_long hc.1 rfl (hc.2.2.1.trans hl.1.symm) hc.2.2.2.1 (hc.2.2.2.2.2.2.2.1 _ hl0) (hc.2.2.2.2.2.2.2.1 _ hst) (hc.2.2.2.2.2.2.2.1 _ hini) (hc.2.2.2.2.2.2.2.1 _ hco) r1 (by rw [jcats]; show _ ≤ mi.2.2.2.2.2.2.2; omega) (by show _ ≤ jn H' - jn c.2.2.2; omega) (by show _ ≤ js H' - js c.2.2.2; omega) (jd_184 hc.2.1 hw1) (kk c hc e1 n1 n2 Hr la locs hR hS hl)
theorem s_absL {l : Launch} {mi : jM} {α : Type} {emb : α → Option Value} {pc : Nat} {ls : List (Nat × Value)} {st : List Value} {H : jH} {o : Option (α × jH)} (b d q i : Nat) {x : Int64} (hl0 : Cond.methodLink mi.2.2.2.1 i Lib.MathLoose.abs_long.x ∈ jws) (hst : Cond.static Lib.MathLoose.abs_long.x ∈ jws) (hini : Cond.initialized "java/lang/Math" ∈ jws) (hco : Cond.code Lib.MathLoose.abs_long.x Lib.MathLoose.abs_long.code 2 (some .long) ∈ jws) (hi : b * 256 + d = i) (hrm : jrm 1 mi.2.2.2.2.2.2.1 ((st.map fun v => v.category).sum + 15) mi.2.2.2.2.2.2.2 = true) (hw : jx3 mi.1 mi.2.1 pc 184 b d q = true) (kk0 : JV l mi emb q ls (.long (jabsL x) :: st) H o) : JV l mi emb pc ls (.long x :: st) H o := by
  obtain ⟨hw1, rfl⟩ := jx3_spec hw
  subst hi
  intro r H' ho
  obtain ⟨hm, kk⟩ := kk0 r H' ho
  obtain ⟨r1, r2⟩ := jrm_spec hrm
  refine ⟨hm, fun c hc e1 n1 n2 Hr la locs hR hS hl => ?_⟩
  exact va_mabs_long hc.1 rfl (hc.2.2.1.trans hl.1.symm) hc.2.2.2.1 (hc.2.2.2.2.2.2.2.1 _ hl0) (hc.2.2.2.2.2.2.2.1 _ hst) (hc.2.2.2.2.2.2.2.1 _ hini) (hc.2.2.2.2.2.2.2.1 _ hco) r1 (by rw [jcats]; show _ ≤ mi.2.2.2.2.2.2.2; omega) (by show _ ≤ jn H' - jn c.2.2.2; omega) (by show _ ≤ js H' - js c.2.2.2; omega) (jd_184 hc.2.1 hw1) (kk c hc e1 n1 n2 Hr la locs hR hS hl)
