/-! One step each: the abstract walk, an instruction. -/
def jx1 (N S pc a q : Nat) : Bool := jw1 N S pc a && Nat.beq (pc + 1) q
def jx2 (N S pc a b q : Nat) : Bool := jw2 N S pc a b && Nat.beq (pc + 2) q
def jx3 (N S pc a b d q : Nat) : Bool := jw3 N S pc a b d && Nat.beq (pc + 3) q
theorem jx1_spec {N S pc a q : Nat} (h : jx1 N S pc a q = true) : jw1 N S pc a = true ∧ pc + 1 = q := by
  simp only [jx1, Bool.and_eq_true, Nat.beq_eq] at h
  exact h
theorem jx2_spec {N S pc a b q : Nat} (h : jx2 N S pc a b q = true) : jw2 N S pc a b = true ∧ pc + 2 = q := by
  simp only [jx2, Bool.and_eq_true, Nat.beq_eq] at h
  exact h
theorem jx3_spec {N S pc a b d q : Nat} (h : jx3 N S pc a b d q = true) : jw3 N S pc a b d = true ∧ pc + 3 = q := by
  simp only [jx3, Bool.and_eq_true, Nat.beq_eq] at h
  exact h
def jst1 (n : Nat) (ls : List (Nat × Value)) (i : Nat) : Bool := Nat.blt i n && (Nat.beq i 0 || jnol ls (i - 1))
def jst2 (n : Nat) (ls : List (Nat × Value)) (i : Nat) : Bool := Nat.blt (i + 1) n && (Nat.beq i 0 || jnol ls (i - 1)) && (ls.lookup (i + 1)).isNone
theorem jst1_spec {n : Nat} {ls : List (Nat × Value)} {i : Nat} (h : jst1 n ls i = true) : i < n ∧ (i = 0 ∨ jnol ls (i - 1) = true) := by
  simp only [jst1, Bool.and_eq_true, Bool.or_eq_true, Nat.beq_eq, Nat.blt_eq] at h
  exact h
theorem jst2_spec {n : Nat} {ls : List (Nat × Value)} {i : Nat} (h : jst2 n ls i = true) : i + 1 < n ∧ (i = 0 ∨ jnol ls (i - 1) = true) ∧ ls.lookup (i + 1) = none := by
  simp only [jst2, Bool.and_eq_true, Bool.or_eq_true, Nat.beq_eq, Nat.blt_eq, Option.isNone_iff_eq_none] at h
  exact ⟨h.1.1, h.1.2, h.2⟩
def jg {α : Type} (c : Prop) [Decidable c] (o : Option α) : Option α := if c then o else none
theorem jg_some {α : Type} {c : Prop} [Decidable c] {o : Option α} {x : α} (h : jg c o = some x) : c ∧ o = some x := by
  unfold jg at h
  split at h
  · exact ⟨by assumption, h⟩
  · cases h
def jl {α β : Type} (e : α) (k : α → β) : β := k e
def jrem (x y : Int32) : Int32 := x - x / y * y
def jremL (x y : Int64) : Int64 := x - x / y * y
def jshl (x y : Int32) : Int32 := x <<< (y &&& 31)
def jshr (x y : Int32) : Int32 := x >>> (y &&& 31)
def jushr (x y : Int32) : Int32 := (x.toUInt32 >>> (y.toUInt32 &&& Int32.toUInt32 31)).toInt32
def jshlL (x : Int64) (y : Int32) : Int64 := x <<< (y.toInt64 &&& 63)
def jshrL (x : Int64) (y : Int32) : Int64 := x >>> (y.toInt64 &&& 63)
def jushrL (x : Int64) (y : Int32) : Int64 := (x.toUInt64 >>> (y.toInt64.toUInt64 &&& Int64.toUInt64 63)).toInt64
def ji2b (x : Int32) : Int32 := x.toInt8.toInt32
theorem s_96 {l : Launch} {mi : jM} {α : Type} {emb : α → Option Value} {pc : Nat} {ls : List (Nat × Value)} {st : List Value} {H : jH} {o : Option (α × jH)} (q : Nat) (hw : jx1 mi.1 mi.2.1 pc 96 q = true) {x y : Int32} (k : JV l mi emb q ls (.int (x + y) :: st) H o) : JV l mi emb pc ls (.int y :: .int x :: st) H o := by
  obtain ⟨hw1, rfl⟩ := jx1_spec hw
  intro r H' ho
  skip
  obtain ⟨hm, kk⟩ := k r H' ho
  exact ⟨hm, fun c hc e1 n1 n2 Hr la locs hR hS hl => lv_iadd hc.1 rfl (jd_96 hc.2.1 hw1)  (kk c hc e1 n1 n2 Hr la locs hR hS hl)⟩
theorem s_100 {l : Launch} {mi : jM} {α : Type} {emb : α → Option Value} {pc : Nat} {ls : List (Nat × Value)} {st : List Value} {H : jH} {o : Option (α × jH)} (q : Nat) (hw : jx1 mi.1 mi.2.1 pc 100 q = true) {x y : Int32} (k : JV l mi emb q ls (.int (x - y) :: st) H o) : JV l mi emb pc ls (.int y :: .int x :: st) H o := by
  obtain ⟨hw1, rfl⟩ := jx1_spec hw
  intro r H' ho
  skip
  obtain ⟨hm, kk⟩ := k r H' ho
  exact ⟨hm, fun c hc e1 n1 n2 Hr la locs hR hS hl => lv_isub hc.1 rfl (jd_100 hc.2.1 hw1)  (kk c hc e1 n1 n2 Hr la locs hR hS hl)⟩
theorem s_104 {l : Launch} {mi : jM} {α : Type} {emb : α → Option Value} {pc : Nat} {ls : List (Nat × Value)} {st : List Value} {H : jH} {o : Option (α × jH)} (q : Nat) (hw : jx1 mi.1 mi.2.1 pc 104 q = true) {x y : Int32} (k : JV l mi emb q ls (.int (x * y) :: st) H o) : JV l mi emb pc ls (.int y :: .int x :: st) H o := by
  obtain ⟨hw1, rfl⟩ := jx1_spec hw
  intro r H' ho
  skip
  obtain ⟨hm, kk⟩ := k r H' ho
  exact ⟨hm, fun c hc e1 n1 n2 Hr la locs hR hS hl => lv_imul hc.1 rfl (jd_104 hc.2.1 hw1)  (kk c hc e1 n1 n2 Hr la locs hR hS hl)⟩
theorem s_126 {l : Launch} {mi : jM} {α : Type} {emb : α → Option Value} {pc : Nat} {ls : List (Nat × Value)} {st : List Value} {H : jH} {o : Option (α × jH)} (q : Nat) (hw : jx1 mi.1 mi.2.1 pc 126 q = true) {x y : Int32} (k : JV l mi emb q ls (.int (x &&& y) :: st) H o) : JV l mi emb pc ls (.int y :: .int x :: st) H o := by
  obtain ⟨hw1, rfl⟩ := jx1_spec hw
  intro r H' ho
  skip
  obtain ⟨hm, kk⟩ := k r H' ho
  exact ⟨hm, fun c hc e1 n1 n2 Hr la locs hR hS hl => lv_iand hc.1 rfl (jd_126 hc.2.1 hw1)  (kk c hc e1 n1 n2 Hr la locs hR hS hl)⟩
theorem s_128 {l : Launch} {mi : jM} {α : Type} {emb : α → Option Value} {pc : Nat} {ls : List (Nat × Value)} {st : List Value} {H : jH} {o : Option (α × jH)} (q : Nat) (hw : jx1 mi.1 mi.2.1 pc 128 q = true) {x y : Int32} (k : JV l mi emb q ls (.int (x ||| y) :: st) H o) : JV l mi emb pc ls (.int y :: .int x :: st) H o := by
  obtain ⟨hw1, rfl⟩ := jx1_spec hw
  intro r H' ho
  skip
  obtain ⟨hm, kk⟩ := k r H' ho
  exact ⟨hm, fun c hc e1 n1 n2 Hr la locs hR hS hl => lv_ior hc.1 rfl (jd_128 hc.2.1 hw1)  (kk c hc e1 n1 n2 Hr la locs hR hS hl)⟩
theorem s_130 {l : Launch} {mi : jM} {α : Type} {emb : α → Option Value} {pc : Nat} {ls : List (Nat × Value)} {st : List Value} {H : jH} {o : Option (α × jH)} (q : Nat) (hw : jx1 mi.1 mi.2.1 pc 130 q = true) {x y : Int32} (k : JV l mi emb q ls (.int (x ^^^ y) :: st) H o) : JV l mi emb pc ls (.int y :: .int x :: st) H o := by
  obtain ⟨hw1, rfl⟩ := jx1_spec hw
  intro r H' ho
  skip
  obtain ⟨hm, kk⟩ := k r H' ho
  exact ⟨hm, fun c hc e1 n1 n2 Hr la locs hR hS hl => lv_ixor hc.1 rfl (jd_130 hc.2.1 hw1)  (kk c hc e1 n1 n2 Hr la locs hR hS hl)⟩
theorem s_120 {l : Launch} {mi : jM} {α : Type} {emb : α → Option Value} {pc : Nat} {ls : List (Nat × Value)} {st : List Value} {H : jH} {o : Option (α × jH)} (q : Nat) (hw : jx1 mi.1 mi.2.1 pc 120 q = true) {x y : Int32} (k : JV l mi emb q ls (.int (jshl x y) :: st) H o) : JV l mi emb pc ls (.int y :: .int x :: st) H o := by
  obtain ⟨hw1, rfl⟩ := jx1_spec hw
  intro r H' ho
  skip
  obtain ⟨hm, kk⟩ := k r H' ho
  exact ⟨hm, fun c hc e1 n1 n2 Hr la locs hR hS hl => lv_ishl hc.1 rfl (jd_120 hc.2.1 hw1)  (kk c hc e1 n1 n2 Hr la locs hR hS hl)⟩
theorem s_122 {l : Launch} {mi : jM} {α : Type} {emb : α → Option Value} {pc : Nat} {ls : List (Nat × Value)} {st : List Value} {H : jH} {o : Option (α × jH)} (q : Nat) (hw : jx1 mi.1 mi.2.1 pc 122 q = true) {x y : Int32} (k : JV l mi emb q ls (.int (jshr x y) :: st) H o) : JV l mi emb pc ls (.int y :: .int x :: st) H o := by
  obtain ⟨hw1, rfl⟩ := jx1_spec hw
  intro r H' ho
  skip
  obtain ⟨hm, kk⟩ := k r H' ho
  exact ⟨hm, fun c hc e1 n1 n2 Hr la locs hR hS hl => lv_ishr hc.1 rfl (jd_122 hc.2.1 hw1)  (kk c hc e1 n1 n2 Hr la locs hR hS hl)⟩
theorem s_97 {l : Launch} {mi : jM} {α : Type} {emb : α → Option Value} {pc : Nat} {ls : List (Nat × Value)} {st : List Value} {H : jH} {o : Option (α × jH)} (q : Nat) (hw : jx1 mi.1 mi.2.1 pc 97 q = true) {x y : Int64} (k : JV l mi emb q ls (.long (x + y) :: st) H o) : JV l mi emb pc ls (.long y :: .long x :: st) H o := by
  obtain ⟨hw1, rfl⟩ := jx1_spec hw
  intro r H' ho
  skip
  obtain ⟨hm, kk⟩ := k r H' ho
  exact ⟨hm, fun c hc e1 n1 n2 Hr la locs hR hS hl => lv_ladd hc.1 rfl (jd_97 hc.2.1 hw1)  (kk c hc e1 n1 n2 Hr la locs hR hS hl)⟩
theorem s_101 {l : Launch} {mi : jM} {α : Type} {emb : α → Option Value} {pc : Nat} {ls : List (Nat × Value)} {st : List Value} {H : jH} {o : Option (α × jH)} (q : Nat) (hw : jx1 mi.1 mi.2.1 pc 101 q = true) {x y : Int64} (k : JV l mi emb q ls (.long (x - y) :: st) H o) : JV l mi emb pc ls (.long y :: .long x :: st) H o := by
  obtain ⟨hw1, rfl⟩ := jx1_spec hw
  intro r H' ho
  skip
  obtain ⟨hm, kk⟩ := k r H' ho
  exact ⟨hm, fun c hc e1 n1 n2 Hr la locs hR hS hl => lv_lsub hc.1 rfl (jd_101 hc.2.1 hw1)  (kk c hc e1 n1 n2 Hr la locs hR hS hl)⟩
theorem s_105 {l : Launch} {mi : jM} {α : Type} {emb : α → Option Value} {pc : Nat} {ls : List (Nat × Value)} {st : List Value} {H : jH} {o : Option (α × jH)} (q : Nat) (hw : jx1 mi.1 mi.2.1 pc 105 q = true) {x y : Int64} (k : JV l mi emb q ls (.long (x * y) :: st) H o) : JV l mi emb pc ls (.long y :: .long x :: st) H o := by
  obtain ⟨hw1, rfl⟩ := jx1_spec hw
  intro r H' ho
  skip
  obtain ⟨hm, kk⟩ := k r H' ho
  exact ⟨hm, fun c hc e1 n1 n2 Hr la locs hR hS hl => lv_lmul hc.1 rfl (jd_105 hc.2.1 hw1)  (kk c hc e1 n1 n2 Hr la locs hR hS hl)⟩
theorem s_127 {l : Launch} {mi : jM} {α : Type} {emb : α → Option Value} {pc : Nat} {ls : List (Nat × Value)} {st : List Value} {H : jH} {o : Option (α × jH)} (q : Nat) (hw : jx1 mi.1 mi.2.1 pc 127 q = true) {x y : Int64} (k : JV l mi emb q ls (.long (x &&& y) :: st) H o) : JV l mi emb pc ls (.long y :: .long x :: st) H o := by
  obtain ⟨hw1, rfl⟩ := jx1_spec hw
  intro r H' ho
  skip
  obtain ⟨hm, kk⟩ := k r H' ho
  exact ⟨hm, fun c hc e1 n1 n2 Hr la locs hR hS hl => lv_land hc.1 rfl (jd_127 hc.2.1 hw1)  (kk c hc e1 n1 n2 Hr la locs hR hS hl)⟩
theorem s_129 {l : Launch} {mi : jM} {α : Type} {emb : α → Option Value} {pc : Nat} {ls : List (Nat × Value)} {st : List Value} {H : jH} {o : Option (α × jH)} (q : Nat) (hw : jx1 mi.1 mi.2.1 pc 129 q = true) {x y : Int64} (k : JV l mi emb q ls (.long (x ||| y) :: st) H o) : JV l mi emb pc ls (.long y :: .long x :: st) H o := by
  obtain ⟨hw1, rfl⟩ := jx1_spec hw
  intro r H' ho
  skip
  obtain ⟨hm, kk⟩ := k r H' ho
  exact ⟨hm, fun c hc e1 n1 n2 Hr la locs hR hS hl => lv_lor hc.1 rfl (jd_129 hc.2.1 hw1)  (kk c hc e1 n1 n2 Hr la locs hR hS hl)⟩
theorem s_131 {l : Launch} {mi : jM} {α : Type} {emb : α → Option Value} {pc : Nat} {ls : List (Nat × Value)} {st : List Value} {H : jH} {o : Option (α × jH)} (q : Nat) (hw : jx1 mi.1 mi.2.1 pc 131 q = true) {x y : Int64} (k : JV l mi emb q ls (.long (x ^^^ y) :: st) H o) : JV l mi emb pc ls (.long y :: .long x :: st) H o := by
  obtain ⟨hw1, rfl⟩ := jx1_spec hw
  intro r H' ho
  skip
  obtain ⟨hm, kk⟩ := k r H' ho
  exact ⟨hm, fun c hc e1 n1 n2 Hr la locs hR hS hl => lv_lxor hc.1 rfl (jd_131 hc.2.1 hw1)  (kk c hc e1 n1 n2 Hr la locs hR hS hl)⟩
theorem s_108 {l : Launch} {mi : jM} {α : Type} {emb : α → Option Value} {pc : Nat} {ls : List (Nat × Value)} {st : List Value} {H : jH} {o : Option (α × jH)} (q : Nat) (hw : jx1 mi.1 mi.2.1 pc 108 q = true) {x y : Int32} (k : JV l mi emb q ls (.int (x / y) :: st) H o) : JV l mi emb pc ls (.int y :: .int x :: st) H (jg (¬ y = 0) o) := by
  obtain ⟨hw1, rfl⟩ := jx1_spec hw
  intro r H' ho
  obtain ⟨hg, ho⟩ := jg_some ho
  obtain ⟨hm, kk⟩ := k r H' ho
  exact ⟨hm, fun c hc e1 n1 n2 Hr la locs hR hS hl => lv_idiv hc.1 rfl (jd_108 hc.2.1 hw1) hg (kk c hc e1 n1 n2 Hr la locs hR hS hl)⟩
theorem s_112 {l : Launch} {mi : jM} {α : Type} {emb : α → Option Value} {pc : Nat} {ls : List (Nat × Value)} {st : List Value} {H : jH} {o : Option (α × jH)} (q : Nat) (hw : jx1 mi.1 mi.2.1 pc 112 q = true) {x y : Int32} (k : JV l mi emb q ls (.int (jrem x y) :: st) H o) : JV l mi emb pc ls (.int y :: .int x :: st) H (jg (¬ y = 0) o) := by
  obtain ⟨hw1, rfl⟩ := jx1_spec hw
  intro r H' ho
  obtain ⟨hg, ho⟩ := jg_some ho
  obtain ⟨hm, kk⟩ := k r H' ho
  exact ⟨hm, fun c hc e1 n1 n2 Hr la locs hR hS hl => lv_irem hc.1 rfl (jd_112 hc.2.1 hw1) hg (kk c hc e1 n1 n2 Hr la locs hR hS hl)⟩
theorem s_109 {l : Launch} {mi : jM} {α : Type} {emb : α → Option Value} {pc : Nat} {ls : List (Nat × Value)} {st : List Value} {H : jH} {o : Option (α × jH)} (q : Nat) (hw : jx1 mi.1 mi.2.1 pc 109 q = true) {x y : Int64} (k : JV l mi emb q ls (.long (x / y) :: st) H o) : JV l mi emb pc ls (.long y :: .long x :: st) H (jg (¬ y = 0) o) := by
  obtain ⟨hw1, rfl⟩ := jx1_spec hw
  intro r H' ho
  obtain ⟨hg, ho⟩ := jg_some ho
  obtain ⟨hm, kk⟩ := k r H' ho
  exact ⟨hm, fun c hc e1 n1 n2 Hr la locs hR hS hl => lv_ldiv hc.1 rfl (jd_109 hc.2.1 hw1) hg (kk c hc e1 n1 n2 Hr la locs hR hS hl)⟩
theorem s_113 {l : Launch} {mi : jM} {α : Type} {emb : α → Option Value} {pc : Nat} {ls : List (Nat × Value)} {st : List Value} {H : jH} {o : Option (α × jH)} (q : Nat) (hw : jx1 mi.1 mi.2.1 pc 113 q = true) {x y : Int64} (k : JV l mi emb q ls (.long (jremL x y) :: st) H o) : JV l mi emb pc ls (.long y :: .long x :: st) H (jg (¬ y = 0) o) := by
  obtain ⟨hw1, rfl⟩ := jx1_spec hw
  intro r H' ho
  obtain ⟨hg, ho⟩ := jg_some ho
  obtain ⟨hm, kk⟩ := k r H' ho
  exact ⟨hm, fun c hc e1 n1 n2 Hr la locs hR hS hl => lv_lrem hc.1 rfl (jd_113 hc.2.1 hw1) hg (kk c hc e1 n1 n2 Hr la locs hR hS hl)⟩
theorem s_116 {l : Launch} {mi : jM} {α : Type} {emb : α → Option Value} {pc : Nat} {ls : List (Nat × Value)} {st : List Value} {H : jH} {o : Option (α × jH)} (q : Nat) (hw : jx1 mi.1 mi.2.1 pc 116 q = true) {x : Int32} (k : JV l mi emb q ls (.int (-x) :: st) H o) : JV l mi emb pc ls (.int x :: st) H o := by
  obtain ⟨hw1, rfl⟩ := jx1_spec hw
  intro r H' ho
  skip
  obtain ⟨hm, kk⟩ := k r H' ho
  exact ⟨hm, fun c hc e1 n1 n2 Hr la locs hR hS hl => lv_ineg hc.1 rfl (jd_116 hc.2.1 hw1)  (kk c hc e1 n1 n2 Hr la locs hR hS hl)⟩
theorem s_117 {l : Launch} {mi : jM} {α : Type} {emb : α → Option Value} {pc : Nat} {ls : List (Nat × Value)} {st : List Value} {H : jH} {o : Option (α × jH)} (q : Nat) (hw : jx1 mi.1 mi.2.1 pc 117 q = true) {x : Int64} (k : JV l mi emb q ls (.long (-x) :: st) H o) : JV l mi emb pc ls (.long x :: st) H o := by
  obtain ⟨hw1, rfl⟩ := jx1_spec hw
  intro r H' ho
  skip
  obtain ⟨hm, kk⟩ := k r H' ho
  exact ⟨hm, fun c hc e1 n1 n2 Hr la locs hR hS hl => lv_lneg hc.1 rfl (jd_117 hc.2.1 hw1)  (kk c hc e1 n1 n2 Hr la locs hR hS hl)⟩
theorem s_124 {l : Launch} {mi : jM} {α : Type} {emb : α → Option Value} {pc : Nat} {ls : List (Nat × Value)} {st : List Value} {H : jH} {o : Option (α × jH)} (q : Nat) (hw : jx1 mi.1 mi.2.1 pc 124 q = true) {x y : Int32} (k : JV l mi emb q ls (.int (jushr x y) :: st) H o) : JV l mi emb pc ls (.int y :: .int x :: st) H o := by
  obtain ⟨hw1, rfl⟩ := jx1_spec hw
  intro r H' ho
  skip
  obtain ⟨hm, kk⟩ := k r H' ho
  exact ⟨hm, fun c hc e1 n1 n2 Hr la locs hR hS hl => lv_iushr hc.1 rfl (jd_124 hc.2.1 hw1) rfl (kk c hc e1 n1 n2 Hr la locs hR hS hl)⟩
theorem s_121 {l : Launch} {mi : jM} {α : Type} {emb : α → Option Value} {pc : Nat} {ls : List (Nat × Value)} {st : List Value} {H : jH} {o : Option (α × jH)} (q : Nat) (hw : jx1 mi.1 mi.2.1 pc 121 q = true) {x : Int64} {y : Int32} (k : JV l mi emb q ls (.long (jshlL x y) :: st) H o) : JV l mi emb pc ls (.int y :: .long x :: st) H o := by
  obtain ⟨hw1, rfl⟩ := jx1_spec hw
  intro r H' ho
  skip
  obtain ⟨hm, kk⟩ := k r H' ho
  exact ⟨hm, fun c hc e1 n1 n2 Hr la locs hR hS hl => lv_lshl hc.1 rfl (jd_121 hc.2.1 hw1) rfl (kk c hc e1 n1 n2 Hr la locs hR hS hl)⟩
theorem s_123 {l : Launch} {mi : jM} {α : Type} {emb : α → Option Value} {pc : Nat} {ls : List (Nat × Value)} {st : List Value} {H : jH} {o : Option (α × jH)} (q : Nat) (hw : jx1 mi.1 mi.2.1 pc 123 q = true) {x : Int64} {y : Int32} (k : JV l mi emb q ls (.long (jshrL x y) :: st) H o) : JV l mi emb pc ls (.int y :: .long x :: st) H o := by
  obtain ⟨hw1, rfl⟩ := jx1_spec hw
  intro r H' ho
  skip
  obtain ⟨hm, kk⟩ := k r H' ho
  exact ⟨hm, fun c hc e1 n1 n2 Hr la locs hR hS hl => lv_lshr hc.1 rfl (jd_123 hc.2.1 hw1) rfl (kk c hc e1 n1 n2 Hr la locs hR hS hl)⟩
theorem s_125 {l : Launch} {mi : jM} {α : Type} {emb : α → Option Value} {pc : Nat} {ls : List (Nat × Value)} {st : List Value} {H : jH} {o : Option (α × jH)} (q : Nat) (hw : jx1 mi.1 mi.2.1 pc 125 q = true) {x : Int64} {y : Int32} (k : JV l mi emb q ls (.long (jushrL x y) :: st) H o) : JV l mi emb pc ls (.int y :: .long x :: st) H o := by
  obtain ⟨hw1, rfl⟩ := jx1_spec hw
  intro r H' ho
  skip
  obtain ⟨hm, kk⟩ := k r H' ho
  exact ⟨hm, fun c hc e1 n1 n2 Hr la locs hR hS hl => lv_lushr hc.1 rfl (jd_125 hc.2.1 hw1) rfl (kk c hc e1 n1 n2 Hr la locs hR hS hl)⟩
theorem s_133 {l : Launch} {mi : jM} {α : Type} {emb : α → Option Value} {pc : Nat} {ls : List (Nat × Value)} {st : List Value} {H : jH} {o : Option (α × jH)} (q : Nat) (hw : jx1 mi.1 mi.2.1 pc 133 q = true) {x : Int32} (k : JV l mi emb q ls (.long x.toInt64 :: st) H o) : JV l mi emb pc ls (.int x :: st) H o := by
  obtain ⟨hw1, rfl⟩ := jx1_spec hw
  intro r H' ho
  skip
  obtain ⟨hm, kk⟩ := k r H' ho
  exact ⟨hm, fun c hc e1 n1 n2 Hr la locs hR hS hl => lv_i2l hc.1 rfl (jd_133 hc.2.1 hw1) rfl (kk c hc e1 n1 n2 Hr la locs hR hS hl)⟩
theorem s_136 {l : Launch} {mi : jM} {α : Type} {emb : α → Option Value} {pc : Nat} {ls : List (Nat × Value)} {st : List Value} {H : jH} {o : Option (α × jH)} (q : Nat) (hw : jx1 mi.1 mi.2.1 pc 136 q = true) {x : Int64} (k : JV l mi emb q ls (.int x.toInt32 :: st) H o) : JV l mi emb pc ls (.long x :: st) H o := by
  obtain ⟨hw1, rfl⟩ := jx1_spec hw
  intro r H' ho
  skip
  obtain ⟨hm, kk⟩ := k r H' ho
  exact ⟨hm, fun c hc e1 n1 n2 Hr la locs hR hS hl => lv_l2i hc.1 rfl (jd_136 hc.2.1 hw1) rfl (kk c hc e1 n1 n2 Hr la locs hR hS hl)⟩
theorem s_145 {l : Launch} {mi : jM} {α : Type} {emb : α → Option Value} {pc : Nat} {ls : List (Nat × Value)} {st : List Value} {H : jH} {o : Option (α × jH)} (q : Nat) (hw : jx1 mi.1 mi.2.1 pc 145 q = true) {x : Int32} (k : JV l mi emb q ls (.int (ji2b x) :: st) H o) : JV l mi emb pc ls (.int x :: st) H o := by
  obtain ⟨hw1, rfl⟩ := jx1_spec hw
  intro r H' ho
  skip
  obtain ⟨hm, kk⟩ := k r H' ho
  exact ⟨hm, fun c hc e1 n1 n2 Hr la locs hR hS hl => lv_i2b hc.1 rfl (jd_145 hc.2.1 hw1) rfl (kk c hc e1 n1 n2 Hr la locs hR hS hl)⟩
theorem s_89 {l : Launch} {mi : jM} {α : Type} {emb : α → Option Value} {pc : Nat} {ls : List (Nat × Value)} {st : List Value} {H : jH} {o : Option (α × jH)} (q : Nat) (hw : jx1 mi.1 mi.2.1 pc 89 q = true) {a : Value} (ha : a.category = 1) (k : JV l mi emb q ls (a :: a :: st) H o) : JV l mi emb pc ls (a :: st) H o := by
  obtain ⟨hw1, rfl⟩ := jx1_spec hw
  intro r H' ho
  obtain ⟨hm, kk⟩ := k r H' ho
  exact ⟨hm, fun c hc e1 n1 n2 Hr la locs hR hS hl => lv_dup hc.1 rfl (jd_89 hc.2.1 hw1) ((jv_cat _ _).trans ha) (kk c hc e1 n1 n2 Hr la locs hR hS hl)⟩
theorem s_87 {l : Launch} {mi : jM} {α : Type} {emb : α → Option Value} {pc : Nat} {ls : List (Nat × Value)} {st : List Value} {H : jH} {o : Option (α × jH)} (q : Nat) (hw : jx1 mi.1 mi.2.1 pc 87 q = true) {a : Value} (ha : a.category = 1) (k : JV l mi emb q ls (st) H o) : JV l mi emb pc ls (a :: st) H o := by
  obtain ⟨hw1, rfl⟩ := jx1_spec hw
  intro r H' ho
  obtain ⟨hm, kk⟩ := k r H' ho
  exact ⟨hm, fun c hc e1 n1 n2 Hr la locs hR hS hl => lv_pop hc.1 rfl (jd_87 hc.2.1 hw1) ((jv_cat _ _).trans ha) (kk c hc e1 n1 n2 Hr la locs hR hS hl)⟩
theorem s_92 {l : Launch} {mi : jM} {α : Type} {emb : α → Option Value} {pc : Nat} {ls : List (Nat × Value)} {st : List Value} {H : jH} {o : Option (α × jH)} (q : Nat) (hw : jx1 mi.1 mi.2.1 pc 92 q = true) {a b : Value} (ha : a.category = 1) (hb : b.category = 1) (k : JV l mi emb q ls (a :: b :: a :: b :: st) H o) : JV l mi emb pc ls (a :: b :: st) H o := by
  obtain ⟨hw1, rfl⟩ := jx1_spec hw
  intro r H' ho
  obtain ⟨hm, kk⟩ := k r H' ho
  exact ⟨hm, fun c hc e1 n1 n2 Hr la locs hR hS hl => lv_dup2_11 hc.1 rfl (jd_92 hc.2.1 hw1) ((jv_cat _ _).trans ha) ((jv_cat _ _).trans hb) (kk c hc e1 n1 n2 Hr la locs hR hS hl)⟩
theorem s_92L {l : Launch} {mi : jM} {α : Type} {emb : α → Option Value} {pc : Nat} {ls : List (Nat × Value)} {st : List Value} {H : jH} {o : Option (α × jH)} (q : Nat) (hw : jx1 mi.1 mi.2.1 pc 92 q = true) {a : Value} (ha : a.category = 2) (k : JV l mi emb q ls (a :: a :: st) H o) : JV l mi emb pc ls (a :: st) H o := by
  obtain ⟨hw1, rfl⟩ := jx1_spec hw
  intro r H' ho
  obtain ⟨hm, kk⟩ := k r H' ho
  exact ⟨hm, fun c hc e1 n1 n2 Hr la locs hR hS hl => lv_dup2_2 hc.1 rfl (jd_92 hc.2.1 hw1) ((jv_cat _ _).trans ha) (kk c hc e1 n1 n2 Hr la locs hR hS hl)⟩
theorem s_88L {l : Launch} {mi : jM} {α : Type} {emb : α → Option Value} {pc : Nat} {ls : List (Nat × Value)} {st : List Value} {H : jH} {o : Option (α × jH)} (q : Nat) (hw : jx1 mi.1 mi.2.1 pc 88 q = true) {a : Value} (ha : a.category = 2) (k : JV l mi emb q ls (st) H o) : JV l mi emb pc ls (a :: st) H o := by
  obtain ⟨hw1, rfl⟩ := jx1_spec hw
  intro r H' ho
  obtain ⟨hm, kk⟩ := k r H' ho
  exact ⟨hm, fun c hc e1 n1 n2 Hr la locs hR hS hl => lv_pop2_2 hc.1 rfl (jd_88 hc.2.1 hw1) ((jv_cat _ _).trans ha) (kk c hc e1 n1 n2 Hr la locs hR hS hl)⟩
theorem s_2 {l : Launch} {mi : jM} {α : Type} {emb : α → Option Value} {pc : Nat} {ls : List (Nat × Value)} {st : List Value} {H : jH} {o : Option (α × jH)} (q : Nat) (hw : jx1 mi.1 mi.2.1 pc 2 q = true) (k : JV l mi emb q ls (.int (-1) :: st) H o) : JV l mi emb pc ls st H o := by
  obtain ⟨hw1, rfl⟩ := jx1_spec hw
  intro r H' ho
  obtain ⟨hm, kk⟩ := k r H' ho
  exact ⟨hm, fun c hc e1 n1 n2 Hr la locs hR hS hl => lv_iconst hc.1 rfl (jd_2 hc.2.1 hw1) (by decide) (kk c hc e1 n1 n2 Hr la locs hR hS hl)⟩
theorem s_3 {l : Launch} {mi : jM} {α : Type} {emb : α → Option Value} {pc : Nat} {ls : List (Nat × Value)} {st : List Value} {H : jH} {o : Option (α × jH)} (q : Nat) (hw : jx1 mi.1 mi.2.1 pc 3 q = true) (k : JV l mi emb q ls (.int (0) :: st) H o) : JV l mi emb pc ls st H o := by
  obtain ⟨hw1, rfl⟩ := jx1_spec hw
  intro r H' ho
  obtain ⟨hm, kk⟩ := k r H' ho
  exact ⟨hm, fun c hc e1 n1 n2 Hr la locs hR hS hl => lv_iconst hc.1 rfl (jd_3 hc.2.1 hw1) (by decide) (kk c hc e1 n1 n2 Hr la locs hR hS hl)⟩
theorem s_4 {l : Launch} {mi : jM} {α : Type} {emb : α → Option Value} {pc : Nat} {ls : List (Nat × Value)} {st : List Value} {H : jH} {o : Option (α × jH)} (q : Nat) (hw : jx1 mi.1 mi.2.1 pc 4 q = true) (k : JV l mi emb q ls (.int (1) :: st) H o) : JV l mi emb pc ls st H o := by
  obtain ⟨hw1, rfl⟩ := jx1_spec hw
  intro r H' ho
  obtain ⟨hm, kk⟩ := k r H' ho
  exact ⟨hm, fun c hc e1 n1 n2 Hr la locs hR hS hl => lv_iconst hc.1 rfl (jd_4 hc.2.1 hw1) (by decide) (kk c hc e1 n1 n2 Hr la locs hR hS hl)⟩
theorem s_5 {l : Launch} {mi : jM} {α : Type} {emb : α → Option Value} {pc : Nat} {ls : List (Nat × Value)} {st : List Value} {H : jH} {o : Option (α × jH)} (q : Nat) (hw : jx1 mi.1 mi.2.1 pc 5 q = true) (k : JV l mi emb q ls (.int (2) :: st) H o) : JV l mi emb pc ls st H o := by
  obtain ⟨hw1, rfl⟩ := jx1_spec hw
  intro r H' ho
  obtain ⟨hm, kk⟩ := k r H' ho
  exact ⟨hm, fun c hc e1 n1 n2 Hr la locs hR hS hl => lv_iconst hc.1 rfl (jd_5 hc.2.1 hw1) (by decide) (kk c hc e1 n1 n2 Hr la locs hR hS hl)⟩
theorem s_6 {l : Launch} {mi : jM} {α : Type} {emb : α → Option Value} {pc : Nat} {ls : List (Nat × Value)} {st : List Value} {H : jH} {o : Option (α × jH)} (q : Nat) (hw : jx1 mi.1 mi.2.1 pc 6 q = true) (k : JV l mi emb q ls (.int (3) :: st) H o) : JV l mi emb pc ls st H o := by
  obtain ⟨hw1, rfl⟩ := jx1_spec hw
  intro r H' ho
  obtain ⟨hm, kk⟩ := k r H' ho
  exact ⟨hm, fun c hc e1 n1 n2 Hr la locs hR hS hl => lv_iconst hc.1 rfl (jd_6 hc.2.1 hw1) (by decide) (kk c hc e1 n1 n2 Hr la locs hR hS hl)⟩
theorem s_7 {l : Launch} {mi : jM} {α : Type} {emb : α → Option Value} {pc : Nat} {ls : List (Nat × Value)} {st : List Value} {H : jH} {o : Option (α × jH)} (q : Nat) (hw : jx1 mi.1 mi.2.1 pc 7 q = true) (k : JV l mi emb q ls (.int (4) :: st) H o) : JV l mi emb pc ls st H o := by
  obtain ⟨hw1, rfl⟩ := jx1_spec hw
  intro r H' ho
  obtain ⟨hm, kk⟩ := k r H' ho
  exact ⟨hm, fun c hc e1 n1 n2 Hr la locs hR hS hl => lv_iconst hc.1 rfl (jd_7 hc.2.1 hw1) (by decide) (kk c hc e1 n1 n2 Hr la locs hR hS hl)⟩
theorem s_8 {l : Launch} {mi : jM} {α : Type} {emb : α → Option Value} {pc : Nat} {ls : List (Nat × Value)} {st : List Value} {H : jH} {o : Option (α × jH)} (q : Nat) (hw : jx1 mi.1 mi.2.1 pc 8 q = true) (k : JV l mi emb q ls (.int (5) :: st) H o) : JV l mi emb pc ls st H o := by
  obtain ⟨hw1, rfl⟩ := jx1_spec hw
  intro r H' ho
  obtain ⟨hm, kk⟩ := k r H' ho
  exact ⟨hm, fun c hc e1 n1 n2 Hr la locs hR hS hl => lv_iconst hc.1 rfl (jd_8 hc.2.1 hw1) (by decide) (kk c hc e1 n1 n2 Hr la locs hR hS hl)⟩
theorem s_9 {l : Launch} {mi : jM} {α : Type} {emb : α → Option Value} {pc : Nat} {ls : List (Nat × Value)} {st : List Value} {H : jH} {o : Option (α × jH)} (q : Nat) (hw : jx1 mi.1 mi.2.1 pc 9 q = true) (k : JV l mi emb q ls (.long (0) :: st) H o) : JV l mi emb pc ls st H o := by
  obtain ⟨hw1, rfl⟩ := jx1_spec hw
  intro r H' ho
  obtain ⟨hm, kk⟩ := k r H' ho
  exact ⟨hm, fun c hc e1 n1 n2 Hr la locs hR hS hl => lv_lconst hc.1 rfl (jd_9 hc.2.1 hw1) (by decide) (kk c hc e1 n1 n2 Hr la locs hR hS hl)⟩
theorem s_10 {l : Launch} {mi : jM} {α : Type} {emb : α → Option Value} {pc : Nat} {ls : List (Nat × Value)} {st : List Value} {H : jH} {o : Option (α × jH)} (q : Nat) (hw : jx1 mi.1 mi.2.1 pc 10 q = true) (k : JV l mi emb q ls (.long (1) :: st) H o) : JV l mi emb pc ls st H o := by
  obtain ⟨hw1, rfl⟩ := jx1_spec hw
  intro r H' ho
  obtain ⟨hm, kk⟩ := k r H' ho
  exact ⟨hm, fun c hc e1 n1 n2 Hr la locs hR hS hl => lv_lconst hc.1 rfl (jd_10 hc.2.1 hw1) (by decide) (kk c hc e1 n1 n2 Hr la locs hR hS hl)⟩
theorem s_1 {l : Launch} {mi : jM} {α : Type} {emb : α → Option Value} {pc : Nat} {ls : List (Nat × Value)} {st : List Value} {H : jH} {o : Option (α × jH)} (q : Nat) (hw : jx1 mi.1 mi.2.1 pc 1 q = true) (k : JV l mi emb q ls (.ref 0 :: st) H o) : JV l mi emb pc ls st H o := by
  obtain ⟨hw1, rfl⟩ := jx1_spec hw
  intro r H' ho
  obtain ⟨hm, kk⟩ := k r H' ho
  exact ⟨hm, fun c hc e1 n1 n2 Hr la locs hR hS hl => lv_null hc.1 rfl (jd_1 hc.2.1 hw1) (kk c hc e1 n1 n2 Hr la locs hR hS hl)⟩
theorem s_16 {l : Launch} {mi : jM} {α : Type} {emb : α → Option Value} {pc : Nat} {ls : List (Nat × Value)} {st : List Value} {H : jH} {o : Option (α × jH)} (b q : Nat) (v : Int32) (hv : (Int8.ofInt (Reader.signed 8 b)).toInt32 = v) (hw : jx2 mi.1 mi.2.1 pc 16 b q = true) (k : JV l mi emb q ls (.int v :: st) H o) : JV l mi emb pc ls st H o := by
  obtain ⟨hw1, rfl⟩ := jx2_spec hw
  intro r H' ho
  obtain ⟨hm, kk⟩ := k r H' ho
  exact ⟨hm, fun c hc e1 n1 n2 Hr la locs hR hS hl => lv_bipush hc.1 rfl (jd_16 hc.2.1 hw1) hv (kk c hc e1 n1 n2 Hr la locs hR hS hl)⟩
theorem s_17 {l : Launch} {mi : jM} {α : Type} {emb : α → Option Value} {pc : Nat} {ls : List (Nat × Value)} {st : List Value} {H : jH} {o : Option (α × jH)} (b d q : Nat) (v : Int32) (hv : (Int16.ofInt (Reader.signed 16 (b * 256 + d))).toInt32 = v) (hw : jx3 mi.1 mi.2.1 pc 17 b d q = true) (k : JV l mi emb q ls (.int v :: st) H o) : JV l mi emb pc ls st H o := by
  obtain ⟨hw1, rfl⟩ := jx3_spec hw
  intro r H' ho
  obtain ⟨hm, kk⟩ := k r H' ho
  exact ⟨hm, fun c hc e1 n1 n2 Hr la locs hR hS hl => lv_sipush hc.1 rfl (jd_17 hc.2.1 hw1) hv (kk c hc e1 n1 n2 Hr la locs hR hS hl)⟩
theorem s_18 {l : Launch} {mi : jM} {α : Type} {emb : α → Option Value} {pc : Nat} {ls : List (Nat × Value)} {st : List Value} {H : jH} {o : Option (α × jH)} (b q : Nat) (v : Int32) (hv : Jvm.Cond.constant mi.2.2.2.1 b v ∈ jws) (hw : jx2 mi.1 mi.2.1 pc 18 b q = true) (k : JV l mi emb q ls (.int v :: st) H o) : JV l mi emb pc ls st H o := by
  obtain ⟨hw1, rfl⟩ := jx2_spec hw
  intro r H' ho
  obtain ⟨hm, kk⟩ := k r H' ho
  exact ⟨hm, fun c hc e1 n1 n2 Hr la locs hR hS hl => lv_ldc hc.1 rfl hc.2.2.2.1 (hc.2.2.2.2.2.2.2.1 _ hv) (jd_18 hc.2.1 hw1) (kk c hc e1 n1 n2 Hr la locs hR hS hl)⟩
theorem s_19 {l : Launch} {mi : jM} {α : Type} {emb : α → Option Value} {pc : Nat} {ls : List (Nat × Value)} {st : List Value} {H : jH} {o : Option (α × jH)} (b d q n : Nat) (v : Int32) (hn : b * 256 + d = n) (hv : Jvm.Cond.constant mi.2.2.2.1 n v ∈ jws) (hw : jx3 mi.1 mi.2.1 pc 19 b d q = true) (k : JV l mi emb q ls (.int v :: st) H o) : JV l mi emb pc ls st H o := by
  obtain ⟨hw1, rfl⟩ := jx3_spec hw
  subst hn
  intro r H' ho
  obtain ⟨hm, kk⟩ := k r H' ho
  exact ⟨hm, fun c hc e1 n1 n2 Hr la locs hR hS hl => lv_ldcw hc.1 rfl hc.2.2.2.1 (hc.2.2.2.2.2.2.2.1 _ hv) (jd_19 hc.2.1 hw1) (kk c hc e1 n1 n2 Hr la locs hR hS hl)⟩
theorem s_20 {l : Launch} {mi : jM} {α : Type} {emb : α → Option Value} {pc : Nat} {ls : List (Nat × Value)} {st : List Value} {H : jH} {o : Option (α × jH)} (b d q n : Nat) (v : Int64) (hn : b * 256 + d = n) (hv : Jvm.Cond.constantLong mi.2.2.2.1 n v ∈ jws) (hw : jx3 mi.1 mi.2.1 pc 20 b d q = true) (k : JV l mi emb q ls (.long v :: st) H o) : JV l mi emb pc ls st H o := by
  obtain ⟨hw1, rfl⟩ := jx3_spec hw
  subst hn
  intro r H' ho
  obtain ⟨hm, kk⟩ := k r H' ho
  exact ⟨hm, fun c hc e1 n1 n2 Hr la locs hR hS hl => lv_ldc2 hc.1 rfl hc.2.2.2.1 (hc.2.2.2.2.2.2.2.1 _ hv) (jd_20 hc.2.1 hw1) (kk c hc e1 n1 n2 Hr la locs hR hS hl)⟩
theorem s_26 {l : Launch} {mi : jM} {α : Type} {emb : α → Option Value} {pc : Nat} {ls : List (Nat × Value)} {st : List Value} {H : jH} {o : Option (α × jH)} (q : Nat) {x : Int32} (hl0 : ls.lookup 0 = some (.int x)) (hw : jx1 mi.1 mi.2.1 pc 26 q = true) (k : JV l mi emb q ls (.int x :: st) H o) : JV l mi emb pc ls st H o := by
  obtain ⟨hw1, rfl⟩ := jx1_spec hw
  intro r H' ho
  obtain ⟨hm, kk⟩ := k r H' ho
  exact ⟨hm, fun c hc e1 n1 n2 Hr la locs hR hS hl => lv_iload_n (i := 0) hc.1 rfl (jd_26 hc.2.1 hw1) rfl (jLoc_at hl hl0) (kk c hc e1 n1 n2 Hr la locs hR hS hl)⟩
theorem s_27 {l : Launch} {mi : jM} {α : Type} {emb : α → Option Value} {pc : Nat} {ls : List (Nat × Value)} {st : List Value} {H : jH} {o : Option (α × jH)} (q : Nat) {x : Int32} (hl0 : ls.lookup 1 = some (.int x)) (hw : jx1 mi.1 mi.2.1 pc 27 q = true) (k : JV l mi emb q ls (.int x :: st) H o) : JV l mi emb pc ls st H o := by
  obtain ⟨hw1, rfl⟩ := jx1_spec hw
  intro r H' ho
  obtain ⟨hm, kk⟩ := k r H' ho
  exact ⟨hm, fun c hc e1 n1 n2 Hr la locs hR hS hl => lv_iload_n (i := 1) hc.1 rfl (jd_27 hc.2.1 hw1) rfl (jLoc_at hl hl0) (kk c hc e1 n1 n2 Hr la locs hR hS hl)⟩
theorem s_28 {l : Launch} {mi : jM} {α : Type} {emb : α → Option Value} {pc : Nat} {ls : List (Nat × Value)} {st : List Value} {H : jH} {o : Option (α × jH)} (q : Nat) {x : Int32} (hl0 : ls.lookup 2 = some (.int x)) (hw : jx1 mi.1 mi.2.1 pc 28 q = true) (k : JV l mi emb q ls (.int x :: st) H o) : JV l mi emb pc ls st H o := by
  obtain ⟨hw1, rfl⟩ := jx1_spec hw
  intro r H' ho
  obtain ⟨hm, kk⟩ := k r H' ho
  exact ⟨hm, fun c hc e1 n1 n2 Hr la locs hR hS hl => lv_iload_n (i := 2) hc.1 rfl (jd_28 hc.2.1 hw1) rfl (jLoc_at hl hl0) (kk c hc e1 n1 n2 Hr la locs hR hS hl)⟩
theorem s_29 {l : Launch} {mi : jM} {α : Type} {emb : α → Option Value} {pc : Nat} {ls : List (Nat × Value)} {st : List Value} {H : jH} {o : Option (α × jH)} (q : Nat) {x : Int32} (hl0 : ls.lookup 3 = some (.int x)) (hw : jx1 mi.1 mi.2.1 pc 29 q = true) (k : JV l mi emb q ls (.int x :: st) H o) : JV l mi emb pc ls st H o := by
  obtain ⟨hw1, rfl⟩ := jx1_spec hw
  intro r H' ho
  obtain ⟨hm, kk⟩ := k r H' ho
  exact ⟨hm, fun c hc e1 n1 n2 Hr la locs hR hS hl => lv_iload_n (i := 3) hc.1 rfl (jd_29 hc.2.1 hw1) rfl (jLoc_at hl hl0) (kk c hc e1 n1 n2 Hr la locs hR hS hl)⟩
theorem s_21 {l : Launch} {mi : jM} {α : Type} {emb : α → Option Value} {pc : Nat} {ls : List (Nat × Value)} {st : List Value} {H : jH} {o : Option (α × jH)} (i q : Nat) {x : Int32} (hl0 : ls.lookup i = some (.int x)) (hw : jx2 mi.1 mi.2.1 pc 21 i q = true) (k : JV l mi emb q ls (.int x :: st) H o) : JV l mi emb pc ls st H o := by
  obtain ⟨hw1, rfl⟩ := jx2_spec hw
  intro r H' ho
  obtain ⟨hm, kk⟩ := k r H' ho
  exact ⟨hm, fun c hc e1 n1 n2 Hr la locs hR hS hl => lv_iload hc.1 rfl (jd_21 hc.2.1 hw1) (jLoc_at hl hl0) (kk c hc e1 n1 n2 Hr la locs hR hS hl)⟩
theorem s_30 {l : Launch} {mi : jM} {α : Type} {emb : α → Option Value} {pc : Nat} {ls : List (Nat × Value)} {st : List Value} {H : jH} {o : Option (α × jH)} (q : Nat) {x : Int64} (hl0 : ls.lookup 0 = some (.long x)) (hw : jx1 mi.1 mi.2.1 pc 30 q = true) (k : JV l mi emb q ls (.long x :: st) H o) : JV l mi emb pc ls st H o := by
  obtain ⟨hw1, rfl⟩ := jx1_spec hw
  intro r H' ho
  obtain ⟨hm, kk⟩ := k r H' ho
  exact ⟨hm, fun c hc e1 n1 n2 Hr la locs hR hS hl => lv_lload_n (i := 0) hc.1 rfl (jd_30 hc.2.1 hw1) rfl (jLoc_at hl hl0) (kk c hc e1 n1 n2 Hr la locs hR hS hl)⟩
theorem s_31 {l : Launch} {mi : jM} {α : Type} {emb : α → Option Value} {pc : Nat} {ls : List (Nat × Value)} {st : List Value} {H : jH} {o : Option (α × jH)} (q : Nat) {x : Int64} (hl0 : ls.lookup 1 = some (.long x)) (hw : jx1 mi.1 mi.2.1 pc 31 q = true) (k : JV l mi emb q ls (.long x :: st) H o) : JV l mi emb pc ls st H o := by
  obtain ⟨hw1, rfl⟩ := jx1_spec hw
  intro r H' ho
  obtain ⟨hm, kk⟩ := k r H' ho
  exact ⟨hm, fun c hc e1 n1 n2 Hr la locs hR hS hl => lv_lload_n (i := 1) hc.1 rfl (jd_31 hc.2.1 hw1) rfl (jLoc_at hl hl0) (kk c hc e1 n1 n2 Hr la locs hR hS hl)⟩
theorem s_32 {l : Launch} {mi : jM} {α : Type} {emb : α → Option Value} {pc : Nat} {ls : List (Nat × Value)} {st : List Value} {H : jH} {o : Option (α × jH)} (q : Nat) {x : Int64} (hl0 : ls.lookup 2 = some (.long x)) (hw : jx1 mi.1 mi.2.1 pc 32 q = true) (k : JV l mi emb q ls (.long x :: st) H o) : JV l mi emb pc ls st H o := by
  obtain ⟨hw1, rfl⟩ := jx1_spec hw
  intro r H' ho
  obtain ⟨hm, kk⟩ := k r H' ho
  exact ⟨hm, fun c hc e1 n1 n2 Hr la locs hR hS hl => lv_lload_n (i := 2) hc.1 rfl (jd_32 hc.2.1 hw1) rfl (jLoc_at hl hl0) (kk c hc e1 n1 n2 Hr la locs hR hS hl)⟩
theorem s_33 {l : Launch} {mi : jM} {α : Type} {emb : α → Option Value} {pc : Nat} {ls : List (Nat × Value)} {st : List Value} {H : jH} {o : Option (α × jH)} (q : Nat) {x : Int64} (hl0 : ls.lookup 3 = some (.long x)) (hw : jx1 mi.1 mi.2.1 pc 33 q = true) (k : JV l mi emb q ls (.long x :: st) H o) : JV l mi emb pc ls st H o := by
  obtain ⟨hw1, rfl⟩ := jx1_spec hw
  intro r H' ho
  obtain ⟨hm, kk⟩ := k r H' ho
  exact ⟨hm, fun c hc e1 n1 n2 Hr la locs hR hS hl => lv_lload_n (i := 3) hc.1 rfl (jd_33 hc.2.1 hw1) rfl (jLoc_at hl hl0) (kk c hc e1 n1 n2 Hr la locs hR hS hl)⟩
theorem s_22 {l : Launch} {mi : jM} {α : Type} {emb : α → Option Value} {pc : Nat} {ls : List (Nat × Value)} {st : List Value} {H : jH} {o : Option (α × jH)} (i q : Nat) {x : Int64} (hl0 : ls.lookup i = some (.long x)) (hw : jx2 mi.1 mi.2.1 pc 22 i q = true) (k : JV l mi emb q ls (.long x :: st) H o) : JV l mi emb pc ls st H o := by
  obtain ⟨hw1, rfl⟩ := jx2_spec hw
  intro r H' ho
  obtain ⟨hm, kk⟩ := k r H' ho
  exact ⟨hm, fun c hc e1 n1 n2 Hr la locs hR hS hl => lv_lload hc.1 rfl (jd_22 hc.2.1 hw1) (jLoc_at hl hl0) (kk c hc e1 n1 n2 Hr la locs hR hS hl)⟩
theorem s_42 {l : Launch} {mi : jM} {α : Type} {emb : α → Option Value} {pc : Nat} {ls : List (Nat × Value)} {st : List Value} {H : jH} {o : Option (α × jH)} (q : Nat) {x : Nat} (hl0 : ls.lookup 0 = some (.ref x)) (hw : jx1 mi.1 mi.2.1 pc 42 q = true) (k : JV l mi emb q ls (.ref x :: st) H o) : JV l mi emb pc ls st H o := by
  obtain ⟨hw1, rfl⟩ := jx1_spec hw
  intro r H' ho
  obtain ⟨hm, kk⟩ := k r H' ho
  refine ⟨hm, fun c hc e1 n1 n2 Hr la locs hR hS hl => ?_⟩
  have h1 := kk c hc e1 n1 n2 Hr la locs hR hS hl
  have h2 := jLoc_at hl hl0
  simp only [jstk, List.map_cons, jv, jrv] at h1 h2
  by_cases hx : x = 0
  · rw [if_pos hx] at h1 h2
    exact lv_aload_nN (i := 0) hc.1 rfl (jd_42 hc.2.1 hw1) rfl h2 h1
  · rw [if_neg hx] at h1 h2
    exact lv_aload_n (i := 0) hc.1 rfl (jd_42 hc.2.1 hw1) rfl h2 h1
theorem s_43 {l : Launch} {mi : jM} {α : Type} {emb : α → Option Value} {pc : Nat} {ls : List (Nat × Value)} {st : List Value} {H : jH} {o : Option (α × jH)} (q : Nat) {x : Nat} (hl0 : ls.lookup 1 = some (.ref x)) (hw : jx1 mi.1 mi.2.1 pc 43 q = true) (k : JV l mi emb q ls (.ref x :: st) H o) : JV l mi emb pc ls st H o := by
  obtain ⟨hw1, rfl⟩ := jx1_spec hw
  intro r H' ho
  obtain ⟨hm, kk⟩ := k r H' ho
  refine ⟨hm, fun c hc e1 n1 n2 Hr la locs hR hS hl => ?_⟩
  have h1 := kk c hc e1 n1 n2 Hr la locs hR hS hl
  have h2 := jLoc_at hl hl0
  simp only [jstk, List.map_cons, jv, jrv] at h1 h2
  by_cases hx : x = 0
  · rw [if_pos hx] at h1 h2
    exact lv_aload_nN (i := 1) hc.1 rfl (jd_43 hc.2.1 hw1) rfl h2 h1
  · rw [if_neg hx] at h1 h2
    exact lv_aload_n (i := 1) hc.1 rfl (jd_43 hc.2.1 hw1) rfl h2 h1
theorem s_44 {l : Launch} {mi : jM} {α : Type} {emb : α → Option Value} {pc : Nat} {ls : List (Nat × Value)} {st : List Value} {H : jH} {o : Option (α × jH)} (q : Nat) {x : Nat} (hl0 : ls.lookup 2 = some (.ref x)) (hw : jx1 mi.1 mi.2.1 pc 44 q = true) (k : JV l mi emb q ls (.ref x :: st) H o) : JV l mi emb pc ls st H o := by
  obtain ⟨hw1, rfl⟩ := jx1_spec hw
  intro r H' ho
  obtain ⟨hm, kk⟩ := k r H' ho
  refine ⟨hm, fun c hc e1 n1 n2 Hr la locs hR hS hl => ?_⟩
  have h1 := kk c hc e1 n1 n2 Hr la locs hR hS hl
  have h2 := jLoc_at hl hl0
  simp only [jstk, List.map_cons, jv, jrv] at h1 h2
  by_cases hx : x = 0
  · rw [if_pos hx] at h1 h2
    exact lv_aload_nN (i := 2) hc.1 rfl (jd_44 hc.2.1 hw1) rfl h2 h1
  · rw [if_neg hx] at h1 h2
    exact lv_aload_n (i := 2) hc.1 rfl (jd_44 hc.2.1 hw1) rfl h2 h1
theorem s_45 {l : Launch} {mi : jM} {α : Type} {emb : α → Option Value} {pc : Nat} {ls : List (Nat × Value)} {st : List Value} {H : jH} {o : Option (α × jH)} (q : Nat) {x : Nat} (hl0 : ls.lookup 3 = some (.ref x)) (hw : jx1 mi.1 mi.2.1 pc 45 q = true) (k : JV l mi emb q ls (.ref x :: st) H o) : JV l mi emb pc ls st H o := by
  obtain ⟨hw1, rfl⟩ := jx1_spec hw
  intro r H' ho
  obtain ⟨hm, kk⟩ := k r H' ho
  refine ⟨hm, fun c hc e1 n1 n2 Hr la locs hR hS hl => ?_⟩
  have h1 := kk c hc e1 n1 n2 Hr la locs hR hS hl
  have h2 := jLoc_at hl hl0
  simp only [jstk, List.map_cons, jv, jrv] at h1 h2
  by_cases hx : x = 0
  · rw [if_pos hx] at h1 h2
    exact lv_aload_nN (i := 3) hc.1 rfl (jd_45 hc.2.1 hw1) rfl h2 h1
  · rw [if_neg hx] at h1 h2
    exact lv_aload_n (i := 3) hc.1 rfl (jd_45 hc.2.1 hw1) rfl h2 h1
theorem s_25 {l : Launch} {mi : jM} {α : Type} {emb : α → Option Value} {pc : Nat} {ls : List (Nat × Value)} {st : List Value} {H : jH} {o : Option (α × jH)} (i q : Nat) {x : Nat} (hl0 : ls.lookup i = some (.ref x)) (hw : jx2 mi.1 mi.2.1 pc 25 i q = true) (k : JV l mi emb q ls (.ref x :: st) H o) : JV l mi emb pc ls st H o := by
  obtain ⟨hw1, rfl⟩ := jx2_spec hw
  intro r H' ho
  obtain ⟨hm, kk⟩ := k r H' ho
  refine ⟨hm, fun c hc e1 n1 n2 Hr la locs hR hS hl => ?_⟩
  have h1 := kk c hc e1 n1 n2 Hr la locs hR hS hl
  have h2 := jLoc_at hl hl0
  simp only [jstk, List.map_cons, jv, jrv] at h1 h2
  by_cases hx : x = 0
  · rw [if_pos hx] at h1 h2
    exact lv_aloadN hc.1 rfl (jd_25 hc.2.1 hw1) h2 h1
  · rw [if_neg hx] at h1 h2
    exact lv_aload hc.1 rfl (jd_25 hc.2.1 hw1) h2 h1
theorem s_59 {l : Launch} {mi : jM} {α : Type} {emb : α → Option Value} {pc : Nat} {ls : List (Nat × Value)} {st : List Value} {H : jH} {o : Option (α × jH)} (q : Nat) {e : Int32} (hn : jst1 mi.2.2.1 ls 0 = true) (hw : jx1 mi.1 mi.2.1 pc 59 q = true) (k : JV l mi emb q ((0, .int e) :: ls) st H o) : JV l mi emb pc ls (.int e :: st) H o := by
  obtain ⟨hw1, rfl⟩ := jx1_spec hw
  intro r H' ho
  obtain ⟨hm, kk⟩ := k r H' ho
  have hn := jst1_spec hn
  exact ⟨hm, fun c hc e1 n1 n2 Hr la locs hR hS hl => lv_istore_n (i := 0) hc.1 rfl (jd_59 hc.2.1 hw1) rfl (jLoc_has hl) hn.1 rfl fun la2 h2 => kk c hc e1 n1 n2 Hr la2 locs hR hS (jLoc_store hn.2 h2)⟩
theorem s_59L {l : Launch} {mi : jM} {α : Type} {emb : α → Option Value} {pc : Nat} {ls : List (Nat × Value)} {st : List Value} {H : jH} (q : Nat) {e : Int32} {k0 : Int32 → Option (α × jH)} (hn : jst1 mi.2.2.1 ls 0 = true) (hw : jx1 mi.1 mi.2.1 pc 59 q = true) (k : ∀ x, JV l mi emb q ((0, .int x) :: ls) st H (k0 x)) : JV l mi emb pc ls (.int e :: st) H (jl e k0) := by
  obtain ⟨hw1, rfl⟩ := jx1_spec hw
  intro r H' ho
  obtain ⟨hm, kk⟩ := k e r H' ho
  have hn := jst1_spec hn
  exact ⟨hm, fun c hc e1 n1 n2 Hr la locs hR hS hl => lv_istore_n (i := 0) hc.1 rfl (jd_59 hc.2.1 hw1) rfl (jLoc_has hl) hn.1 rfl fun la2 h2 => kk c hc e1 n1 n2 Hr la2 locs hR hS (jLoc_store hn.2 h2)⟩
theorem s_60 {l : Launch} {mi : jM} {α : Type} {emb : α → Option Value} {pc : Nat} {ls : List (Nat × Value)} {st : List Value} {H : jH} {o : Option (α × jH)} (q : Nat) {e : Int32} (hn : jst1 mi.2.2.1 ls 1 = true) (hw : jx1 mi.1 mi.2.1 pc 60 q = true) (k : JV l mi emb q ((1, .int e) :: ls) st H o) : JV l mi emb pc ls (.int e :: st) H o := by
  obtain ⟨hw1, rfl⟩ := jx1_spec hw
  intro r H' ho
  obtain ⟨hm, kk⟩ := k r H' ho
  have hn := jst1_spec hn
  exact ⟨hm, fun c hc e1 n1 n2 Hr la locs hR hS hl => lv_istore_n (i := 1) hc.1 rfl (jd_60 hc.2.1 hw1) rfl (jLoc_has hl) hn.1 rfl fun la2 h2 => kk c hc e1 n1 n2 Hr la2 locs hR hS (jLoc_store hn.2 h2)⟩
theorem s_60L {l : Launch} {mi : jM} {α : Type} {emb : α → Option Value} {pc : Nat} {ls : List (Nat × Value)} {st : List Value} {H : jH} (q : Nat) {e : Int32} {k0 : Int32 → Option (α × jH)} (hn : jst1 mi.2.2.1 ls 1 = true) (hw : jx1 mi.1 mi.2.1 pc 60 q = true) (k : ∀ x, JV l mi emb q ((1, .int x) :: ls) st H (k0 x)) : JV l mi emb pc ls (.int e :: st) H (jl e k0) := by
  obtain ⟨hw1, rfl⟩ := jx1_spec hw
  intro r H' ho
  obtain ⟨hm, kk⟩ := k e r H' ho
  have hn := jst1_spec hn
  exact ⟨hm, fun c hc e1 n1 n2 Hr la locs hR hS hl => lv_istore_n (i := 1) hc.1 rfl (jd_60 hc.2.1 hw1) rfl (jLoc_has hl) hn.1 rfl fun la2 h2 => kk c hc e1 n1 n2 Hr la2 locs hR hS (jLoc_store hn.2 h2)⟩
theorem s_61 {l : Launch} {mi : jM} {α : Type} {emb : α → Option Value} {pc : Nat} {ls : List (Nat × Value)} {st : List Value} {H : jH} {o : Option (α × jH)} (q : Nat) {e : Int32} (hn : jst1 mi.2.2.1 ls 2 = true) (hw : jx1 mi.1 mi.2.1 pc 61 q = true) (k : JV l mi emb q ((2, .int e) :: ls) st H o) : JV l mi emb pc ls (.int e :: st) H o := by
  obtain ⟨hw1, rfl⟩ := jx1_spec hw
  intro r H' ho
  obtain ⟨hm, kk⟩ := k r H' ho
  have hn := jst1_spec hn
  exact ⟨hm, fun c hc e1 n1 n2 Hr la locs hR hS hl => lv_istore_n (i := 2) hc.1 rfl (jd_61 hc.2.1 hw1) rfl (jLoc_has hl) hn.1 rfl fun la2 h2 => kk c hc e1 n1 n2 Hr la2 locs hR hS (jLoc_store hn.2 h2)⟩
theorem s_61L {l : Launch} {mi : jM} {α : Type} {emb : α → Option Value} {pc : Nat} {ls : List (Nat × Value)} {st : List Value} {H : jH} (q : Nat) {e : Int32} {k0 : Int32 → Option (α × jH)} (hn : jst1 mi.2.2.1 ls 2 = true) (hw : jx1 mi.1 mi.2.1 pc 61 q = true) (k : ∀ x, JV l mi emb q ((2, .int x) :: ls) st H (k0 x)) : JV l mi emb pc ls (.int e :: st) H (jl e k0) := by
  obtain ⟨hw1, rfl⟩ := jx1_spec hw
  intro r H' ho
  obtain ⟨hm, kk⟩ := k e r H' ho
  have hn := jst1_spec hn
  exact ⟨hm, fun c hc e1 n1 n2 Hr la locs hR hS hl => lv_istore_n (i := 2) hc.1 rfl (jd_61 hc.2.1 hw1) rfl (jLoc_has hl) hn.1 rfl fun la2 h2 => kk c hc e1 n1 n2 Hr la2 locs hR hS (jLoc_store hn.2 h2)⟩
theorem s_62 {l : Launch} {mi : jM} {α : Type} {emb : α → Option Value} {pc : Nat} {ls : List (Nat × Value)} {st : List Value} {H : jH} {o : Option (α × jH)} (q : Nat) {e : Int32} (hn : jst1 mi.2.2.1 ls 3 = true) (hw : jx1 mi.1 mi.2.1 pc 62 q = true) (k : JV l mi emb q ((3, .int e) :: ls) st H o) : JV l mi emb pc ls (.int e :: st) H o := by
  obtain ⟨hw1, rfl⟩ := jx1_spec hw
  intro r H' ho
  obtain ⟨hm, kk⟩ := k r H' ho
  have hn := jst1_spec hn
  exact ⟨hm, fun c hc e1 n1 n2 Hr la locs hR hS hl => lv_istore_n (i := 3) hc.1 rfl (jd_62 hc.2.1 hw1) rfl (jLoc_has hl) hn.1 rfl fun la2 h2 => kk c hc e1 n1 n2 Hr la2 locs hR hS (jLoc_store hn.2 h2)⟩
theorem s_62L {l : Launch} {mi : jM} {α : Type} {emb : α → Option Value} {pc : Nat} {ls : List (Nat × Value)} {st : List Value} {H : jH} (q : Nat) {e : Int32} {k0 : Int32 → Option (α × jH)} (hn : jst1 mi.2.2.1 ls 3 = true) (hw : jx1 mi.1 mi.2.1 pc 62 q = true) (k : ∀ x, JV l mi emb q ((3, .int x) :: ls) st H (k0 x)) : JV l mi emb pc ls (.int e :: st) H (jl e k0) := by
  obtain ⟨hw1, rfl⟩ := jx1_spec hw
  intro r H' ho
  obtain ⟨hm, kk⟩ := k e r H' ho
  have hn := jst1_spec hn
  exact ⟨hm, fun c hc e1 n1 n2 Hr la locs hR hS hl => lv_istore_n (i := 3) hc.1 rfl (jd_62 hc.2.1 hw1) rfl (jLoc_has hl) hn.1 rfl fun la2 h2 => kk c hc e1 n1 n2 Hr la2 locs hR hS (jLoc_store hn.2 h2)⟩
theorem s_54 {l : Launch} {mi : jM} {α : Type} {emb : α → Option Value} {pc : Nat} {ls : List (Nat × Value)} {st : List Value} {H : jH} {o : Option (α × jH)} (i q : Nat) {e : Int32} (hn : jst1 mi.2.2.1 ls i = true) (hw : jx2 mi.1 mi.2.1 pc 54 i q = true) (k : JV l mi emb q ((i, .int e) :: ls) st H o) : JV l mi emb pc ls (.int e :: st) H o := by
  obtain ⟨hw1, rfl⟩ := jx2_spec hw
  intro r H' ho
  obtain ⟨hm, kk⟩ := k r H' ho
  have hn := jst1_spec hn
  exact ⟨hm, fun c hc e1 n1 n2 Hr la locs hR hS hl => lv_istore hc.1 rfl (jd_54 hc.2.1 hw1) (jLoc_has hl) hn.1 rfl fun la2 h2 => kk c hc e1 n1 n2 Hr la2 locs hR hS (jLoc_store hn.2 h2)⟩
theorem s_54L {l : Launch} {mi : jM} {α : Type} {emb : α → Option Value} {pc : Nat} {ls : List (Nat × Value)} {st : List Value} {H : jH} (i q : Nat) {e : Int32} {k0 : Int32 → Option (α × jH)} (hn : jst1 mi.2.2.1 ls i = true) (hw : jx2 mi.1 mi.2.1 pc 54 i q = true) (k : ∀ x, JV l mi emb q ((i, .int x) :: ls) st H (k0 x)) : JV l mi emb pc ls (.int e :: st) H (jl e k0) := by
  obtain ⟨hw1, rfl⟩ := jx2_spec hw
  intro r H' ho
  obtain ⟨hm, kk⟩ := k e r H' ho
  have hn := jst1_spec hn
  exact ⟨hm, fun c hc e1 n1 n2 Hr la locs hR hS hl => lv_istore hc.1 rfl (jd_54 hc.2.1 hw1) (jLoc_has hl) hn.1 rfl fun la2 h2 => kk c hc e1 n1 n2 Hr la2 locs hR hS (jLoc_store hn.2 h2)⟩
theorem s_63 {l : Launch} {mi : jM} {α : Type} {emb : α → Option Value} {pc : Nat} {ls : List (Nat × Value)} {st : List Value} {H : jH} {o : Option (α × jH)} (q : Nat) {e : Int64} (hn : jst2 mi.2.2.1 ls 0 = true) (hw : jx1 mi.1 mi.2.1 pc 63 q = true) (k : JV l mi emb q ((0, .long e) :: ls) st H o) : JV l mi emb pc ls (.long e :: st) H o := by
  obtain ⟨hw1, rfl⟩ := jx1_spec hw
  intro r H' ho
  obtain ⟨hm, kk⟩ := k r H' ho
  have hn := jst2_spec hn
  exact ⟨hm, fun c hc e1 n1 n2 Hr la locs hR hS hl => lv_lstore_n (i := 0) hc.1 rfl (jd_63 hc.2.1 hw1) rfl (jLoc_has hl) hn.1 rfl fun la2 h2 => kk c hc e1 n1 n2 Hr la2 locs hR hS (jLoc_store2 hn.2.1 hn.2.2 h2)⟩
theorem s_63L {l : Launch} {mi : jM} {α : Type} {emb : α → Option Value} {pc : Nat} {ls : List (Nat × Value)} {st : List Value} {H : jH} (q : Nat) {e : Int64} {k0 : Int64 → Option (α × jH)} (hn : jst2 mi.2.2.1 ls 0 = true) (hw : jx1 mi.1 mi.2.1 pc 63 q = true) (k : ∀ x, JV l mi emb q ((0, .long x) :: ls) st H (k0 x)) : JV l mi emb pc ls (.long e :: st) H (jl e k0) := by
  obtain ⟨hw1, rfl⟩ := jx1_spec hw
  intro r H' ho
  obtain ⟨hm, kk⟩ := k e r H' ho
  have hn := jst2_spec hn
  exact ⟨hm, fun c hc e1 n1 n2 Hr la locs hR hS hl => lv_lstore_n (i := 0) hc.1 rfl (jd_63 hc.2.1 hw1) rfl (jLoc_has hl) hn.1 rfl fun la2 h2 => kk c hc e1 n1 n2 Hr la2 locs hR hS (jLoc_store2 hn.2.1 hn.2.2 h2)⟩
theorem s_64 {l : Launch} {mi : jM} {α : Type} {emb : α → Option Value} {pc : Nat} {ls : List (Nat × Value)} {st : List Value} {H : jH} {o : Option (α × jH)} (q : Nat) {e : Int64} (hn : jst2 mi.2.2.1 ls 1 = true) (hw : jx1 mi.1 mi.2.1 pc 64 q = true) (k : JV l mi emb q ((1, .long e) :: ls) st H o) : JV l mi emb pc ls (.long e :: st) H o := by
  obtain ⟨hw1, rfl⟩ := jx1_spec hw
  intro r H' ho
  obtain ⟨hm, kk⟩ := k r H' ho
  have hn := jst2_spec hn
  exact ⟨hm, fun c hc e1 n1 n2 Hr la locs hR hS hl => lv_lstore_n (i := 1) hc.1 rfl (jd_64 hc.2.1 hw1) rfl (jLoc_has hl) hn.1 rfl fun la2 h2 => kk c hc e1 n1 n2 Hr la2 locs hR hS (jLoc_store2 hn.2.1 hn.2.2 h2)⟩
theorem s_64L {l : Launch} {mi : jM} {α : Type} {emb : α → Option Value} {pc : Nat} {ls : List (Nat × Value)} {st : List Value} {H : jH} (q : Nat) {e : Int64} {k0 : Int64 → Option (α × jH)} (hn : jst2 mi.2.2.1 ls 1 = true) (hw : jx1 mi.1 mi.2.1 pc 64 q = true) (k : ∀ x, JV l mi emb q ((1, .long x) :: ls) st H (k0 x)) : JV l mi emb pc ls (.long e :: st) H (jl e k0) := by
  obtain ⟨hw1, rfl⟩ := jx1_spec hw
  intro r H' ho
  obtain ⟨hm, kk⟩ := k e r H' ho
  have hn := jst2_spec hn
  exact ⟨hm, fun c hc e1 n1 n2 Hr la locs hR hS hl => lv_lstore_n (i := 1) hc.1 rfl (jd_64 hc.2.1 hw1) rfl (jLoc_has hl) hn.1 rfl fun la2 h2 => kk c hc e1 n1 n2 Hr la2 locs hR hS (jLoc_store2 hn.2.1 hn.2.2 h2)⟩
theorem s_65 {l : Launch} {mi : jM} {α : Type} {emb : α → Option Value} {pc : Nat} {ls : List (Nat × Value)} {st : List Value} {H : jH} {o : Option (α × jH)} (q : Nat) {e : Int64} (hn : jst2 mi.2.2.1 ls 2 = true) (hw : jx1 mi.1 mi.2.1 pc 65 q = true) (k : JV l mi emb q ((2, .long e) :: ls) st H o) : JV l mi emb pc ls (.long e :: st) H o := by
  obtain ⟨hw1, rfl⟩ := jx1_spec hw
  intro r H' ho
  obtain ⟨hm, kk⟩ := k r H' ho
  have hn := jst2_spec hn
  exact ⟨hm, fun c hc e1 n1 n2 Hr la locs hR hS hl => lv_lstore_n (i := 2) hc.1 rfl (jd_65 hc.2.1 hw1) rfl (jLoc_has hl) hn.1 rfl fun la2 h2 => kk c hc e1 n1 n2 Hr la2 locs hR hS (jLoc_store2 hn.2.1 hn.2.2 h2)⟩
theorem s_65L {l : Launch} {mi : jM} {α : Type} {emb : α → Option Value} {pc : Nat} {ls : List (Nat × Value)} {st : List Value} {H : jH} (q : Nat) {e : Int64} {k0 : Int64 → Option (α × jH)} (hn : jst2 mi.2.2.1 ls 2 = true) (hw : jx1 mi.1 mi.2.1 pc 65 q = true) (k : ∀ x, JV l mi emb q ((2, .long x) :: ls) st H (k0 x)) : JV l mi emb pc ls (.long e :: st) H (jl e k0) := by
  obtain ⟨hw1, rfl⟩ := jx1_spec hw
  intro r H' ho
  obtain ⟨hm, kk⟩ := k e r H' ho
  have hn := jst2_spec hn
  exact ⟨hm, fun c hc e1 n1 n2 Hr la locs hR hS hl => lv_lstore_n (i := 2) hc.1 rfl (jd_65 hc.2.1 hw1) rfl (jLoc_has hl) hn.1 rfl fun la2 h2 => kk c hc e1 n1 n2 Hr la2 locs hR hS (jLoc_store2 hn.2.1 hn.2.2 h2)⟩
theorem s_66 {l : Launch} {mi : jM} {α : Type} {emb : α → Option Value} {pc : Nat} {ls : List (Nat × Value)} {st : List Value} {H : jH} {o : Option (α × jH)} (q : Nat) {e : Int64} (hn : jst2 mi.2.2.1 ls 3 = true) (hw : jx1 mi.1 mi.2.1 pc 66 q = true) (k : JV l mi emb q ((3, .long e) :: ls) st H o) : JV l mi emb pc ls (.long e :: st) H o := by
  obtain ⟨hw1, rfl⟩ := jx1_spec hw
  intro r H' ho
  obtain ⟨hm, kk⟩ := k r H' ho
  have hn := jst2_spec hn
  exact ⟨hm, fun c hc e1 n1 n2 Hr la locs hR hS hl => lv_lstore_n (i := 3) hc.1 rfl (jd_66 hc.2.1 hw1) rfl (jLoc_has hl) hn.1 rfl fun la2 h2 => kk c hc e1 n1 n2 Hr la2 locs hR hS (jLoc_store2 hn.2.1 hn.2.2 h2)⟩
theorem s_66L {l : Launch} {mi : jM} {α : Type} {emb : α → Option Value} {pc : Nat} {ls : List (Nat × Value)} {st : List Value} {H : jH} (q : Nat) {e : Int64} {k0 : Int64 → Option (α × jH)} (hn : jst2 mi.2.2.1 ls 3 = true) (hw : jx1 mi.1 mi.2.1 pc 66 q = true) (k : ∀ x, JV l mi emb q ((3, .long x) :: ls) st H (k0 x)) : JV l mi emb pc ls (.long e :: st) H (jl e k0) := by
  obtain ⟨hw1, rfl⟩ := jx1_spec hw
  intro r H' ho
  obtain ⟨hm, kk⟩ := k e r H' ho
  have hn := jst2_spec hn
  exact ⟨hm, fun c hc e1 n1 n2 Hr la locs hR hS hl => lv_lstore_n (i := 3) hc.1 rfl (jd_66 hc.2.1 hw1) rfl (jLoc_has hl) hn.1 rfl fun la2 h2 => kk c hc e1 n1 n2 Hr la2 locs hR hS (jLoc_store2 hn.2.1 hn.2.2 h2)⟩
theorem s_55 {l : Launch} {mi : jM} {α : Type} {emb : α → Option Value} {pc : Nat} {ls : List (Nat × Value)} {st : List Value} {H : jH} {o : Option (α × jH)} (i q : Nat) {e : Int64} (hn : jst2 mi.2.2.1 ls i = true) (hw : jx2 mi.1 mi.2.1 pc 55 i q = true) (k : JV l mi emb q ((i, .long e) :: ls) st H o) : JV l mi emb pc ls (.long e :: st) H o := by
  obtain ⟨hw1, rfl⟩ := jx2_spec hw
  intro r H' ho
  obtain ⟨hm, kk⟩ := k r H' ho
  have hn := jst2_spec hn
  exact ⟨hm, fun c hc e1 n1 n2 Hr la locs hR hS hl => lv_lstore hc.1 rfl (jd_55 hc.2.1 hw1) (jLoc_has hl) hn.1 rfl fun la2 h2 => kk c hc e1 n1 n2 Hr la2 locs hR hS (jLoc_store2 hn.2.1 hn.2.2 h2)⟩
theorem s_55L {l : Launch} {mi : jM} {α : Type} {emb : α → Option Value} {pc : Nat} {ls : List (Nat × Value)} {st : List Value} {H : jH} (i q : Nat) {e : Int64} {k0 : Int64 → Option (α × jH)} (hn : jst2 mi.2.2.1 ls i = true) (hw : jx2 mi.1 mi.2.1 pc 55 i q = true) (k : ∀ x, JV l mi emb q ((i, .long x) :: ls) st H (k0 x)) : JV l mi emb pc ls (.long e :: st) H (jl e k0) := by
  obtain ⟨hw1, rfl⟩ := jx2_spec hw
  intro r H' ho
  obtain ⟨hm, kk⟩ := k e r H' ho
  have hn := jst2_spec hn
  exact ⟨hm, fun c hc e1 n1 n2 Hr la locs hR hS hl => lv_lstore hc.1 rfl (jd_55 hc.2.1 hw1) (jLoc_has hl) hn.1 rfl fun la2 h2 => kk c hc e1 n1 n2 Hr la2 locs hR hS (jLoc_store2 hn.2.1 hn.2.2 h2)⟩
theorem s_75 {l : Launch} {mi : jM} {α : Type} {emb : α → Option Value} {pc : Nat} {ls : List (Nat × Value)} {st : List Value} {H : jH} {o : Option (α × jH)} (q : Nat) {e : Nat} (hn : jst1 mi.2.2.1 ls 0 = true) (hw : jx1 mi.1 mi.2.1 pc 75 q = true) (k : JV l mi emb q ((0, .ref e) :: ls) st H o) : JV l mi emb pc ls (.ref e :: st) H o := by
  obtain ⟨hw1, rfl⟩ := jx1_spec hw
  intro r H' ho
  obtain ⟨hm, kk⟩ := k r H' ho
  have hn := jst1_spec hn
  refine ⟨hm, fun c hc e1 n1 n2 Hr la locs hR hS hl => ?_⟩
  have h3 : ∀ la2, lv_has la2 mi.2.2.1 ((0, jv c.2.2.1 (.ref e)) :: (jE c.2.2.1 ls).filter (fun q => !(q.1 == 0) && !(q.1 + 1 == 0 && q.2.category == 2))) → _ := fun la2 h2 => kk c hc e1 n1 n2 Hr la2 locs hR hS (jLoc_store hn.2 h2)
  simp only [jstk, List.map_cons, jv, jrv] at h3 ⊢
  by_cases hx : e = 0
  · simp only [if_pos hx] at h3 ⊢
    exact lv_astore_nN (i := 0) hc.1 rfl (jd_75 hc.2.1 hw1) rfl (jLoc_has hl) hn.1 rfl h3
  · simp only [if_neg hx] at h3 ⊢
    exact lv_astore_n (i := 0) hc.1 rfl (jd_75 hc.2.1 hw1) rfl (jLoc_has hl) hn.1 rfl h3
theorem s_75L {l : Launch} {mi : jM} {α : Type} {emb : α → Option Value} {pc : Nat} {ls : List (Nat × Value)} {st : List Value} {H : jH} (q : Nat) {e : Nat} {k0 : Nat → Option (α × jH)} (hn : jst1 mi.2.2.1 ls 0 = true) (hw : jx1 mi.1 mi.2.1 pc 75 q = true) (k : ∀ x, JV l mi emb q ((0, .ref x) :: ls) st H (k0 x)) : JV l mi emb pc ls (.ref e :: st) H (jl e k0) := by
  obtain ⟨hw1, rfl⟩ := jx1_spec hw
  intro r H' ho
  obtain ⟨hm, kk⟩ := k e r H' ho
  have hn := jst1_spec hn
  refine ⟨hm, fun c hc e1 n1 n2 Hr la locs hR hS hl => ?_⟩
  have h3 : ∀ la2, lv_has la2 mi.2.2.1 ((0, jv c.2.2.1 (.ref e)) :: (jE c.2.2.1 ls).filter (fun q => !(q.1 == 0) && !(q.1 + 1 == 0 && q.2.category == 2))) → _ := fun la2 h2 => kk c hc e1 n1 n2 Hr la2 locs hR hS (jLoc_store hn.2 h2)
  simp only [jstk, List.map_cons, jv, jrv] at h3 ⊢
  by_cases hx : e = 0
  · simp only [if_pos hx] at h3 ⊢
    exact lv_astore_nN (i := 0) hc.1 rfl (jd_75 hc.2.1 hw1) rfl (jLoc_has hl) hn.1 rfl h3
  · simp only [if_neg hx] at h3 ⊢
    exact lv_astore_n (i := 0) hc.1 rfl (jd_75 hc.2.1 hw1) rfl (jLoc_has hl) hn.1 rfl h3
theorem s_76 {l : Launch} {mi : jM} {α : Type} {emb : α → Option Value} {pc : Nat} {ls : List (Nat × Value)} {st : List Value} {H : jH} {o : Option (α × jH)} (q : Nat) {e : Nat} (hn : jst1 mi.2.2.1 ls 1 = true) (hw : jx1 mi.1 mi.2.1 pc 76 q = true) (k : JV l mi emb q ((1, .ref e) :: ls) st H o) : JV l mi emb pc ls (.ref e :: st) H o := by
  obtain ⟨hw1, rfl⟩ := jx1_spec hw
  intro r H' ho
  obtain ⟨hm, kk⟩ := k r H' ho
  have hn := jst1_spec hn
  refine ⟨hm, fun c hc e1 n1 n2 Hr la locs hR hS hl => ?_⟩
  have h3 : ∀ la2, lv_has la2 mi.2.2.1 ((1, jv c.2.2.1 (.ref e)) :: (jE c.2.2.1 ls).filter (fun q => !(q.1 == 1) && !(q.1 + 1 == 1 && q.2.category == 2))) → _ := fun la2 h2 => kk c hc e1 n1 n2 Hr la2 locs hR hS (jLoc_store hn.2 h2)
  simp only [jstk, List.map_cons, jv, jrv] at h3 ⊢
  by_cases hx : e = 0
  · simp only [if_pos hx] at h3 ⊢
    exact lv_astore_nN (i := 1) hc.1 rfl (jd_76 hc.2.1 hw1) rfl (jLoc_has hl) hn.1 rfl h3
  · simp only [if_neg hx] at h3 ⊢
    exact lv_astore_n (i := 1) hc.1 rfl (jd_76 hc.2.1 hw1) rfl (jLoc_has hl) hn.1 rfl h3
theorem s_76L {l : Launch} {mi : jM} {α : Type} {emb : α → Option Value} {pc : Nat} {ls : List (Nat × Value)} {st : List Value} {H : jH} (q : Nat) {e : Nat} {k0 : Nat → Option (α × jH)} (hn : jst1 mi.2.2.1 ls 1 = true) (hw : jx1 mi.1 mi.2.1 pc 76 q = true) (k : ∀ x, JV l mi emb q ((1, .ref x) :: ls) st H (k0 x)) : JV l mi emb pc ls (.ref e :: st) H (jl e k0) := by
  obtain ⟨hw1, rfl⟩ := jx1_spec hw
  intro r H' ho
  obtain ⟨hm, kk⟩ := k e r H' ho
  have hn := jst1_spec hn
  refine ⟨hm, fun c hc e1 n1 n2 Hr la locs hR hS hl => ?_⟩
  have h3 : ∀ la2, lv_has la2 mi.2.2.1 ((1, jv c.2.2.1 (.ref e)) :: (jE c.2.2.1 ls).filter (fun q => !(q.1 == 1) && !(q.1 + 1 == 1 && q.2.category == 2))) → _ := fun la2 h2 => kk c hc e1 n1 n2 Hr la2 locs hR hS (jLoc_store hn.2 h2)
  simp only [jstk, List.map_cons, jv, jrv] at h3 ⊢
  by_cases hx : e = 0
  · simp only [if_pos hx] at h3 ⊢
    exact lv_astore_nN (i := 1) hc.1 rfl (jd_76 hc.2.1 hw1) rfl (jLoc_has hl) hn.1 rfl h3
  · simp only [if_neg hx] at h3 ⊢
    exact lv_astore_n (i := 1) hc.1 rfl (jd_76 hc.2.1 hw1) rfl (jLoc_has hl) hn.1 rfl h3
theorem s_77 {l : Launch} {mi : jM} {α : Type} {emb : α → Option Value} {pc : Nat} {ls : List (Nat × Value)} {st : List Value} {H : jH} {o : Option (α × jH)} (q : Nat) {e : Nat} (hn : jst1 mi.2.2.1 ls 2 = true) (hw : jx1 mi.1 mi.2.1 pc 77 q = true) (k : JV l mi emb q ((2, .ref e) :: ls) st H o) : JV l mi emb pc ls (.ref e :: st) H o := by
  obtain ⟨hw1, rfl⟩ := jx1_spec hw
  intro r H' ho
  obtain ⟨hm, kk⟩ := k r H' ho
  have hn := jst1_spec hn
  refine ⟨hm, fun c hc e1 n1 n2 Hr la locs hR hS hl => ?_⟩
  have h3 : ∀ la2, lv_has la2 mi.2.2.1 ((2, jv c.2.2.1 (.ref e)) :: (jE c.2.2.1 ls).filter (fun q => !(q.1 == 2) && !(q.1 + 1 == 2 && q.2.category == 2))) → _ := fun la2 h2 => kk c hc e1 n1 n2 Hr la2 locs hR hS (jLoc_store hn.2 h2)
  simp only [jstk, List.map_cons, jv, jrv] at h3 ⊢
  by_cases hx : e = 0
  · simp only [if_pos hx] at h3 ⊢
    exact lv_astore_nN (i := 2) hc.1 rfl (jd_77 hc.2.1 hw1) rfl (jLoc_has hl) hn.1 rfl h3
  · simp only [if_neg hx] at h3 ⊢
    exact lv_astore_n (i := 2) hc.1 rfl (jd_77 hc.2.1 hw1) rfl (jLoc_has hl) hn.1 rfl h3
theorem s_77L {l : Launch} {mi : jM} {α : Type} {emb : α → Option Value} {pc : Nat} {ls : List (Nat × Value)} {st : List Value} {H : jH} (q : Nat) {e : Nat} {k0 : Nat → Option (α × jH)} (hn : jst1 mi.2.2.1 ls 2 = true) (hw : jx1 mi.1 mi.2.1 pc 77 q = true) (k : ∀ x, JV l mi emb q ((2, .ref x) :: ls) st H (k0 x)) : JV l mi emb pc ls (.ref e :: st) H (jl e k0) := by
  obtain ⟨hw1, rfl⟩ := jx1_spec hw
  intro r H' ho
  obtain ⟨hm, kk⟩ := k e r H' ho
  have hn := jst1_spec hn
  refine ⟨hm, fun c hc e1 n1 n2 Hr la locs hR hS hl => ?_⟩
  have h3 : ∀ la2, lv_has la2 mi.2.2.1 ((2, jv c.2.2.1 (.ref e)) :: (jE c.2.2.1 ls).filter (fun q => !(q.1 == 2) && !(q.1 + 1 == 2 && q.2.category == 2))) → _ := fun la2 h2 => kk c hc e1 n1 n2 Hr la2 locs hR hS (jLoc_store hn.2 h2)
  simp only [jstk, List.map_cons, jv, jrv] at h3 ⊢
  by_cases hx : e = 0
  · simp only [if_pos hx] at h3 ⊢
    exact lv_astore_nN (i := 2) hc.1 rfl (jd_77 hc.2.1 hw1) rfl (jLoc_has hl) hn.1 rfl h3
  · simp only [if_neg hx] at h3 ⊢
    exact lv_astore_n (i := 2) hc.1 rfl (jd_77 hc.2.1 hw1) rfl (jLoc_has hl) hn.1 rfl h3
theorem s_78 {l : Launch} {mi : jM} {α : Type} {emb : α → Option Value} {pc : Nat} {ls : List (Nat × Value)} {st : List Value} {H : jH} {o : Option (α × jH)} (q : Nat) {e : Nat} (hn : jst1 mi.2.2.1 ls 3 = true) (hw : jx1 mi.1 mi.2.1 pc 78 q = true) (k : JV l mi emb q ((3, .ref e) :: ls) st H o) : JV l mi emb pc ls (.ref e :: st) H o := by
  obtain ⟨hw1, rfl⟩ := jx1_spec hw
  intro r H' ho
  obtain ⟨hm, kk⟩ := k r H' ho
  have hn := jst1_spec hn
  refine ⟨hm, fun c hc e1 n1 n2 Hr la locs hR hS hl => ?_⟩
  have h3 : ∀ la2, lv_has la2 mi.2.2.1 ((3, jv c.2.2.1 (.ref e)) :: (jE c.2.2.1 ls).filter (fun q => !(q.1 == 3) && !(q.1 + 1 == 3 && q.2.category == 2))) → _ := fun la2 h2 => kk c hc e1 n1 n2 Hr la2 locs hR hS (jLoc_store hn.2 h2)
  simp only [jstk, List.map_cons, jv, jrv] at h3 ⊢
  by_cases hx : e = 0
  · simp only [if_pos hx] at h3 ⊢
    exact lv_astore_nN (i := 3) hc.1 rfl (jd_78 hc.2.1 hw1) rfl (jLoc_has hl) hn.1 rfl h3
  · simp only [if_neg hx] at h3 ⊢
    exact lv_astore_n (i := 3) hc.1 rfl (jd_78 hc.2.1 hw1) rfl (jLoc_has hl) hn.1 rfl h3
theorem s_78L {l : Launch} {mi : jM} {α : Type} {emb : α → Option Value} {pc : Nat} {ls : List (Nat × Value)} {st : List Value} {H : jH} (q : Nat) {e : Nat} {k0 : Nat → Option (α × jH)} (hn : jst1 mi.2.2.1 ls 3 = true) (hw : jx1 mi.1 mi.2.1 pc 78 q = true) (k : ∀ x, JV l mi emb q ((3, .ref x) :: ls) st H (k0 x)) : JV l mi emb pc ls (.ref e :: st) H (jl e k0) := by
  obtain ⟨hw1, rfl⟩ := jx1_spec hw
  intro r H' ho
  obtain ⟨hm, kk⟩ := k e r H' ho
  have hn := jst1_spec hn
  refine ⟨hm, fun c hc e1 n1 n2 Hr la locs hR hS hl => ?_⟩
  have h3 : ∀ la2, lv_has la2 mi.2.2.1 ((3, jv c.2.2.1 (.ref e)) :: (jE c.2.2.1 ls).filter (fun q => !(q.1 == 3) && !(q.1 + 1 == 3 && q.2.category == 2))) → _ := fun la2 h2 => kk c hc e1 n1 n2 Hr la2 locs hR hS (jLoc_store hn.2 h2)
  simp only [jstk, List.map_cons, jv, jrv] at h3 ⊢
  by_cases hx : e = 0
  · simp only [if_pos hx] at h3 ⊢
    exact lv_astore_nN (i := 3) hc.1 rfl (jd_78 hc.2.1 hw1) rfl (jLoc_has hl) hn.1 rfl h3
  · simp only [if_neg hx] at h3 ⊢
    exact lv_astore_n (i := 3) hc.1 rfl (jd_78 hc.2.1 hw1) rfl (jLoc_has hl) hn.1 rfl h3
theorem s_58 {l : Launch} {mi : jM} {α : Type} {emb : α → Option Value} {pc : Nat} {ls : List (Nat × Value)} {st : List Value} {H : jH} {o : Option (α × jH)} (i q : Nat) {e : Nat} (hn : jst1 mi.2.2.1 ls i = true) (hw : jx2 mi.1 mi.2.1 pc 58 i q = true) (k : JV l mi emb q ((i, .ref e) :: ls) st H o) : JV l mi emb pc ls (.ref e :: st) H o := by
  obtain ⟨hw1, rfl⟩ := jx2_spec hw
  intro r H' ho
  obtain ⟨hm, kk⟩ := k r H' ho
  have hn := jst1_spec hn
  refine ⟨hm, fun c hc e1 n1 n2 Hr la locs hR hS hl => ?_⟩
  have h3 : ∀ la2, lv_has la2 mi.2.2.1 ((i, jv c.2.2.1 (.ref e)) :: (jE c.2.2.1 ls).filter (fun q => !(q.1 == i) && !(q.1 + 1 == i && q.2.category == 2))) → _ := fun la2 h2 => kk c hc e1 n1 n2 Hr la2 locs hR hS (jLoc_store hn.2 h2)
  simp only [jstk, List.map_cons, jv, jrv] at h3 ⊢
  by_cases hx : e = 0
  · simp only [if_pos hx] at h3 ⊢
    exact lv_astoreN hc.1 rfl (jd_58 hc.2.1 hw1) (jLoc_has hl) hn.1 rfl h3
  · simp only [if_neg hx] at h3 ⊢
    exact lv_astore hc.1 rfl (jd_58 hc.2.1 hw1) (jLoc_has hl) hn.1 rfl h3
theorem s_58L {l : Launch} {mi : jM} {α : Type} {emb : α → Option Value} {pc : Nat} {ls : List (Nat × Value)} {st : List Value} {H : jH} (i q : Nat) {e : Nat} {k0 : Nat → Option (α × jH)} (hn : jst1 mi.2.2.1 ls i = true) (hw : jx2 mi.1 mi.2.1 pc 58 i q = true) (k : ∀ x, JV l mi emb q ((i, .ref x) :: ls) st H (k0 x)) : JV l mi emb pc ls (.ref e :: st) H (jl e k0) := by
  obtain ⟨hw1, rfl⟩ := jx2_spec hw
  intro r H' ho
  obtain ⟨hm, kk⟩ := k e r H' ho
  have hn := jst1_spec hn
  refine ⟨hm, fun c hc e1 n1 n2 Hr la locs hR hS hl => ?_⟩
  have h3 : ∀ la2, lv_has la2 mi.2.2.1 ((i, jv c.2.2.1 (.ref e)) :: (jE c.2.2.1 ls).filter (fun q => !(q.1 == i) && !(q.1 + 1 == i && q.2.category == 2))) → _ := fun la2 h2 => kk c hc e1 n1 n2 Hr la2 locs hR hS (jLoc_store hn.2 h2)
  simp only [jstk, List.map_cons, jv, jrv] at h3 ⊢
  by_cases hx : e = 0
  · simp only [if_pos hx] at h3 ⊢
    exact lv_astoreN hc.1 rfl (jd_58 hc.2.1 hw1) (jLoc_has hl) hn.1 rfl h3
  · simp only [if_neg hx] at h3 ⊢
    exact lv_astore hc.1 rfl (jd_58 hc.2.1 hw1) (jLoc_has hl) hn.1 rfl h3
theorem jE_place {G : jG} {ls : List (Nat × Value)} {i : Nat} {v : Value} (h : ls.lookup i = some v) : ∃ k : Nat, (jE G ls)[k]? = some (i, jv G v) := List.getElem?_of_mem (jE_mem h)
theorem s_132L {l : Launch} {mi : jM} {α : Type} {emb : α → Option Value} {pc : Nat} {ls : List (Nat × Value)} {st : List Value} {H : jH} (i d q : Nat) (v : Int32) {x : Int32} {k0 : Int32 → Option (α × jH)} (hv : Int32.ofInt (Reader.signed 8 d) = v) (hl0 : ls.lookup i = some (.int x)) (hn : jst1 mi.2.2.1 ls i = true) (hw : jx3 mi.1 mi.2.1 pc 132 i d q = true) (k : ∀ x, JV l mi emb q ((i, .int x) :: ls) st H (k0 x)) : JV l mi emb pc ls st H (jl (x + v) k0) := by
  obtain ⟨hw1, rfl⟩ := jx3_spec hw
  subst hv
  intro r H' ho
  obtain ⟨hm, kk⟩ := k _ r H' ho
  have hn := jst1_spec hn
  refine ⟨hm, fun c hc e1 n1 n2 Hr la locs hR hS hl => ?_⟩
  obtain ⟨k1, hk1⟩ := jE_place (G := c.2.2.1) hl0
  exact lv_iinc hc.1 rfl (jd_132 hc.2.1 hw1) (jLoc_has hl) hk1 rfl hn.1 rfl fun la2 h2 => kk c hc e1 n1 n2 Hr la2 locs hR hS (jLoc_store hn.2 h2)
theorem s_153 {l : Launch} {mi : jM} {α : Type} {emb : α → Option Value} {pc : Nat} {ls : List (Nat × Value)} {st : List Value} {H : jH} {o : Option (α × jH)} {o2 : Option (α × jH)} (b d t q : Nat) {x : Int32} (hw : jx3 mi.1 mi.2.1 pc 153 b d q = true) (ht : jt pc b d t = true) (k1 : JV l mi emb t ls st H o) (k2 : JV l mi emb q ls st H o2) : JV l mi emb pc ls (.int x :: st) H (if x = 0 then o else o2) := by
  obtain ⟨hw1, rfl⟩ := jx3_spec hw
  intro r H' ho
  by_cases h : x = 0
  · rw [if_pos h] at ho
    obtain ⟨hm, kk⟩ := k1 r H' ho
    exact ⟨hm, fun c hc e1 n1 n2 Hr la locs hR hS hl => lv_if_eq hc.1 rfl (jd_153 hc.2.1 hw1) (jt_spec ht) (fun _ => kk c hc e1 n1 n2 Hr la locs hR hS hl) (fun h9 => absurd h h9)⟩
  · rw [if_neg h] at ho
    obtain ⟨hm, kk⟩ := k2 r H' ho
    exact ⟨hm, fun c hc e1 n1 n2 Hr la locs hR hS hl => lv_if_eq hc.1 rfl (jd_153 hc.2.1 hw1) (jt_spec ht) (fun h9 => absurd h9 h) (fun _ => kk c hc e1 n1 n2 Hr la locs hR hS hl)⟩
theorem s_154 {l : Launch} {mi : jM} {α : Type} {emb : α → Option Value} {pc : Nat} {ls : List (Nat × Value)} {st : List Value} {H : jH} {o : Option (α × jH)} {o2 : Option (α × jH)} (b d t q : Nat) {x : Int32} (hw : jx3 mi.1 mi.2.1 pc 154 b d q = true) (ht : jt pc b d t = true) (k1 : JV l mi emb t ls st H o) (k2 : JV l mi emb q ls st H o2) : JV l mi emb pc ls (.int x :: st) H (if ¬ x = 0 then o else o2) := by
  obtain ⟨hw1, rfl⟩ := jx3_spec hw
  intro r H' ho
  by_cases h : ¬ x = 0
  · rw [if_pos h] at ho
    obtain ⟨hm, kk⟩ := k1 r H' ho
    exact ⟨hm, fun c hc e1 n1 n2 Hr la locs hR hS hl => lv_if_ne hc.1 rfl (jd_154 hc.2.1 hw1) (jt_spec ht) (fun _ => kk c hc e1 n1 n2 Hr la locs hR hS hl) (fun h9 => absurd h9 h)⟩
  · rw [if_neg h] at ho
    obtain ⟨hm, kk⟩ := k2 r H' ho
    exact ⟨hm, fun c hc e1 n1 n2 Hr la locs hR hS hl => lv_if_ne hc.1 rfl (jd_154 hc.2.1 hw1) (jt_spec ht) (fun h9 => absurd h9 h) (fun _ => kk c hc e1 n1 n2 Hr la locs hR hS hl)⟩
theorem s_155 {l : Launch} {mi : jM} {α : Type} {emb : α → Option Value} {pc : Nat} {ls : List (Nat × Value)} {st : List Value} {H : jH} {o : Option (α × jH)} {o2 : Option (α × jH)} (b d t q : Nat) {x : Int32} (hw : jx3 mi.1 mi.2.1 pc 155 b d q = true) (ht : jt pc b d t = true) (k1 : JV l mi emb t ls st H o) (k2 : JV l mi emb q ls st H o2) : JV l mi emb pc ls (.int x :: st) H (if x < 0 then o else o2) := by
  obtain ⟨hw1, rfl⟩ := jx3_spec hw
  intro r H' ho
  by_cases h : x < 0
  · rw [if_pos h] at ho
    obtain ⟨hm, kk⟩ := k1 r H' ho
    exact ⟨hm, fun c hc e1 n1 n2 Hr la locs hR hS hl => lv_if_lt hc.1 rfl (jd_155 hc.2.1 hw1) (jt_spec ht) (fun _ => kk c hc e1 n1 n2 Hr la locs hR hS hl) (fun h9 => absurd h h9)⟩
  · rw [if_neg h] at ho
    obtain ⟨hm, kk⟩ := k2 r H' ho
    exact ⟨hm, fun c hc e1 n1 n2 Hr la locs hR hS hl => lv_if_lt hc.1 rfl (jd_155 hc.2.1 hw1) (jt_spec ht) (fun h9 => absurd h9 h) (fun _ => kk c hc e1 n1 n2 Hr la locs hR hS hl)⟩
theorem s_156 {l : Launch} {mi : jM} {α : Type} {emb : α → Option Value} {pc : Nat} {ls : List (Nat × Value)} {st : List Value} {H : jH} {o : Option (α × jH)} {o2 : Option (α × jH)} (b d t q : Nat) {x : Int32} (hw : jx3 mi.1 mi.2.1 pc 156 b d q = true) (ht : jt pc b d t = true) (k1 : JV l mi emb t ls st H o) (k2 : JV l mi emb q ls st H o2) : JV l mi emb pc ls (.int x :: st) H (if 0 ≤ x then o else o2) := by
  obtain ⟨hw1, rfl⟩ := jx3_spec hw
  intro r H' ho
  by_cases h : 0 ≤ x
  · rw [if_pos h] at ho
    obtain ⟨hm, kk⟩ := k1 r H' ho
    exact ⟨hm, fun c hc e1 n1 n2 Hr la locs hR hS hl => lv_if_ge hc.1 rfl (jd_156 hc.2.1 hw1) (jt_spec ht) (fun _ => kk c hc e1 n1 n2 Hr la locs hR hS hl) (fun h9 => absurd h h9)⟩
  · rw [if_neg h] at ho
    obtain ⟨hm, kk⟩ := k2 r H' ho
    exact ⟨hm, fun c hc e1 n1 n2 Hr la locs hR hS hl => lv_if_ge hc.1 rfl (jd_156 hc.2.1 hw1) (jt_spec ht) (fun h9 => absurd h9 h) (fun _ => kk c hc e1 n1 n2 Hr la locs hR hS hl)⟩
theorem s_157 {l : Launch} {mi : jM} {α : Type} {emb : α → Option Value} {pc : Nat} {ls : List (Nat × Value)} {st : List Value} {H : jH} {o : Option (α × jH)} {o2 : Option (α × jH)} (b d t q : Nat) {x : Int32} (hw : jx3 mi.1 mi.2.1 pc 157 b d q = true) (ht : jt pc b d t = true) (k1 : JV l mi emb t ls st H o) (k2 : JV l mi emb q ls st H o2) : JV l mi emb pc ls (.int x :: st) H (if 0 < x then o else o2) := by
  obtain ⟨hw1, rfl⟩ := jx3_spec hw
  intro r H' ho
  by_cases h : 0 < x
  · rw [if_pos h] at ho
    obtain ⟨hm, kk⟩ := k1 r H' ho
    exact ⟨hm, fun c hc e1 n1 n2 Hr la locs hR hS hl => lv_if_gt hc.1 rfl (jd_157 hc.2.1 hw1) (jt_spec ht) (fun _ => kk c hc e1 n1 n2 Hr la locs hR hS hl) (fun h9 => absurd h h9)⟩
  · rw [if_neg h] at ho
    obtain ⟨hm, kk⟩ := k2 r H' ho
    exact ⟨hm, fun c hc e1 n1 n2 Hr la locs hR hS hl => lv_if_gt hc.1 rfl (jd_157 hc.2.1 hw1) (jt_spec ht) (fun h9 => absurd h9 h) (fun _ => kk c hc e1 n1 n2 Hr la locs hR hS hl)⟩
theorem s_158 {l : Launch} {mi : jM} {α : Type} {emb : α → Option Value} {pc : Nat} {ls : List (Nat × Value)} {st : List Value} {H : jH} {o : Option (α × jH)} {o2 : Option (α × jH)} (b d t q : Nat) {x : Int32} (hw : jx3 mi.1 mi.2.1 pc 158 b d q = true) (ht : jt pc b d t = true) (k1 : JV l mi emb t ls st H o) (k2 : JV l mi emb q ls st H o2) : JV l mi emb pc ls (.int x :: st) H (if x ≤ 0 then o else o2) := by
  obtain ⟨hw1, rfl⟩ := jx3_spec hw
  intro r H' ho
  by_cases h : x ≤ 0
  · rw [if_pos h] at ho
    obtain ⟨hm, kk⟩ := k1 r H' ho
    exact ⟨hm, fun c hc e1 n1 n2 Hr la locs hR hS hl => lv_if_le hc.1 rfl (jd_158 hc.2.1 hw1) (jt_spec ht) (fun _ => kk c hc e1 n1 n2 Hr la locs hR hS hl) (fun h9 => absurd h h9)⟩
  · rw [if_neg h] at ho
    obtain ⟨hm, kk⟩ := k2 r H' ho
    exact ⟨hm, fun c hc e1 n1 n2 Hr la locs hR hS hl => lv_if_le hc.1 rfl (jd_158 hc.2.1 hw1) (jt_spec ht) (fun h9 => absurd h9 h) (fun _ => kk c hc e1 n1 n2 Hr la locs hR hS hl)⟩
theorem s_159 {l : Launch} {mi : jM} {α : Type} {emb : α → Option Value} {pc : Nat} {ls : List (Nat × Value)} {st : List Value} {H : jH} {o : Option (α × jH)} {o2 : Option (α × jH)} (b d t q : Nat) {x y : Int32} (hw : jx3 mi.1 mi.2.1 pc 159 b d q = true) (ht : jt pc b d t = true) (k1 : JV l mi emb t ls st H o) (k2 : JV l mi emb q ls st H o2) : JV l mi emb pc ls (.int y :: .int x :: st) H (if x = y then o else o2) := by
  obtain ⟨hw1, rfl⟩ := jx3_spec hw
  intro r H' ho
  by_cases h : x = y
  · rw [if_pos h] at ho
    obtain ⟨hm, kk⟩ := k1 r H' ho
    exact ⟨hm, fun c hc e1 n1 n2 Hr la locs hR hS hl => lv_icmp_eq hc.1 rfl (jd_159 hc.2.1 hw1) (jt_spec ht) (fun _ => kk c hc e1 n1 n2 Hr la locs hR hS hl) (fun h9 => absurd h h9)⟩
  · rw [if_neg h] at ho
    obtain ⟨hm, kk⟩ := k2 r H' ho
    exact ⟨hm, fun c hc e1 n1 n2 Hr la locs hR hS hl => lv_icmp_eq hc.1 rfl (jd_159 hc.2.1 hw1) (jt_spec ht) (fun h9 => absurd h9 h) (fun _ => kk c hc e1 n1 n2 Hr la locs hR hS hl)⟩
theorem s_160 {l : Launch} {mi : jM} {α : Type} {emb : α → Option Value} {pc : Nat} {ls : List (Nat × Value)} {st : List Value} {H : jH} {o : Option (α × jH)} {o2 : Option (α × jH)} (b d t q : Nat) {x y : Int32} (hw : jx3 mi.1 mi.2.1 pc 160 b d q = true) (ht : jt pc b d t = true) (k1 : JV l mi emb t ls st H o) (k2 : JV l mi emb q ls st H o2) : JV l mi emb pc ls (.int y :: .int x :: st) H (if ¬ x = y then o else o2) := by
  obtain ⟨hw1, rfl⟩ := jx3_spec hw
  intro r H' ho
  by_cases h : ¬ x = y
  · rw [if_pos h] at ho
    obtain ⟨hm, kk⟩ := k1 r H' ho
    exact ⟨hm, fun c hc e1 n1 n2 Hr la locs hR hS hl => lv_icmp_ne hc.1 rfl (jd_160 hc.2.1 hw1) (jt_spec ht) (fun _ => kk c hc e1 n1 n2 Hr la locs hR hS hl) (fun h9 => absurd h9 h)⟩
  · rw [if_neg h] at ho
    obtain ⟨hm, kk⟩ := k2 r H' ho
    exact ⟨hm, fun c hc e1 n1 n2 Hr la locs hR hS hl => lv_icmp_ne hc.1 rfl (jd_160 hc.2.1 hw1) (jt_spec ht) (fun h9 => absurd h9 h) (fun _ => kk c hc e1 n1 n2 Hr la locs hR hS hl)⟩
theorem s_161 {l : Launch} {mi : jM} {α : Type} {emb : α → Option Value} {pc : Nat} {ls : List (Nat × Value)} {st : List Value} {H : jH} {o : Option (α × jH)} {o2 : Option (α × jH)} (b d t q : Nat) {x y : Int32} (hw : jx3 mi.1 mi.2.1 pc 161 b d q = true) (ht : jt pc b d t = true) (k1 : JV l mi emb t ls st H o) (k2 : JV l mi emb q ls st H o2) : JV l mi emb pc ls (.int y :: .int x :: st) H (if x < y then o else o2) := by
  obtain ⟨hw1, rfl⟩ := jx3_spec hw
  intro r H' ho
  by_cases h : x < y
  · rw [if_pos h] at ho
    obtain ⟨hm, kk⟩ := k1 r H' ho
    exact ⟨hm, fun c hc e1 n1 n2 Hr la locs hR hS hl => lv_icmp_lt hc.1 rfl (jd_161 hc.2.1 hw1) (jt_spec ht) (fun _ => kk c hc e1 n1 n2 Hr la locs hR hS hl) (fun h9 => absurd h h9)⟩
  · rw [if_neg h] at ho
    obtain ⟨hm, kk⟩ := k2 r H' ho
    exact ⟨hm, fun c hc e1 n1 n2 Hr la locs hR hS hl => lv_icmp_lt hc.1 rfl (jd_161 hc.2.1 hw1) (jt_spec ht) (fun h9 => absurd h9 h) (fun _ => kk c hc e1 n1 n2 Hr la locs hR hS hl)⟩
theorem s_162 {l : Launch} {mi : jM} {α : Type} {emb : α → Option Value} {pc : Nat} {ls : List (Nat × Value)} {st : List Value} {H : jH} {o : Option (α × jH)} {o2 : Option (α × jH)} (b d t q : Nat) {x y : Int32} (hw : jx3 mi.1 mi.2.1 pc 162 b d q = true) (ht : jt pc b d t = true) (k1 : JV l mi emb t ls st H o) (k2 : JV l mi emb q ls st H o2) : JV l mi emb pc ls (.int y :: .int x :: st) H (if y ≤ x then o else o2) := by
  obtain ⟨hw1, rfl⟩ := jx3_spec hw
  intro r H' ho
  by_cases h : y ≤ x
  · rw [if_pos h] at ho
    obtain ⟨hm, kk⟩ := k1 r H' ho
    exact ⟨hm, fun c hc e1 n1 n2 Hr la locs hR hS hl => lv_icmp_ge hc.1 rfl (jd_162 hc.2.1 hw1) (jt_spec ht) (fun _ => kk c hc e1 n1 n2 Hr la locs hR hS hl) (fun h9 => absurd h h9)⟩
  · rw [if_neg h] at ho
    obtain ⟨hm, kk⟩ := k2 r H' ho
    exact ⟨hm, fun c hc e1 n1 n2 Hr la locs hR hS hl => lv_icmp_ge hc.1 rfl (jd_162 hc.2.1 hw1) (jt_spec ht) (fun h9 => absurd h9 h) (fun _ => kk c hc e1 n1 n2 Hr la locs hR hS hl)⟩
theorem s_163 {l : Launch} {mi : jM} {α : Type} {emb : α → Option Value} {pc : Nat} {ls : List (Nat × Value)} {st : List Value} {H : jH} {o : Option (α × jH)} {o2 : Option (α × jH)} (b d t q : Nat) {x y : Int32} (hw : jx3 mi.1 mi.2.1 pc 163 b d q = true) (ht : jt pc b d t = true) (k1 : JV l mi emb t ls st H o) (k2 : JV l mi emb q ls st H o2) : JV l mi emb pc ls (.int y :: .int x :: st) H (if y < x then o else o2) := by
  obtain ⟨hw1, rfl⟩ := jx3_spec hw
  intro r H' ho
  by_cases h : y < x
  · rw [if_pos h] at ho
    obtain ⟨hm, kk⟩ := k1 r H' ho
    exact ⟨hm, fun c hc e1 n1 n2 Hr la locs hR hS hl => lv_icmp_gt hc.1 rfl (jd_163 hc.2.1 hw1) (jt_spec ht) (fun _ => kk c hc e1 n1 n2 Hr la locs hR hS hl) (fun h9 => absurd h h9)⟩
  · rw [if_neg h] at ho
    obtain ⟨hm, kk⟩ := k2 r H' ho
    exact ⟨hm, fun c hc e1 n1 n2 Hr la locs hR hS hl => lv_icmp_gt hc.1 rfl (jd_163 hc.2.1 hw1) (jt_spec ht) (fun h9 => absurd h9 h) (fun _ => kk c hc e1 n1 n2 Hr la locs hR hS hl)⟩
theorem s_164 {l : Launch} {mi : jM} {α : Type} {emb : α → Option Value} {pc : Nat} {ls : List (Nat × Value)} {st : List Value} {H : jH} {o : Option (α × jH)} {o2 : Option (α × jH)} (b d t q : Nat) {x y : Int32} (hw : jx3 mi.1 mi.2.1 pc 164 b d q = true) (ht : jt pc b d t = true) (k1 : JV l mi emb t ls st H o) (k2 : JV l mi emb q ls st H o2) : JV l mi emb pc ls (.int y :: .int x :: st) H (if x ≤ y then o else o2) := by
  obtain ⟨hw1, rfl⟩ := jx3_spec hw
  intro r H' ho
  by_cases h : x ≤ y
  · rw [if_pos h] at ho
    obtain ⟨hm, kk⟩ := k1 r H' ho
    exact ⟨hm, fun c hc e1 n1 n2 Hr la locs hR hS hl => lv_icmp_le hc.1 rfl (jd_164 hc.2.1 hw1) (jt_spec ht) (fun _ => kk c hc e1 n1 n2 Hr la locs hR hS hl) (fun h9 => absurd h h9)⟩
  · rw [if_neg h] at ho
    obtain ⟨hm, kk⟩ := k2 r H' ho
    exact ⟨hm, fun c hc e1 n1 n2 Hr la locs hR hS hl => lv_icmp_le hc.1 rfl (jd_164 hc.2.1 hw1) (jt_spec ht) (fun h9 => absurd h9 h) (fun _ => kk c hc e1 n1 n2 Hr la locs hR hS hl)⟩
theorem s_148_153 {l : Launch} {mi : jM} {α : Type} {emb : α → Option Value} {pc : Nat} {ls : List (Nat × Value)} {st : List Value} {H : jH} {o : Option (α × jH)} {o2 : Option (α × jH)} (b d t m q : Nat) {x y : Int64} (hw0 : jx1 mi.1 mi.2.1 pc 148 m = true) (hw : jx3 mi.1 mi.2.1 m 153 b d q = true) (ht : jt m b d t = true) (k1 : JV l mi emb t ls st H o) (k2 : JV l mi emb q ls st H o2) : JV l mi emb pc ls (.long y :: .long x :: st) H (if x = y then o else o2) := by
  obtain ⟨hw01, rfl⟩ := jx1_spec hw0
  obtain ⟨hw1, rfl⟩ := jx3_spec hw
  intro r H' ho
  by_cases h : x = y
  · rw [if_pos h] at ho
    obtain ⟨hm, kk⟩ := k1 r H' ho
    exact ⟨hm, fun c hc e1 n1 n2 Hr la locs hR hS hl => W.lcmp hc.1 rfl (jd_148 hc.2.1 hw01) (lv_if_eq hc.1 rfl (jd_153 hc.2.1 hw1) (jt_spec ht) (fun _ => kk c hc e1 n1 n2 Hr la locs hR hS hl) (fun h9 => absurd ((lg_cmp_eq x y).mpr h) h9))⟩
  · rw [if_neg h] at ho
    obtain ⟨hm, kk⟩ := k2 r H' ho
    exact ⟨hm, fun c hc e1 n1 n2 Hr la locs hR hS hl => W.lcmp hc.1 rfl (jd_148 hc.2.1 hw01) (lv_if_eq hc.1 rfl (jd_153 hc.2.1 hw1) (jt_spec ht) (fun h9 => absurd ((lg_cmp_eq x y).mp h9) h) (fun _ => kk c hc e1 n1 n2 Hr la locs hR hS hl))⟩
theorem s_148_154 {l : Launch} {mi : jM} {α : Type} {emb : α → Option Value} {pc : Nat} {ls : List (Nat × Value)} {st : List Value} {H : jH} {o : Option (α × jH)} {o2 : Option (α × jH)} (b d t m q : Nat) {x y : Int64} (hw0 : jx1 mi.1 mi.2.1 pc 148 m = true) (hw : jx3 mi.1 mi.2.1 m 154 b d q = true) (ht : jt m b d t = true) (k1 : JV l mi emb t ls st H o) (k2 : JV l mi emb q ls st H o2) : JV l mi emb pc ls (.long y :: .long x :: st) H (if ¬ x = y then o else o2) := by
  obtain ⟨hw01, rfl⟩ := jx1_spec hw0
  obtain ⟨hw1, rfl⟩ := jx3_spec hw
  intro r H' ho
  by_cases h : ¬ x = y
  · rw [if_pos h] at ho
    obtain ⟨hm, kk⟩ := k1 r H' ho
    exact ⟨hm, fun c hc e1 n1 n2 Hr la locs hR hS hl => W.lcmp hc.1 rfl (jd_148 hc.2.1 hw01) (lv_if_ne hc.1 rfl (jd_154 hc.2.1 hw1) (jt_spec ht) (fun _ => kk c hc e1 n1 n2 Hr la locs hR hS hl) (fun h9 => absurd ((lg_cmp_eq x y).mp h9) h))⟩
  · rw [if_neg h] at ho
    obtain ⟨hm, kk⟩ := k2 r H' ho
    exact ⟨hm, fun c hc e1 n1 n2 Hr la locs hR hS hl => W.lcmp hc.1 rfl (jd_148 hc.2.1 hw01) (lv_if_ne hc.1 rfl (jd_154 hc.2.1 hw1) (jt_spec ht) (fun h9 => absurd ((not_congr (lg_cmp_eq x y)).mp h9) h) (fun _ => kk c hc e1 n1 n2 Hr la locs hR hS hl))⟩
theorem s_148_155 {l : Launch} {mi : jM} {α : Type} {emb : α → Option Value} {pc : Nat} {ls : List (Nat × Value)} {st : List Value} {H : jH} {o : Option (α × jH)} {o2 : Option (α × jH)} (b d t m q : Nat) {x y : Int64} (hw0 : jx1 mi.1 mi.2.1 pc 148 m = true) (hw : jx3 mi.1 mi.2.1 m 155 b d q = true) (ht : jt m b d t = true) (k1 : JV l mi emb t ls st H o) (k2 : JV l mi emb q ls st H o2) : JV l mi emb pc ls (.long y :: .long x :: st) H (if x < y then o else o2) := by
  obtain ⟨hw01, rfl⟩ := jx1_spec hw0
  obtain ⟨hw1, rfl⟩ := jx3_spec hw
  intro r H' ho
  by_cases h : x < y
  · rw [if_pos h] at ho
    obtain ⟨hm, kk⟩ := k1 r H' ho
    exact ⟨hm, fun c hc e1 n1 n2 Hr la locs hR hS hl => W.lcmp hc.1 rfl (jd_148 hc.2.1 hw01) (lv_if_lt hc.1 rfl (jd_155 hc.2.1 hw1) (jt_spec ht) (fun _ => kk c hc e1 n1 n2 Hr la locs hR hS hl) (fun h9 => absurd ((lg_cmp_lt x y).mpr h) h9))⟩
  · rw [if_neg h] at ho
    obtain ⟨hm, kk⟩ := k2 r H' ho
    exact ⟨hm, fun c hc e1 n1 n2 Hr la locs hR hS hl => W.lcmp hc.1 rfl (jd_148 hc.2.1 hw01) (lv_if_lt hc.1 rfl (jd_155 hc.2.1 hw1) (jt_spec ht) (fun h9 => absurd ((lg_cmp_lt x y).mp h9) h) (fun _ => kk c hc e1 n1 n2 Hr la locs hR hS hl))⟩
theorem s_148_156 {l : Launch} {mi : jM} {α : Type} {emb : α → Option Value} {pc : Nat} {ls : List (Nat × Value)} {st : List Value} {H : jH} {o : Option (α × jH)} {o2 : Option (α × jH)} (b d t m q : Nat) {x y : Int64} (hw0 : jx1 mi.1 mi.2.1 pc 148 m = true) (hw : jx3 mi.1 mi.2.1 m 156 b d q = true) (ht : jt m b d t = true) (k1 : JV l mi emb t ls st H o) (k2 : JV l mi emb q ls st H o2) : JV l mi emb pc ls (.long y :: .long x :: st) H (if y ≤ x then o else o2) := by
  obtain ⟨hw01, rfl⟩ := jx1_spec hw0
  obtain ⟨hw1, rfl⟩ := jx3_spec hw
  intro r H' ho
  by_cases h : y ≤ x
  · rw [if_pos h] at ho
    obtain ⟨hm, kk⟩ := k1 r H' ho
    exact ⟨hm, fun c hc e1 n1 n2 Hr la locs hR hS hl => W.lcmp hc.1 rfl (jd_148 hc.2.1 hw01) (lv_if_ge hc.1 rfl (jd_156 hc.2.1 hw1) (jt_spec ht) (fun _ => kk c hc e1 n1 n2 Hr la locs hR hS hl) (fun h9 => absurd ((lg_cmp_ge x y).mpr h) h9))⟩
  · rw [if_neg h] at ho
    obtain ⟨hm, kk⟩ := k2 r H' ho
    exact ⟨hm, fun c hc e1 n1 n2 Hr la locs hR hS hl => W.lcmp hc.1 rfl (jd_148 hc.2.1 hw01) (lv_if_ge hc.1 rfl (jd_156 hc.2.1 hw1) (jt_spec ht) (fun h9 => absurd ((lg_cmp_ge x y).mp h9) h) (fun _ => kk c hc e1 n1 n2 Hr la locs hR hS hl))⟩
theorem s_148_157 {l : Launch} {mi : jM} {α : Type} {emb : α → Option Value} {pc : Nat} {ls : List (Nat × Value)} {st : List Value} {H : jH} {o : Option (α × jH)} {o2 : Option (α × jH)} (b d t m q : Nat) {x y : Int64} (hw0 : jx1 mi.1 mi.2.1 pc 148 m = true) (hw : jx3 mi.1 mi.2.1 m 157 b d q = true) (ht : jt m b d t = true) (k1 : JV l mi emb t ls st H o) (k2 : JV l mi emb q ls st H o2) : JV l mi emb pc ls (.long y :: .long x :: st) H (if y < x then o else o2) := by
  obtain ⟨hw01, rfl⟩ := jx1_spec hw0
  obtain ⟨hw1, rfl⟩ := jx3_spec hw
  intro r H' ho
  by_cases h : y < x
  · rw [if_pos h] at ho
    obtain ⟨hm, kk⟩ := k1 r H' ho
    exact ⟨hm, fun c hc e1 n1 n2 Hr la locs hR hS hl => W.lcmp hc.1 rfl (jd_148 hc.2.1 hw01) (lv_if_gt hc.1 rfl (jd_157 hc.2.1 hw1) (jt_spec ht) (fun _ => kk c hc e1 n1 n2 Hr la locs hR hS hl) (fun h9 => absurd ((lg_cmp_gt x y).mpr h) h9))⟩
  · rw [if_neg h] at ho
    obtain ⟨hm, kk⟩ := k2 r H' ho
    exact ⟨hm, fun c hc e1 n1 n2 Hr la locs hR hS hl => W.lcmp hc.1 rfl (jd_148 hc.2.1 hw01) (lv_if_gt hc.1 rfl (jd_157 hc.2.1 hw1) (jt_spec ht) (fun h9 => absurd ((lg_cmp_gt x y).mp h9) h) (fun _ => kk c hc e1 n1 n2 Hr la locs hR hS hl))⟩
theorem s_148_158 {l : Launch} {mi : jM} {α : Type} {emb : α → Option Value} {pc : Nat} {ls : List (Nat × Value)} {st : List Value} {H : jH} {o : Option (α × jH)} {o2 : Option (α × jH)} (b d t m q : Nat) {x y : Int64} (hw0 : jx1 mi.1 mi.2.1 pc 148 m = true) (hw : jx3 mi.1 mi.2.1 m 158 b d q = true) (ht : jt m b d t = true) (k1 : JV l mi emb t ls st H o) (k2 : JV l mi emb q ls st H o2) : JV l mi emb pc ls (.long y :: .long x :: st) H (if x ≤ y then o else o2) := by
  obtain ⟨hw01, rfl⟩ := jx1_spec hw0
  obtain ⟨hw1, rfl⟩ := jx3_spec hw
  intro r H' ho
  by_cases h : x ≤ y
  · rw [if_pos h] at ho
    obtain ⟨hm, kk⟩ := k1 r H' ho
    exact ⟨hm, fun c hc e1 n1 n2 Hr la locs hR hS hl => W.lcmp hc.1 rfl (jd_148 hc.2.1 hw01) (lv_if_le hc.1 rfl (jd_158 hc.2.1 hw1) (jt_spec ht) (fun _ => kk c hc e1 n1 n2 Hr la locs hR hS hl) (fun h9 => absurd ((lg_cmp_le x y).mpr h) h9))⟩
  · rw [if_neg h] at ho
    obtain ⟨hm, kk⟩ := k2 r H' ho
    exact ⟨hm, fun c hc e1 n1 n2 Hr la locs hR hS hl => W.lcmp hc.1 rfl (jd_148 hc.2.1 hw01) (lv_if_le hc.1 rfl (jd_158 hc.2.1 hw1) (jt_spec ht) (fun h9 => absurd ((lg_cmp_le x y).mp h9) h) (fun _ => kk c hc e1 n1 n2 Hr la locs hR hS hl))⟩
theorem s_167 {l : Launch} {mi : jM} {α : Type} {emb : α → Option Value} {pc : Nat} {ls : List (Nat × Value)} {st : List Value} {H : jH} {o : Option (α × jH)} (b d t : Nat) (hw : jw3 mi.1 mi.2.1 pc 167 b d = true) (ht : jt pc b d t = true) (k : JV l mi emb t ls st H o) : JV l mi emb pc ls st H o := by
  intro r H' ho
  obtain ⟨hm, kk⟩ := k r H' ho
  exact ⟨hm, fun c hc e1 n1 n2 Hr la locs hR hS hl => lv_goto hc.1 rfl (jd_167 hc.2.1 hw) (jt_spec ht) (kk c hc e1 n1 n2 Hr la locs hR hS hl)⟩
theorem s_198 {l : Launch} {mi : jM} {α : Type} {emb : α → Option Value} {pc : Nat} {ls : List (Nat × Value)} {st : List Value} {H : jH} {o : Option (α × jH)} {o2 : Option (α × jH)} (b d t q : Nat) {x : Nat} (hw : jx3 mi.1 mi.2.1 pc 198 b d q = true) (ht : jt pc b d t = true) (k1 : JV l mi emb t ls st H o) (k2 : JV l mi emb q ls st H o2) : JV l mi emb pc ls (.ref x :: st) H (if x = 0 then o else o2) := by
  obtain ⟨hw1, rfl⟩ := jx3_spec hw
  intro r H' ho
  by_cases h : x = 0
  · rw [if_pos h] at ho
    obtain ⟨hm, kk⟩ := k1 r H' ho
    refine ⟨hm, fun c hc e1 n1 n2 Hr la locs hR hS hl => ?_⟩
    simp only [jstk, List.map_cons, jv, jrv, if_pos h]
    exact lv_ifnullN hc.1 rfl (jd_198 hc.2.1 hw1) (jt_spec ht) (kk c hc e1 n1 n2 Hr la locs hR hS hl)
  · rw [if_neg h] at ho
    obtain ⟨hm, kk⟩ := k2 r H' ho
    refine ⟨hm, fun c hc e1 n1 n2 Hr la locs hR hS hl => ?_⟩
    simp only [jstk, List.map_cons, jv, jrv, if_neg h]
    exact lv_ifnull hc.1 rfl (jd_198 hc.2.1 hw1) (kk c hc e1 n1 n2 Hr la locs hR hS hl)
theorem s_199 {l : Launch} {mi : jM} {α : Type} {emb : α → Option Value} {pc : Nat} {ls : List (Nat × Value)} {st : List Value} {H : jH} {o : Option (α × jH)} {o2 : Option (α × jH)} (b d t q : Nat) {x : Nat} (hw : jx3 mi.1 mi.2.1 pc 199 b d q = true) (ht : jt pc b d t = true) (k1 : JV l mi emb t ls st H o) (k2 : JV l mi emb q ls st H o2) : JV l mi emb pc ls (.ref x :: st) H (if ¬ x = 0 then o else o2) := by
  obtain ⟨hw1, rfl⟩ := jx3_spec hw
  intro r H' ho
  by_cases h : x = 0
  · rw [if_neg (fun q => q h)] at ho
    obtain ⟨hm, kk⟩ := k2 r H' ho
    refine ⟨hm, fun c hc e1 n1 n2 Hr la locs hR hS hl => ?_⟩
    simp only [jstk, List.map_cons, jv, jrv, if_pos h]
    exact lv_ifnonnullN hc.1 rfl (jd_199 hc.2.1 hw1) (kk c hc e1 n1 n2 Hr la locs hR hS hl)
  · rw [if_pos h] at ho
    obtain ⟨hm, kk⟩ := k1 r H' ho
    refine ⟨hm, fun c hc e1 n1 n2 Hr la locs hR hS hl => ?_⟩
    simp only [jstk, List.map_cons, jv, jrv, if_neg h]
    exact lv_ifnonnull hc.1 rfl (jd_199 hc.2.1 hw1) (jt_spec ht) (kk c hc e1 n1 n2 Hr la locs hR hS hl)
/-- fewer locals -/
theorem s_sub {l : Launch} {mi : jM} {α : Type} {emb : α → Option Value} {pc : Nat} {ls : List (Nat × Value)} {st : List Value} {H : jH} {o : Option (α × jH)} {ls' : List (Nat × Value)} (hs : jsub ls' ls) (k : JV l mi emb pc ls' st H o) : JV l mi emb pc ls st H o := by
  intro r H' ho
  obtain ⟨hm, kk⟩ := k r H' ho
  exact ⟨hm, fun c hc e1 n1 n2 Hr la locs hR hS hl => kk c hc e1 n1 n2 Hr la locs hR hS (jLoc_sub hl hs)⟩
theorem s_none {l : Launch} {mi : jM} {α : Type} {emb : α → Option Value} {pc : Nat} {ls : List (Nat × Value)} {st : List Value} {H : jH} : JV l mi emb pc ls st H (none : Option (α × jH)) := by
  intro r H' ho
  cases ho
