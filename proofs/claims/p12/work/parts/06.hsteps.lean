def jfok (ci k : Nat) (C : String) (T : u_T) (N : Nat) (Y : Nat → FieldType) (kd : Nat) : Prop := jcok ci C T N Y ∧ k < N ∧ jkd (Y k) = kd
def jisref : FieldType → Bool
  | .object _ => true
  | .array _ => true
  | _ => false
def jeI : Int32 → Option Value := fun x => some (.int x)
def jeL : Int64 → Option Value := fun x => some (.long x)
def jeR : Nat → Option Value := fun x => some (.ref x)
def jeV : Unit → Option Value := fun _ => none
def jnw {β : Type} (H : jH) (t n : Nat) (k : Nat → jH → β) : β := k (jn H) (jnew H t n)
abbrev jgn (n : Int32) : Prop := 0 ≤ n.toInt ∧ n.toInt ≤ 1000000
theorem jfits_ref {G : jG} {t : FieldType} {x : Nat} (h : jisref t = true) : narrow t (jrv G x) = jrv G x ∧ fits t (jrv G x) = true := by
  unfold jrv
  split <;> cases t <;> first | (cases h; done) | exact ⟨rfl, rfl⟩
theorem jz_b {x : Int32} (h : x = 0 ∨ x = 1) : narrow .boolean (.int x) = .int x := by
  rcases h with rfl | rfl <;> rfl
theorem jv_ref (G : jG) (r : Nat) : jv G (.ref r) = jrv G r := rfl
theorem s_180I {l : Launch} {mi : jM} {α : Type} {emb : α → Option Value} {pc : Nat} {ls : List (Nat × Value)} {st : List Value} {H : jH} {o1 : Option (α × jH)} (b d q i : Nat) {ci k N o : Nat} {C : String} {T : u_T} {Y : Nat → FieldType} (hf : jfok ci k C T N Y 0) (hl0 : Cond.fieldLink mi.2.2.2.1 i C (T k).2.1 (T k).2.2.1 ∈ jws) (hi : b * 256 + d = i) (hw : jx3 mi.1 mi.2.1 pc 180 b d q = true) (kk0 : JV l mi emb q ls (.int (jI H o k) :: st) H o1) : JV l mi emb pc ls (.ref o :: st) H (jg ((jK H o).1 = ci) o1) := by
  obtain ⟨hw1, rfl⟩ := jx3_spec hw
  subst hi
  intro r H' ho
  obtain ⟨hg, ho⟩ := jg_some ho
  obtain ⟨hm, kk⟩ := kk0 r H' ho
  obtain ⟨f1, f2, f3⟩ := hf
  refine ⟨hm, fun c hc e1 n1 n2 Hr la locs hR hS hl => ?_⟩
  refine jget_core hc.1 hc.2.2.2.2.2.2.2.1 hc.2.2.2.1 f1 hR hg f2 (hc.2.2.2.2.2.2.2.1 _ hl0) (jd_180 hc.2.1 hw1) ?_
  rw [f3]
  exact kk c hc e1 n1 n2 Hr la locs hR hS hl
theorem s_180IN {l : Launch} {mi : jM} {α : Type} {emb : α → Option Value} {pc : Nat} {ls : List (Nat × Value)} {st : List Value} {H : jH} {o1 : Option (α × jH)} (b d q i : Nat) {ci k N o : Nat} {C host : String} {T : u_T} {Y : Nat → FieldType} (hf : jfok ci k C T N Y 0) (hl0 : (mi.2.2.2.1, i, C, (T k).2.1, (T k).2.2.1, host) ∈ jnF) (hi : b * 256 + d = i) (hw : jx3 mi.1 mi.2.1 pc 180 b d q = true) (kk0 : JV l mi emb q ls (.int (jI H o k) :: st) H o1) : JV l mi emb pc ls (.ref o :: st) H (jg ((jK H o).1 = ci) o1) := by
  obtain ⟨hw1, rfl⟩ := jx3_spec hw
  subst hi
  intro r H' ho
  obtain ⟨hg, ho⟩ := jg_some ho
  obtain ⟨hm, kk⟩ := kk0 r H' ho
  obtain ⟨f1, f2, f3⟩ := hf
  refine ⟨hm, fun c hc e1 n1 n2 Hr la locs hR hS hl => ?_⟩
  refine jgetN_core hc.1 hc.2.2.2.2.2.2.2.1 hc.2.2.2.1 f1 hR hg f2 ((hc.2.2.2.2.2.2.2.2.2.1 _ hl0).use rfl) (jd_180 hc.2.1 hw1) ?_
  rw [f3]
  exact kk c hc e1 n1 n2 Hr la locs hR hS hl
theorem s_180L {l : Launch} {mi : jM} {α : Type} {emb : α → Option Value} {pc : Nat} {ls : List (Nat × Value)} {st : List Value} {H : jH} {o1 : Option (α × jH)} (b d q i : Nat) {ci k N o : Nat} {C : String} {T : u_T} {Y : Nat → FieldType} (hf : jfok ci k C T N Y 1) (hl0 : Cond.fieldLink mi.2.2.2.1 i C (T k).2.1 (T k).2.2.1 ∈ jws) (hi : b * 256 + d = i) (hw : jx3 mi.1 mi.2.1 pc 180 b d q = true) (kk0 : JV l mi emb q ls (.long (jL H o k) :: st) H o1) : JV l mi emb pc ls (.ref o :: st) H (jg ((jK H o).1 = ci) o1) := by
  obtain ⟨hw1, rfl⟩ := jx3_spec hw
  subst hi
  intro r H' ho
  obtain ⟨hg, ho⟩ := jg_some ho
  obtain ⟨hm, kk⟩ := kk0 r H' ho
  obtain ⟨f1, f2, f3⟩ := hf
  refine ⟨hm, fun c hc e1 n1 n2 Hr la locs hR hS hl => ?_⟩
  refine jget_core hc.1 hc.2.2.2.2.2.2.2.1 hc.2.2.2.1 f1 hR hg f2 (hc.2.2.2.2.2.2.2.1 _ hl0) (jd_180 hc.2.1 hw1) ?_
  rw [f3]
  exact kk c hc e1 n1 n2 Hr la locs hR hS hl
theorem s_180LN {l : Launch} {mi : jM} {α : Type} {emb : α → Option Value} {pc : Nat} {ls : List (Nat × Value)} {st : List Value} {H : jH} {o1 : Option (α × jH)} (b d q i : Nat) {ci k N o : Nat} {C host : String} {T : u_T} {Y : Nat → FieldType} (hf : jfok ci k C T N Y 1) (hl0 : (mi.2.2.2.1, i, C, (T k).2.1, (T k).2.2.1, host) ∈ jnF) (hi : b * 256 + d = i) (hw : jx3 mi.1 mi.2.1 pc 180 b d q = true) (kk0 : JV l mi emb q ls (.long (jL H o k) :: st) H o1) : JV l mi emb pc ls (.ref o :: st) H (jg ((jK H o).1 = ci) o1) := by
  obtain ⟨hw1, rfl⟩ := jx3_spec hw
  subst hi
  intro r H' ho
  obtain ⟨hg, ho⟩ := jg_some ho
  obtain ⟨hm, kk⟩ := kk0 r H' ho
  obtain ⟨f1, f2, f3⟩ := hf
  refine ⟨hm, fun c hc e1 n1 n2 Hr la locs hR hS hl => ?_⟩
  refine jgetN_core hc.1 hc.2.2.2.2.2.2.2.1 hc.2.2.2.1 f1 hR hg f2 ((hc.2.2.2.2.2.2.2.2.2.1 _ hl0).use rfl) (jd_180 hc.2.1 hw1) ?_
  rw [f3]
  exact kk c hc e1 n1 n2 Hr la locs hR hS hl
theorem s_180R {l : Launch} {mi : jM} {α : Type} {emb : α → Option Value} {pc : Nat} {ls : List (Nat × Value)} {st : List Value} {H : jH} {o1 : Option (α × jH)} (b d q i : Nat) {ci k N o : Nat} {C : String} {T : u_T} {Y : Nat → FieldType} (hf : jfok ci k C T N Y 2) (hl0 : Cond.fieldLink mi.2.2.2.1 i C (T k).2.1 (T k).2.2.1 ∈ jws) (hi : b * 256 + d = i) (hw : jx3 mi.1 mi.2.1 pc 180 b d q = true) (kk0 : JV l mi emb q ls (.ref (jR H o k) :: st) H o1) : JV l mi emb pc ls (.ref o :: st) H (jg ((jK H o).1 = ci) o1) := by
  obtain ⟨hw1, rfl⟩ := jx3_spec hw
  subst hi
  intro r H' ho
  obtain ⟨hg, ho⟩ := jg_some ho
  obtain ⟨hm, kk⟩ := kk0 r H' ho
  obtain ⟨f1, f2, f3⟩ := hf
  refine ⟨hm, fun c hc e1 n1 n2 Hr la locs hR hS hl => ?_⟩
  refine jget_core hc.1 hc.2.2.2.2.2.2.2.1 hc.2.2.2.1 f1 hR hg f2 (hc.2.2.2.2.2.2.2.1 _ hl0) (jd_180 hc.2.1 hw1) ?_
  rw [f3]
  exact kk c hc e1 n1 n2 Hr la locs hR hS hl
theorem s_180RN {l : Launch} {mi : jM} {α : Type} {emb : α → Option Value} {pc : Nat} {ls : List (Nat × Value)} {st : List Value} {H : jH} {o1 : Option (α × jH)} (b d q i : Nat) {ci k N o : Nat} {C host : String} {T : u_T} {Y : Nat → FieldType} (hf : jfok ci k C T N Y 2) (hl0 : (mi.2.2.2.1, i, C, (T k).2.1, (T k).2.2.1, host) ∈ jnF) (hi : b * 256 + d = i) (hw : jx3 mi.1 mi.2.1 pc 180 b d q = true) (kk0 : JV l mi emb q ls (.ref (jR H o k) :: st) H o1) : JV l mi emb pc ls (.ref o :: st) H (jg ((jK H o).1 = ci) o1) := by
  obtain ⟨hw1, rfl⟩ := jx3_spec hw
  subst hi
  intro r H' ho
  obtain ⟨hg, ho⟩ := jg_some ho
  obtain ⟨hm, kk⟩ := kk0 r H' ho
  obtain ⟨f1, f2, f3⟩ := hf
  refine ⟨hm, fun c hc e1 n1 n2 Hr la locs hR hS hl => ?_⟩
  refine jgetN_core hc.1 hc.2.2.2.2.2.2.2.1 hc.2.2.2.1 f1 hR hg f2 ((hc.2.2.2.2.2.2.2.2.2.1 _ hl0).use rfl) (jd_180 hc.2.1 hw1) ?_
  rw [f3]
  exact kk c hc e1 n1 n2 Hr la locs hR hS hl
theorem s_181I {l : Launch} {mi : jM} {α : Type} {emb : α → Option Value} {pc : Nat} {ls : List (Nat × Value)} {st : List Value} {H : jH} {k0 : jH → Option (α × jH)} (b d q i : Nat) {ci k N o : Nat} {x : Int32} {C : String} {T : u_T} {Y : Nat → FieldType} (hf : jfok ci k C T N Y 0) (hY : Y k = .int) (hfin : (T k).2.2.2 = false) (hl0 : Cond.fieldLink mi.2.2.2.1 i C (T k).2.1 (T k).2.2.1 ∈ jws) (hi : b * 256 + d = i) (hw : jx3 mi.1 mi.2.1 pc 181 b d q = true) (kk0 : ∀ H1, JV l mi emb q ls st H1 (k0 H1)) : JV l mi emb pc ls (.int x :: .ref o :: st) H (jg ((jK H o).1 = ci) (jl (jsI H o k x) k0)) := by
  obtain ⟨hw1, rfl⟩ := jx3_spec hw
  subst hi
  intro r H' ho
  obtain ⟨hg, ho⟩ := jg_some ho
  obtain ⟨hm, kk⟩ := kk0 _ r H' ho
  obtain ⟨f1, f2, f3⟩ := hf
  refine ⟨hm, fun c hc e1 n1 n2 Hr la locs hR hS hl => ?_⟩
  exact jput_core (H2 := jsI H o k x) hc.1 hc.2.2.2.2.2.2.2.1 hc.2.2.2.1 f1 hR hS hg f2 (hc.2.2.2.2.2.2.2.1 _ hl0) (Or.inl hfin) (hY ▸ rfl) (hY ▸ rfl) (f3 ▸ jput1_I) (jd_181 hc.2.1 hw1) fun Hr2 locs2 hR2 hS2 => kk c hc e1 n1 n2 Hr2 la locs2 hR2 hS2 hl
theorem s_181IF {l : Launch} {mi : jM} {α : Type} {emb : α → Option Value} {pc : Nat} {ls : List (Nat × Value)} {st : List Value} {H : jH} {k0 : jH → Option (α × jH)} (b d q i : Nat) {ci k N o : Nat} {x : Int32} {C : String} {T : u_T} {Y : Nat → FieldType} (hf : jfok ci k C T N Y 0) (hY : Y k = .int) (hfin : (T k).2.2.2 = true ∧ mi.2.2.2.2.2.1 = "<init>" ∧ C = mi.2.2.2.1) (hl0 : Cond.fieldLink mi.2.2.2.1 i C (T k).2.1 (T k).2.2.1 ∈ jws) (hi : b * 256 + d = i) (hw : jx3 mi.1 mi.2.1 pc 181 b d q = true) (kk0 : ∀ H1, JV l mi emb q ls st H1 (k0 H1)) : JV l mi emb pc ls (.int x :: .ref o :: st) H (jg ((jK H o).1 = ci) (jl (jsI H o k x) k0)) := by
  obtain ⟨hw1, rfl⟩ := jx3_spec hw
  subst hi
  intro r H' ho
  obtain ⟨hg, ho⟩ := jg_some ho
  obtain ⟨hm, kk⟩ := kk0 _ r H' ho
  obtain ⟨f1, f2, f3⟩ := hf
  refine ⟨hm, fun c hc e1 n1 n2 Hr la locs hR hS hl => ?_⟩
  exact jput_core (H2 := jsI H o k x) hc.1 hc.2.2.2.2.2.2.2.1 hc.2.2.2.1 f1 hR hS hg f2 (hc.2.2.2.2.2.2.2.1 _ hl0) (Or.inr ⟨hfin.1, hc.2.2.2.2.2.1.trans hfin.2.1, hfin.2.2⟩) (hY ▸ rfl) (hY ▸ rfl) (f3 ▸ jput1_I) (jd_181 hc.2.1 hw1) fun Hr2 locs2 hR2 hS2 => kk c hc e1 n1 n2 Hr2 la locs2 hR2 hS2 hl
theorem s_181IN {l : Launch} {mi : jM} {α : Type} {emb : α → Option Value} {pc : Nat} {ls : List (Nat × Value)} {st : List Value} {H : jH} {k0 : jH → Option (α × jH)} (b d q i : Nat) {ci k N o : Nat} {x : Int32} {C host : String} {T : u_T} {Y : Nat → FieldType} (hf : jfok ci k C T N Y 0) (hY : Y k = .int) (hfin : (T k).2.2.2 = false) (hl0 : (mi.2.2.2.1, i, C, (T k).2.1, (T k).2.2.1, host) ∈ jnF) (hi : b * 256 + d = i) (hw : jx3 mi.1 mi.2.1 pc 181 b d q = true) (kk0 : ∀ H1, JV l mi emb q ls st H1 (k0 H1)) : JV l mi emb pc ls (.int x :: .ref o :: st) H (jg ((jK H o).1 = ci) (jl (jsI H o k x) k0)) := by
  obtain ⟨hw1, rfl⟩ := jx3_spec hw
  subst hi
  intro r H' ho
  obtain ⟨hg, ho⟩ := jg_some ho
  obtain ⟨hm, kk⟩ := kk0 _ r H' ho
  obtain ⟨f1, f2, f3⟩ := hf
  refine ⟨hm, fun c hc e1 n1 n2 Hr la locs hR hS hl => ?_⟩
  exact jputN_core (H2 := jsI H o k x) hc.1 hc.2.2.2.2.2.2.2.1 hc.2.2.2.1 f1 hR hS hg f2 ((hc.2.2.2.2.2.2.2.2.2.1 _ hl0).use rfl) hfin (hY ▸ rfl) (hY ▸ rfl) (f3 ▸ jput1_I) (jd_181 hc.2.1 hw1) fun Hr2 locs2 hR2 hS2 => kk c hc e1 n1 n2 Hr2 la locs2 hR2 hS2 hl
theorem s_181Z {l : Launch} {mi : jM} {α : Type} {emb : α → Option Value} {pc : Nat} {ls : List (Nat × Value)} {st : List Value} {H : jH} {k0 : jH → Option (α × jH)} (b d q i : Nat) {ci k N o : Nat} {x : Int32} {C : String} {T : u_T} {Y : Nat → FieldType} (hf : jfok ci k C T N Y 0) (hY : Y k = .boolean) (hfin : (T k).2.2.2 = false) (hl0 : Cond.fieldLink mi.2.2.2.1 i C (T k).2.1 (T k).2.2.1 ∈ jws) (hi : b * 256 + d = i) (hw : jx3 mi.1 mi.2.1 pc 181 b d q = true) (kk0 : ∀ H1, JV l mi emb q ls st H1 (k0 H1)) : JV l mi emb pc ls (.int x :: .ref o :: st) H (jg ((jK H o).1 = ci ∧ (x = 0 ∨ x = 1)) (jl (jsI H o k x) k0)) := by
  obtain ⟨hw1, rfl⟩ := jx3_spec hw
  subst hi
  intro r H' ho
  obtain ⟨hg, ho⟩ := jg_some ho
  obtain ⟨hm, kk⟩ := kk0 _ r H' ho
  obtain ⟨f1, f2, f3⟩ := hf
  refine ⟨hm, fun c hc e1 n1 n2 Hr la locs hR hS hl => ?_⟩
  exact jput_core (H2 := jsI H o k x) hc.1 hc.2.2.2.2.2.2.2.1 hc.2.2.2.1 f1 hR hS hg.1 f2 (hc.2.2.2.2.2.2.2.1 _ hl0) (Or.inl hfin) (hY ▸ jz_b hg.2) (by rw [hY]; rcases hg.2 with rfl | rfl <;> rfl) (f3 ▸ jput1_I) (jd_181 hc.2.1 hw1) fun Hr2 locs2 hR2 hS2 => kk c hc e1 n1 n2 Hr2 la locs2 hR2 hS2 hl
theorem s_181ZN {l : Launch} {mi : jM} {α : Type} {emb : α → Option Value} {pc : Nat} {ls : List (Nat × Value)} {st : List Value} {H : jH} {k0 : jH → Option (α × jH)} (b d q i : Nat) {ci k N o : Nat} {x : Int32} {C host : String} {T : u_T} {Y : Nat → FieldType} (hf : jfok ci k C T N Y 0) (hY : Y k = .boolean) (hfin : (T k).2.2.2 = false) (hl0 : (mi.2.2.2.1, i, C, (T k).2.1, (T k).2.2.1, host) ∈ jnF) (hi : b * 256 + d = i) (hw : jx3 mi.1 mi.2.1 pc 181 b d q = true) (kk0 : ∀ H1, JV l mi emb q ls st H1 (k0 H1)) : JV l mi emb pc ls (.int x :: .ref o :: st) H (jg ((jK H o).1 = ci ∧ (x = 0 ∨ x = 1)) (jl (jsI H o k x) k0)) := by
  obtain ⟨hw1, rfl⟩ := jx3_spec hw
  subst hi
  intro r H' ho
  obtain ⟨hg, ho⟩ := jg_some ho
  obtain ⟨hm, kk⟩ := kk0 _ r H' ho
  obtain ⟨f1, f2, f3⟩ := hf
  refine ⟨hm, fun c hc e1 n1 n2 Hr la locs hR hS hl => ?_⟩
  exact jputN_core (H2 := jsI H o k x) hc.1 hc.2.2.2.2.2.2.2.1 hc.2.2.2.1 f1 hR hS hg.1 f2 ((hc.2.2.2.2.2.2.2.2.2.1 _ hl0).use rfl) hfin (hY ▸ jz_b hg.2) (by rw [hY]; rcases hg.2 with rfl | rfl <;> rfl) (f3 ▸ jput1_I) (jd_181 hc.2.1 hw1) fun Hr2 locs2 hR2 hS2 => kk c hc e1 n1 n2 Hr2 la locs2 hR2 hS2 hl
theorem s_181L {l : Launch} {mi : jM} {α : Type} {emb : α → Option Value} {pc : Nat} {ls : List (Nat × Value)} {st : List Value} {H : jH} {k0 : jH → Option (α × jH)} (b d q i : Nat) {ci k N o : Nat} {x : Int64} {C : String} {T : u_T} {Y : Nat → FieldType} (hf : jfok ci k C T N Y 1) (hY : Y k = .long) (hfin : (T k).2.2.2 = false) (hl0 : Cond.fieldLink mi.2.2.2.1 i C (T k).2.1 (T k).2.2.1 ∈ jws) (hi : b * 256 + d = i) (hw : jx3 mi.1 mi.2.1 pc 181 b d q = true) (kk0 : ∀ H1, JV l mi emb q ls st H1 (k0 H1)) : JV l mi emb pc ls (.long x :: .ref o :: st) H (jg ((jK H o).1 = ci) (jl (jsL H o k x) k0)) := by
  obtain ⟨hw1, rfl⟩ := jx3_spec hw
  subst hi
  intro r H' ho
  obtain ⟨hg, ho⟩ := jg_some ho
  obtain ⟨hm, kk⟩ := kk0 _ r H' ho
  obtain ⟨f1, f2, f3⟩ := hf
  refine ⟨hm, fun c hc e1 n1 n2 Hr la locs hR hS hl => ?_⟩
  exact jput_core (H2 := jsL H o k x) hc.1 hc.2.2.2.2.2.2.2.1 hc.2.2.2.1 f1 hR hS hg f2 (hc.2.2.2.2.2.2.2.1 _ hl0) (Or.inl hfin) (hY ▸ rfl) (hY ▸ rfl) (f3 ▸ jput1_L) (jd_181 hc.2.1 hw1) fun Hr2 locs2 hR2 hS2 => kk c hc e1 n1 n2 Hr2 la locs2 hR2 hS2 hl
theorem s_181LF {l : Launch} {mi : jM} {α : Type} {emb : α → Option Value} {pc : Nat} {ls : List (Nat × Value)} {st : List Value} {H : jH} {k0 : jH → Option (α × jH)} (b d q i : Nat) {ci k N o : Nat} {x : Int64} {C : String} {T : u_T} {Y : Nat → FieldType} (hf : jfok ci k C T N Y 1) (hY : Y k = .long) (hfin : (T k).2.2.2 = true ∧ mi.2.2.2.2.2.1 = "<init>" ∧ C = mi.2.2.2.1) (hl0 : Cond.fieldLink mi.2.2.2.1 i C (T k).2.1 (T k).2.2.1 ∈ jws) (hi : b * 256 + d = i) (hw : jx3 mi.1 mi.2.1 pc 181 b d q = true) (kk0 : ∀ H1, JV l mi emb q ls st H1 (k0 H1)) : JV l mi emb pc ls (.long x :: .ref o :: st) H (jg ((jK H o).1 = ci) (jl (jsL H o k x) k0)) := by
  obtain ⟨hw1, rfl⟩ := jx3_spec hw
  subst hi
  intro r H' ho
  obtain ⟨hg, ho⟩ := jg_some ho
  obtain ⟨hm, kk⟩ := kk0 _ r H' ho
  obtain ⟨f1, f2, f3⟩ := hf
  refine ⟨hm, fun c hc e1 n1 n2 Hr la locs hR hS hl => ?_⟩
  exact jput_core (H2 := jsL H o k x) hc.1 hc.2.2.2.2.2.2.2.1 hc.2.2.2.1 f1 hR hS hg f2 (hc.2.2.2.2.2.2.2.1 _ hl0) (Or.inr ⟨hfin.1, hc.2.2.2.2.2.1.trans hfin.2.1, hfin.2.2⟩) (hY ▸ rfl) (hY ▸ rfl) (f3 ▸ jput1_L) (jd_181 hc.2.1 hw1) fun Hr2 locs2 hR2 hS2 => kk c hc e1 n1 n2 Hr2 la locs2 hR2 hS2 hl
theorem s_181LN {l : Launch} {mi : jM} {α : Type} {emb : α → Option Value} {pc : Nat} {ls : List (Nat × Value)} {st : List Value} {H : jH} {k0 : jH → Option (α × jH)} (b d q i : Nat) {ci k N o : Nat} {x : Int64} {C host : String} {T : u_T} {Y : Nat → FieldType} (hf : jfok ci k C T N Y 1) (hY : Y k = .long) (hfin : (T k).2.2.2 = false) (hl0 : (mi.2.2.2.1, i, C, (T k).2.1, (T k).2.2.1, host) ∈ jnF) (hi : b * 256 + d = i) (hw : jx3 mi.1 mi.2.1 pc 181 b d q = true) (kk0 : ∀ H1, JV l mi emb q ls st H1 (k0 H1)) : JV l mi emb pc ls (.long x :: .ref o :: st) H (jg ((jK H o).1 = ci) (jl (jsL H o k x) k0)) := by
  obtain ⟨hw1, rfl⟩ := jx3_spec hw
  subst hi
  intro r H' ho
  obtain ⟨hg, ho⟩ := jg_some ho
  obtain ⟨hm, kk⟩ := kk0 _ r H' ho
  obtain ⟨f1, f2, f3⟩ := hf
  refine ⟨hm, fun c hc e1 n1 n2 Hr la locs hR hS hl => ?_⟩
  exact jputN_core (H2 := jsL H o k x) hc.1 hc.2.2.2.2.2.2.2.1 hc.2.2.2.1 f1 hR hS hg f2 ((hc.2.2.2.2.2.2.2.2.2.1 _ hl0).use rfl) hfin (hY ▸ rfl) (hY ▸ rfl) (f3 ▸ jput1_L) (jd_181 hc.2.1 hw1) fun Hr2 locs2 hR2 hS2 => kk c hc e1 n1 n2 Hr2 la locs2 hR2 hS2 hl
theorem s_181R {l : Launch} {mi : jM} {α : Type} {emb : α → Option Value} {pc : Nat} {ls : List (Nat × Value)} {st : List Value} {H : jH} {k0 : jH → Option (α × jH)} (b d q i : Nat) {ci k N o : Nat} {x : Nat} {C : String} {T : u_T} {Y : Nat → FieldType} (hf : jfok ci k C T N Y 2) (hY : jisref (Y k) = true) (hfin : (T k).2.2.2 = false) (hl0 : Cond.fieldLink mi.2.2.2.1 i C (T k).2.1 (T k).2.2.1 ∈ jws) (hi : b * 256 + d = i) (hw : jx3 mi.1 mi.2.1 pc 181 b d q = true) (kk0 : ∀ H1, JV l mi emb q ls st H1 (k0 H1)) : JV l mi emb pc ls (.ref x :: .ref o :: st) H (jg ((jK H o).1 = ci) (jl (jsR H o k x) k0)) := by
  obtain ⟨hw1, rfl⟩ := jx3_spec hw
  subst hi
  intro r H' ho
  obtain ⟨hg, ho⟩ := jg_some ho
  obtain ⟨hm, kk⟩ := kk0 _ r H' ho
  obtain ⟨f1, f2, f3⟩ := hf
  refine ⟨hm, fun c hc e1 n1 n2 Hr la locs hR hS hl => ?_⟩
  exact jput_core (H2 := jsR H o k x) hc.1 hc.2.2.2.2.2.2.2.1 hc.2.2.2.1 f1 hR hS hg f2 (hc.2.2.2.2.2.2.2.1 _ hl0) (Or.inl hfin) ((jfits_ref hY).1) ((jfits_ref hY).2) (f3 ▸ jput1_R) (jd_181 hc.2.1 hw1) fun Hr2 locs2 hR2 hS2 => kk c hc e1 n1 n2 Hr2 la locs2 hR2 hS2 hl
theorem s_181RF {l : Launch} {mi : jM} {α : Type} {emb : α → Option Value} {pc : Nat} {ls : List (Nat × Value)} {st : List Value} {H : jH} {k0 : jH → Option (α × jH)} (b d q i : Nat) {ci k N o : Nat} {x : Nat} {C : String} {T : u_T} {Y : Nat → FieldType} (hf : jfok ci k C T N Y 2) (hY : jisref (Y k) = true) (hfin : (T k).2.2.2 = true ∧ mi.2.2.2.2.2.1 = "<init>" ∧ C = mi.2.2.2.1) (hl0 : Cond.fieldLink mi.2.2.2.1 i C (T k).2.1 (T k).2.2.1 ∈ jws) (hi : b * 256 + d = i) (hw : jx3 mi.1 mi.2.1 pc 181 b d q = true) (kk0 : ∀ H1, JV l mi emb q ls st H1 (k0 H1)) : JV l mi emb pc ls (.ref x :: .ref o :: st) H (jg ((jK H o).1 = ci) (jl (jsR H o k x) k0)) := by
  obtain ⟨hw1, rfl⟩ := jx3_spec hw
  subst hi
  intro r H' ho
  obtain ⟨hg, ho⟩ := jg_some ho
  obtain ⟨hm, kk⟩ := kk0 _ r H' ho
  obtain ⟨f1, f2, f3⟩ := hf
  refine ⟨hm, fun c hc e1 n1 n2 Hr la locs hR hS hl => ?_⟩
  exact jput_core (H2 := jsR H o k x) hc.1 hc.2.2.2.2.2.2.2.1 hc.2.2.2.1 f1 hR hS hg f2 (hc.2.2.2.2.2.2.2.1 _ hl0) (Or.inr ⟨hfin.1, hc.2.2.2.2.2.1.trans hfin.2.1, hfin.2.2⟩) ((jfits_ref hY).1) ((jfits_ref hY).2) (f3 ▸ jput1_R) (jd_181 hc.2.1 hw1) fun Hr2 locs2 hR2 hS2 => kk c hc e1 n1 n2 Hr2 la locs2 hR2 hS2 hl
theorem s_181RN {l : Launch} {mi : jM} {α : Type} {emb : α → Option Value} {pc : Nat} {ls : List (Nat × Value)} {st : List Value} {H : jH} {k0 : jH → Option (α × jH)} (b d q i : Nat) {ci k N o : Nat} {x : Nat} {C host : String} {T : u_T} {Y : Nat → FieldType} (hf : jfok ci k C T N Y 2) (hY : jisref (Y k) = true) (hfin : (T k).2.2.2 = false) (hl0 : (mi.2.2.2.1, i, C, (T k).2.1, (T k).2.2.1, host) ∈ jnF) (hi : b * 256 + d = i) (hw : jx3 mi.1 mi.2.1 pc 181 b d q = true) (kk0 : ∀ H1, JV l mi emb q ls st H1 (k0 H1)) : JV l mi emb pc ls (.ref x :: .ref o :: st) H (jg ((jK H o).1 = ci) (jl (jsR H o k x) k0)) := by
  obtain ⟨hw1, rfl⟩ := jx3_spec hw
  subst hi
  intro r H' ho
  obtain ⟨hg, ho⟩ := jg_some ho
  obtain ⟨hm, kk⟩ := kk0 _ r H' ho
  obtain ⟨f1, f2, f3⟩ := hf
  refine ⟨hm, fun c hc e1 n1 n2 Hr la locs hR hS hl => ?_⟩
  exact jputN_core (H2 := jsR H o k x) hc.1 hc.2.2.2.2.2.2.2.1 hc.2.2.2.1 f1 hR hS hg f2 ((hc.2.2.2.2.2.2.2.2.2.1 _ hl0).use rfl) hfin ((jfits_ref hY).1) ((jfits_ref hY).2) (f3 ▸ jput1_R) (jd_181 hc.2.1 hw1) fun Hr2 locs2 hR2 hS2 => kk c hc e1 n1 n2 Hr2 la locs2 hR2 hS2 hl
theorem s_46 {l : Launch} {mi : jM} {α : Type} {emb : α → Option Value} {pc : Nat} {ls : List (Nat × Value)} {st : List Value} {H : jH} {o1 : Option (α × jH)} (q : Nat) {a : Nat} {i : Int32} (hw : jx1 mi.1 mi.2.1 pc 46 q = true) (kk0 : JV l mi emb q ls (.int (jI H a i.toNatClampNeg) :: st) H o1) : JV l mi emb pc ls (.int i :: .ref a :: st) H (jg ((jK H a).1 = 100 ∧ jin i (jK H a).2) o1) := by
  obtain ⟨hw1, rfl⟩ := jx1_spec hw
  intro r H' ho
  obtain ⟨hg, ho⟩ := jg_some ho
  obtain ⟨hm, kk⟩ := kk0 r H' ho
  refine ⟨hm, fun c hc e1 n1 n2 Hr la locs hR hS hl => ?_⟩
  obtain ⟨h0, cell, h1, h2, h3, h4, h5⟩ := jread hR hg.1 (by decide) hg.2
  simp only [jstk, List.map_cons, jv_ref, jrv, if_neg h0]
  exact W.iald (v := .int (jI H a i.toNatClampNeg)) hc.1 rfl h1 h2 h3 h4 h5 rfl rfl (jd_46 hc.2.1 hw1) (kk c hc e1 n1 n2 Hr la locs hR hS hl)
theorem s_51B {l : Launch} {mi : jM} {α : Type} {emb : α → Option Value} {pc : Nat} {ls : List (Nat × Value)} {st : List Value} {H : jH} {o1 : Option (α × jH)} (q : Nat) {a : Nat} {i : Int32} (hw : jx1 mi.1 mi.2.1 pc 51 q = true) (kk0 : JV l mi emb q ls (.int (jbs (jB H a i.toNatClampNeg)) :: st) H o1) : JV l mi emb pc ls (.int i :: .ref a :: st) H (jg ((jK H a).1 = 101 ∧ jin i (jK H a).2) o1) := by
  obtain ⟨hw1, rfl⟩ := jx1_spec hw
  intro r H' ho
  obtain ⟨hg, ho⟩ := jg_some ho
  obtain ⟨hm, kk⟩ := kk0 r H' ho
  refine ⟨hm, fun c hc e1 n1 n2 Hr la locs hR hS hl => ?_⟩
  obtain ⟨h0, cell, h1, h2, h3, h4, h5⟩ := jread hR hg.1 (by decide) hg.2
  simp only [jstk, List.map_cons, jv_ref, jrv, if_neg h0]
  exact W.bald (v := .int (jbs (jB H a i.toNatClampNeg))) hc.1 rfl h1 h2 h3 h4 h5 rfl rfl (jd_51 hc.2.1 hw1) (kk c hc e1 n1 n2 Hr la locs hR hS hl)
theorem s_51Z {l : Launch} {mi : jM} {α : Type} {emb : α → Option Value} {pc : Nat} {ls : List (Nat × Value)} {st : List Value} {H : jH} {o1 : Option (α × jH)} (q : Nat) {a : Nat} {i : Int32} (hw : jx1 mi.1 mi.2.1 pc 51 q = true) (kk0 : JV l mi emb q ls (.int (jI H a i.toNatClampNeg) :: st) H o1) : JV l mi emb pc ls (.int i :: .ref a :: st) H (jg ((jK H a).1 = 102 ∧ jin i (jK H a).2) o1) := by
  obtain ⟨hw1, rfl⟩ := jx1_spec hw
  intro r H' ho
  obtain ⟨hg, ho⟩ := jg_some ho
  obtain ⟨hm, kk⟩ := kk0 r H' ho
  refine ⟨hm, fun c hc e1 n1 n2 Hr la locs hR hS hl => ?_⟩
  obtain ⟨h0, cell, h1, h2, h3, h4, h5⟩ := jread hR hg.1 (by decide) hg.2
  simp only [jstk, List.map_cons, jv_ref, jrv, if_neg h0]
  exact W.zald (v := .int (jI H a i.toNatClampNeg)) hc.1 rfl h1 h2 h3 h4 h5 rfl rfl (jd_51 hc.2.1 hw1) (kk c hc e1 n1 n2 Hr la locs hR hS hl)
theorem s_47 {l : Launch} {mi : jM} {α : Type} {emb : α → Option Value} {pc : Nat} {ls : List (Nat × Value)} {st : List Value} {H : jH} {o1 : Option (α × jH)} (q : Nat) {a : Nat} {i : Int32} (hw : jx1 mi.1 mi.2.1 pc 47 q = true) (kk0 : JV l mi emb q ls (.long (jL H a i.toNatClampNeg) :: st) H o1) : JV l mi emb pc ls (.int i :: .ref a :: st) H (jg ((jK H a).1 = 103 ∧ jin i (jK H a).2) o1) := by
  obtain ⟨hw1, rfl⟩ := jx1_spec hw
  intro r H' ho
  obtain ⟨hg, ho⟩ := jg_some ho
  obtain ⟨hm, kk⟩ := kk0 r H' ho
  refine ⟨hm, fun c hc e1 n1 n2 Hr la locs hR hS hl => ?_⟩
  obtain ⟨h0, cell, h1, h2, h3, h4, h5⟩ := jread hR hg.1 (by decide) hg.2
  simp only [jstk, List.map_cons, jv_ref, jrv, if_neg h0]
  exact W.lald (v := .long (jL H a i.toNatClampNeg)) hc.1 rfl h1 h2 h3 h4 h5 rfl rfl (jd_47 hc.2.1 hw1) (kk c hc e1 n1 n2 Hr la locs hR hS hl)
theorem s_50 {l : Launch} {mi : jM} {α : Type} {emb : α → Option Value} {pc : Nat} {ls : List (Nat × Value)} {st : List Value} {H : jH} {o1 : Option (α × jH)} (q t : Nat) {a : Nat} {i : Int32} (ht : t ∈ jtags ∧ (jty t).isReference = true ∧ jkd (jty t) = 2) (hw : jx1 mi.1 mi.2.1 pc 50 q = true) (kk0 : JV l mi emb q ls (.ref (jR H a i.toNatClampNeg) :: st) H o1) : JV l mi emb pc ls (.int i :: .ref a :: st) H (jg ((jK H a).1 = t ∧ jin i (jK H a).2) o1) := by
  obtain ⟨hw1, rfl⟩ := jx1_spec hw
  intro r H' ho
  obtain ⟨hg, ho⟩ := jg_some ho
  obtain ⟨hm, kk⟩ := kk0 r H' ho
  refine ⟨hm, fun c hc e1 n1 n2 Hr la locs hR hS hl => ?_⟩
  obtain ⟨h0, cell, h1, h2, h3, h4, h5⟩ := jread hR hg.1 ht.1 hg.2
  rw [ht.2.2] at h5
  simp only [jstk, List.map_cons, jv_ref]
  rw [show jrv c.2.2.1 a = .ref (jad c.2.2.1 a) from if_neg h0]
  exact W.aald hc.1 rfl h1 h2 ht.2.1 h3 h4 h5 rfl rfl (jd_50 hc.2.1 hw1) (kk c hc e1 n1 n2 Hr la locs hR hS hl)
theorem s_190 {l : Launch} {mi : jM} {α : Type} {emb : α → Option Value} {pc : Nat} {ls : List (Nat × Value)} {st : List Value} {H : jH} {o1 : Option (α × jH)} (q t : Nat) {a : Nat} (ht : t ∈ jtags) (hw : jx1 mi.1 mi.2.1 pc 190 q = true) (kk0 : JV l mi emb q ls (.int (Int32.ofNat (jK H a).2) :: st) H o1) : JV l mi emb pc ls (.ref a :: st) H (jg ((jK H a).1 = t) o1) := by
  obtain ⟨hw1, rfl⟩ := jx1_spec hw
  intro r H' ho
  obtain ⟨hg, ho⟩ := jg_some ho
  obtain ⟨hm, kk⟩ := kk0 r H' ho
  refine ⟨hm, fun c hc e1 n1 n2 Hr la locs hR hS hl => ?_⟩
  have hge := jtag_ge ht
  have h0 : a ≠ 0 := fun e => by rw [e, hR.2.2.2.1] at hg; omega
  simp only [jstk, List.map_cons, jv_ref]
  rw [show jrv c.2.2.1 a = .ref (jad c.2.2.1 a) from if_neg h0]
  by_cases hown : jF0 ≤ a
  · obtain ⟨-, h3⟩ := jrel_arr hR hg ht (Or.inl hown)
    exact W.alen hc.1 rfl h3 ((jrel_ty hR ht).1 _ _) (by rw [arrV_size]) rfl rfl (jd_190 hc.2.1 hw1) (kk c hc e1 n1 n2 Hr la locs hR hS hl)
  · obtain ⟨u1, cell, u2, u3, u4, u5, u6, u7, u8⟩ := (hR.2.2.1 a (by omega)).2.1 (Nat.not_le.mp hown)
    exact W.alen hc.1 rfl (by rw [show jad c.2.2.1 a = c.2.2.1.2.1 a from if_pos (Nat.not_le.mp hown)]; exact u2) u3 u6 rfl rfl (jd_190 hc.2.1 hw1) (kk c hc e1 n1 n2 Hr la locs hR hS hl)
theorem s_79 {l : Launch} {mi : jM} {α : Type} {emb : α → Option Value} {pc : Nat} {ls : List (Nat × Value)} {st : List Value} {H : jH} {k0 : jH → Option (α × jH)} (q : Nat) {a : Nat} {i : Int32} {x : Int32} (hw : jx1 mi.1 mi.2.1 pc 79 q = true) (kk0 : ∀ H1, JV l mi emb q ls st H1 (k0 H1)) : JV l mi emb pc ls (.int x :: .int i :: .ref a :: st) H (jg ((jK H a).1 = 100 ∧ jF0 ≤ a ∧ jin i (jK H a).2) (jl (jsI H a i.toNatClampNeg x) k0)) := by
  obtain ⟨hw1, rfl⟩ := jx1_spec hw
  intro r H' ho
  obtain ⟨hg, ho⟩ := jg_some ho
  obtain ⟨hm, kk⟩ := kk0 _ r H' ho
  refine ⟨hm, fun c hc e1 n1 n2 Hr la locs hR hS hl => ?_⟩
  obtain ⟨h1, h3⟩ := jrel_arr hR hg.1 (by decide) (Or.inl hg.2.1)
  simp only [jstk, List.map_cons, jv_ref]
  rw [jrv_own h1]
  exact W.iast hc.1 rfl h3 ((jrel_ty hR (t := 100) (by decide)).1 _ _) (fun h => by cases h) (by rw [arrV_size]; exact jin_vp hg.2.2) rfl rfl (jd_79 hc.2.1 hw1) fun Hr2 e4 e5 e6 => kk c hc e1 n1 n2 Hr2 la _ (jstore_rel (t := 100) hR hg.1 (by decide) (Or.inl hg.2.1) jput1_I e4 e5 e6) (hS.put e5 e6 (jad_A h1)) hl
theorem s_84B {l : Launch} {mi : jM} {α : Type} {emb : α → Option Value} {pc : Nat} {ls : List (Nat × Value)} {st : List Value} {H : jH} {k0 : jH → Option (α × jH)} (q : Nat) {a : Nat} {i : Int32} {x : Int32} (hw : jx1 mi.1 mi.2.1 pc 84 q = true) (kk0 : ∀ H1, JV l mi emb q ls st H1 (k0 H1)) : JV l mi emb pc ls (.int x :: .int i :: .ref a :: st) H (jg ((jK H a).1 = 101 ∧ jin i (jK H a).2) (jl (jsB H a i.toNatClampNeg (jbu x)) k0)) := by
  obtain ⟨hw1, rfl⟩ := jx1_spec hw
  intro r H' ho
  obtain ⟨hg, ho⟩ := jg_some ho
  obtain ⟨hm, kk⟩ := kk0 _ r H' ho
  refine ⟨hm, fun c hc e1 n1 n2 Hr la locs hR hS hl => ?_⟩
  obtain ⟨h1, h3⟩ := jrel_arr hR hg.1 (by decide) (Or.inr (by decide))
  simp only [jstk, List.map_cons, jv_ref]
  rw [jrv_own h1]
  exact W.bast hc.1 rfl h3 ((jrel_ty hR (t := 101) (by decide)).1 _ _) (fun h => by cases h) (by rw [arrV_size]; exact jin_vp hg.2) rfl rfl (jd_84 hc.2.1 hw1) fun Hr2 e4 e5 e6 => kk c hc e1 n1 n2 Hr2 la _ (jstore_rel (t := 101) hR hg.1 (by decide) (Or.inr (by decide)) jput1_B e4 e5 e6) (hS.put e5 e6 (jad_A h1)) hl
theorem s_84Z {l : Launch} {mi : jM} {α : Type} {emb : α → Option Value} {pc : Nat} {ls : List (Nat × Value)} {st : List Value} {H : jH} {k0 : jH → Option (α × jH)} (q : Nat) {a : Nat} {i : Int32} {x : Int32} (hw : jx1 mi.1 mi.2.1 pc 84 q = true) (kk0 : ∀ H1, JV l mi emb q ls st H1 (k0 H1)) : JV l mi emb pc ls (.int x :: .int i :: .ref a :: st) H (jg ((jK H a).1 = 102 ∧ jin i (jK H a).2) (jl (jsI H a i.toNatClampNeg (x &&& 1)) k0)) := by
  obtain ⟨hw1, rfl⟩ := jx1_spec hw
  intro r H' ho
  obtain ⟨hg, ho⟩ := jg_some ho
  obtain ⟨hm, kk⟩ := kk0 _ r H' ho
  refine ⟨hm, fun c hc e1 n1 n2 Hr la locs hR hS hl => ?_⟩
  obtain ⟨h1, h3⟩ := jrel_arr hR hg.1 (by decide) (Or.inr (by decide))
  simp only [jstk, List.map_cons, jv_ref]
  rw [jrv_own h1]
  exact W.zast hc.1 rfl h3 ((jrel_ty hR (t := 102) (by decide)).1 _ _) (fun h => by cases h) (by rw [arrV_size]; exact jin_vp hg.2) rfl rfl (jd_84 hc.2.1 hw1) fun Hr2 e4 e5 e6 => kk c hc e1 n1 n2 Hr2 la _ (jstore_rel (t := 102) hR hg.1 (by decide) (Or.inr (by decide)) jput1_I e4 e5 e6) (hS.put e5 e6 (jad_A h1)) hl
theorem s_80 {l : Launch} {mi : jM} {α : Type} {emb : α → Option Value} {pc : Nat} {ls : List (Nat × Value)} {st : List Value} {H : jH} {k0 : jH → Option (α × jH)} (q : Nat) {a : Nat} {i : Int32} {x : Int64} (hw : jx1 mi.1 mi.2.1 pc 80 q = true) (kk0 : ∀ H1, JV l mi emb q ls st H1 (k0 H1)) : JV l mi emb pc ls (.long x :: .int i :: .ref a :: st) H (jg ((jK H a).1 = 103 ∧ jin i (jK H a).2) (jl (jsL H a i.toNatClampNeg x) k0)) := by
  obtain ⟨hw1, rfl⟩ := jx1_spec hw
  intro r H' ho
  obtain ⟨hg, ho⟩ := jg_some ho
  obtain ⟨hm, kk⟩ := kk0 _ r H' ho
  refine ⟨hm, fun c hc e1 n1 n2 Hr la locs hR hS hl => ?_⟩
  obtain ⟨h1, h3⟩ := jrel_arr hR hg.1 (by decide) (Or.inr (by decide))
  simp only [jstk, List.map_cons, jv_ref]
  rw [jrv_own h1]
  exact W.last hc.1 rfl h3 ((jrel_ty hR (t := 103) (by decide)).1 _ _) (fun h => by cases h) (by rw [arrV_size]; exact jin_vp hg.2) rfl rfl (jd_80 hc.2.1 hw1) fun Hr2 e4 e5 e6 => kk c hc e1 n1 n2 Hr2 la _ (jstore_rel (t := 103) hR hg.1 (by decide) (Or.inr (by decide)) jput1_L e4 e5 e6) (hS.put e5 e6 (jad_A h1)) hl
theorem s_83 {l : Launch} {mi : jM} {α : Type} {emb : α → Option Value} {pc : Nat} {ls : List (Nat × Value)} {st : List Value} {H : jH} {k0 : jH → Option (α × jH)} (q t et : Nat) {a x N : Nat} {i : Int32} {C : String} {T : u_T} {Y : Nat → FieldType} (ht : t ∈ jtags ∧ t ≠ 100 ∧ jty t = .object C) (he : jcok et C T N Y) (hw : jx1 mi.1 mi.2.1 pc 83 q = true) (kk0 : ∀ H1, JV l mi emb q ls st H1 (k0 H1)) : JV l mi emb pc ls (.ref x :: .int i :: .ref a :: st) H (jg ((jK H a).1 = t ∧ jin i (jK H a).2 ∧ (x = 0 ∨ (jK H x).1 = et)) (jl (jsR H a i.toNatClampNeg x) k0)) := by
  obtain ⟨hw1, rfl⟩ := jx1_spec hw
  intro r H' ho
  obtain ⟨hg, ho⟩ := jg_some ho
  obtain ⟨hm, kk⟩ := kk0 _ r H' ho
  refine ⟨hm, fun c hc e1 n1 n2 Hr la locs hR hS hl => ?_⟩
  obtain ⟨h1, h3⟩ := jrel_arr hR hg.1 ht.1 (Or.inr ht.2.1)
  have hty := jrel_ty hR ht.1
  have hlt := jin_lt hg.2.1
  have h0 : ¬ i < 0 := fun q => jin_vp hg.2.1 (Or.inl q)
  have hkd : jkd (jty t) = 2 := by rw [ht.2.2]; rfl
  simp only [jstk, List.map_cons, jv_ref]
  rw [jrv_own h1]
  rcases hg.2.2 with rfl | hx
  · exact va_WaastN (C := C) hc.1 rfl h3 (by rw [← ht.2.2]; exact hty.1 _ _) (fun h => by cases h) (by rw [arrV_size]; exact jin_vp hg.2.1) rfl rfl (jd_83 hc.2.1 hw1) fun Hr2 e4 e5 e6 => kk c hc e1 n1 n2 Hr2 la _ (jstore_rel (t := t) hR hg.1 ht.1 (Or.inr ht.2.1) (hkd ▸ jput1_R (x := 0)) e4 e5 e6) (hS.put e5 e6 (jad_A h1)) hl
  · obtain ⟨g1, g2, cellV, q1, q2, q3, q4⟩ := jrel_obj hR hx he.1
    rw [jrv_own g1]
    have hcls := (hR.2.2.2.2.1.1 et _ he.1).2
    have hra := hty.2
    rw [ht.2.2] at hra
    obtain ⟨kA, comp, k1, k2, k3, -⟩ := hra
    have hcomp : comp = c.2.2.1.2.2.1.1 et := Option.some.inj (k3.symm.trans hcls.1)
    subst hcomp
    obtain ⟨kC, hkC, -⟩ := hcls.2
    exact W.aast hc.1 rfl h3 (fun q h => by cases h) (fun h => by cases h) k1 k2 rfl hkC ⟨h0, by show _ < (arrV _ _ _).slots.size; rw [arrV_size]; exact hlt⟩ q1 (fun q h => by rw [q3] at h; cases h) (by rw [q2]; exact hkC) (by rw [q2]; exact va_assign hcls) rfl rfl (jd_83 hc.2.1 hw1) fun Hr2 e4 e5 e6 => kk c hc e1 n1 n2 Hr2 la _ (jstore_rel (t := t) hR hg.1 ht.1 (Or.inr ht.2.1) (hkd ▸ jput1_R (x := x)) (by rw [jrv_own g1]; exact e4) e5 e6) (hS.put e5 e6 (jad_A h1)) hl
theorem s_178 {l : Launch} {mi : jM} {α : Type} {emb : α → Option Value} {pc : Nat} {ls : List (Nat × Value)} {st : List Value} {H : jH} {o1 : Option (α × jH)} (b d q i j : Nat) (C n : String) (hq : (j, C, n) ∈ jsts) (hj : j ≠ 0 ∧ j < jF0) (hl0 : Cond.fieldLink mi.2.2.2.1 i C n "[I" ∈ jws) (hi : b * 256 + d = i) (hw : jx3 mi.1 mi.2.1 pc 178 b d q = true) (kk0 : JV l mi emb q ls (.ref j :: st) H o1) : JV l mi emb pc ls st H o1 := by
  obtain ⟨hw1, rfl⟩ := jx3_spec hw
  subst hi
  intro r H' ho
  obtain ⟨hm, kk⟩ := kk0 r H' ho
  refine ⟨hm, fun c hc e1 n1 n2 Hr la locs hR hS hl => ?_⟩
  have h1 := kk c hc e1 n1 n2 Hr la locs hR hS hl
  simp only [jstk, List.map_cons, jv_ref] at h1
  rw [show jrv c.2.2.1 j = .ref (c.2.2.1.2.1 j) from (if_neg hj.1).trans (congrArg Value.ref (if_pos hj.2))] at h1
  exact va_gets hc.1 rfl (hc.2.2.2.2.2.2.2.2.1.2.2.2.2.2 _ hq) hS hc.2.2.2.1 (hc.2.2.2.2.2.2.2.1 _ hl0) (fun x h => h) (jd_178 hc.2.1 hw1) h1
theorem s_187 {l : Launch} {mi : jM} {α : Type} {emb : α → Option Value} {pc : Nat} {ls : List (Nat × Value)} {st : List Value} {H : jH} {k0 : Nat → jH → Option (α × jH)} (b d q i : Nat) {ci N : Nat} {C : String} {T : u_T} {Y : Nat → FieldType} (hok : jcok ci C T N Y) (hcl : Cond.classLink mi.2.2.2.1 i C ∈ jws) (hins : Cond.instantiable C N ∈ jws) (hini : Cond.initialized C ∈ jws) (hi : b * 256 + d = i) (hw : jx3 mi.1 mi.2.1 pc 187 b d q = true) (kk0 : ∀ r H1, JV l mi emb q ls (.ref r :: st) H1 (k0 r H1)) : JV l mi emb pc ls st H (jnw H ci N k0) := by
  obtain ⟨hw1, rfl⟩ := jx3_spec hw
  subst hi
  intro r H' ho
  obtain ⟨hm, kk⟩ := kk0 _ _ r H' ho
  have hjn : jn (jnew H ci N) = jn H + 1 := rfl
  have hjs : js (jnew H ci N) = js H + N := rfl
  rw [hjn, hjs] at hm
  refine ⟨⟨by omega, by omega⟩, fun c hc e1 n1 n2 Hr la locs hR hS hl => ?_⟩
  have hlt := jcl_lt hok.1
  obtain ⟨hSl, hfc, -⟩ := hR.2.2.2.2.1.1 ci _ hok.1
  have hsz := hR.1
  have hF := hR.2.1
  refine W.newcK hc.1 rfl hc.2.2.2.1 (hc.2.2.2.2.2.2.2.1 _ hcl) (hc.2.2.2.2.2.2.2.1 _ hins) (hc.2.2.2.2.2.2.2.1 _ hini) rfl (jd_187 hc.2.1 hw1) (by show _ ≤ jn H' - jn c.2.2.2; omega) (by show _ ≤ js H' - js c.2.2.2; omega) hfc (h := Hr.size) rfl fun Hr2 kC hkC a1 a2 a3 => ?_
  have hR2 : jRel c.2.2.1 (jnew H ci N) c.1.2.2.2 Hr2 := by
    refine jrel_new hR (by omega) a2 a3 (Or.inl ⟨(C, T, N), ?_, ?_, ?_⟩)
    · show jcl[(if jn H = jn H then (ci, N) else jK H (jn H)).1]? = _
      rw [if_pos rfl]; exact hok.1
    · show (if jn H = jn H then (ci, N) else jK H (jn H)).2 = _
      rw [if_pos rfl]
    · have hk1 : (jK (jnew H ci N) (jn H)).1 = ci := by
        show (if jn H = jn H then (ci, N) else jK H (jn H)).1 = _
        rw [if_pos rfl]
      rw [hk1, jad_own hF, show c.2.2.1.1 + (jn H - jF0) = Hr.size by omega]
      refine (u_born Y hc.2.2.2.2.2.2.2.1 hok.2.1 (hR.2.2.2.2.1.1 ci _ hok.1) hkC a1 hok.2.2.1).to fun k hk => ?_
      show defaultValue (Y k) = jcv _ (jnew H ci N) (jn H) k (jfd (T k).2.2.1)
      rw [jfd_ok hok hk]
      have hI : jI (jnew H ci N) (jn H) k = 0 := if_pos rfl
      have hL : jL (jnew H ci N) (jn H) k = 0 := if_pos rfl
      have hRr : jR (jnew H ci N) (jn H) k = 0 := if_pos rfl
      have hBr : jB (jnew H ci N) (jn H) k = 0 := if_pos rfl
      unfold jcv
      rw [hI, hL, hRr, hBr]
      have hY := hok.2.2.2.2.2 k hk
      cases hYk : Y k <;> first | rfl | (rw [hYk] at hY; cases hY)
  have hS2 : va_S (jA c.2.2.1) c.1.2.2.2.heap Hr2 locs := ⟨by rw [a2]; exact Nat.le_succ_of_le hS.1, fun q h1 h2 => by rw [a3 q (Nat.lt_of_lt_of_le h1 hS.1)]; exact hS.2.1 q h1 h2, hS.2.2⟩
  have h1 := kk c hc e1 (by rw [hjn]; omega) (by rw [hjs]; omega) Hr2 la locs hR2 hS2 hl
  simp only [jstk, List.map_cons, jv_ref] at h1
  rw [jrv_own hF, jad_own hF, show c.2.2.1.1 + (jn H - jF0) = Hr.size by omega, hjn, hjs] at h1
  refine W.cs (cells' := jn H + 1 - jn c.2.2.2) (slots' := js H + N - js c.2.2.2) (by omega) (by omega) ?_
  exact h1
