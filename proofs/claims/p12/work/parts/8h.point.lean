/-! The class's points: where their rows lie; what a point stands for. -/
/-- only rows in S are written, by ints or longs -/
def jfJ (S : Nat → Prop) (H H' : jH) : Prop := jK H' = jK H ∧ jn H' = jn H ∧ js H' = js H ∧ jR H' = jR H ∧ jB H' = jB H ∧ ∀ a, ¬ S a → ∀ j, jL H' a j = jL H a j ∧ jI H' a j = jI H a j
section JFJ
variable {S S' : Nat → Prop} {H H1 H2 : jH}
theorem jfJ_refl : jfJ S H H := ⟨rfl, rfl, rfl, rfl, rfl, fun _ _ _ => ⟨rfl, rfl⟩⟩
theorem jfJ_trans (h1 : jfJ S H H1) (h2 : jfJ S H1 H2) : jfJ S H H2 :=
  ⟨h2.1.trans h1.1, h2.2.1.trans h1.2.1, h2.2.2.1.trans h1.2.2.1, h2.2.2.2.1.trans h1.2.2.2.1, h2.2.2.2.2.1.trans h1.2.2.2.2.1, fun a hs j => ⟨(h2.2.2.2.2.2 a hs j).1.trans (h1.2.2.2.2.2 a hs j).1, (h2.2.2.2.2.2 a hs j).2.trans (h1.2.2.2.2.2 a hs j).2⟩⟩
theorem jfJ_mono (h : jfJ S H H1) (hs : ∀ a, S a → S' a) : jfJ S' H H1 := ⟨h.1, h.2.1, h.2.2.1, h.2.2.2.1, h.2.2.2.2.1, fun a hn j => h.2.2.2.2.2 a (fun q => hn (hs a q)) j⟩
theorem jfL_J (h : jfL S H H1) : jfJ S H H1 := ⟨h.1, h.2.1, h.2.2.1, h.2.2.2.2.1, h.2.2.2.2.2.1, fun a hn j => ⟨h.2.2.2.2.2.2 a hn j, by rw [h.2.2.2.1]⟩⟩
theorem jfJ_L {P : Nat → Prop} (h : jfJ S H H1) (h2 : jfL P H1 H2) (hp : ∀ a, P a → S a) : jfJ S H H2 := jfJ_trans h (jfL_J (jfL_mono h2 hp))
theorem jfJ_sI {a i : Nat} {v : Int32} (h : jfJ S H H1) (hs : S a) : jfJ S H (jsI H1 a i v) :=
  jfJ_trans h ⟨rfl, rfl, rfl, rfl, rfl, fun b hn j => ⟨rfl, jup_ne fun q => hn (q.1 ▸ hs)⟩⟩
theorem jsh_fJ {N : Nat} (hs : jsp N H) (h : jfJ S H H1) (h18 : ∀ a, a < 18 → ¬ S a) : jsp N H1 := by
  obtain ⟨e1, e2, e3, e4, e5, e6⟩ := h
  obtain ⟨s1, s2, s3, s4, s5⟩ := hs
  unfold jsp
  rw [e1, e2, e4]
  exact ⟨s1, s2, fun a ha j => (e6 a (h18 a ha) j).2.trans (s3 a ha j), s4, s5⟩
theorem zL_fJ {r : Nat} {v : ef} {B : Int} (h : zL H r v B) (hf : jfJ S H H1) (hr : ¬ S r) : zL H1 r v B := by
  obtain ⟨f, h1, h2, h3⟩ := h
  exact ⟨f, fun i hi => ((hf.2.2.2.2.2 r hr i).1).trans (h1 i hi), h2, h3⟩
end JFJ
/-- the points: 96 twice, 100 sum, from 104 on the odd ones -/
def zpt (p : Nat) : Prop := ∃ k, k < 18 ∧ p = 96 + 4 * k
def zptb : Bool := (List.range 18).all fun k => decide (jKs[96 + 4 * k]? = some (5, 4) ∧ jKs[97 + 4 * k]? = some (103, 10) ∧ jKs[98 + 4 * k]? = some (103, 10) ∧ jKs[99 + 4 * k]? = some (103, 10) ∧ (96 + 4 * k, 0, 97 + 4 * k) ∈ jRs ∧ (96 + 4 * k, 1, 98 + 4 * k) ∈ jRs ∧ (96 + 4 * k, 2, 99 + 4 * k) ∈ jRs)
theorem zptb_t : zptb = true := by decide +kernel
theorem sPt {H : jH} (hs : jsh H) {p : Nat} (hp : zpt p) : jK H p = (5, 4) ∧ (jR H p 0 = p + 1 ∧ jR H p 1 = p + 2 ∧ jR H p 2 = p + 3) ∧ jK H (p + 1) = (103, 10) ∧ jK H (p + 2) = (103, 10) ∧ jK H (p + 3) = (103, 10) := by
  obtain ⟨k, hk, rfl⟩ := hp
  have hz := zptb_t
  unfold zptb at hz
  rw [List.all_eq_true] at hz
  obtain ⟨e1, e2, e3, e4, m1, m2, m3⟩ := of_decide_eq_true (hz k (List.mem_range.mpr hk))
  refine ⟨sK hs e1 (by omega) (by omega), ⟨?_, ?_, ?_⟩, ?_, ?_, ?_⟩
  · rw [show 96 + 4 * k + 1 = 97 + 4 * k by omega]
    exact hs.2.2.2.1 _ m1 (Or.inl rfl)
  · rw [show 96 + 4 * k + 2 = 98 + 4 * k by omega]
    exact hs.2.2.2.1 _ m2 (Or.inl rfl)
  · rw [show 96 + 4 * k + 3 = 99 + 4 * k by omega]
    exact hs.2.2.2.1 _ m3 (Or.inl rfl)
  · rw [show 96 + 4 * k + 1 = 97 + 4 * k by omega]
    exact sK hs e2 (by omega) (by omega)
  · rw [show 96 + 4 * k + 2 = 98 + 4 * k by omega]
    exact sK hs e3 (by omega) (by omega)
  · rw [show 96 + 4 * k + 3 = 99 + 4 * k by omega]
    exact sK hs e4 (by omega) (by omega)
def zwkb : Bool := (List.range 16).all fun k => decide (jKs[76 + k]? = some (103, 10) ∧ (75, k, 76 + k) ∈ jRs)
theorem zwkb_t : zwkb = true := by decide +kernel
theorem sWk {H : jH} (hs : jsh H) {k : Nat} (hk : k < 16) : jK H (76 + k) = (103, 10) ∧ jR H 75 k = 76 + k := by
  have hz := zwkb_t
  unfold zwkb at hz
  rw [List.all_eq_true] at hz
  obtain ⟨e1, m1⟩ := of_decide_eq_true (hz k (List.mem_range.mpr hk))
  exact ⟨sK hs e1 (by omega) (by omega), hs.2.2.2.1 _ m1 (Or.inl rfl)⟩
theorem sK75 {H : jH} (hs : jsh H) : jK H 75 = (112, 16) := sK hs (a := 75) rfl (by decide) (by decide)
/-- the bound of a coordinate -/
def zBd : Int := 411041792
/-- what three numbers stand for -/
def zj3 (X Y Z : ef) (q : ef × ef) : Prop := Z ≠ 0 ∧ X = q.1 * (Z * Z) ∧ Y = q.2 * (Z * Z * Z)
/-- the point object p stands for this point -/
def zP5 (H : jH) (p : Nat) : Option (ef × ef) → Prop
  | none => jI H p 3 = 1
  | some q => jI H p 3 = 0 ∧ eg_c e7 q ∧ ∃ X Y Z, zL H (p + 1) X 134217728 ∧ zL H (p + 2) Y zBd ∧ zL H (p + 3) Z zBd ∧ zj3 X Y Z q
theorem zP5_fJ {S : Nat → Prop} {H H' : jH} {p : Nat} (hf : jfJ S H H') (h0 : ¬ S p) (h1 : ¬ S (p + 1)) (h2 : ¬ S (p + 2)) (h3 : ¬ S (p + 3)) : ∀ {o : Option (ef × ef)}, zP5 H p o → zP5 H' p o
  | none, h => (hf.2.2.2.2.2 p h0 3).2.trans h
  | some _, h => by
    obtain ⟨a, b, X, Y, Z, c, d, e, f⟩ := h
    exact ⟨(hf.2.2.2.2.2 p h0 3).2.trans a, b, X, Y, Z, zL_fJ c hf h1, zL_fJ d hf h2, zL_fJ e hf h3, f⟩
section OPS
variable {Q : Unit → jH → Prop} {t0 t1 t2 a0 a1 a2 : Nat} {H : jH} {u v : ef} {A B : Int}
theorem z5_mulE (e0 : t0 = a0) (e1 : t1 = a1) (e2 : t2 = a2) (k0 : jK H a0 = (103, 10)) (k1 : jK H a1 = (103, 10)) (k2 : jK H a2 = (103, 10)) (ha : zL H a1 u A) (hb : zL H a2 v B) (hAB : A * B ≤ 576460752303423488)
    (hk : ∀ H', jfL (· = a0) H H' → zL H' a0 (u * v) zRb → Q () H') : jT (F_5_multiply t0 t1 t2 H) Q := by
  subst e0
  subst e1
  subst e2
  exact z5_mul k0 k1 k2 ha hb hAB hk
theorem z5_mixE {m n : Int} {m' n' : Int64} {C : Int} (e0 : t0 = a0) (e1 : t1 = a1) (e2 : t2 = a2) (k0 : jK H a0 = (103, 10)) (k1 : jK H a1 = (103, 10)) (k2 : jK H a2 = (103, 10)) (ha : zL H a1 u A) (hb : zL H a2 v B)
    (hm : m' = Int64.ofInt m) (hn : n' = Int64.ofInt n) (hC : ∀ x y, -A ≤ x → x ≤ A → -B ≤ y → y ≤ B → -C ≤ m * x + n * y ∧ m * x + n * y ≤ C)
    (hk : ∀ H', jfL (· = a0) H H' → zL H' a0 (ef_i m * u + ef_i n * v) C → Q () H') : jT (F_5_mix t0 t1 m' t2 n' H) Q := by
  subst e0
  subst e1
  subst e2
  exact z5_mix k0 k1 k2 ha hb hC hm hn hk
end OPS
