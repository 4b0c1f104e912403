/-! The reference's loops over outputs and inputs. -/
def ztxi (b : Nat → UInt8) (e : Nat) : Nat → Nat → Option (List (Nat × Nat) × Nat)
  | 0, p => some ([], p)
  | k + 1, p => if p + 37 ≤ e ∧ (b (p + 36)).toNat ≤ 200 ∧ p + 41 + (b (p + 36)).toNat ≤ e then (ztxi b e k (p + 41 + (b (p + 36)).toNat)).map (fun q => ((p, (b (p + 36)).toNat) :: q.1, q.2)) else none
def ztxo (b : Nat → UInt8) (e : Nat) : Nat → Nat → Option (List (Nat × Nat) × Nat)
  | 0, p => some ([], p)
  | k + 1, p => if p + 9 ≤ e ∧ (b (p + 8)).toNat ≤ 200 ∧ p + 9 + (b (p + 8)).toNat ≤ e then (ztxo b e k (p + 9 + (b (p + 8)).toNat)).map (fun q => ((p, (b (p + 8)).toNat) :: q.1, q.2)) else none
def zSo (t : Nat) : Nat → Nat → Prop := fun a j => (a = t ∧ (j = 3 ∨ j = 6)) ∨ a = t + 6 ∨ a = t + 7 ∨ a = t + 8
def zSi (t : Nat) : Nat → Nat → Prop := fun a j => (a = t ∧ (j = 3 ∨ j = 6)) ∨ a = t + 1 ∨ a = t + 2 ∨ a = t + 3 ∨ a = t + 4 ∨ a = t + 5
def zRo (t : Nat) (b : Nat → UInt8) (H : jH) (l : List (Nat × Nat)) : Prop := ∀ (k : Nat) (q : Nat × Nat), l[k]? = some q → jL H (t + 6) k = zle b (q.1 + 8) 8 ∧ jI H (t + 7) k = Int32.ofNat (q.1 + 9) ∧ jI H (t + 8) k = Int32.ofNat q.2
def zRi (t : Nat) (b : Nat → UInt8) (H : jH) (l : List (Nat × Nat)) : Prop := ∀ (k : Nat) (q : Nat × Nat), l[k]? = some q → jI H (t + 1) k = Int32.ofNat q.1 ∧ jL H (t + 2) k = zle b (q.1 + 36) 4 ∧ jI H (t + 3) k = Int32.ofNat (q.1 + 37) ∧ jI H (t + 4) k = Int32.ofNat q.2 ∧ jI H (t + 5) k = Int32.ofNat (q.1 + 37 + q.2)
theorem zRd_I {t row len e p a i : Nat} {g v : Int32} {H : jH} (ht : zT t) (h : zRd t row len e p g H) (ha : t < a) : zRd t row len e p g (jsI H a i v) := by
  obtain ⟨hs, h0, hkr, h2, h3, h6, hr⟩ := h
  have htl := zT_le ht
  exact ⟨jsh_sI hs (by omega), h0, hkr, (jI_sIa (by omega)).trans h2, (jI_sIa (by omega)).trans h3, (jI_sIa (by omega)).trans h6, hr⟩
theorem zRd_L {t row len e p a i : Nat} {g : Int32} {v : Int64} {H : jH} (h : zRd t row len e p g H) : zRd t row len e p g (jsL H a i v) := h
theorem jL_sLe {H : jH} {a i : Nat} {v : Int64} : jL (jsL H a i v) a i = v := if_pos ⟨rfl, rfl⟩
theorem jL_sLn {H : jH} {a i b j : Nat} {v : Int64} (h : j ≠ i) : jL (jsL H a i v) b j = jL H b j := if_neg fun q => h q.2
theorem t_k {H : jH} {t : Nat} (hs : jsh H) (ht : zT t) : (jK H t).1 = 17 := (s17 hs ht).1
theorem t_r7 {H : jH} {t : Nat} (hs : jsh H) (ht : zT t) : jR H t 7 = t + 1 := (s17 hs ht).2.1
theorem t_r8 {H : jH} {t : Nat} (hs : jsh H) (ht : zT t) : jR H t 8 = t + 2 := (s17 hs ht).2.2.1
theorem t_r9 {H : jH} {t : Nat} (hs : jsh H) (ht : zT t) : jR H t 9 = t + 3 := (s17 hs ht).2.2.2.1
theorem t_r10 {H : jH} {t : Nat} (hs : jsh H) (ht : zT t) : jR H t 10 = t + 4 := (s17 hs ht).2.2.2.2.1
theorem t_r11 {H : jH} {t : Nat} (hs : jsh H) (ht : zT t) : jR H t 11 = t + 5 := (s17 hs ht).2.2.2.2.2.1
theorem t_r12 {H : jH} {t : Nat} (hs : jsh H) (ht : zT t) : jR H t 12 = t + 6 := (s17 hs ht).2.2.2.2.2.2.1
theorem t_r13 {H : jH} {t : Nat} (hs : jsh H) (ht : zT t) : jR H t 13 = t + 7 := (s17 hs ht).2.2.2.2.2.2.2.1
theorem t_r14 {H : jH} {t : Nat} (hs : jsh H) (ht : zT t) : jR H t 14 = t + 8 := (s17 hs ht).2.2.2.2.2.2.2.2.1
theorem t_k1 {H : jH} {t : Nat} (hs : jsh H) (ht : zT t) : jK H (t + 1) = (100, 8) := (s17 hs ht).2.2.2.2.2.2.2.2.2.1
theorem t_k2 {H : jH} {t : Nat} (hs : jsh H) (ht : zT t) : jK H (t + 2) = (103, 8) := (s17 hs ht).2.2.2.2.2.2.2.2.2.2.1
theorem t_k3 {H : jH} {t : Nat} (hs : jsh H) (ht : zT t) : jK H (t + 3) = (100, 8) := (s17 hs ht).2.2.2.2.2.2.2.2.2.2.2.1
theorem t_k4 {H : jH} {t : Nat} (hs : jsh H) (ht : zT t) : jK H (t + 4) = (100, 8) := (s17 hs ht).2.2.2.2.2.2.2.2.2.2.2.2.1
theorem t_k5 {H : jH} {t : Nat} (hs : jsh H) (ht : zT t) : jK H (t + 5) = (100, 8) := (s17 hs ht).2.2.2.2.2.2.2.2.2.2.2.2.2.1
theorem t_k6 {H : jH} {t : Nat} (hs : jsh H) (ht : zT t) : jK H (t + 6) = (103, 8) := (s17 hs ht).2.2.2.2.2.2.2.2.2.2.2.2.2.2.1
theorem t_k7 {H : jH} {t : Nat} (hs : jsh H) (ht : zT t) : jK H (t + 7) = (100, 8) := (s17 hs ht).2.2.2.2.2.2.2.2.2.2.2.2.2.2.2.1
theorem t_k8 {H : jH} {t : Nat} (hs : jsh H) (ht : zT t) : jK H (t + 8) = (100, 8) := (s17 hs ht).2.2.2.2.2.2.2.2.2.2.2.2.2.2.2.2
section RTX2
variable {t row len e : Nat}
/-- an output's lock: its size is at hand -/
theorem z17_lock {Q : Int32 → jH → Prop} {k : Nat → Int32 → jH → Option (Int32 × jH)} {p i s : Nat} {g sz ii : Int32} {G H : jH} (ht : zT t) (hi : i < 8) (hii : ii = Int32.ofNat i) (hsz : sz = Int32.ofNat s) (hs2 : s ≤ 200) (h : zRd t row len e p g H) (hg : g = 0 ∨ g = 1) (hG : jR G t 14 = t + 8)
    (hok : g = 1 → p + s ≤ e → ∀ H', zRd t row len e (p + s) 1 H' → jfr (zSo t) H H' → jI H' (t + 7) i = Int32.ofNat p → jI H' (t + 8) i = Int32.ofNat s → (∀ j, j ≠ i → jI H' (t + 7) j = jI H (t + 7) j ∧ jI H' (t + 8) j = jI H (t + 8) j) → (∀ a j, a ≠ t → jL H' a j = jL H a j) → jT (k t (Int32.ofNat (i + 1)) H') Q)
    (hno : g = 0 ∨ e < p + s → ∀ H', zRd t row len e p 0 H' → jfr (zSo t) H H' → jT (k t (Int32.ofNat (i + 1)) H') Q) : jT (
jg ((jK H (jR G t 14)).1 = 100 ∧ jF0 ≤ (jR G t 14) ∧ jin (ii) (jK H (jR G t 14)).2) (
jl (jsI H (jR G t 14) (ii : Int32).toNatClampNeg sz) fun h8 =>
jg ((jK h8 t).1 = 17) (
jg ((jK h8 t).1 = 17) (
jg ((jK h8 (jR h8 t 13)).1 = 100 ∧ jF0 ≤ (jR h8 t 13) ∧ jin (ii) (jK h8 (jR h8 t 13)).2) (
jl (jsI h8 (jR h8 t 13) (ii : Int32).toNatClampNeg (jI h8 t 3)) fun h9 =>
jg ((jK h9 t).1 = 17) (
jg ((jK h9 (jR h9 t 14)).1 = 100 ∧ jin (ii) (jK h9 (jR h9 t 14)).2) (
jg ((jK h9 t).1 = 17) (
jb (F_17_pass t (jI h9 (jR h9 t 14) (ii : Int32).toNatClampNeg) h9) fun x10 h11 =>
jl (ii + 1) fun x12 =>
k t x12 h11)))))))) Q := by
  subst hii hsz
  have htl := zT_le ht
  have e_i : Int32.ofNat i + 1 = Int32.ofNat (i + 1) := jo_add (a := i) (b := 1)
  obtain ⟨k0, r7, r8, r9, r10, r11, r12, r13, r14, k1, k2, k3, k4, k5, k6, k7, k8⟩ := s17 h.1 ht
  have g8 : jin (Int32.ofNat i) 8 := jo_in (by omega) (by omega)
  rw [hG, k8, jo_nat (n := i) (by omega), e_i]
  refine jT_g ⟨rfl, by unfold jF0; omega, g8⟩ (jT_l ?_)
  have h1 : zRd t row len e p g (jsI H (t + 8) i (Int32.ofNat s)) := zRd_I ht h (by omega)
  have f1 : jfr (zSo t) H (jsI H (t + 8) i (Int32.ofNat s)) := jfr_sI jfr_refl (Or.inr (Or.inr (Or.inr rfl)))
  have v1 : jI (jsI H (t + 8) i (Int32.ofNat s)) (t + 8) i = Int32.ofNat s := jI_sIe
  have o1 : ∀ a j, ¬ (a = t + 8 ∧ j = i) → jI (jsI H (t + 8) i (Int32.ofNat s)) a j = jI H a j := fun a j h => jup_ne h
  have l1 : jL (jsI H (t + 8) i (Int32.ofNat s)) = jL H := rfl
  generalize jsI H (t + 8) i (Int32.ofNat s) = H1 at *
  obtain ⟨c0, -, -, -, -, -, -, c13, c14, d1, d2, d3, d4, d5, d6, d7, d8⟩ := s17 h1.1 ht
  rw [c13, d7, h1.2.2.2.2.1]
  refine jT_g c0 (jT_g c0 (jT_g ⟨rfl, by unfold jF0; omega, g8⟩ (jT_l ?_)))
  have h2 : zRd t row len e p g (jsI H1 (t + 7) i (Int32.ofNat p)) := zRd_I ht h1 (by omega)
  have f2 : jfr (zSo t) H (jsI H1 (t + 7) i (Int32.ofNat p)) := jfr_sI f1 (Or.inr (Or.inr (Or.inl rfl)))
  have v2 : jI (jsI H1 (t + 7) i (Int32.ofNat p)) (t + 7) i = Int32.ofNat p := jI_sIe
  have o2 : ∀ a j, ¬ (a = t + 7 ∧ j = i) → jI (jsI H1 (t + 7) i (Int32.ofNat p)) a j = jI H1 a j := fun a j h => jup_ne h
  have l2 : jL (jsI H1 (t + 7) i (Int32.ofNat p)) = jL H1 := rfl
  generalize jsI H1 (t + 7) i (Int32.ofNat p) = H2 at *
  obtain ⟨c0, -, -, -, -, -, -, c13, c14, d1, d2, d3, d4, d5, d6, d7, d8⟩ := s17 h2.1 ht
  rw [c14, d8, o2 (t + 8) i (by omega), v1]
  refine jT_g c0 (jT_g ⟨rfl, g8⟩ (jT_g c0 ?_))
  by_cases hgo : g = 1 ∧ p + s ≤ e
  · obtain ⟨rfl, hps⟩ := hgo
    refine z17_pass_ok ht h2 hps fun H3 h3 f3 => jT_l ?_
    have n7 : ∀ j, ¬ zSp t (t + 7) j := fun j q => by have := q.1; omega
    have n8 : ∀ j, ¬ zSp t (t + 8) j := fun j q => by have := q.1; omega
    refine hok rfl hps H3 h3 (jfr_trans f2 (jfr_mono f3 fun a j q => Or.inl q)) ((jfr_I f3 (n7 i)).trans v2) ((jfr_I f3 (n8 i)).trans ((o2 (t + 8) i (by omega)).trans v1)) (fun j hj => ⟨?_, ?_⟩) (fun a j ha => ?_)
    · rw [jfr_I f3 (n7 j), o2 (t + 7) j (by omega), o1 (t + 7) j (by omega)]
    · rw [jfr_I f3 (n8 j), o2 (t + 8) j (by omega), o1 (t + 8) j (by omega)]
    · rw [jfr_L f3 (fun q => ha q.1), l2, l1]
  · have hn : g = 0 ∨ (g = 1 ∧ e < p + s) := by
      rcases hg with hg | hg
      · exact Or.inl hg
      · exact Or.inr ⟨hg, by
          by_cases q : p + s ≤ e
          · exact absurd ⟨hg, q⟩ hgo
          · omega⟩
    refine z17_pass_no ht h2 (by omega) hn fun H3 h3 f3 => jT_l ?_
    exact hno (hn.elim Or.inl fun q => Or.inr q.2) H3 h3 (jfr_trans f2 (jfr_mono f3 fun a j q => Or.inl q))
end RTX2

section RTX3
variable {t row len e : Nat} {H0 : jH}
theorem zSp_o {t a j : Nat} (h : zSp t a j) : zSo t a j := Or.inl h
theorem zSo_B {t row len e p : Nat} {g : Int32} {H0 H1 : jH} (h0 : zRd t row len e p g H0) (hf : jfr (zSo t) H0 H1) : jB H1 row = jB H0 row := by
  have hr := h0.2.2.2.2.2.2.2.2.2
  funext j
  refine jfr_B hf fun q => ?_
  have q2 : (row = t ∧ (j = 3 ∨ j = 6)) ∨ row = t + 6 ∨ row = t + 7 ∨ row = t + 8 := q
  omega
set_option maxHeartbeats 100000 in
/-- one output that is whole -/
theorem z17_out_ok {Q : Int32 → jH → Prop} {k : Nat → Int32 → jH → Option (Int32 × jH)} {p i m s : Nat} {b : Nat → UInt8} {H : jH} (ht : zT t) (hi : i < m) (hm : m ≤ 8) (h5 : jI H t 5 = Int32.ofNat m) (hb : jB H row = b) (h : zRd t row len e p 1 H) (hs : (b (p + 8)).toNat = s) (hs2 : s ≤ 200) (hp : p + 9 + s ≤ e)
    (hk : ∀ H', zRd t row len e (p + 9 + s) 1 H' → jfr (zSo t) H H' → jL H' (t + 6) i = zle b (p + 8) 8 → jI H' (t + 7) i = Int32.ofNat (p + 9) → jI H' (t + 8) i = Int32.ofNat s → (∀ j, j ≠ i → jL H' (t + 6) j = jL H (t + 6) j ∧ jI H' (t + 7) j = jI H (t + 7) j ∧ jI H' (t + 8) j = jI H (t + 8) j) → jT (k t (Int32.ofNat (i + 1)) H') Q) :
    jT (B_17_read_152 k t (Int32.ofNat i) H) Q := by
  have htl := zT_le ht
  have k0 := t_k h.1 ht
  unfold B_17_read_152
  rw [h5, t_r12 h.1 ht]
  refine jT_g k0 (jT_neg (by rw [jo_le (by omega) (by omega)]; omega) (jT_g k0 (jT_g k0 ?_)))
  refine z17_low_ok (n := 8) ht h (by omega) (by decide) fun H1 h1 f1 => ?_
  have nsp : ∀ a, t < a → ∀ j, ¬ zSp t a j := fun a ha j q => by have := q.1; omega
  have hrow := h.2.2.2.2.2.2.2.2.2
  have hb1 : jB H1 row = b := by
    rw [← hb]
    exact funext fun j => jfr_B f1 (fun q => by have := q.1; omega)
  rw [t_k6 h1.1 ht, hb, jo_nat (n := i) (by omega)]
  refine jT_g ⟨rfl, jo_in (by omega) (by show i < 8; omega)⟩ (jT_l ?_)
  refine jT_g (t_k h1.1 ht) (jT_g (t_k h1.1 ht) ?_)
  refine z17_size_ok (mo := 200) (Or.inr rfl) ht (zRd_L h1) (by omega) (by show (jB H1 row (p + 8)).toNat ≤ 200; rw [hb1, hs]; exact hs2) fun H3 h3 f3 => ?_
  have e3 : (jB (jsL H1 (t + 6) i (zle b (p + 8) 8)) row (p + 8)).toNat = s := by
    show (jB H1 row (p + 8)).toNat = s
    rw [hb1, hs]
  rw [e3]
  have f13 : jfr (zSo t) H H3 := jfr_trans (jfr_sL (jfr_mono f1 fun a j q => zSp_o q) (Or.inr (Or.inl rfl))) (jfr_mono f3 fun a j q => zSp_o q)
  have v6 : jL H3 (t + 6) i = zle b (p + 8) 8 := (jfr_L f3 (nsp _ (by omega) i)).trans jL_sLe
  have o6 : ∀ j, j ≠ i → jL H3 (t + 6) j = jL H (t + 6) j := fun j hj => (jfr_L f3 (nsp _ (by omega) j)).trans ((jL_sLn hj).trans (jfr_L f1 (nsp _ (by omega) j)))
  have o7 : ∀ j, jI H3 (t + 7) j = jI H (t + 7) j := fun j => (jfr_I f3 (nsp _ (by omega) j)).trans (jfr_I f1 (nsp _ (by omega) j))
  have o8 : ∀ j, jI H3 (t + 8) j = jI H (t + 8) j := fun j => (jfr_I f3 (nsp _ (by omega) j)).trans (jfr_I f1 (nsp _ (by omega) j))
  have c14 : jR (jsL H1 (t + 6) i (zle b (p + 8) 8)) t 14 = t + 8 := t_r14 h1.1 ht
  have h3' : zRd t row len e (p + 9) 1 H3 := h3
  clear h3
  have hi8 : i < 8 := by omega
  clear f1 f3 e3 hb1 hrow nsp h5 k0 h
  have hg1 : (1 : Int32) = 0 ∨ (1 : Int32) = 1 := Or.inr rfl
  have hne : t + 6 ≠ t := by omega
  have L := z17_lock (Q := Q) (k := k) (G := jsL H1 (t + 6) i (zle b (p + 8) 8)) (H := H3) (ii := Int32.ofNat i) (sz := Int32.ofNat s) (s := s) (p := p + 9) (i := i) (g := 1) ht hi8 rfl rfl hs2 h3' hg1 c14
    (fun _ _ H4 h4 f4 x7 x8 ox lx => hk H4 h4 (jfr_trans f13 f4) ((lx (t + 6) i hne).trans v6) x7 x8 fun j hj => ⟨(lx (t + 6) j hne).trans (o6 j hj), (ox j hj).1.trans (o7 j), (ox j hj).2.trans (o8 j)⟩)
    (fun hn => absurd hn (fun q => q.elim (fun q => absurd q (by decide)) (fun q => absurd hp (Nat.not_le.mpr q))))
  rw [jo_nat (n := i) (by omega)] at L
  exact L
set_option maxHeartbeats 100000 in
/-- one that is not -/
theorem z17_out_no {Q : Int32 → jH → Prop} {k : Nat → Int32 → jH → Option (Int32 × jH)} {p i m : Nat} {g : Int32} {H : jH} (ht : zT t) (hi : i < m) (hm : m ≤ 8) (h5 : jI H t 5 = Int32.ofNat m) (h : zRd t row len e p g H) (hg : g = 0 ∨ (g = 1 ∧ ¬ (p + 9 ≤ e ∧ (jB H row (p + 8)).toNat ≤ 200 ∧ p + 9 + (jB H row (p + 8)).toNat ≤ e)))
    (hk : ∀ H' p', zRd t row len e p' 0 H' → jfr (zSo t) H H' → jT (k t (Int32.ofNat (i + 1)) H') Q) :
    jT (B_17_read_152 k t (Int32.ofNat i) H) Q := by
  have htl := zT_le ht
  have k0 := t_k h.1 ht
  have hi8 : i < 8 := by omega
  unfold B_17_read_152
  rw [h5, t_r12 h.1 ht]
  refine jT_g k0 (jT_neg (by rw [jo_le (by omega) (by omega)]; omega) (jT_g k0 (jT_g k0 ?_)))
  by_cases hl : g = 0 ∨ (g = 1 ∧ e < p + 8)
  · refine z17_low_no (n := 8) ht h (by decide) hl fun H1 h1 f1 => ?_
    rw [t_k6 h1.1 ht]
    refine jT_g ⟨rfl, jo_in (by omega) (by show i < 8; omega)⟩ (jT_l (jT_g (t_k h1.1 ht) (jT_g (t_k h1.1 ht) ?_)))
    have c14 := t_r14 h1.1 ht
    refine z17_size_no (mo := 200) (Or.inr rfl) ht (zRd_L h1) (Or.inl rfl) fun H2 p2 h2 f2 => ?_
    have f12 : jfr (zSo t) H H2 := jfr_trans (jfr_sL (jfr_mono f1 fun a j q => zSp_o q) (Or.inr (Or.inl rfl))) (jfr_mono f2 fun a j q => zSp_o q)
    refine z17_lock (s := 0) ht hi8 rfl rfl (by decide) h2 (Or.inl rfl) c14 (fun hg => absurd hg (by decide)) fun _ H3 h3 f3 => ?_
    exact hk H3 _ h3 (jfr_trans f12 f3)
  · have hg1 : g = 1 := by
      rcases hg with hg | hg
      · exact absurd (Or.inl hg) hl
      · exact hg.1
    subst hg1
    have h8 : p + 8 ≤ e := by
      by_cases q : e < p + 8
      · exact absurd (Or.inr ⟨rfl, q⟩) hl
      · omega
    have hc : ¬ (p + 9 ≤ e ∧ (jB H row (p + 8)).toNat ≤ 200 ∧ p + 9 + (jB H row (p + 8)).toNat ≤ e) := by
      rcases hg with hg | hg
      · exact absurd hg (by decide)
      · exact hg.2
    clear hg hl
    refine z17_low_ok (n := 8) ht h h8 (by decide) fun H1 h1 f1 => ?_
    have hrow := h.2.2.2.2.2.2.2.2.2
    have hb1 : jB H1 row = jB H row := funext fun j => jfr_B f1 (fun q => by have := q.1; omega)
    rw [t_k6 h1.1 ht, jo_nat (n := i) (by omega)]
    refine jT_g ⟨rfl, jo_in (by omega) (by show i < 8; omega)⟩ (jT_l (jT_g (t_k h1.1 ht) (jT_g (t_k h1.1 ht) ?_)))
    have c14 : jR (jsL H1 (t + 6) i (zle (jB H row) (p + 8) 8)) t 14 = t + 8 := t_r14 h1.1 ht
    have f1' : jfr (zSo t) H (jsL H1 (t + 6) i (zle (jB H row) (p + 8) 8)) := jfr_sL (jfr_mono f1 fun a j q => zSp_o q) (Or.inr (Or.inl rfl))
    have h1' : zRd t row len e (p + 8) 1 (jsL H1 (t + 6) i (zle (jB H row) (p + 8) 8)) := zRd_L h1
    have hb2 : jB (jsL H1 (t + 6) i (zle (jB H row) (p + 8) 8)) row = jB H row := hb1
    clear h1 f1 hb1
    generalize jsL H1 (t + 6) i (zle (jB H row) (p + 8) 8) = H2 at *
    generalize hu : (jB H row (p + 8)).toNat = u at *
    by_cases hsz : p + 8 + 1 ≤ e ∧ u ≤ 200
    · refine z17_size_ok (mo := 200) (Or.inr rfl) ht h1' hsz.1 (by rw [hb2, hu]; exact hsz.2) fun H3 h3 f3 => ?_
      rw [hb2, hu]
      have f13 : jfr (zSo t) H H3 := jfr_trans f1' (jfr_mono f3 fun a j q => zSp_o q)
      have h3' : zRd t row len e (p + 9) 1 H3 := h3
      have hno : e < p + 9 + u := by
        by_cases q : p + 9 + u ≤ e
        · exact absurd ⟨by omega, hsz.2, q⟩ hc
        · omega
      have hu2 := hsz.2
      clear h3 f3 f1' h1' hb2 hsz hc h8 hrow hu h h5 k0
      have hg1 : (1 : Int32) = 0 ∨ (1 : Int32) = 1 := Or.inr rfl
      have L := z17_lock (Q := Q) (k := k) (G := H2) (H := H3) (ii := Int32.ofNat i) (sz := Int32.ofNat u) (s := u) (p := p + 9) (i := i) (g := 1) ht hi8 rfl rfl hu2 h3' hg1 c14 (fun _ hps => absurd hps (Nat.not_le.mpr hno)) (fun _ H4 h4 f4 => hk H4 _ h4 (jfr_trans f13 f4))
      rw [jo_nat (n := i) (by omega)] at L
      exact L
    · refine z17_size_no (mo := 200) (Or.inr rfl) ht h1' (Or.inr ⟨rfl, ?_⟩) fun H3 p3 h3 f3 => ?_
      · rw [hb2, hu]
        omega
      have f13 : jfr (zSo t) H H3 := jfr_trans f1' (jfr_mono f3 fun a j q => zSp_o q)
      have L := z17_lock (Q := Q) (k := k) (G := H2) (H := H3) (ii := Int32.ofNat i) (sz := 0) (s := 0) (i := i) (g := 0) ht hi8 rfl rfl (by decide) h3 (Or.inl rfl) c14 (fun hg => absurd hg (by decide)) fun _ H4 h4 f4 => hk H4 _ h4 (jfr_trans f13 f4)
      rw [jo_nat (n := i) (by omega)] at L
      exact L
theorem z17_152_bad {m : Nat} (ht : zT t) (hm : m ≤ 8) (h5 : jI H0 t 5 = Int32.ofNat m) : ∀ (d i f p : Nat) (H : jH), i + d = m → d < f → zRd t row len e p 0 H → jfr (zSo t) H0 H → jT (F_17_read_152 f t (Int32.ofNat i) H) (fun r h => r = -1 ∧ jsh h ∧ jfr (zSo t) H0 h) := by
  have htl := zT_le ht
  have n5 : ¬ zSo t t 5 := fun q => by have q2 : (t = t ∧ ((5 : Nat) = 3 ∨ (5 : Nat) = 6)) ∨ t = t + 6 ∨ t = t + 7 ∨ t = t + 8 := q; omega
  intro d
  induction d with
  | zero =>
    intro i f p H hi hf h hfr
    obtain rfl : i = m := by omega
    obtain ⟨f, rfl⟩ : ∃ k, f = k + 1 := ⟨f - 1, by omega⟩
    unfold F_17_read_152 B_17_read_152 B_17_read_236
    have k0 := t_k h.1 ht
    rw [(jfr_I hfr n5).trans h5]
    refine jT_g k0 (jT_pos (by rw [jo_le (by omega) (by omega)]; omega) (jT_g k0 (z17_pass_no (n := 4) ht h (by decide) (Or.inl rfl) fun H1 h1 f1 => jT_g (t_k h1.1 ht) ?_)))
    rw [h1.2.2.2.2.2.1]
    exact jT_pos rfl (jT_ret ⟨rfl, h1.1, jfr_trans hfr (jfr_mono f1 fun a j q => zSp_o q)⟩)
  | succ d ih =>
    intro i f p H hi hf h hfr
    obtain ⟨f, rfl⟩ : ∃ k, f = k + 1 := ⟨f - 1, by omega⟩
    unfold F_17_read_152
    exact z17_out_no ht (by omega) hm ((jfr_I hfr n5).trans h5) h (Or.inl rfl) fun H' p' h' f' => ih (i + 1) f p' H' (by omega) (by omega) h' (jfr_trans hfr f')
/-- what comes out of the outputs -/
def zOut (t row len e : Nat) (b : Nat → UInt8) (H0 : jH) (dn : List (Nat × Nat)) (r : Int32) (h : jH) (o : Option (List (Nat × Nat) × Nat)) : Prop :=
  (∃ os q, o = some (os, q) ∧ q + 4 ≤ e ∧ r = Int32.ofNat (q + 4) ∧ zRd t row len e (q + 4) 1 h ∧ zRo t b h (dn ++ os) ∧ jfr (zSo t) H0 h) ∨
  ((∀ os q, o = some (os, q) → e < q + 4) ∧ r = -1 ∧ jsh h ∧ jfr (zSo t) H0 h)
theorem z17_152 {m : Nat} {b : Nat → UInt8} (ht : zT t) (hm : m ≤ 8) (h5 : jI H0 t 5 = Int32.ofNat m) (hb : jB H0 row = b) : ∀ (d i f p : Nat) (dn : List (Nat × Nat)) (H : jH), i + d = m → d < f → dn.length = i → zRd t row len e p 1 H → jfr (zSo t) H0 H → zRo t b H dn → jT (F_17_read_152 f t (Int32.ofNat i) H) (fun r h => zOut t row len e b H0 dn r h (ztxo b e d p)) := by
  have htl := zT_le ht
  have n5 : ¬ zSo t t 5 := fun q => by have q2 : (t = t ∧ ((5 : Nat) = 3 ∨ (5 : Nat) = 6)) ∨ t = t + 6 ∨ t = t + 7 ∨ t = t + 8 := q; omega
  intro d
  induction d with
  | zero =>
    intro i f p dn H hi hf hdn h hfr hro
    obtain rfl : i = m := by omega
    obtain ⟨f, rfl⟩ : ∃ k, f = k + 1 := ⟨f - 1, by omega⟩
    unfold F_17_read_152 B_17_read_152 B_17_read_236
    have k0 := t_k h.1 ht
    rw [(jfr_I hfr n5).trans h5]
    refine jT_g k0 (jT_pos (by rw [jo_le (by omega) (by omega)]; omega) (jT_g k0 ?_))
    by_cases hq : p + 4 ≤ e
    · refine z17_pass_ok (n := 4) ht h hq fun H1 h1 f1 => jT_g (t_k h1.1 ht) ?_
      have k1 := t_k h1.1 ht
      rw [h1.2.2.2.2.2.1, h1.2.2.2.2.1]
      refine jT_neg (by decide) (jT_g k1 (jT_ret (Or.inl ⟨[], p, rfl, hq, rfl, h1, ?_, jfr_trans hfr (jfr_mono f1 fun a j q => zSp_o q)⟩)))
      rw [List.append_nil]
      intro k q hk
      have n : ∀ a, t < a → ∀ j, ¬ zSp t a j := fun a ha j q => by have := q.1; omega
      obtain ⟨a1, a2, a3⟩ := hro k q hk
      exact ⟨(jfr_L f1 (n _ (by omega) k)).trans a1, (jfr_I f1 (n _ (by omega) k)).trans a2, (jfr_I f1 (n _ (by omega) k)).trans a3⟩
    · refine z17_pass_no (n := 4) ht h (by decide) (Or.inr ⟨rfl, by omega⟩) fun H1 h1 f1 => jT_g (t_k h1.1 ht) ?_
      rw [h1.2.2.2.2.2.1]
      refine jT_pos rfl (jT_ret (Or.inr ⟨fun os q hq2 => ?_, rfl, h1.1, jfr_trans hfr (jfr_mono f1 fun a j q => zSp_o q)⟩))
      have : p = q := congrArg Prod.snd (Option.some.inj hq2)
      omega
  | succ d ih =>
    intro i f p dn H hi hf hdn h hfr hro
    obtain ⟨f, rfl⟩ : ∃ k, f = k + 1 := ⟨f - 1, by omega⟩
    unfold F_17_read_152
    have hbH : jB H row = b := by
      rw [← hb]
      funext j
      have hr := h.2.2.2.2.2.2.2.2.2
      refine jfr_B hfr fun q => ?_
      have q2 : (row = t ∧ (j = 3 ∨ j = 6)) ∨ row = t + 6 ∨ row = t + 7 ∨ row = t + 8 := q
      omega
    by_cases hc : p + 9 ≤ e ∧ (b (p + 8)).toNat ≤ 200 ∧ p + 9 + (b (p + 8)).toNat ≤ e
    · refine z17_out_ok ht (by omega) hm ((jfr_I hfr n5).trans h5) hbH h rfl hc.2.1 hc.2.2 fun H' h' f' v6 v7 v8 o => ?_
      have := ih (i + 1) f (p + 9 + (b (p + 8)).toNat) (dn ++ [(p, (b (p + 8)).toNat)]) H' (by omega) (by omega) (by rw [List.length_append, hdn]; rfl) h' (jfr_trans hfr f') (fun k q hk => ?_)
      · refine jT_imp this fun r h q => ?_
        unfold ztxo
        rw [if_pos hc]
        rcases q with ⟨os, q, ho, q1, q2, q3, q4, q5⟩ | ⟨q1, q2⟩
        · refine Or.inl ⟨(p, (b (p + 8)).toNat) :: os, q, by rw [ho]; rfl, q1, q2, q3, ?_, q5⟩
          rw [List.append_assoc] at q4
          exact q4
        · refine Or.inr ⟨fun os q hq => ?_, q2⟩
          match hz : ztxo b e d (p + 9 + (b (p + 8)).toNat) with
          | none => rw [hz] at hq; exact absurd hq (by simp)
          | some w =>
            rw [hz] at hq
            have hw : w.2 = q := congrArg Prod.snd (Option.some.inj hq)
            rw [← hw]
            exact q1 w.1 w.2 hz
      · by_cases hki : k < dn.length
        · rw [List.getElem?_append_left hki] at hk
          obtain ⟨a1, a2, a3⟩ := hro k q hk
          obtain ⟨c1, c2, c3⟩ := o k (by omega)
          exact ⟨c1.trans a1, c2.trans a2, c3.trans a3⟩
        · rw [List.getElem?_append_right (by omega)] at hk
          have hki2 : k = i := by
            by_cases h0 : k - dn.length = 0
            · omega
            · obtain ⟨w, hw⟩ : ∃ w, k - dn.length = w + 1 := ⟨k - dn.length - 1, by omega⟩
              rw [hw] at hk
              exact absurd hk (by simp)
          subst hki2
          rw [hdn, Nat.sub_self] at hk
          have hq : (p, (b (p + 8)).toNat) = q := Option.some.inj hk
          rw [← hq]
          exact ⟨v6, v7, v8⟩
    · refine z17_out_no ht (by omega) hm ((jfr_I hfr n5).trans h5) h (Or.inr ⟨rfl, by rw [hbH]; exact hc⟩) fun H' p' h' f' => ?_
      refine jT_imp (z17_152_bad ht hm h5 d (i + 1) f p' H' (by omega) (by omega) h' (jfr_trans hfr f')) fun r h q => Or.inr ⟨fun os q2 hq2 => ?_, q⟩
      unfold ztxo at hq2
      rw [if_neg hc] at hq2
      exact absurd hq2 (by simp)
end RTX3
