/-! RIPEMD-160, as both programs must give it. -/
abbrev z5 : Type := Int32 × Int32 × Int32 × Int32 × Int32
def zget5 (s : z5) (k : Nat) : Int32 := [s.1, s.2.1, s.2.2.1, s.2.2.2.1, s.2.2.2.2].getD k 0
def zmx (r : Nat) (x y z : Int32) : Int32 := if r = 0 then (x ^^^ y) ^^^ z else if r = 1 then (x &&& y) ||| ((x ^^^ (-1)) &&& z) else if r = 2 then (x ||| (y ^^^ (-1))) ^^^ z else if r = 3 then (x &&& z) ||| (y &&& (z ^^^ (-1))) else x ^^^ (y ||| (z ^^^ (-1)))
def zrd (i : Nat) : Nat := if i / 16 < 5 then i / 16 else 9 - i / 16
def zrW (i : Nat) : Nat := (jval_3.getD i 0).toNatClampNeg
def zrx (M : Nat → Int32) (i : Nat) (s : z5) : Int32 := ((s.1 + zmx (zrd i) s.2.1 s.2.2.1 s.2.2.2.1) + M (zrW i)) + jval_5.getD (i / 16) 0
def zrs (M : Nat → Int32) (i : Nat) (s : z5) : z5 := (s.2.2.2.2, (jshl (zrx M i s) (jval_4.getD i 0) ||| jushr (zrx M i s) (32 - jval_4.getD i 0)) + s.2.2.2.2, s.2.1, jshl s.2.2.1 10 ||| jushr s.2.2.1 22, s.2.2.2.1)
/-- so many steps from one on -/
def zrr (M : Nat → Int32) (b : Nat) (s : z5) : Nat → z5
  | 0 => s
  | n + 1 => zrs M (b + n) (zrr M b s n)
def zrp (M : Nat → Int32) (s : z5) : z5 :=
  (s.2.1 + (zrr M 0 s 80).2.2.1 + (zrr M 80 s 80).2.2.2.1, s.2.2.1 + (zrr M 0 s 80).2.2.2.1 + (zrr M 80 s 80).2.2.2.2, s.2.2.2.1 + (zrr M 0 s 80).2.2.2.2 + (zrr M 80 s 80).1, s.2.2.2.2 + (zrr M 0 s 80).1 + (zrr M 80 s 80).2.1, s.1 + (zrr M 0 s 80).2.1 + (zrr M 80 s 80).2.2.1)
/-- a word of four bytes, the lowest first -/
def zl4 (bs : Nat → UInt8) (i : Nat) : Int32 := ((jshl (jbs (bs (i + 3))) 24 ||| jshl (jbs (bs (i + 2)) &&& 255) 16) ||| jshl (jbs (bs (i + 1)) &&& 255) 8) ||| (jbs (bs i) &&& 255)
def zMr (bs : Nat → UInt8) (n parts p j : Nat) : Int32 := if j = 14 ∧ p + 1 = parts then 8 * Int32.ofNat n else zl4 bs (64 * p + 4 * j)
def zrH (bs : Nat → UInt8) (n parts : Nat) : Nat → z5
  | 0 => (1732584193, -271733879, -1732584194, 271733878, -1009589776)
  | p + 1 => zrp (zMr bs n parts p) (zrH bs n parts p)
def zrout (s : z5) (i : Nat) : UInt8 := jbu (ji2b (jushr (zget5 s (i / 4)) (Int32.ofNat (8 * (i % 4)))))
/-- RIPEMD-160 of n bytes, byte i -/
def zrip (b : Nat → UInt8) (n i : Nat) : UInt8 := zrout (zrH (zpad b n) n ((n + 8) / 64 + 1) ((n + 8) / 64 + 1)) i
theorem zr_tab : ∀ i, i < 160 → jin (jval_3.getD i 0) 64 ∧ zrW i < 16 := by decide +kernel
theorem zst3 {N : Nat} {H : jH} (hs : jsp N H) (i : Nat) : jI H 3 i = jval_3.getD i 0 := jsh_st hs (by decide) i
theorem zst4 {N : Nat} {H : jH} (hs : jsp N H) (i : Nat) : jI H 4 i = jval_4.getD i 0 := jsh_st hs (by decide) i
theorem zst5 {N : Nat} {H : jH} (hs : jsp N H) (i : Nat) : jI H 5 i = jval_5.getD i 0 := jsh_st hs (by decide) i
/-- one write of an int -/
theorem jset {α : Type} {Q : α → jH → Prop} {N : Nat} {S : Nat → Nat → Prop} {H0 H : jH} {P : Prop} [Decidable P] {A J : Nat} {v : Int32} {k : jH → Option (α × jH)} (hs : jsp N H) (hf : jfr S H0 H) (arr i : Nat) (hP : P) (eA : A = arr) (eJ : J = i) (ha : 18 ≤ arr) (hS : S arr i)
    (hk : ∀ H', jsp N H' → jfr S H0 H' → jI H' arr i = v → (∀ b j, ¬ (b = arr ∧ j = i) → jI H' b j = jI H b j) → jT (k H') Q) : jT (jg P (jl (jsI H A J v) k)) Q := by
  subst eA eJ
  exact jT_g hP (jT_l (hk _ (jsh_sI hs ha) (jfr_sI hf hS) jI_sIe fun b j h => jup_ne h))
section RIPE
variable {N : Nat}
theorem z3_380 {Q : Unit → jH → Prop} {k243 : Nat → Nat → Int32 → Int32 → Int32 → Int32 → Int32 → Int32 → Int32 → Int32 → Int32 → jH → Option (Unit × jH)} {a1 : Nat} {a2 a3 a4 : Int32} {s : z5} {M : Nat → Int32} {i : Nat} {H : jH} (hs : jsp N H) (hi : i < 160) (hM : ∀ j, j < 16 → jI H 46 j = M j)
    (hk : jT (k243 43 a1 a2 a3 a4 (zrs M i s).1 (zrs M i s).2.1 (zrs M i s).2.2.1 (zrs M i s).2.2.2.1 (zrs M i s).2.2.2.2 (Int32.ofNat (i + 1)) H) Q) :
    jT (B_3_ripe_380 k243 43 a1 a2 a3 a4 s.1 s.2.1 s.2.2.1 s.2.2.2.1 s.2.2.2.2 (Int32.ofNat i) (Int32.ofNat (i / 16)) (zmx (zrd i) s.2.1 s.2.2.1 s.2.2.2.1) H) Q := by
  unfold B_3_ripe_380
  have e_i : Int32.ofNat i + 1 = Int32.ofNat (i + 1) := jo_add (a := i) (b := 1)
  rw [sR_43_3 hs, sK_43 hs, sK_3 hs, sK_4 hs, sK_5 hs, sK_46 hs, jo_nat (n := i) (by omega), jo_nat (n := i / 16) (by omega), zst3 hs, zst4 hs, zst5 hs, e_i]
  obtain ⟨t1, t2⟩ := zr_tab i hi
  have hm := hM (zrW i) t2
  unfold zrW at hm
  rw [hm]
  refine jT_g rfl (jT_g ⟨rfl, jo_in (by omega) (by show i < 160; omega)⟩ (jT_g ⟨rfl, t1⟩ (jT_g ⟨rfl, jo_in (by omega) (by show i / 16 < 10; omega)⟩ (jT_l (jT_g ⟨rfl, jo_in (by omega) (by show i < 160; omega)⟩ (jT_g ⟨rfl, jo_in (by omega) (by show i < 160; omega)⟩ (jT_l (jT_l (jT_l ?_)))))))))
  exact hk
theorem z3_243 {Q : Unit → jH → Prop} {k190 : Nat → Nat → Int32 → Int32 → Int32 → jH → Option (Unit × jH)} {a1 : Nat} {a2 a3 : Int32} {q : Nat} {s : z5} {M : Nat → Int32} {H : jH} (hs : jsp N H) (hq : q < 2) (hM : ∀ j, j < 16 → jI H 46 j = M j)
    (hk : ∀ k243, jT (B_3_ripe_243 k190 k243 43 a1 a2 a3 (Int32.ofNat q) (zrr M (80 * q) s 80).1 (zrr M (80 * q) s 80).2.1 (zrr M (80 * q) s 80).2.2.1 (zrr M (80 * q) s 80).2.2.2.1 (zrr M (80 * q) s 80).2.2.2.2 (Int32.ofNat (80 * q + 80)) H) Q) :
    ∀ (d n f : Nat), n + d = 80 → d < f → jT (F_3_ripe_243 k190 f 43 a1 a2 a3 (Int32.ofNat q) (zrr M (80 * q) s n).1 (zrr M (80 * q) s n).2.1 (zrr M (80 * q) s n).2.2.1 (zrr M (80 * q) s n).2.2.2.1 (zrr M (80 * q) s n).2.2.2.2 (Int32.ofNat (80 * q + n)) H) Q := by
  intro d
  induction d with
  | zero =>
    intro n f hn hf
    obtain rfl : n = 80 := by omega
    obtain ⟨f, rfl⟩ : ∃ k, f = k + 1 := ⟨f - 1, by omega⟩
    unfold F_3_ripe_243
    exact hk _
  | succ d ih =>
    intro n f hn hf
    obtain ⟨f, rfl⟩ : ∃ k, f = k + 1 := ⟨f - 1, by omega⟩
    unfold F_3_ripe_243 B_3_ripe_243
    have e1 : (80 : Int32) * Int32.ofNat q + 80 = Int32.ofNat (80 * q + 80) := by
      rw [show (80 : Int32) = Int32.ofNat 80 from rfl, jo_mul, jo_add]
    have e2 : Int32.ofNat (80 * q + n) / 16 = Int32.ofNat ((80 * q + n) / 16) := jo_div (a := 80 * q + n) (b := 16) (by omega) (by omega)
    rw [e1]
    refine jT_neg (by rw [jo_le (by omega) (by omega)]; omega) (jT_g (by decide) (jT_l ?_))
    rw [e2]
    have hk2 := z3_380 (a1 := a1) (a2 := a2) (a3 := a3) (a4 := Int32.ofNat q) (k243 := F_3_ripe_243 k190 f) (s := zrr M (80 * q) s n) (i := 80 * q + n) hs (by omega) hM (Q := Q) (ih (n + 1) f (by omega) (by omega))
    generalize hi : 80 * q + n = i at *
    have hd : i / 16 < 10 := by omega
    unfold zrd at hk2
    generalize hr : i / 16 = r at *
    unfold B_3_ripe_275 B_3_ripe_299 B_3_ripe_328 B_3_ripe_354
    rcases (show r = 0 ∨ r = 1 ∨ r = 2 ∨ r = 3 ∨ r = 4 ∨ r = 5 ∨ r = 6 ∨ r = 7 ∨ r = 8 ∨ r = 9 by omega) with rfl | rfl | rfl | rfl | rfl | rfl | rfl | rfl | rfl | rfl
    · exact jT_pos (by decide) hk2
    · exact jT_neg (by decide) (jT_pos (by decide) (jT_pos (by decide) hk2))
    · exact jT_neg (by decide) (jT_pos (by decide) (jT_neg (by decide) (jT_pos (by decide) (jT_pos (by decide) hk2))))
    · exact jT_neg (by decide) (jT_pos (by decide) (jT_neg (by decide) (jT_pos (by decide) (jT_neg (by decide) (jT_pos (by decide) (jT_pos (by decide) hk2))))))
    · exact jT_neg (by decide) (jT_pos (by decide) (jT_neg (by decide) (jT_pos (by decide) (jT_neg (by decide) (jT_pos (by decide) (jT_neg (by decide) (jT_pos (by decide) hk2)))))))
    · exact jT_neg (by decide) (jT_pos (by decide) (jT_neg (by decide) (jT_pos (by decide) (jT_neg (by decide) (jT_pos (by decide) (jT_neg (by decide) (jT_pos (by decide) hk2)))))))
    · exact jT_neg (by decide) (jT_pos (by decide) (jT_neg (by decide) (jT_pos (by decide) (jT_neg (by decide) (jT_pos (by decide) (jT_neg (by decide) (jT_neg (by decide) hk2)))))))
    · exact jT_neg (by decide) (jT_pos (by decide) (jT_neg (by decide) (jT_pos (by decide) (jT_neg (by decide) (jT_neg (by decide) hk2)))))
    · exact jT_neg (by decide) (jT_pos (by decide) (jT_neg (by decide) (jT_neg (by decide) hk2)))
    · exact jT_neg (by decide) (jT_neg (by decide) hk2)
/-- the left line is kept -/
theorem z3_left {Q : Unit → jH → Prop} {k190 : Nat → Nat → Int32 → Int32 → Int32 → jH → Option (Unit × jH)} {k243 : Nat → Nat → Int32 → Int32 → Int32 → Int32 → Int32 → Int32 → Int32 → Int32 → Int32 → jH → Option (Unit × jH)} {a1 : Nat} {a2 a3 : Int32} {l : z5} {H : jH} (hs : jsp N H)
    (hk : ∀ H', jsp N H' → jfr (fun a _ => a = 47) H H' → (∀ j, j < 5 → jI H' 47 j = zget5 l j) → jT (k190 43 a1 a2 a3 1 H') Q) :
    jT (B_3_ripe_243 k190 k243 43 a1 a2 a3 (Int32.ofNat 0) l.1 l.2.1 l.2.2.1 l.2.2.2.1 l.2.2.2.2 (Int32.ofNat (80 * 0 + 80)) H) Q := by
  unfold B_3_ripe_243 B_3_ripe_632
  refine jT_pos (by decide) (jT_neg (by decide) ?_)
  simp only [sR_43_4 hs, sK_43 hs, sK_47 hs]
  refine jT_g (by first | exact rfl | exact trivial | exact ⟨trivial, jo_in (by omega) (by omega)⟩ | exact ⟨trivial, by unfold jF0; omega, jo_in (by omega) (by omega)⟩ | exact ⟨rfl, jo_in (by omega) (by omega)⟩ | exact ⟨rfl, by unfold jF0; omega, jo_in (by omega) (by omega)⟩ | decide) ?_
  refine jset (S := fun a _ => a = 47) hs jfr_refl 47 0 (by first | exact rfl | exact trivial | exact ⟨trivial, jo_in (by omega) (by omega)⟩ | exact ⟨trivial, by unfold jF0; omega, jo_in (by omega) (by omega)⟩ | exact ⟨rfl, jo_in (by omega) (by omega)⟩ | exact ⟨rfl, by unfold jF0; omega, jo_in (by omega) (by omega)⟩ | decide) rfl rfl (by decide) rfl fun H0 hs0 f0 v0 o0 => ?_
  simp only [sR_43_4 hs0, sK_43 hs0, sK_47 hs0]
  refine jT_g (by first | exact rfl | exact trivial | exact ⟨trivial, jo_in (by omega) (by omega)⟩ | exact ⟨trivial, by unfold jF0; omega, jo_in (by omega) (by omega)⟩ | exact ⟨rfl, jo_in (by omega) (by omega)⟩ | exact ⟨rfl, by unfold jF0; omega, jo_in (by omega) (by omega)⟩ | decide) ?_
  refine jset (S := fun a _ => a = 47) hs0 f0 47 1 (by first | exact rfl | exact trivial | exact ⟨trivial, jo_in (by omega) (by omega)⟩ | exact ⟨trivial, by unfold jF0; omega, jo_in (by omega) (by omega)⟩ | exact ⟨rfl, jo_in (by omega) (by omega)⟩ | exact ⟨rfl, by unfold jF0; omega, jo_in (by omega) (by omega)⟩ | decide) rfl rfl (by decide) rfl fun H1 hs1 f1 v1 o1 => ?_
  simp only [sR_43_4 hs1, sK_43 hs1, sK_47 hs1]
  refine jT_g (by first | exact rfl | exact trivial | exact ⟨trivial, jo_in (by omega) (by omega)⟩ | exact ⟨trivial, by unfold jF0; omega, jo_in (by omega) (by omega)⟩ | exact ⟨rfl, jo_in (by omega) (by omega)⟩ | exact ⟨rfl, by unfold jF0; omega, jo_in (by omega) (by omega)⟩ | decide) ?_
  refine jset (S := fun a _ => a = 47) hs1 f1 47 2 (by first | exact rfl | exact trivial | exact ⟨trivial, jo_in (by omega) (by omega)⟩ | exact ⟨trivial, by unfold jF0; omega, jo_in (by omega) (by omega)⟩ | exact ⟨rfl, jo_in (by omega) (by omega)⟩ | exact ⟨rfl, by unfold jF0; omega, jo_in (by omega) (by omega)⟩ | decide) rfl rfl (by decide) rfl fun H2 hs2 f2 v2 o2 => ?_
  simp only [sR_43_4 hs2, sK_43 hs2, sK_47 hs2]
  refine jT_g (by first | exact rfl | exact trivial | exact ⟨trivial, jo_in (by omega) (by omega)⟩ | exact ⟨trivial, by unfold jF0; omega, jo_in (by omega) (by omega)⟩ | exact ⟨rfl, jo_in (by omega) (by omega)⟩ | exact ⟨rfl, by unfold jF0; omega, jo_in (by omega) (by omega)⟩ | decide) ?_
  refine jset (S := fun a _ => a = 47) hs2 f2 47 3 (by first | exact rfl | exact trivial | exact ⟨trivial, jo_in (by omega) (by omega)⟩ | exact ⟨trivial, by unfold jF0; omega, jo_in (by omega) (by omega)⟩ | exact ⟨rfl, jo_in (by omega) (by omega)⟩ | exact ⟨rfl, by unfold jF0; omega, jo_in (by omega) (by omega)⟩ | decide) rfl rfl (by decide) rfl fun H3 hs3 f3 v3 o3 => ?_
  simp only [sR_43_4 hs3, sK_43 hs3, sK_47 hs3]
  refine jT_g (by first | exact rfl | exact trivial | exact ⟨trivial, jo_in (by omega) (by omega)⟩ | exact ⟨trivial, by unfold jF0; omega, jo_in (by omega) (by omega)⟩ | exact ⟨rfl, jo_in (by omega) (by omega)⟩ | exact ⟨rfl, by unfold jF0; omega, jo_in (by omega) (by omega)⟩ | decide) ?_
  refine jset (S := fun a _ => a = 47) hs3 f3 47 4 (by first | exact rfl | exact trivial | exact ⟨trivial, jo_in (by omega) (by omega)⟩ | exact ⟨trivial, by unfold jF0; omega, jo_in (by omega) (by omega)⟩ | exact ⟨rfl, jo_in (by omega) (by omega)⟩ | exact ⟨rfl, by unfold jF0; omega, jo_in (by omega) (by omega)⟩ | decide) rfl rfl (by decide) rfl fun H4 hs4 f4 v4 o4 => ?_
  refine jT_l (hk H4 hs4 f4 fun j hj => ?_)
  rcases (show j = 0 ∨ j = 1 ∨ j = 2 ∨ j = 3 ∨ j = 4 by omega) with rfl | rfl | rfl | rfl | rfl
  · rw [o4 47 0 (by decide), o3 47 0 (by decide), o2 47 0 (by decide), o1 47 0 (by decide), v0]; rfl
  · rw [o4 47 1 (by decide), o3 47 1 (by decide), o2 47 1 (by decide), v1]; rfl
  · rw [o4 47 2 (by decide), o3 47 2 (by decide), v2]; rfl
  · rw [o4 47 3 (by decide), v3]; rfl
  · rw [v4]; rfl
/-- both lines come to the state -/
theorem z3_right {Q : Unit → jH → Prop} {k190 : Nat → Nat → Int32 → Int32 → Int32 → jH → Option (Unit × jH)} {k243 : Nat → Nat → Int32 → Int32 → Int32 → Int32 → Int32 → Int32 → Int32 → Int32 → Int32 → jH → Option (Unit × jH)} {a1 : Nat} {a2 a3 : Int32} {s l r : z5} {H : jH} (hs : jsp N H) (h0 : ∀ j, j < 5 → jI H 45 j = zget5 s j) (hl : ∀ j, j < 5 → jI H 47 j = zget5 l j)
    (hk : ∀ H', jsp N H' → jfr (fun a _ => a = 45) H H' → (∀ j, j < 5 → jI H' 45 j = zget5 (s.2.1 + l.2.2.1 + r.2.2.2.1, s.2.2.1 + l.2.2.2.1 + r.2.2.2.2, s.2.2.2.1 + l.2.2.2.2 + r.1, s.2.2.2.2 + l.1 + r.2.1, s.1 + l.2.1 + r.2.2.1) j) → jT (k190 43 a1 a2 a3 2 H') Q) :
    jT (B_3_ripe_243 k190 k243 43 a1 a2 a3 (Int32.ofNat 1) r.1 r.2.1 r.2.2.1 r.2.2.2.1 r.2.2.2.2 (Int32.ofNat (80 * 1 + 80)) H) Q := by
  unfold B_3_ripe_243 B_3_ripe_632
  have e0 : (0 : Int32).toNatClampNeg = 0 := rfl
  have e1 : (1 : Int32).toNatClampNeg = 1 := rfl
  have e2 : (2 : Int32).toNatClampNeg = 2 := rfl
  have e3 : (3 : Int32).toNatClampNeg = 3 := rfl
  have e4 : (4 : Int32).toNatClampNeg = 4 := rfl
  refine jT_pos (by decide) (jT_pos (by decide) ?_)
  simp only [e0, e1, e2, e3, e4, sR_43_2 hs, sR_43_4 hs, sK_43 hs, sK_45 hs, sK_47 hs]
  iterate 4 refine jT_g (by first | exact rfl | exact trivial | exact ⟨trivial, jo_in (by omega) (by omega)⟩ | exact ⟨trivial, by unfold jF0; omega, jo_in (by omega) (by omega)⟩ | exact ⟨rfl, jo_in (by omega) (by omega)⟩ | exact ⟨rfl, by unfold jF0; omega, jo_in (by omega) (by omega)⟩ | decide) ?_
  refine jT_l ?_
  iterate 5 refine jT_g (by first | exact rfl | exact trivial | exact ⟨trivial, jo_in (by omega) (by omega)⟩ | exact ⟨trivial, by unfold jF0; omega, jo_in (by omega) (by omega)⟩ | exact ⟨rfl, jo_in (by omega) (by omega)⟩ | exact ⟨rfl, by unfold jF0; omega, jo_in (by omega) (by omega)⟩ | decide) ?_
  refine jset (S := fun a _ => a = 45) hs jfr_refl 45 1 (by first | exact rfl | exact trivial | exact ⟨trivial, jo_in (by omega) (by omega)⟩ | exact ⟨trivial, by unfold jF0; omega, jo_in (by omega) (by omega)⟩ | exact ⟨rfl, jo_in (by omega) (by omega)⟩ | exact ⟨rfl, by unfold jF0; omega, jo_in (by omega) (by omega)⟩ | decide) rfl rfl (by decide) rfl fun H0 hs0 f0 v0 o0 => ?_
  simp only [e0, e1, e2, e3, e4, sR_43_2 hs0, sR_43_4 hs0, sK_43 hs0, sK_45 hs0, sK_47 hs0]
  iterate 5 refine jT_g (by first | exact rfl | exact trivial | exact ⟨trivial, jo_in (by omega) (by omega)⟩ | exact ⟨trivial, by unfold jF0; omega, jo_in (by omega) (by omega)⟩ | exact ⟨rfl, jo_in (by omega) (by omega)⟩ | exact ⟨rfl, by unfold jF0; omega, jo_in (by omega) (by omega)⟩ | decide) ?_
  refine jset (S := fun a _ => a = 45) hs0 f0 45 2 (by first | exact rfl | exact trivial | exact ⟨trivial, jo_in (by omega) (by omega)⟩ | exact ⟨trivial, by unfold jF0; omega, jo_in (by omega) (by omega)⟩ | exact ⟨rfl, jo_in (by omega) (by omega)⟩ | exact ⟨rfl, by unfold jF0; omega, jo_in (by omega) (by omega)⟩ | decide) rfl rfl (by decide) rfl fun H1 hs1 f1 v1 o1 => ?_
  simp only [e0, e1, e2, e3, e4, sR_43_2 hs1, sR_43_4 hs1, sK_43 hs1, sK_45 hs1, sK_47 hs1]
  iterate 5 refine jT_g (by first | exact rfl | exact trivial | exact ⟨trivial, jo_in (by omega) (by omega)⟩ | exact ⟨trivial, by unfold jF0; omega, jo_in (by omega) (by omega)⟩ | exact ⟨rfl, jo_in (by omega) (by omega)⟩ | exact ⟨rfl, by unfold jF0; omega, jo_in (by omega) (by omega)⟩ | decide) ?_
  refine jset (S := fun a _ => a = 45) hs1 f1 45 3 (by first | exact rfl | exact trivial | exact ⟨trivial, jo_in (by omega) (by omega)⟩ | exact ⟨trivial, by unfold jF0; omega, jo_in (by omega) (by omega)⟩ | exact ⟨rfl, jo_in (by omega) (by omega)⟩ | exact ⟨rfl, by unfold jF0; omega, jo_in (by omega) (by omega)⟩ | decide) rfl rfl (by decide) rfl fun H2 hs2 f2 v2 o2 => ?_
  simp only [e0, e1, e2, e3, e4, sR_43_2 hs2, sR_43_4 hs2, sK_43 hs2, sK_45 hs2, sK_47 hs2]
  iterate 5 refine jT_g (by first | exact rfl | exact trivial | exact ⟨trivial, jo_in (by omega) (by omega)⟩ | exact ⟨trivial, by unfold jF0; omega, jo_in (by omega) (by omega)⟩ | exact ⟨rfl, jo_in (by omega) (by omega)⟩ | exact ⟨rfl, by unfold jF0; omega, jo_in (by omega) (by omega)⟩ | decide) ?_
  refine jset (S := fun a _ => a = 45) hs2 f2 45 4 (by first | exact rfl | exact trivial | exact ⟨trivial, jo_in (by omega) (by omega)⟩ | exact ⟨trivial, by unfold jF0; omega, jo_in (by omega) (by omega)⟩ | exact ⟨rfl, jo_in (by omega) (by omega)⟩ | exact ⟨rfl, by unfold jF0; omega, jo_in (by omega) (by omega)⟩ | decide) rfl rfl (by decide) rfl fun H3 hs3 f3 v3 o3 => ?_
  simp only [e0, e1, e2, e3, e4, sR_43_2 hs3, sR_43_4 hs3, sK_43 hs3, sK_45 hs3, sK_47 hs3]
  iterate 1 refine jT_g (by first | exact rfl | exact trivial | exact ⟨trivial, jo_in (by omega) (by omega)⟩ | exact ⟨trivial, by unfold jF0; omega, jo_in (by omega) (by omega)⟩ | exact ⟨rfl, jo_in (by omega) (by omega)⟩ | exact ⟨rfl, by unfold jF0; omega, jo_in (by omega) (by omega)⟩ | decide) ?_
  refine jset (S := fun a _ => a = 45) hs3 f3 45 0 (by first | exact rfl | exact trivial | exact ⟨trivial, jo_in (by omega) (by omega)⟩ | exact ⟨trivial, by unfold jF0; omega, jo_in (by omega) (by omega)⟩ | exact ⟨rfl, jo_in (by omega) (by omega)⟩ | exact ⟨rfl, by unfold jF0; omega, jo_in (by omega) (by omega)⟩ | decide) rfl rfl (by decide) rfl fun H4 hs4 f4 v4 o4 => ?_
  have l47 : ∀ j, j < 5 → jI H 47 j = zget5 l j := hl
  refine jT_l (hk H4 hs4 f4 fun j hj => ?_)
  rcases (show j = 0 ∨ j = 1 ∨ j = 2 ∨ j = 3 ∨ j = 4 by omega) with rfl | rfl | rfl | rfl | rfl
  · rw [v4, h0 1 (by omega), hl 2 (by omega)]; rfl
  · rw [o4 45 1 (by decide), o3 45 1 (by decide), o2 45 1 (by decide), o1 45 1 (by decide), v0, h0 2 (by omega), hl 3 (by omega)]; rfl
  · rw [o4 45 2 (by decide), o3 45 2 (by decide), o2 45 2 (by decide), v1, o0 45 3 (by decide), o0 47 4 (by decide), h0 3 (by omega), hl 4 (by omega)]; rfl
  · rw [o4 45 3 (by decide), o3 45 3 (by decide), v2, o1 45 4 (by decide), o0 45 4 (by decide), o1 47 0 (by decide), o0 47 0 (by decide), h0 4 (by omega), hl 0 (by omega)]; rfl
  · rw [o4 45 4 (by decide), v3, o2 45 0 (by decide), o1 45 0 (by decide), o0 45 0 (by decide), o2 47 1 (by decide), o1 47 1 (by decide), o0 47 1 (by decide), h0 0 (by omega), hl 1 (by omega)]; rfl
end RIPE
section RIPE2
variable {N : Nat}
theorem z3_190 {Q : Unit → jH → Prop} {k55 : Nat → Nat → Int32 → Int32 → jH → Option (Unit × jH)} {a1 : Nat} {a2 a3 : Int32} {s : z5} {M : Nat → Int32} {H : jH} (hs : jsp N H) (hM : ∀ j, j < 16 → jI H 46 j = M j) (h0 : ∀ j, j < 5 → jI H 45 j = zget5 s j)
    (hk : ∀ H', jsp N H' → jfr (fun a _ => a = 45 ∨ a = 47) H H' → (∀ j, j < 5 → jI H' 45 j = zget5 (zrp M s) j) → jT (k55 43 a1 a2 (a3 + 1) H') Q) : jT (B_3_ripe_187 k55 43 a1 a2 a3 H) Q := by
  unfold B_3_ripe_187
  obtain ⟨f, ef⟩ : ∃ f, jfuel = f + 3 := ⟨4294967293, rfl⟩
  have e0 : (0 : Int32).toNatClampNeg = 0 := rfl
  have e1 : (1 : Int32).toNatClampNeg = 1 := rfl
  have e2 : (2 : Int32).toNatClampNeg = 2 := rfl
  have e3 : (3 : Int32).toNatClampNeg = 3 := rfl
  have e4 : (4 : Int32).toNatClampNeg = 4 := rfl
  rw [show F_3_ripe_190 k55 jfuel = F_3_ripe_190 k55 (f + 3) by rw [ef]]
  unfold F_3_ripe_190 B_3_ripe_190
  simp only [sR_43_2 hs, sK_43 hs, sK_45 hs, e0, e1, e2, e3, e4, h0 0 (by omega), h0 1 (by omega), h0 2 (by omega), h0 3 (by omega), h0 4 (by omega)]
  refine jT_neg (by decide) ?_
  repeat (first | (with_reducible refine jT_g ?_ ?_; · first | exact rfl | exact trivial | exact ⟨trivial, jo_in (by omega) (by omega)⟩ | exact ⟨trivial, by unfold jF0; omega, jo_in (by omega) (by omega)⟩ | exact ⟨rfl, jo_in (by omega) (by omega)⟩ | exact ⟨rfl, by unfold jF0; omega, jo_in (by omega) (by omega)⟩ | decide) | with_reducible refine jT_l ?_)
  refine z3_243 (q := 0) (s := s) hs (by decide) hM (fun k243 => ?_) 80 0 jfuel rfl (by unfold jfuel; omega)
  refine z3_left (l := zrr M (80 * 0) s 80) hs fun H1 hs1 f1 l1 => ?_
  unfold F_3_ripe_190 B_3_ripe_190
  have n45 : ∀ j : Nat, ¬ (fun (a : Nat) (_ : Nat) => a = 47) 45 j := fun j h => absurd (show (45 : Nat) = 47 from h) (by decide)
  have n46 : ∀ j : Nat, ¬ (fun (a : Nat) (_ : Nat) => a = 47) 46 j := fun j h => absurd (show (46 : Nat) = 47 from h) (by decide)
  have h1 : ∀ j, j < 5 → jI H1 45 j = zget5 s j := fun j hj => (jfr_I f1 (n45 j)).trans (h0 j hj)
  have hM1 : ∀ j, j < 16 → jI H1 46 j = M j := fun j hj => (jfr_I f1 (n46 j)).trans (hM j hj)
  simp only [sR_43_2 hs1, sK_43 hs1, sK_45 hs1, e0, e1, e2, e3, e4, h1 0 (by omega), h1 1 (by omega), h1 2 (by omega), h1 3 (by omega), h1 4 (by omega)]
  refine jT_neg (by decide) ?_
  repeat (first | (with_reducible refine jT_g ?_ ?_; · first | exact rfl | exact trivial | exact ⟨trivial, jo_in (by omega) (by omega)⟩ | exact ⟨trivial, by unfold jF0; omega, jo_in (by omega) (by omega)⟩ | exact ⟨rfl, jo_in (by omega) (by omega)⟩ | exact ⟨rfl, by unfold jF0; omega, jo_in (by omega) (by omega)⟩ | decide) | with_reducible refine jT_l ?_)
  refine z3_243 (q := 1) (s := s) hs1 (by decide) hM1 (fun k243 => ?_) 80 0 jfuel rfl (by unfold jfuel; omega)
  refine z3_right (s := s) (l := zrr M (80 * 0) s 80) (r := zrr M (80 * 1) s 80) hs1 h1 l1 fun H2 hs2 f2 g2 => ?_
  unfold F_3_ripe_190 B_3_ripe_190
  refine jT_pos (by decide) (jT_l (hk H2 hs2 (jfr_trans (jfr_mono f1 fun a j h => Or.inr h) (jfr_mono f2 fun a j h => Or.inl h)) g2))
theorem z3_63 {Q : Unit → jH → Prop} {k55 : Nat → Nat → Int32 → Int32 → jH → Option (Unit × jH)} {a1 : Nat} {bs : Nat → UInt8} {sz parts p : Nat} {s : z5} (hp : p < parts) (hp2 : 64 * parts ≤ 2560) {H0 : jH} (hsz : jI H0 43 1 = Int32.ofNat sz) (hbs : ∀ i, i < 64 * parts → jB H0 44 i = bs i) (h0 : ∀ j, j < 5 → jI H0 45 j = zget5 s j)
    (hk : ∀ H', jsp N H' → jfr (fun a _ => a = 45 ∨ a = 46 ∨ a = 47) H0 H' → (∀ j, j < 5 → jI H' 45 j = zget5 (zrp (zMr bs sz parts p) s) j) → jT (k55 43 a1 (Int32.ofNat parts) (Int32.ofNat (p + 1)) H') Q) :
    ∀ (d j f : Nat) (H : jH), j + d = 16 → d < f → jsp N H → jfr (fun a _ => a = 46) H0 H → (∀ i, i < j → jI H 46 i = zl4 bs (64 * p + 4 * i)) → jT (F_3_ripe_63 k55 f 43 a1 (Int32.ofNat parts) (Int32.ofNat p) (Int32.ofNat j) H) Q := by
  have n43 : ¬ (fun (a : Nat) (_ : Nat) => a = 46) 43 1 := fun h => absurd (show (43 : Nat) = 46 from h) (by decide)
  have n44 : ∀ j : Nat, ¬ (fun (a : Nat) (_ : Nat) => a = 46) 44 j := fun j h => absurd (show (44 : Nat) = 46 from h) (by decide)
  have n45 : ∀ j : Nat, ¬ (fun (a : Nat) (_ : Nat) => a = 46) 45 j := fun j h => absurd (show (45 : Nat) = 46 from h) (by decide)
  have e_p : Int32.ofNat p + 1 = Int32.ofNat (p + 1) := jo_add (a := p) (b := 1)
  intro d
  induction d with
  | zero =>
    intro j f H hi hn hs hf hw
    obtain rfl : j = 16 := by omega
    obtain ⟨f, rfl⟩ : ∃ k, f = k + 1 := ⟨f - 1, by omega⟩
    unfold F_3_ripe_63 B_3_ripe_63
    refine jT_pos (by decide) ?_
    have e1 : Int32.ofNat parts - 1 = Int32.ofNat (parts - 1) := jo_sub (a := parts) (b := 1) (by omega)
    have key : ∀ H', jsp N H' → jfr (fun a _ => a = 46) H0 H' → (∀ i, i < 16 → jI H' 46 i = zMr bs sz parts p i) → jT (B_3_ripe_187 k55 43 a1 (Int32.ofNat parts) (Int32.ofNat p) H') Q := by
      intro H' hs' hf' hw'
      refine z3_190 (M := zMr bs sz parts p) (s := s) hs' hw' (fun j hj => (jfr_I hf' (n45 j)).trans (h0 j hj)) fun H2 hs2 f2 g2 => ?_
      rw [e_p]
      refine hk H2 hs2 (jfr_trans (jfr_mono hf' fun a j h => Or.inr (Or.inl h)) (jfr_mono f2 fun a j h => ?_)) g2
      rcases h with h | h
      · exact Or.inl h
      · exact Or.inr (Or.inr h)
    refine jT_if (fun hne => ?_) (fun heq => ?_)
    · rw [e1, jo_eq (by omega) (by omega)] at hne
      refine key H hs hf fun i hi => ?_
      rw [hw i hi]
      unfold zMr
      rw [if_neg (by omega)]
    · have heq2 : p = parts - 1 := by
        have := Classical.not_not.mp heq
        rw [e1, jo_eq (by omega) (by omega)] at this
        exact this
      rw [sR_43_3 hs, sK_43 hs, sK_46 hs, show jI H 43 1 = Int32.ofNat sz from (jfr_I hf n43).trans hsz]
      refine jT_g rfl (jT_g rfl (jT_g ⟨rfl, by unfold jF0; omega, by decide⟩ (jT_l ?_)))
      refine key _ (jsh_sI hs (by omega)) (jfr_sI hf rfl) fun i hi => ?_
      have e14 : (14 : Int32).toNatClampNeg = 14 := rfl
      rw [e14]
      by_cases h14 : i = 14
      · subst h14
        rw [jI_sIe]
        unfold zMr
        rw [if_pos ⟨rfl, by omega⟩]
      · rw [jI_sIn h14, hw i hi]
        unfold zMr
        rw [if_neg (by omega)]
  | succ d ih =>
    intro j f H hi hn hs hf hw
    obtain ⟨f, rfl⟩ : ∃ k, f = k + 1 := ⟨f - 1, by omega⟩
    unfold F_3_ripe_63 B_3_ripe_63
    have ea : 64 * Int32.ofNat p + 4 * Int32.ofNat j = Int32.ofNat (64 * p + 4 * j) := by
      rw [show (64 : Int32) = Int32.ofNat 64 from rfl, show (4 : Int32) = Int32.ofNat 4 from rfl, jo_mul, jo_mul, jo_add]
    refine jT_neg (by rw [show (16 : Int32) = Int32.ofNat 16 from rfl, jo_le (by omega) (by omega)]; omega) (jT_l ?_)
    rw [ea]
    generalize hx : 64 * p + 4 * j = x at *
    have hxl : x + 3 < 64 * parts := by omega
    have e3 : Int32.ofNat x + 3 = Int32.ofNat (x + 3) := jo_add (a := x) (b := 3)
    have e2 : Int32.ofNat x + 2 = Int32.ofNat (x + 2) := jo_add (a := x) (b := 2)
    have e1 : Int32.ofNat x + 1 = Int32.ofNat (x + 1) := jo_add (a := x) (b := 1)
    have e_j : Int32.ofNat j + 1 = Int32.ofNat (j + 1) := jo_add (a := j) (b := 1)
    have hb : ∀ i, i < 64 * parts → jB H 44 i = bs i := fun i hi => (jfr_B hf (n44 i)).trans (hbs i hi)
    rw [e3, e2, e1, sR_43_0 hs, sR_43_3 hs, sK_43 hs, sK_44 hs, jo_nat (n := x) (by omega), jo_nat (n := x + 1) (by omega), jo_nat (n := x + 2) (by omega), jo_nat (n := x + 3) (by omega), hb x (by omega), hb (x + 1) (by omega), hb (x + 2) (by omega), hb (x + 3) (by omega)]
    refine jT_g rfl (jT_pos (by rw [show (2560 : Int32) = Int32.ofNat 2560 from rfl, jo_lt (by omega) (by omega)]; omega) ?_)
    refine jT_g rfl (jT_g ⟨rfl, jo_in (by omega) (by omega)⟩ (jT_g rfl (jT_g ⟨rfl, jo_in (by omega) (by omega)⟩ (jT_g rfl (jT_g ⟨rfl, jo_in (by omega) (by omega)⟩ (jT_g rfl (jT_g ⟨rfl, jo_in (by omega) (by omega)⟩ ?_)))))))
    unfold B_3_ripe_159
    rw [sK_46 hs, jo_nat (n := j) (by omega), e_j]
    refine jT_g ⟨rfl, by unfold jF0; omega, jo_in (by omega) (by omega)⟩ (jT_l (jT_l ?_))
    refine ih (j + 1) f _ (by omega) (by omega) (jsh_sI hs (by omega)) (jfr_sI hf rfl) fun i hi => ?_
    by_cases hij : i = j
    · subst hij
      rw [jI_sIe, hx]
      rfl
    · rw [jI_sIn hij]
      exact hw i (by omega)
theorem z3_646 {Q : Unit → jH → Prop} {a1 len : Nat} (hl : 20 ≤ len ∧ len < 2147483648) {s : z5} {H0 : jH} (hkd : jK H0 a1 = (101, len)) (h0 : ∀ j, j < 5 → jI H0 45 j = zget5 s j)
    (hk : ∀ H', jsp N H' → jfr (fun a j => a = a1 ∧ j < 20) H0 H' → (∀ i, i < 20 → jB H' a1 i = zrout s i) → Q () H') :
    ∀ (d i f : Nat) (H : jH), i + d = 20 → d < f → jsp N H → jfr (fun a j => a = a1 ∧ j < 20) H0 H → (∀ j, jI H 45 j = jI H0 45 j) → (∀ j, j < i → jB H a1 j = zrout s j) → jT (F_3_ripe_646 f 43 a1 (Int32.ofNat i) H) Q := by
  intro d
  induction d with
  | zero =>
    intro i f H hi hn hs hf hz hw
    obtain rfl : i = 20 := by omega
    obtain ⟨f, rfl⟩ : ∃ k, f = k + 1 := ⟨f - 1, by omega⟩
    unfold F_3_ripe_646 B_3_ripe_646 B_3_ripe_683
    exact jT_pos (by decide) (jT_ret (hk H hs hf hw))
  | succ d ih =>
    intro i f H hi hn hs hf hz hw
    obtain ⟨f, rfl⟩ : ∃ k, f = k + 1 := ⟨f - 1, by omega⟩
    unfold F_3_ripe_646 B_3_ripe_646
    have e4 : Int32.ofNat i / 4 = Int32.ofNat (i / 4) := jo_div (a := i) (b := 4) (by omega) (by omega)
    have er : jrem (Int32.ofNat i) 4 = Int32.ofNat (i % 4) := jo_rem (a := i) (b := 4) (by omega) (by omega)
    have e8 : (8 : Int32) * Int32.ofNat (i % 4) = Int32.ofNat (8 * (i % 4)) := jo_mul (a := 8)
    have e_i : Int32.ofNat i + 1 = Int32.ofNat (i + 1) := jo_add (a := i) (b := 1)
    refine jT_neg (by rw [show (20 : Int32) = Int32.ofNat 20 from rfl, jo_le (by omega) (by omega)]; omega) ?_
    rw [e4, er, e8, e_i, (jfr_K hf a1).trans hkd, sR_43_2 hs, sK_43 hs, sK_45 hs, jo_nat (n := i) (by omega), jo_nat (n := i / 4) (by omega), hz, h0 (i / 4) (by omega)]
    refine jT_g rfl (jT_neg (by rw [jo_le (by omega) (by omega)]; show ¬ len ≤ i; omega) ?_)
    refine jT_g rfl (jT_g (by decide) (jT_g ⟨rfl, jo_in (by omega) (by omega)⟩ (jT_g (by decide) (jT_g ⟨rfl, jo_in (by omega) (by show i < len; omega)⟩ (jT_l (jT_l ?_))))))
    refine ih (i + 1) f _ (by omega) (by omega) (jsh_sB hs) (jfr_sB hf ⟨rfl, by omega⟩) hz (fun j hj => ?_)
    by_cases hji : j = i
    · subst hji
      rw [jB_sBe]
      rfl
    · rw [jB_sBn hji]
      exact hw j (by omega)
theorem z3_55 {Q : Unit → jH → Prop} {a1 len : Nat} (hl : 20 ≤ len ∧ len < 2147483648) {bs : Nat → UInt8} {sz parts : Nat} (hp2 : 64 * parts ≤ 2560) {H0 : jH} (hkd : jK H0 a1 = (101, len)) (hsz : jI H0 43 1 = Int32.ofNat sz) (hbs : ∀ i, i < 64 * parts → jB H0 44 i = bs i)
    (hk : ∀ H', jsp N H' → jfr (fun a j => a = 45 ∨ a = 46 ∨ a = 47 ∨ (a = a1 ∧ j < 20)) H0 H' → (∀ i, i < 20 → jB H' a1 i = zrout (zrH bs sz parts parts) i) → Q () H') :
    ∀ (d p f : Nat) (H : jH), p + d = parts → d < f → jsp N H → jfr (fun a _ => a = 45 ∨ a = 46 ∨ a = 47) H0 H → (∀ j, j < 5 → jI H 45 j = zget5 (zrH bs sz parts p) j) → jT (F_3_ripe_55 f 43 a1 (Int32.ofNat parts) (Int32.ofNat p) H) Q := by
  have n43 : ¬ (fun (a : Nat) (_ : Nat) => a = 45 ∨ a = 46 ∨ a = 47) 43 1 := fun h => by
    rcases h with h | h | h <;> exact absurd (show (43 : Nat) = _ from h) (by decide)
  have n44 : ∀ j : Nat, ¬ (fun (a : Nat) (_ : Nat) => a = 45 ∨ a = 46 ∨ a = 47) 44 j := fun j h => by
    rcases h with h | h | h <;> exact absurd (show (44 : Nat) = _ from h) (by decide)
  intro d
  induction d with
  | zero =>
    intro p f H hi hn hs hf hz
    obtain rfl : p = parts := by omega
    obtain ⟨f, rfl⟩ : ∃ k, f = k + 1 := ⟨f - 1, by omega⟩
    unfold F_3_ripe_55 B_3_ripe_55
    refine jT_pos (by rw [jo_le (by omega) (by omega)]; omega) ?_
    refine z3_646 hl ((jfr_K hf a1).trans hkd) hz (fun H' hs' hf' hw' => hk H' hs' ?_ hw') 20 0 jfuel H rfl (by unfold jfuel; omega) hs jfr_refl (fun j => rfl) (fun j hj => absurd hj (Nat.not_lt_zero j))
    refine jfr_trans (jfr_mono hf fun a j h => ?_) (jfr_mono hf' fun a j h => Or.inr (Or.inr (Or.inr h)))
    rcases h with h | h | h
    · exact Or.inl h
    · exact Or.inr (Or.inl h)
    · exact Or.inr (Or.inr (Or.inl h))
  | succ d ih =>
    intro p f H hi hn hs hf hz
    obtain ⟨f, rfl⟩ : ∃ k, f = k + 1 := ⟨f - 1, by omega⟩
    unfold F_3_ripe_55 B_3_ripe_55
    refine jT_neg (by rw [jo_le (by omega) (by omega)]; omega) ?_
    refine z3_63 (bs := bs) (sz := sz) (s := zrH bs sz parts p) (by omega) hp2 ((jfr_I hf n43).trans hsz) (fun i hi => (jfr_B hf (n44 i)).trans (hbs i hi)) hz (fun H' hs' hf' hz' => ?_) 16 0 jfuel H rfl (by unfold jfuel; omega) hs jfr_refl (fun j hj => absurd hj (Nat.not_lt_zero j))
    exact ih (p + 1) f H' (by omega) (by omega) hs' (jfr_trans hf hf') hz'
/-- the class's RIPEMD-160 of the bytes that are ready -/
theorem z3_ripe {Q : Unit → jH → Prop} {a1 len : Nat} (hl : 20 ≤ len ∧ len < 2147483648) {bs : Nat → UInt8} {sz parts : Nat} (hpa : parts = (sz + 8) / 64 + 1) (hp2 : 64 * parts ≤ 2560) {H : jH} (hs : jsp N H) (hkd : jK H a1 = (101, len)) (hsz : jI H 43 1 = Int32.ofNat sz) (hbs : ∀ i, i < 64 * parts → jB H 44 i = bs i)
    (hk : ∀ H', jsp N H' → jfr (fun a j => a = 45 ∨ a = 46 ∨ a = 47 ∨ (a = a1 ∧ j < 20)) H H' → (∀ i, i < 20 → jB H' a1 i = zrout (zrH bs sz parts parts) i) → Q () H') : jT (F_3_ripe 43 a1 H) Q := by
  unfold F_3_ripe
  simp only [sR_43_2 hs, sK_43 hs, sK_45 hs]
  refine jT_g (by first | exact rfl | exact trivial | exact ⟨trivial, jo_in (by omega) (by omega)⟩ | exact ⟨trivial, by unfold jF0; omega, jo_in (by omega) (by omega)⟩ | exact ⟨rfl, jo_in (by omega) (by omega)⟩ | exact ⟨rfl, by unfold jF0; omega, jo_in (by omega) (by omega)⟩ | decide) ?_
  refine jset (S := fun a _ => a = 45 ∨ a = 46 ∨ a = 47) hs jfr_refl 45 0 (by first | exact rfl | exact trivial | exact ⟨trivial, jo_in (by omega) (by omega)⟩ | exact ⟨trivial, by unfold jF0; omega, jo_in (by omega) (by omega)⟩ | exact ⟨rfl, jo_in (by omega) (by omega)⟩ | exact ⟨rfl, by unfold jF0; omega, jo_in (by omega) (by omega)⟩ | decide) rfl rfl (by decide) (Or.inl rfl) fun H0 hs0 f0 v0 o0 => ?_
  simp only [sR_43_2 hs0, sK_43 hs0, sK_45 hs0]
  refine jT_g (by first | exact rfl | exact trivial | exact ⟨trivial, jo_in (by omega) (by omega)⟩ | exact ⟨trivial, by unfold jF0; omega, jo_in (by omega) (by omega)⟩ | exact ⟨rfl, jo_in (by omega) (by omega)⟩ | exact ⟨rfl, by unfold jF0; omega, jo_in (by omega) (by omega)⟩ | decide) ?_
  refine jset (S := fun a _ => a = 45 ∨ a = 46 ∨ a = 47) hs0 f0 45 1 (by first | exact rfl | exact trivial | exact ⟨trivial, jo_in (by omega) (by omega)⟩ | exact ⟨trivial, by unfold jF0; omega, jo_in (by omega) (by omega)⟩ | exact ⟨rfl, jo_in (by omega) (by omega)⟩ | exact ⟨rfl, by unfold jF0; omega, jo_in (by omega) (by omega)⟩ | decide) rfl rfl (by decide) (Or.inl rfl) fun H1 hs1 f1 v1 o1 => ?_
  simp only [sR_43_2 hs1, sK_43 hs1, sK_45 hs1]
  refine jT_g (by first | exact rfl | exact trivial | exact ⟨trivial, jo_in (by omega) (by omega)⟩ | exact ⟨trivial, by unfold jF0; omega, jo_in (by omega) (by omega)⟩ | exact ⟨rfl, jo_in (by omega) (by omega)⟩ | exact ⟨rfl, by unfold jF0; omega, jo_in (by omega) (by omega)⟩ | decide) ?_
  refine jset (S := fun a _ => a = 45 ∨ a = 46 ∨ a = 47) hs1 f1 45 2 (by first | exact rfl | exact trivial | exact ⟨trivial, jo_in (by omega) (by omega)⟩ | exact ⟨trivial, by unfold jF0; omega, jo_in (by omega) (by omega)⟩ | exact ⟨rfl, jo_in (by omega) (by omega)⟩ | exact ⟨rfl, by unfold jF0; omega, jo_in (by omega) (by omega)⟩ | decide) rfl rfl (by decide) (Or.inl rfl) fun H2 hs2 f2 v2 o2 => ?_
  simp only [sR_43_2 hs2, sK_43 hs2, sK_45 hs2]
  refine jT_g (by first | exact rfl | exact trivial | exact ⟨trivial, jo_in (by omega) (by omega)⟩ | exact ⟨trivial, by unfold jF0; omega, jo_in (by omega) (by omega)⟩ | exact ⟨rfl, jo_in (by omega) (by omega)⟩ | exact ⟨rfl, by unfold jF0; omega, jo_in (by omega) (by omega)⟩ | decide) ?_
  refine jset (S := fun a _ => a = 45 ∨ a = 46 ∨ a = 47) hs2 f2 45 3 (by first | exact rfl | exact trivial | exact ⟨trivial, jo_in (by omega) (by omega)⟩ | exact ⟨trivial, by unfold jF0; omega, jo_in (by omega) (by omega)⟩ | exact ⟨rfl, jo_in (by omega) (by omega)⟩ | exact ⟨rfl, by unfold jF0; omega, jo_in (by omega) (by omega)⟩ | decide) rfl rfl (by decide) (Or.inl rfl) fun H3 hs3 f3 v3 o3 => ?_
  simp only [sR_43_2 hs3, sK_43 hs3, sK_45 hs3]
  refine jT_g (by first | exact rfl | exact trivial | exact ⟨trivial, jo_in (by omega) (by omega)⟩ | exact ⟨trivial, by unfold jF0; omega, jo_in (by omega) (by omega)⟩ | exact ⟨rfl, jo_in (by omega) (by omega)⟩ | exact ⟨rfl, by unfold jF0; omega, jo_in (by omega) (by omega)⟩ | decide) ?_
  refine jset (S := fun a _ => a = 45 ∨ a = 46 ∨ a = 47) hs3 f3 45 4 (by first | exact rfl | exact trivial | exact ⟨trivial, jo_in (by omega) (by omega)⟩ | exact ⟨trivial, by unfold jF0; omega, jo_in (by omega) (by omega)⟩ | exact ⟨rfl, jo_in (by omega) (by omega)⟩ | exact ⟨rfl, by unfold jF0; omega, jo_in (by omega) (by omega)⟩ | decide) rfl rfl (by decide) (Or.inl rfl) fun H4 hs4 f4 v4 o4 => ?_
  have n43 : ¬ (fun (a : Nat) (_ : Nat) => a = 45 ∨ a = 46 ∨ a = 47) 43 1 := fun h => by
    rcases h with h | h | h <;> exact absurd (show (43 : Nat) = _ from h) (by decide)
  have ep : (Int32.ofNat sz + 8) / 64 + 1 = Int32.ofNat parts := by
    have e1 : Int32.ofNat sz + 8 = Int32.ofNat (sz + 8) := jo_add (a := sz) (b := 8)
    have e2 : Int32.ofNat (sz + 8) / 64 = Int32.ofNat ((sz + 8) / 64) := jo_div (a := sz + 8) (b := 64) (by omega) (by omega)
    have e3 : Int32.ofNat ((sz + 8) / 64) + 1 = Int32.ofNat ((sz + 8) / 64 + 1) := jo_add (a := (sz + 8) / 64) (b := 1)
    rw [e1, e2, e3, hpa]
  refine jT_g (by rw [sK_43 hs4]) (jT_g (by decide) (jT_l ?_))
  rw [(jfr_I f4 n43).trans hsz, ep]
  refine z3_55 hl hp2 hkd hsz hbs hk parts 0 jfuel H4 (by omega) (by unfold jfuel; omega) hs4 f4 fun j hj => ?_
  rcases (show j = 0 ∨ j = 1 ∨ j = 2 ∨ j = 3 ∨ j = 4 by omega) with rfl | rfl | rfl | rfl | rfl
  · rw [o4 45 0 (by decide), o3 45 0 (by decide), o2 45 0 (by decide), o1 45 0 (by decide), v0]; rfl
  · rw [o4 45 1 (by decide), o3 45 1 (by decide), o2 45 1 (by decide), v1]; rfl
  · rw [o4 45 2 (by decide), o3 45 2 (by decide), v2]; rfl
  · rw [o4 45 3 (by decide), v3]; rfl
  · rw [v4]; rfl
end RIPE2
