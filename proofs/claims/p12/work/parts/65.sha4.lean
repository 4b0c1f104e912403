section SHA
variable {N : Nat}
/-- a word of four bytes, the highest first -/
def z4 (bs : Nat → UInt8) (i : Nat) : Int32 := ((jshl (jbs (bs i)) 24 ||| jshl (jbs (bs (i + 1)) &&& 255) 16) ||| jshl (jbs (bs (i + 2)) &&& 255) 8) ||| (jbs (bs (i + 3)) &&& 255)
/-- the words of a part; the last part's last word is the number of bits -/
def zM (bs : Nat → UInt8) (n parts p j : Nat) : Int32 := if j = 15 ∧ p + 1 = parts then 8 * Int32.ofNat n else z4 bs (64 * p + 4 * j)
theorem zW_lt {M : Nat → Int32} {i : Nat} (h : i < 16) : zW M i = M i := by
  unfold zW
  rw [if_pos h]
set_option maxHeartbeats 1000000 in
theorem z3_37 {Q : Unit → jH → Prop} (k29 : Nat → Nat → Int32 → Int32 → jH → Option (Unit × jH)) (a1 : Nat) (bs : Nat → UInt8) (sz parts p : Nat) (hp : p < parts) (hp2 : 64 * parts ≤ 2560) (H0 : jH) (hsz : jI H0 43 1 = Int32.ofNat sz) (hbs : ∀ i, i < 64 * parts → jB H0 44 i = bs i)
    (hk : ∀ H', jsp N H' → jfr (fun a _ => a = 45 ∨ a = 46) H0 H' → zat H' 45 = zadd (zat H0 45) (zrun (zM bs sz parts p) (zat H0 45) 64) → jT (k29 43 a1 (Int32.ofNat parts) (Int32.ofNat p + 1) H') Q) :
    ∀ (d j n : Nat) (H : jH), j + d = 16 → d < n → jsp N H → jfr (fun a _ => a = 46) H0 H → (∀ i, i < j → jI H 46 i = z4 bs (64 * p + 4 * i)) → jT (F_3_digest_37 k29 n 43 a1 (Int32.ofNat parts) (Int32.ofNat p) (Int32.ofNat j) H) Q := by
  intro d
  induction d with
  | zero =>
    intro j n H hi hn hs hf hw
    obtain rfl : j = 16 := by omega
    obtain ⟨n, rfl⟩ : ∃ k, n = k + 1 := ⟨n - 1, by omega⟩
    unfold F_3_digest_37 B_3_digest_37
    refine jT_pos (by decide) ?_
    have e1 : Int32.ofNat parts - 1 = Int32.ofNat (parts - 1) := jo_sub (a := parts) (b := 1) (by omega)
    have key : ∀ H', jsp N H' → jfr (fun a _ => a = 46) H0 H' → (∀ i, i < 16 → jI H' 46 i = zM bs sz parts p i) → jT (B_3_digest_161 k29 43 a1 (Int32.ofNat parts) (Int32.ofNat p) H') Q := by
      intro H' hs' hf' hw'
      unfold B_3_digest_161
      exact z3_165 k29 a1 _ _ (zM bs sz parts p) H0 hk 48 16 jfuel H' rfl (by omega) (by unfold jfuel; omega) hs' hf' fun i hi => by rw [hw' i hi, zW_lt hi]
    refine jT_if (fun hne => ?_) (fun heq => ?_)
    · rw [e1, jo_eq (by omega) (by omega)] at hne
      refine key H hs hf fun i hi => ?_
      rw [hw i hi]
      unfold zM
      rw [if_neg (by omega)]
    · have heq2 : p = parts - 1 := by
        have := Classical.not_not.mp heq
        rw [e1, jo_eq (by omega) (by omega)] at this
        exact this
      rw [sR_43_3 hs, sK_43 hs, sK_46 hs]
      refine jT_g rfl (jT_g rfl (jT_g ⟨rfl, by unfold jF0; omega, by decide⟩ (jT_l ?_)))
      have e2 : jI H 43 1 = Int32.ofNat sz := ((hf.2.2.2 43 1 (fun h : (43 : Nat) = 46 => absurd h (by decide))).1).trans hsz
      rw [e2]
      refine key _ (jsh_sI hs (by omega)) (jfr_sI hf rfl) fun i hi => ?_
      have e15 : (15 : Int32).toNatClampNeg = 15 := rfl
      rw [e15]
      by_cases h15 : i = 15
      · subst h15
        rw [jI_sIe]
        unfold zM
        rw [if_pos ⟨rfl, by omega⟩]
      · rw [jI_sIn h15, hw i hi]
        unfold zM
        rw [if_neg (by omega)]
  | succ d ih =>
    intro j n H hi hn hs hf hw
    obtain ⟨n, rfl⟩ : ∃ k, n = k + 1 := ⟨n - 1, by omega⟩
    unfold F_3_digest_37 B_3_digest_37
    have e : (16 : Int32) = Int32.ofNat 16 := rfl
    refine jT_neg (by rw [e, jo_le (by omega) (by omega)]; omega) (jT_l ?_)
    have ea : 64 * Int32.ofNat p + 4 * Int32.ofNat j = Int32.ofNat (64 * p + 4 * j) := by
      rw [show (64 : Int32) = Int32.ofNat 64 from rfl, show (4 : Int32) = Int32.ofNat 4 from rfl, jo_mul, jo_mul, jo_add]
    rw [ea]
    generalize hx : 64 * p + 4 * j = x at *
    have hxl : x + 3 < 64 * parts := by omega
    have e3 : Int32.ofNat x + 3 = Int32.ofNat (x + 3) := jo_add (a := x) (b := 3)
    have e2 : Int32.ofNat x + 2 = Int32.ofNat (x + 2) := jo_add (a := x) (b := 2)
    have e1 : Int32.ofNat x + 1 = Int32.ofNat (x + 1) := jo_add (a := x) (b := 1)
    have ej : Int32.ofNat j + 1 = Int32.ofNat (j + 1) := jo_add (a := j) (b := 1)
    have hb : ∀ i, i < 64 * parts → jB H 44 i = bs i := fun i hi => ((hf.2.2.2 44 i (fun h : (44 : Nat) = 46 => absurd h (by decide))).2.2.2).trans (hbs i hi)
    rw [e3, e2, e1, sR_43_0 hs, sR_43_3 hs, sK_43 hs, sK_44 hs, jo_nat (n := x) (by omega), jo_nat (n := x + 1) (by omega), jo_nat (n := x + 2) (by omega), jo_nat (n := x + 3) (by omega), hb x (by omega), hb (x + 1) (by omega), hb (x + 2) (by omega), hb (x + 3) (by omega)]
    refine jT_g rfl (jT_pos (by rw [show (2560 : Int32) = Int32.ofNat 2560 from rfl, jo_lt (by omega) (by omega)]; omega) ?_)
    refine jT_g rfl (jT_g ⟨rfl, jo_in (by omega) (by omega)⟩ (jT_g rfl (jT_g ⟨rfl, jo_in (by omega) (by omega)⟩ (jT_g rfl (jT_g ⟨rfl, jo_in (by omega) (by omega)⟩ (jT_g rfl (jT_g ⟨rfl, jo_in (by omega) (by omega)⟩ ?_)))))))
    unfold B_3_digest_133
    rw [sK_46 hs, jo_nat (n := j) (by omega), ej]
    refine jT_g ⟨rfl, by unfold jF0; omega, jo_in (by omega) (by omega)⟩ (jT_l (jT_l ?_))
    refine ih (j + 1) n _ (by omega) (by omega) (jsh_sI hs (by omega)) (jfr_sI hf rfl) fun i hi => ?_
    by_cases hij : i = j
    · subst hij
      rw [jI_sIe, ← hx]
      rfl
    · rw [jI_sIn hij]
      exact hw i (by omega)
end SHA
