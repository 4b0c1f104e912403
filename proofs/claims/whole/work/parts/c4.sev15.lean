/-! The reference's scripts: several signatures, and the step that asks. -/
def w_sg1 (fit : List UInt8 → List UInt8 → Bool) (c : Nat) (S : w_S4) (left : Nat) : Option (w_S4 × Nat) :=
  match w_ask c (S.2.2.1 + 1) S.1 with
  | none => none
  | some a => (w_an fit a.1 a.2.1 (w_must c) a.2.2.1 S.1 left).map fun q => ((q.1, S.2.1, a.2.2.2, S.2.2.2), q.2)
section SEV15
variable {tb lk scr : List UInt8} {y : w_y} {inp : Nat} {S : w_S4} {lf : Nat} {Hs H : jH} {α : Type} {Q : α → jH → Prop} {fit : List UInt8 → List UInt8 → Bool} {c : Nat}
theorem w_askS {ops : Nat} {st : w_R} (hc : c = 174 ∨ c = 175) : w_ask c ops st = if st.length < 1 then none else match w_ix (w_tp st 1) 9 with
    | none => none
    | some n => if 100 < ops + n ∨ st.length < n + 2 then none
      else match w_ix (w_tp st (n + 2)) (n + 1) with
        | none => none
        | some m => if st.length < n + m + 3 then none else some (w_ops st 2 n, w_ops st (n + 3) m, n + m + 3, ops + n) := by
  unfold w_ask
  rw [if_neg (by omega), if_neg (by omega)]
  rfl
theorem w_sev15 {k : Unit → jH → Option (α × jH)} {a1 : Int32} (must : Bool) (em : a1 = if must = true then 1 else 0) (hc : c = 174 ∨ c = 175) (hfit : ∀ sg ky, fit sg ky = true ↔ w_fit tb y inp lk sg ky) (h : w_U tb y inp lk scr S lf Hs H) (hb : S.1.length + S.2.1.length ≤ 60) (hops : S.2.2.1 ≤ 100)
    (hk1 : ∀ a st' lf' H', w_ask c S.2.2.1 S.1 = some a → w_an fit a.1 a.2.1 must a.2.2.1 S.1 lf = some (st', lf') → w_U tb y inp lk scr (st', S.2.1, a.2.2.2, S.2.2.2) lf' Hs H' → jT (k () H') Q)
    (hk0 : ∀ H', (w_ask c S.2.2.1 S.1 = none ∨ ∃ a, w_ask c S.2.2.1 S.1 = some a ∧ w_an fit a.1 a.2.1 must a.2.2.1 S.1 lf = none) → w_V tb y inp lk Hs H' → jT (k () H') Q) : jT (jb (F_14_several 437 a1 H) k) Q := by
  have ea := w_askS (ops := S.2.2.1) (st := S.1) hc
  have e0 : (0 : Int64).toInt = 0 := rfl
  unfold F_14_several B_14_several_29 B_14_several_87 B_14_several_107
  refine jT_b (jT_g (w_Uk h) (w_reads14 (n := 0) h.1 rfl (by decide) (fun q1 q2 H1 h1 e11 => ?_) fun q H1 hy => jT_neg (fun w => w rfl) (jT_ret (hk0 H1 (Or.inl ?_) (w_U_Y h hy)))))
  rotate_left
  · by_cases c1 : 1 ≤ S.1.length
    · have : w_ix (w_tp S.1 1) 9 = none := w_ix_none.mpr fun w => q ⟨c1, w.1⟩
      rw [ea, if_neg (by omega), this]
    · rw [ea, if_pos (by omega)]
  have q1' : 1 ≤ S.1.length := q1
  rw [if_neg (by omega)] at ea
  have h1 := w_U_Z h h1
  rw [e11]
  refine jT_pos (by decide) (jT_g (w_Uk h1) ?_)
  have no1 : ¬ (0 ≤ (zno (w_tp S.1 1)).toInt ∧ (zno (w_tp S.1 1)).toInt < 9) → w_ask c S.2.2.1 S.1 = none := fun q => by
    have : w_ix (w_tp S.1 1) 9 = none := w_ix_none.mpr fun w => q ⟨w.2.1, w.2.2⟩
    rw [ea, this]
  by_cases c1 : zno (w_tp S.1 1) < 0
  · refine jT_pos c1 (jT_g (w_Uk h1) (w_fails (n := 7) h1.1 rfl (by decide) (by decide) fun H2 hy => jT_ret (hk0 H2 (Or.inl (no1 fun w => ?_)) (w_U_Y h1 hy))))
    rw [Int64.lt_iff_toInt_lt] at c1
    omega
  refine jT_neg c1 (jT_g (w_Uk h1) ?_)
  have p0 : 0 ≤ (zno (w_tp S.1 1)).toInt := by
    rw [Int64.lt_iff_toInt_lt] at c1
    omega
  have e8 : (zno (w_tp S.1 1) ≤ 8) ↔ (zno (w_tp S.1 1)).toInt < 9 := by
    rw [Int64.le_iff_toInt_le]
    have : (8 : Int64).toInt = 8 := rfl
    omega
  by_cases c2 : zno (w_tp S.1 1) ≤ 8
  rotate_left
  · exact jT_neg c2 (jT_g (w_Uk h1) (w_fails (n := 7) h1.1 rfl (by decide) (by decide) fun H2 hy => jT_ret (hk0 H2 (Or.inl (no1 fun w => c2 (e8.mpr w.2))) (w_U_Y h1 hy))))
  have c2' := e8.mp c2
  obtain ⟨n, hn⟩ : ∃ n, n = (zno (w_tp S.1 1)).toInt.toNat := ⟨_, rfl⟩
  have eix : w_ix (w_tp S.1 1) 9 = some n := w_ix_some.mpr ⟨q2, p0, c2', hn.symm⟩
  have hn8 : n ≤ 8 := by omega
  have ex : Int64.toInt32 (zno (w_tp S.1 1)) = Int32.ofNat n := by rw [lo_ix (n := 9) (by decide) p0 c2', hn]
  rw [eix] at ea
  have e7 := h1.1.2.1.2.2.2.2.1
  have e7' : jI (jsI H1 437 7 (Int32.ofNat (S.2.2.1 + n))) 437 7 = Int32.ofNat (S.2.2.1 + n) := jI_sIe
  have h2 := w_U_Z h1 (w_Z_7 (n := S.2.2.1 + n) h1.1 (by omega))
  rw [ex, e7]
  refine jT_pos c2 (jT_g (w_Uk h1) (jT_l (jT_g (w_Uk h1) (jT_g (w_Uk h1) ?_))))
  rw [jo_add]
  refine jT_l ?_
  generalize jsI H1 437 7 (Int32.ofNat (S.2.2.1 + n)) = H2 at *
  rw [e7']
  refine jT_g (w_Uk h2) ?_
  by_cases c3 : S.2.2.1 + n ≤ 100
  rotate_left
  · refine jT_neg (by rw [show (100 : Int32) = Int32.ofNat 100 from rfl, jo_le (by omega) (by omega)]; exact c3) (jT_g (w_Uk h2) (w_fails (n := 3) h2.1 rfl (by decide) (by decide) fun H3 hy => jT_ret (hk0 H3 (Or.inl ?_) (w_U_Y h2 hy))))
    rw [ea]
    exact if_pos (Or.inl (by omega))
  have en1 : Int32.ofNat n + 1 = Int32.ofNat (n + 1) := jo_add (a := n) (b := 1)
  rw [en1]
  refine jT_pos (by rw [show (100 : Int32) = Int32.ofNat 100 from rfl, jo_le (by omega) (by omega)]; exact c3) (jT_g (w_Uk h2) (w_has14 (n := n + 1) h2.1 rfl (by omega) (fun hl => ?_) fun hl H3 hy => ?_))
  rotate_left
  · refine jT_pos rfl (jT_ret (hk0 H3 (Or.inl ?_) (w_U_Y h2 hy)))
    rw [ea]
    have hl' : S.1.length < n + 1 := hl
    exact if_pos (Or.inr (by omega))
  refine jT_neg (by decide) (jT_g (w_Uk h2) (w_reads14 (n := n + 1) h2.1 rfl (by omega) (fun q3 q4 H3 h3 e33 => ?_) fun q H3 hy => ?_))
  rotate_left
  · refine jT_neg (fun w => w rfl) (jT_ret (hk0 H3 (Or.inl ?_) (w_U_Y h2 hy)))
    by_cases w : S.1.length < n + 2
    · rw [ea]
      exact if_pos (Or.inr w)
    · have : w_ix (w_tp S.1 (n + 2)) (n + 1) = none := w_ix_none.mpr fun z => q ⟨by show n + 1 + 1 ≤ S.1.length; omega, z.1⟩
      rw [ea]
      show (if 100 < S.2.2.1 + n ∨ S.1.length < n + 2 then none else _) = none
      rw [if_neg (by omega), this]
  have q3' : n + 2 ≤ S.1.length := q3
  have q4' : (w_tp S.1 (n + 2)).length ≤ 4 := q4
  have ea2 : w_ask c S.2.2.1 S.1 = match w_ix (w_tp S.1 (n + 2)) (n + 1) with
        | none => none
        | some m => if S.1.length < n + m + 3 then none else some (w_ops S.1 2 n, w_ops S.1 (n + 3) m, n + m + 3, S.2.2.1 + n) := ea.trans (if_neg (by omega))
  have h3 := w_U_Z h2 h3
  have e33' : jL H3 437 11 = zno (w_tp S.1 (n + 2)) := e33
  rw [e33']
  refine jT_pos (by decide) (jT_g (w_Uk h3) ?_)
  have no2 : ¬ (0 ≤ (zno (w_tp S.1 (n + 2))).toInt ∧ (zno (w_tp S.1 (n + 2))).toInt < ((n + 1 : Nat) : Int)) → w_ask c S.2.2.1 S.1 = none := fun q => by
    have : w_ix (w_tp S.1 (n + 2)) (n + 1) = none := w_ix_none.mpr fun w => q ⟨w.2.1, w.2.2⟩
    rw [ea2, this]
  by_cases d1 : zno (w_tp S.1 (n + 2)) < 0
  · refine jT_pos d1 (jT_g (w_Uk h3) (w_fails (n := 7) h3.1 rfl (by decide) (by decide) fun H4 hy => jT_ret (hk0 H4 (Or.inl (no2 fun w => ?_)) (w_U_Y h3 hy))))
    rw [Int64.lt_iff_toInt_lt] at d1
    omega
  have p1 : 0 ≤ (zno (w_tp S.1 (n + 2))).toInt := by
    rw [Int64.lt_iff_toInt_lt] at d1
    omega
  have en : (zno (w_tp S.1 (n + 2)) ≤ Int32.toInt64 (Int32.ofNat n)) ↔ (zno (w_tp S.1 (n + 2))).toInt < ((n + 1 : Nat) : Int) := by
    rw [lo_of (by omega), Int64.le_iff_toInt_le, lo_i (by omega)]
    omega
  refine jT_neg d1 (jT_g (w_Uk h3) ?_)
  by_cases d2 : zno (w_tp S.1 (n + 2)) ≤ Int32.toInt64 (Int32.ofNat n)
  rotate_left
  · exact jT_neg d2 (jT_g (w_Uk h3) (w_fails (n := 7) h3.1 rfl (by decide) (by decide) fun H4 hy => jT_ret (hk0 H4 (Or.inl (no2 fun w => d2 (en.mpr w.2))) (w_U_Y h3 hy))))
  have d2' := en.mp d2
  obtain ⟨m, hm⟩ : ∃ m, m = (zno (w_tp S.1 (n + 2))).toInt.toNat := ⟨_, rfl⟩
  have eix2 : w_ix (w_tp S.1 (n + 2)) (n + 1) = some m := w_ix_some.mpr ⟨q4', p1, d2', hm.symm⟩
  have hm8 : m ≤ n := by omega
  have ex2 : Int64.toInt32 (zno (w_tp S.1 (n + 2))) = Int32.ofNat m := by rw [lo_ix (n := n + 1) (by omega) p1 d2', hm]
  rw [eix2] at ea2
  have es : Int32.ofNat n + Int32.ofNat m + 3 = Int32.ofNat (n + m + 3) := by rw [show (3 : Int32) = Int32.ofNat 3 from rfl, jo_add, jo_add]
  rw [ex2]
  refine jT_pos d2 (jT_g (w_Uk h3) (jT_l ?_))
  rw [es]
  refine (jT_g (w_Uk h3) (w_has14 (n := n + m + 3) h3.1 rfl (by omega) (fun hl2 => ?_) fun hl2 H4 hy => ?_))
  rotate_left
  · refine jT_neg (fun w => w rfl) (jT_ret (hk0 H4 (Or.inl ?_) (w_U_Y h3 hy)))
    rw [ea2]
    exact if_pos hl2
  have hl2' : n + m + 3 ≤ S.1.length := hl2
  have ea3 : w_ask c S.2.2.1 S.1 = some (w_ops S.1 2 n, w_ops S.1 (n + 3) m, n + m + 3, S.2.2.1 + n) := ea2.trans (if_neg (by omega))
  refine jT_pos (by decide) (w_sevL (S := (S.1, S.2.1, S.2.2.1 + n, S.2.2.2)) must em hfit hn8 (by omega) hl2' hb n m lf jfuel H3 (Nat.le_refl n) (Nat.le_refl m) (by unfold jfuel; omega) h3 (fun b lf' H4 e hmb h4 => ?_) fun H4 e hy => ?_)
  · have e' : w_mul fit (w_ops S.1 2 n) (w_ops S.1 (n + 3) m) lf = some (b, lf') := by
      have := e
      rw [Nat.sub_self, Nat.sub_self] at this
      exact this
    refine hk1 _ _ lf' H4 ea3 ?_ h4
    unfold w_an
    show (w_mul fit (w_ops S.1 2 n) (w_ops S.1 (n + 3) m) lf).bind _ = _
    rw [e']
    cases must with
    | true =>
      have := hmb rfl
      rw [this]
      rfl
    | false => rfl
  · refine hk0 H4 (Or.inr ⟨_, ea3, ?_⟩) hy
    unfold w_an
    show (w_mul fit (w_ops S.1 2 n) (w_ops S.1 (n + 3) m) lf).bind _ = _
    rw [Nat.sub_self, Nat.sub_self] at e
    rcases e with e | ⟨hmu, lf', e⟩
    · have e' : w_mul fit (w_ops S.1 2 n) (w_ops S.1 (n + 3) m) lf = none := e
      rw [e']
      rfl
    · have e' : w_mul fit (w_ops S.1 2 n) (w_ops S.1 (n + 3) m) lf = some (false, lf') := e
      rw [e', hmu]
      rfl
end SEV15
