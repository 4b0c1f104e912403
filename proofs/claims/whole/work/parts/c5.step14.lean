/-! The reference's scripts: a step that asks for signatures. -/
section ST14
variable {tb lk scr : List UInt8} {y : w_y} {inp : Nat} {S : w_S4} {lf : Nat} {Hs H : jH} {α : Type} {Q : α → jH → Prop} {fit : List UInt8 → List UInt8 → Bool} {c : Nat}
theorem w_oper15 {k : Unit → jH → Option (α × jH)} (hc : 170 < c) (hc2 : c < 256) (hfit : ∀ sg ky, fit sg ky = true ↔ w_fit tb y inp lk sg ky) (h : w_U tb y inp lk scr S lf Hs H) (hb : S.1.length + S.2.1.length ≤ 60) (hops : S.2.2.1 ≤ 100)
    (hk1 : ∀ a st' lf' H', w_ask c S.2.2.1 S.1 = some a → w_an fit a.1 a.2.1 (w_must c) a.2.2.1 S.1 lf = some (st', lf') → w_U tb y inp lk scr (st', S.2.1, a.2.2.2, S.2.2.2) lf' Hs H' → jT (k () H') Q)
    (hk0 : ∀ H', (w_ask c S.2.2.1 S.1 = none ∨ ∃ a, w_ask c S.2.2.1 S.1 = some a ∧ w_an fit a.1 a.2.1 (w_must c) a.2.2.1 S.1 lf = none) → w_V tb y inp lk Hs H' → jT (k () H') Q) : jT (jb (F_14_operation 437 (Int32.ofNat c) H) k) Q := by
  have E : ∀ m : Nat, m < 256 → (Int32.ofNat c = Int32.ofNat m ↔ c = m) := fun m hm => w_cf14 hc2 hm
  have L : ∀ m : Nat, m < 256 → (Int32.ofNat c < Int32.ofNat m ↔ c < m) := fun m hm => jo_lt (by omega) (by omega)
  have G : ∀ m : Nat, m < 256 → (Int32.ofNat m < Int32.ofNat c ↔ m < c) := fun m hm => jo_lt (by omega) (by omega)
  have L2 : ∀ m : Nat, m < 256 → (Int32.ofNat c ≤ Int32.ofNat m ↔ c ≤ m) := fun m hm => jo_le (by omega) (by omega)
  have ne : ∀ m : Nat, m < 256 → c ≠ m → ¬ Int32.ofNat c = Int32.ofNat m := fun m hm q w => q ((E m hm).mp w)
  unfold F_14_operation B_14_operation_12 B_14_operation_96 B_14_operation_132 B_14_operation_161
  refine jT_b (jT_neg (fun w => absurd ((L 107 (by decide)).mp w) (by omega)) (jT_neg (fun w => absurd ((L2 125 (by decide)).mp w) (by omega)) (jT_pos (ne 130 (by decide) (by omega)) (jT_neg (ne 135 (by decide) (by omega)) (jT_pos (ne 136 (by decide) (by omega)) (jT_neg (ne 139 (by decide) (by omega)) (jT_neg (ne 140 (by decide) (by omega)) (jT_neg (fun w => absurd ((L 143 (by decide)).mp w) (by omega)) (jT_pos ((G 146 (by decide)).mpr (by omega)) ?_)))))))))
  refine jT_neg (ne 147 (by decide) (by omega)) (jT_neg (ne 148 (by decide) (by omega)) (jT_neg (fun w => absurd ((L 154 (by decide)).mp w) (by omega)) (jT_pos ((G 165 (by decide)).mpr (by omega)) ?_)))
  refine jT_neg (ne 166 (by decide) (by omega)) (jT_neg (fun w => absurd ((L 168 (by decide)).mp w) (by omega)) (jT_pos ((G 170 (by decide)).mpr (by omega)) ?_))
  by_cases c1 : c = 172 ∨ c = 173
  · have ea : w_ask c S.2.2.1 S.1 = if 2 ≤ S.1.length then some (w_ops S.1 1 1, w_ops S.1 2 1, 2, S.2.2.1) else none := by
      unfold w_ask
      rw [if_neg (by omega), if_pos (by omega)]
    have fin : ∀ x : Int32, x = (if w_must c = true then 1 else 0) → jT (B_14_operation_188 437 x H) (fun x h => jT (k x h) Q) := fun x ex => by
      unfold B_14_operation_188 B_14_operation_266
      refine jT_g (w_Uk h) (w_one15 (w_must c) ex hfit h hb (fun hl st' lf' H' e h' => jT_ret (hk1 _ st' lf' H' (by rw [ea, if_pos hl]) e h')) fun e H' hy => jT_ret (hk0 H' ?_ hy))
      by_cases q : 2 ≤ S.1.length
      · refine Or.inr ⟨_, by rw [ea, if_pos q], ?_⟩
        exact e.resolve_left (by omega)
      · exact Or.inl (by rw [ea, if_neg q])
    unfold B_14_operation_175
    rcases c1 with rfl | rfl
    · exact jT_pos rfl (jT_pos (by decide) (fin 0 rfl))
    · exact jT_neg (by decide) (jT_neg (by decide) (jT_neg (by decide) (fin 1 rfl)))
  refine jT_neg (ne 172 (by decide) (by omega)) (jT_pos (ne 173 (by decide) (by omega)) ?_)
  by_cases c2 : c = 174 ∨ c = 175
  · have fin : ∀ x : Int32, x = (if w_must c = true then 1 else 0) → jT (B_14_operation_221 437 x H) (fun x h => jT (k x h) Q) := fun x ex => by
      unfold B_14_operation_221 B_14_operation_266
      exact jT_g (w_Uk h) (w_sev15 (w_must c) ex c2 hfit h hb hops (fun a st' lf' H' e1 e2 h' => jT_ret (hk1 a st' lf' H' e1 e2 h')) fun H' e hy => jT_ret (hk0 H' e hy))
    unfold B_14_operation_208
    rcases c2 with rfl | rfl
    · exact jT_pos rfl (jT_pos (by decide) (fin 0 rfl))
    · exact jT_neg (by decide) (jT_neg (by decide) (jT_neg (by decide) (fin 1 rfl)))
  have ea : w_ask c S.2.2.1 S.1 = none := by
    unfold w_ask
    rw [if_pos (by omega)]
  unfold B_14_operation_266
  exact jT_neg (ne 174 (by decide) (by omega)) (jT_pos (ne 175 (by decide) (by omega)) (jT_pos (ne 105 (by decide) (by omega)) (jT_pos (ne 106 (by decide) (by omega)) (jT_neg (ne 97 (by decide) (by omega)) (jT_g (w_Uk h) (w_fails (n := 4) h.1 rfl (by decide) (by decide) fun H' hy => jT_ret (hk0 H' (Or.inl ea) (w_U_Y h hy))))))))
theorem w_step15 {k : Int32 → jH → Option (α × jH)} {at_ : Nat} (hat : at_ < scr.length) (h170 : 170 < (scr.getD at_ 0).toNat) (hall : w_all S.2.2.2 = true) (hfit : ∀ sg ky, fit sg ky = true ↔ w_fit tb y inp lk sg ky) (h : w_U tb y inp lk scr S lf Hs H) (hb : S.1.length + S.2.1.length ≤ 60) (hops : S.2.2.1 ≤ 100)
    (hk1 : S.2.2.1 + 1 ≤ 100 → ∀ S' lf' H', w_sg1 fit (scr.getD at_ 0).toNat S lf = some (S', lf') → w_U tb y inp lk scr S' lf' Hs H' → jT (k (Int32.ofNat (at_ + 1)) H') Q)
    (hk0 : (100 < S.2.2.1 + 1 ∨ w_sg1 fit (scr.getD at_ 0).toNat S lf = none) → ∀ H', w_V tb y inp lk Hs H' → jT (k (Int32.ofNat (at_ + 1)) H') Q) : jT (jb (F_14_next 437 (Int32.ofNat at_) H) k) Q := by
  have l200 := h.1.2.2.2.2.2.1
  have hc2 : (scr.getD at_ 0).toNat < 256 := (scr.getD at_ 0).toNat_lt
  have e7 := h.1.2.1.2.2.2.2.1
  have e1 : Int32.ofNat S.2.2.1 + 1 = Int32.ofNat (S.2.2.1 + 1) := jo_add (a := S.2.2.1) (b := 1)
  unfold F_14_next
  rw [sR_437_4 h.1.1.1, jo_nat (n := at_) (by omega), w_scr h.1 hat, z14_isDone h.1, if_pos hall]
  generalize (scr.getD at_ 0).toNat = c at *
  have E : ∀ m : Nat, m < 256 → (Int32.ofNat c = Int32.ofNat m ↔ c = m) := fun m hm => w_cf14 hc2 hm
  have L2 : ∀ m : Nat, m < 256 → (Int32.ofNat c ≤ Int32.ofNat m ↔ c ≤ m) := fun m hm => jo_le (by omega) (by omega)
  have G2 : ∀ m : Nat, m < 256 → (Int32.ofNat m ≤ Int32.ofNat c ↔ m ≤ c) := fun m hm => jo_le (by omega) (by omega)
  have ne : ∀ m : Nat, m < 256 → c ≠ m → ¬ Int32.ofNat c = Int32.ofNat m := fun m hm q w => q ((E m hm).mp w)
  refine jT_b (jT_g (w_Uk h) (jT_g (gA (sK_440 h.1.1.1) (jo_in (by omega) (by omega))) (jT_l (jT_g (w_Uk h) ?_))))
  rw [jb_ok, e7, e1]
  refine jT_pos ((G2 78 (by decide)).mpr (by omega)) (jT_neg (fun w => absurd ((L2 96 (by decide)).mp w) (by omega)) (jT_g (w_Uk h) ?_))
  have h' := w_U_Z h (w_Z_7 (n := S.2.2.1 + 1) h.1 (by omega))
  have e7' : jI (jsI H 437 7 (Int32.ofNat (S.2.2.1 + 1))) 437 7 = Int32.ofNat (S.2.2.1 + 1) := jI_sIe
  unfold B_14_next_134
  refine jT_g (w_Uk h) (jT_l ?_)
  generalize jsI H 437 7 (Int32.ofNat (S.2.2.1 + 1)) = H1 at *
  rw [e7']
  refine jT_g (w_Uk h') ?_
  by_cases c1 : S.2.2.1 + 1 ≤ 100
  rotate_left
  · exact jT_neg (by rw [show (100 : Int32) = Int32.ofNat 100 from rfl, jo_le (by omega) (by omega)]; exact c1) (jT_g (w_Uk h') (w_fails (n := 3) h'.1 rfl (by decide) (by decide) fun H2 hy => w_n261 (hk0 (Or.inl (by omega)) H2 (w_U_Y h' hy))))
  refine jT_pos (by rw [show (100 : Int32) = Int32.ofNat 100 from rfl, jo_le (by omega) (by omega)]; exact c1) (jT_neg (ne 99 (by decide) (by omega)) (jT_neg (ne 100 (by decide) (by omega)) (jT_neg (ne 103 (by decide) (by omega)) (jT_pos (ne 104 (by decide) (by omega)) (jT_neg (by decide) (jT_pos (ne 79 (by decide) (by omega)) ?_))))))
  unfold B_14_next_206 B_14_next_234 B_14_next_252
  refine jT_neg (by decide) (jT_neg (fun w => absurd ((L2 80 (by decide)).mp w) (by omega)) (jT_pos ((G2 97 (by decide)).mpr (by omega)) (jT_neg (by decide) (jT_pos ((G2 97 (by decide)).mpr (by omega)) (jT_neg (by decide) (jT_g (w_Uk h') (w_oper15 h170 hc2 hfit h' hb c1 (fun a st' lf' H2 ea en h2 => w_n261 (hk1 c1 _ lf' H2 ?_ h2)) fun H2 e hy => w_n261 (hk0 (Or.inr ?_) H2 hy))))))))
  · unfold w_sg1
    have ea' : w_ask c (S.2.2.1 + 1) S.1 = some a := ea
    have en' : w_an fit a.1 a.2.1 (w_must c) a.2.2.1 S.1 lf = some (st', lf') := en
    rw [ea']
    show (w_an fit a.1 a.2.1 (w_must c) a.2.2.1 S.1 lf).map _ = _
    rw [en']
    rfl
  · unfold w_sg1
    rcases e with e | ⟨a, ea, en⟩
    · have e' : w_ask c (S.2.2.1 + 1) S.1 = none := e
      rw [e']
    · have ea' : w_ask c (S.2.2.1 + 1) S.1 = some a := ea
      have en' : w_an fit a.1 a.2.1 (w_must c) a.2.2.1 S.1 lf = none := en
      rw [ea']
      show (w_an fit a.1 a.2.1 (w_must c) a.2.2.1 S.1 lf).map _ = _
      rw [en']
      rfl
theorem w_run_s {scr : List UInt8} {f at_ left : Nat} : w_run fit scr (f + 1) at_ S left = if scr.length ≤ at_ then (if S.2.2.2.length = 0 then some (S.1, left) else none) else if 170 < (scr.getD at_ 0).toNat ∧ w_all S.2.2.2 = true then (if 100 < S.2.2.1 + 1 then none else (w_sg1 fit (scr.getD at_ 0).toNat S left).bind fun q => w_run fit scr f (at_ + 1) q.1 q.2) else match w_on1 scr at_ (scr.getD at_ 0).toNat S with
      | none => none
      | some q => if 60 < q.2.1.length + q.2.2.1.length then none else w_run fit scr f q.1 q.2 left := by
  rw [w_run]
  by_cases c1 : scr.length ≤ at_
  · rw [if_pos c1, if_pos c1]
  · rw [if_neg c1, if_neg c1]
    by_cases c2 : 170 < (scr.getD at_ 0).toNat ∧ w_all S.2.2.2 = true
    · rw [if_pos c2, if_pos c2]
      by_cases c3 : 100 < S.2.2.1 + 1
      · rw [if_pos c3, if_pos c3]
      · rw [if_neg c3, if_neg c3]
        unfold w_sg1
        cases ha : w_ask (scr.getD at_ 0).toNat (S.2.2.1 + 1) S.1 with
        | none => rfl
        | some a =>
          show w_ans fit a.1 a.2.1 _ a.2.2.1 S.1 left _ = ((w_an fit a.1 a.2.1 _ a.2.2.1 S.1 left).map _).bind _
          rw [w_ans_an]
          cases w_an fit a.1 a.2.1 (w_must (scr.getD at_ 0).toNat) a.2.2.1 S.1 left with
          | none => rfl
          | some q => rfl
    · rw [if_neg c2, if_neg c2]
      rfl
end ST14
