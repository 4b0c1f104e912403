/-! The reference's scripts: one step that asks for no signature. -/
section NX15
variable {scr : List UInt8} {S : w_S4} {lf : Nat} {H0 H : jH} {α : Type} {Q : α → jH → Prop} {c : Nat}
theorem w_cf14 {m : Nat} (hc : c < 256) (hm : m < 256) : (Int32.ofNat c = Int32.ofNat m ↔ c = m) := jo_eq (by omega) (by omega)
/-- the place after the code, or a fault -/
theorem w_n261 {k : Int32 → jH → Option (α × jH)} {at_ : Nat} (hk : jT (k (Int32.ofNat (at_ + 1)) H) Q) : jT (B_14_next_261 (Int32.ofNat at_) H) (fun x h => jT (k x h) Q) := by
  unfold B_14_next_261
  rw [show Int32.ofNat at_ + 1 = Int32.ofNat (at_ + 1) from jo_add (a := at_) (b := 1)]
  exact jT_ret hk
/-- codes from 78 on -/
theorem w_n134 {k : Int32 → jH → Option (α × jH)} {at_ n : Nat} {a3 : Int32} (op : Bool) (eo : a3 = if op = true then 1 else 0) (eop : op = w_all S.2.2.2) (hc : 78 ≤ c) (hc2 : c < 256) (h : w_Z scr S lf H0 H) (hb : S.1.length + S.2.1.length ≤ 60) (hn : n ≤ 101) (hpb : S.2.2.2.length < 200) (h170 : c ≤ 170 ∨ op = false)
    (hkf : n ≤ 100 → (c = 99 ∨ c = 100 ∨ c = 103 ∨ c = 104) → ∀ st' pb' H', w_flow c S.1 S.2.2.2 = some (st', pb') → w_Z scr (st', S.2.1, n, pb') lf H0 H' → jT (k (Int32.ofNat (at_ + 1)) H') Q)
    (hkn : n ≤ 100 → ¬ (c = 99 ∨ c = 100 ∨ c = 103 ∨ c = 104) → op = false → ∀ H', w_Z scr (S.1, S.2.1, n, S.2.2.2) lf H0 H' → jT (k (Int32.ofNat (at_ + 1)) H') Q)
    (hko : n ≤ 100 → ¬ (c = 99 ∨ c = 100 ∨ c = 103 ∨ c = 104) → op = true → ∀ st' sd' H', w_op c S.1 S.2.1 = some (st', sd') → w_Z scr (st', sd', n, S.2.2.2) lf H0 H' → jT (k (Int32.ofNat (at_ + 1)) H') Q)
    (hk0 : (100 < n ∨ ((c = 99 ∨ c = 100 ∨ c = 103 ∨ c = 104) ∧ w_flow c S.1 S.2.2.2 = none) ∨ (¬ (c = 99 ∨ c = 100 ∨ c = 103 ∨ c = 104) ∧ op = true ∧ w_op c S.1 S.2.1 = none)) → ∀ H', w_Yf H0 H' → jT (k (Int32.ofNat (at_ + 1)) H') Q) : jT (B_14_next_134 437 (Int32.ofNat at_) (Int32.ofNat c) a3 437 (Int32.ofNat n) H) (fun x h => jT (k x h) Q) := by
  have h' := w_Z_7 (n := n) h (by omega)
  have e7 : jI (jsI H 437 7 (Int32.ofNat n)) 437 7 = Int32.ofNat n := jI_sIe
  unfold B_14_next_134
  refine jT_g (w_Zk h) (jT_l ?_)
  generalize jsI H 437 7 (Int32.ofNat n) = H1 at *
  rw [e7]
  refine jT_g (w_Zk h') ?_
  have E : ∀ m : Nat, m < 256 → (Int32.ofNat c = Int32.ofNat m ↔ c = m) := fun m hm => w_cf14 hc2 hm
  by_cases c1 : n ≤ 100
  rotate_left
  · exact jT_neg (by rw [show (100 : Int32) = Int32.ofNat 100 from rfl, jo_le (by omega) (by omega)]; exact c1) (jT_g (w_Zk h') (w_fails (n := 3) h' rfl (by decide) (by decide) fun H2 hy => w_n261 (hk0 (Or.inl (by omega)) H2 hy)))
  refine jT_pos (by rw [show (100 : Int32) = Int32.ofNat 100 from rfl, jo_le (by omega) (by omega)]; exact c1) ?_
  by_cases c2 : c = 99 ∨ c = 100 ∨ c = 103 ∨ c = 104
  · have go : jT (B_14_next_178 437 (Int32.ofNat at_) (Int32.ofNat c) H1) (fun x h => jT (k x h) Q) := by
      unfold B_14_next_178
      exact jT_g (w_Zk h') (w_flow14 c2 h' hpb (fun st' pb' H2 e h2 => w_n261 (hkf c1 c2 st' pb' H2 e h2)) fun H2 e hy => w_n261 (hk0 (Or.inr (Or.inl ⟨c2, e⟩)) H2 hy))
    rcases c2 with rfl | rfl | rfl | rfl
    · exact jT_pos rfl go
    · exact jT_neg (by decide) (jT_pos rfl go)
    · exact jT_neg (by decide) (jT_neg (by decide) (jT_pos rfl go))
    · exact jT_neg (by decide) (jT_neg (by decide) (jT_neg (by decide) (jT_neg (by decide) go)))
  have p99 : ¬ (Int32.ofNat c = 99) := fun q => c2 (Or.inl ((E 99 (by decide)).mp q))
  have p100 : ¬ (Int32.ofNat c = 100) := fun q => c2 (Or.inr (Or.inl ((E 100 (by decide)).mp q)))
  have p103 : ¬ (Int32.ofNat c = 103) := fun q => c2 (Or.inr (Or.inr (Or.inl ((E 103 (by decide)).mp q))))
  have p104 : ¬ (Int32.ofNat c = 104) := fun q => c2 (Or.inr (Or.inr (Or.inr ((E 104 (by decide)).mp q))))
  refine jT_neg p99 (jT_neg p100 (jT_neg p103 (jT_pos p104 ?_)))
  cases op with
  | false =>
    have e3 : a3 = 0 := eo
    unfold B_14_next_206 B_14_next_234 B_14_next_252
    exact jT_pos e3 (jT_pos e3 (jT_pos e3 (jT_pos e3 (w_n261 (hkn c1 c2 rfl H1 h')))))
  | true =>
    have e3 : ¬ a3 = 0 := by rw [eo]; decide
    have c170 : c ≤ 170 := h170.resolve_right (by decide)
    have l79 : ∀ m, m < 256 → ((Int32.ofNat c ≤ Int32.ofNat m) ↔ c ≤ m) := fun m hm => jo_le (by omega) (by omega)
    have l97 : ((97 : Int32) ≤ Int32.ofNat c) ↔ 97 ≤ c := jo_le (a := 97) (b := c) (by decide) (by omega)
    refine jT_neg e3 ?_
    by_cases c79 : c = 79
    · subst c79
      refine jT_neg (by decide) (jT_g (w_Zk h') (w_num14 (x := -1) (by decide) h' (by show S.1.length < 66; omega) fun H2 h2 => w_n261 (hko c1 c2 rfl _ _ H2 rfl h2)))
    · refine jT_pos (fun q => c79 ((E 79 (by decide)).mp q)) ?_
      unfold B_14_next_206
      refine jT_neg e3 ?_
      have go234 : 97 ≤ c ∨ c = 78 ∨ c = 80 → jT (B_14_next_234 437 (Int32.ofNat at_) (Int32.ofNat c) a3 H1) (fun x h => jT (k x h) Q) := fun hcc => by
        unfold B_14_next_234
        refine jT_neg e3 ?_
        by_cases c97 : 97 ≤ c
        · unfold B_14_next_252
          refine jT_pos (l97.mpr c97) (jT_neg e3 (jT_g (w_Zk h') (w_oper14 c97 c170 h' hb (fun st' sd' H2 e h2 => w_n261 (hko c1 c2 rfl st' sd' H2 e h2)) fun H2 e hy => w_n261 (hk0 (Or.inr (Or.inr ⟨c2, rfl, e⟩)) H2 hy))))
        · refine jT_neg (fun q => c97 (l97.mp q)) (jT_g (w_Zk h') (w_fails (n := 4) h' rfl (by decide) (by decide) fun H2 hy => w_n261 (hk0 (Or.inr (Or.inr ⟨c2, rfl, ?_⟩)) H2 hy)))
          rw [w_op_small (by omega)]
          unfold w_small
          rw [if_neg c79, if_neg (by omega), if_neg (by omega)]
      by_cases c80 : c ≤ 80
      · exact jT_pos ((l79 80 (by decide)).mpr c80) (go234 (by omega))
      · refine jT_neg (fun q => c80 ((l79 80 (by decide)).mp q)) ?_
        by_cases c97 : 97 ≤ c
        · exact jT_pos (l97.mpr c97) (go234 (Or.inl c97))
        · have es : Int32.ofNat c - 80 = Int32.ofNat (c - 80) := jo_sub (a := c) (b := 80) (by omega)
          rw [es, lo_of (by omega)]
          refine jT_neg (fun q => c97 (l97.mp q)) (jT_g (w_Zk h') (w_num14 (x := Int64.ofNat (c - 80)) (lo_ia (by omega)) h' (by show S.1.length < 66; omega) fun H2 h2 => w_n261 (hko c1 c2 rfl _ _ H2 ?_ h2)))
          rw [w_op_small (by omega)]
          unfold w_small
          rw [if_neg c79, if_pos (by omega)]
theorem w_next14 {k : Int32 → jH → Option (α × jH)} {at_ : Nat} (hat : at_ < scr.length) (h170 : (scr.getD at_ 0).toNat ≤ 170 ∨ w_all S.2.2.2 = false) (h : w_Z scr S lf H0 H) (hb : S.1.length + S.2.1.length ≤ 60) (hops : S.2.2.1 ≤ 100) (hpb : S.2.2.2.length < 200) (hk1 : ∀ p S' H', w_on1 scr at_ (scr.getD at_ 0).toNat S = some (p, S') → w_Z scr S' lf H0 H' → jT (k (Int32.ofNat p) H') Q) (hk0 : ∀ x H', w_on1 scr at_ (scr.getD at_ 0).toNat S = none → w_Yf H0 H' → jT (k x H') Q) : jT (jb (F_14_next 437 (Int32.ofNat at_) H) k) Q := by
  have l200 := h.2.2.2.2.2.1
  have hc2 : (scr.getD at_ 0).toNat < 256 := (scr.getD at_ 0).toNat_lt
  have e7 := h.2.1.2.2.2.2.1
  unfold F_14_next
  rw [sR_437_4 h.1.1, jo_nat (n := at_) (by omega), w_scr h hat, z14_isDone h]
  generalize (scr.getD at_ 0).toNat = c at *
  refine jT_b (jT_g (w_Zk h) (jT_g (gA (sK_440 h.1.1) (jo_in (by omega) (by omega))) (jT_l (jT_g (w_Zk h) ?_))))
  rw [jb_ok, e7]
  by_cases c78 : 78 ≤ c
  · have main : ∀ n, n = (if 96 < c then S.2.2.1 + 1 else S.2.2.1) → jT (B_14_next_134 437 (Int32.ofNat at_) (Int32.ofNat c) (if w_all S.2.2.2 = true then 1 else 0) 437 (Int32.ofNat n) H) (fun x h => jT (k x h) Q) := fun n en => by
      have hn : n ≤ 101 := by rw [en]; split <;> omega
      have eon : w_on1 scr at_ c S = if 100 < n then none else if w_isF c = true then (w_flow c S.1 S.2.2.2).map fun q => (at_ + 1, q.1, S.2.1, S.2.2.1 + 1, q.2)
          else if w_all S.2.2.2 = false then some (at_ + 1, S.1, S.2.1, n, S.2.2.2) else (w_op c S.1 S.2.1).map fun q => (at_ + 1, q.1, q.2, n, S.2.2.2) := by
        unfold w_on1
        rw [← en]
        by_cases q : 100 < n
        · rw [if_pos q, if_pos q]
        · rw [if_neg q, if_neg q, if_neg (by omega)]
      refine w_n134 (w_all S.2.2.2) rfl rfl c78 hc2 h hb hn hpb h170 (fun n1 cf st' pb' H' e h' => ?_) (fun n1 cf eo H' h' => ?_) (fun n1 cf eo st' sd' H' e h' => ?_) fun q H' hy => hk0 _ H' ?_ hy
      · have en1 : n = S.2.2.1 + 1 := by rw [en, if_pos (by omega)]
        refine hk1 (at_ + 1) _ H' ?_ h'
        rw [eon, if_neg (by omega), if_pos (w_isF_t.mpr cf), e, en1]
        rfl
      · refine hk1 (at_ + 1) _ H' ?_ h'
        rw [eon, if_neg (by omega), if_neg (fun w => cf (w_isF_t.mp w)), if_pos eo]
      · refine hk1 (at_ + 1) _ H' ?_ h'
        rw [eon, if_neg (by omega), if_neg (fun w => cf (w_isF_t.mp w)), if_neg (by rw [eo]; decide), e]
        rfl
      · rw [eon]
        rcases q with q | ⟨q, e⟩ | ⟨q, eo, e⟩
        · rw [if_pos q]
        · by_cases w : 100 < n
          · rw [if_pos w]
          · rw [if_neg w, if_pos (w_isF_t.mpr q), e]
            rfl
        · by_cases w : 100 < n
          · rw [if_pos w]
          · rw [if_neg w, if_neg (fun w => q (w_isF_t.mp w)), if_neg (by rw [eo]; decide), e]
            rfl
    refine jT_pos (by rw [show (78 : Int32) = Int32.ofNat 78 from rfl, jo_le (by omega) (by omega)]; exact c78) ?_
    by_cases c96 : c ≤ 96
    · exact jT_pos (by rw [show (96 : Int32) = Int32.ofNat 96 from rfl, jo_le (by omega) (by omega)]; exact c96) (jT_g (w_Zk h) (main _ (by rw [if_neg (by omega)])))
    · refine jT_neg (by rw [show (96 : Int32) = Int32.ofNat 96 from rfl, jo_le (by omega) (by omega)]; exact c96) (jT_g (w_Zk h) ?_)
      rw [show Int32.ofNat S.2.2.1 + 1 = Int32.ofNat (S.2.2.1 + 1) from jo_add (a := S.2.2.1) (b := 1)]
      exact main _ (by rw [if_pos (by omega)])
  · have eon : w_on1 scr at_ c S = (w_psh scr at_ c S.1 (w_all S.2.2.2)).map fun q => (q.1, q.2, S.2.1, S.2.2.1, S.2.2.2) := by
      unfold w_on1
      rw [if_neg (by rw [if_neg (by omega)]; omega), if_pos (by omega)]
    have main : jT (B_14_next_32 437 (Int32.ofNat at_) (Int32.ofNat c) (if w_all S.2.2.2 = true then 1 else 0) (Int32.ofNat (w_wd c)) H) (fun x h => jT (k x h) Q) :=
      w_psh14 (w_all S.2.2.2) rfl (by omega) hat h hb (fun p st' H' e h' => hk1 _ _ H' (by rw [eon, e]; rfl) h') fun x H' e hy => hk0 x H' (by rw [eon, e]; rfl) hy
    refine jT_neg (by rw [show (78 : Int32) = Int32.ofNat 78 from rfl, jo_le (by omega) (by omega)]; exact c78) ?_
    by_cases c76 : 76 ≤ c
    · refine jT_pos (by rw [show (76 : Int32) = Int32.ofNat 76 from rfl, jo_le (by omega) (by omega)]; exact c76) ?_
      have : c = 76 ∨ c = 77 := by omega
      rcases this with rfl | rfl
      · exact main
      · exact main
    · have ew : w_wd c = 0 := by
        unfold w_wd
        rw [if_neg (by omega), if_neg (by omega)]
      rw [ew] at main
      exact jT_neg (by rw [show (76 : Int32) = Int32.ofNat 76 from rfl, jo_le (by omega) (by omega)]; exact c76) main
end NX15
