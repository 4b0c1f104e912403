/-! The class's machine: a run up to its end, a fault, or a signature that is asked for. -/
theorem w_op_small {c : Nat} {st sd : w_R} (h : c ≤ 97) : w_op c st sd = w_small c st sd := by unfold w_op; rw [if_pos h]
theorem w_op_pass {c : Nat} {st sd : w_R} (h1 : 97 < c) (h : c ≤ 108) : w_op c st sd = w_pass c st sd := by unfold w_op; rw [if_neg (by omega), if_pos h]
theorem w_op_arr {c : Nat} {st sd : w_R} (h1 : 108 < c) (h : w_isA c = true) : w_op c st sd = w_arr c st sd := by unfold w_op; rw [if_neg (by omega), if_neg (by omega), if_pos h]
theorem w_op_mov {c : Nat} {st sd : w_R} (h1 : 108 < c) (h : ¬ w_isA c = true) (h2 : c ≤ 130) : w_op c st sd = w_mov c st sd := by unfold w_op; rw [if_neg (by omega), if_neg (by omega), if_neg h, if_pos h2]
theorem w_isA_t {c : Nat} : w_isA c = true ↔ c = 115 ∨ c = 116 ∨ c = 121 ∨ c = 122 ∨ c = 130 := by
  unfold w_isA
  simp only [Bool.or_eq_true, decide_eq_true_eq]
  omega
theorem w_isF_t {c : Nat} : w_isF c = true ↔ c = 99 ∨ c = 100 ∨ c = 103 ∨ c = 104 := by
  unfold w_isF
  simp only [Bool.or_eq_true, decide_eq_true_eq]
  omega
theorem w_op_cmp {c : Nat} {st sd : w_R} (h1 : 130 < c) (h2 : c ≤ 136) : w_op c st sd = w_cmp c st sd := by unfold w_op; rw [if_neg (by omega), if_neg (by omega), if_neg (by rw [w_isA_t]; omega), if_neg (by omega), if_pos h2]
theorem w_op_cal {c : Nat} {st sd : w_R} (h1 : 136 < c) (h2 : c ≤ 165) : w_op c st sd = w_cal c st sd := by unfold w_op; rw [if_neg (by omega), if_neg (by omega), if_neg (by rw [w_isA_t]; omega), if_neg (by omega), if_neg (by omega), if_pos h2]
theorem w_op_dig {c : Nat} {st sd : w_R} (h1 : 165 < c) : w_op c st sd = w_dig c st sd := by unfold w_op; rw [if_neg (by omega), if_neg (by omega), if_neg (by rw [w_isA_t]; omega), if_neg (by omega), if_neg (by omega), if_neg (by omega)]
section RUNL
variable {r p len : Nat} {scr : List UInt8} {H0 : jH} {Q : Int32 → jH → Prop}
theorem w_X_k {H : jH} (h : w_X H0 H) : (jK H 170).1 = 4 ∧ (jK H 171).1 = 9 ∧ (jK H 244).1 = 9 ∧ jR H 170 1 = 171 ∧ jR H 170 2 = 244 := by
  obtain ⟨⟨a, b, hm⟩, -, -⟩ := h
  exact ⟨gT (sK_170 hm.1), gT (sK_171 hm.1), gT (sK_244 hm.1), sR_170_1 hm.1, sR_170_2 hm.1⟩
theorem w_X_st {H : jH} (h : w_X H0 H) : w_X H0 (jsI H 170 9 2) := by
  obtain ⟨⟨a, b, hm⟩, f, -⟩ := h
  exact ⟨⟨a, b, w_M_f hm⟩, jfr_sI f (Or.inl (by decide)), jI_sIe⟩
theorem z4_r339x {H : jH} (h : w_X H0 H) (hq : ∀ H', w_X H0 H' → Q 2 H') : jT (B_4_run_339 170 H) Q := by
  unfold B_4_run_339 B_4_run_362
  have e : jI H 170 9 = 2 := h.2.2
  refine jT_g (w_X_k h).1 (jT_pos (by rw [e]; decide) (jT_g (w_X_k h).1 ?_))
  rw [e]
  exact jT_ret (hq H h)
/-- after a fault the loop ends -/
theorem z4_r333x {H : jH} {i fu : Nat} (h : w_X H0 H) (hi : i < 1000) (hq : ∀ H', w_X H0 H' → Q 2 H') : jT (B_4_run_333 (F_4_run_2 (fu + 1)) 170 (Int32.ofNat i) H) Q := by
  have e1 : Int32.ofNat i + 1 = Int32.ofNat (i + 1) := jo_add (a := i) (b := 1)
  unfold B_4_run_333
  rw [e1]
  refine jT_l ?_
  unfold F_4_run_2 B_4_run_2
  by_cases c : 200 ≤ i + 1
  · exact jT_pos (by rw [show (200 : Int32) = Int32.ofNat 200 from rfl, jo_le (by omega) (by omega)]; exact c) (z4_r339x h hq)
  · exact jT_neg (by rw [show (200 : Int32) = Int32.ofNat 200 from rfl, jo_le (by omega) (by omega)]; exact c) (jT_g (w_X_k h).1 (jT_pos (by rw [h.2.2]; decide) (z4_r339x h hq)))
theorem z4_r308x {H : jH} {i fu : Nat} (h : w_X H0 H) (hi : i < 1000) (hq : ∀ H', w_X H0 H' → Q 2 H') : jT (B_4_run_308 (F_4_run_2 (fu + 1)) 170 (Int32.ofNat i) H) Q := by
  obtain ⟨k1, k2, k3, r1, r2⟩ := w_X_k h
  unfold B_4_run_308
  rw [r1, r2]
  refine jT_g k1 (jT_g k2 (jT_g k1 (jT_g k3 ?_)))
  exact jT_if (fun _ => z4_r333x h hi hq) fun _ => jT_g k1 (jT_l (z4_r333x (w_X_st h) hi hq))
theorem z4_r288x {H : jH} {i fu : Nat} (h : w_X H0 H) (hi : i < 1000) (hq : ∀ H', w_X H0 H' → Q 2 H') : jT (B_4_run_288 (F_4_run_2 (fu + 1)) 170 (Int32.ofNat i) H) Q := by
  unfold B_4_run_288
  exact jT_g (w_X_k h).1 (jT_pos (by rw [h.2.2]; decide) (z4_r308x h hi hq))
/-- after an operation: too many elements, or on -/
theorem z4_r308 {H : jH} {i fu at_ : Nat} {S : w_S4} {v : Int32} (h : w_G r p len scr at_ S v H0 H) (hi : i < 1000) (hl2 : S.2.1.length ≤ 70) (hq : 60 < S.1.length + S.2.1.length → ∀ H', w_X H0 H' → Q 2 H') (hk : S.1.length + S.2.1.length ≤ 60 → jT (F_4_run_2 (fu + 1) 170 (Int32.ofNat (i + 1)) H) Q) : jT (B_4_run_308 (F_4_run_2 (fu + 1)) 170 (Int32.ofNat i) H) Q := by
  have e1 : Int32.ofNat i + 1 = Int32.ofNat (i + 1) := jo_add (a := i) (b := 1)
  have l1 := (w_G_len h).2
  unfold B_4_run_308
  simp only [(w_N_h (w_G_N h)).1, (w_N_h (w_G_N h)).2.1, (w_N_h (w_G_N h)).2.2.1, (w_N_h (w_G_N h)).2.2.2.1, jo_add]
  refine jT_g (w_G_k h) (jT_g (w_N_k1 (w_G_N h)) (jT_g (w_G_k h) (jT_g (w_N_k2 (w_G_N h)) ?_)))
  by_cases c : S.1.length + S.2.1.length ≤ 60
  · refine jT_pos (by rw [show (60 : Int32) = Int32.ofNat 60 from rfl, jo_le (by omega) (by omega)]; exact c) ?_
    unfold B_4_run_333
    rw [e1]
    exact jT_l (hk c)
  · exact jT_neg (by rw [show (60 : Int32) = Int32.ofNat 60 from rfl, jo_le (by omega) (by omega)]; exact c) (jT_g (w_G_k h) (jT_l (z4_r333x (w_G_X h) hi (hq (by omega)))))
theorem z4_r288 {H : jH} {i fu at_ : Nat} {S : w_S4} (h : w_G r p len scr at_ S 0 H0 H) (hi : i < 1000) (hl2 : S.2.1.length ≤ 70) (hq : 60 < S.1.length + S.2.1.length → ∀ H', w_X H0 H' → Q 2 H') (hk : S.1.length + S.2.1.length ≤ 60 → jT (F_4_run_2 (fu + 1) 170 (Int32.ofNat (i + 1)) H) Q) : jT (B_4_run_288 (F_4_run_2 (fu + 1)) 170 (Int32.ofNat i) H) Q := by
  unfold B_4_run_288
  exact jT_g (w_G_k h) (jT_pos (by rw [h.2.2.1]; decide) (z4_r308 h hi hl2 hq hk))
theorem w_G_sl {H : jH} {at_ : Nat} {S : w_S4} {v : Int32} (h : w_G r p len scr at_ S v H0 H) : S.2.1.length ≤ 70 := h.1.2.2.1.1
abbrev w_ft : Type := List UInt8 → List UInt8 → Bool
theorem z4_run2 : ∀ (f at_ : Nat) (S : w_S4) (i fu : Nat) (H : jH), scr.length < at_ + f → i ≤ at_ → at_ ≤ scr.length → 202 < fu + i → w_G r p len scr at_ S 0 H0 H → S.1.length + S.2.1.length ≤ 60 →
    (∀ S' b H', (∀ (fit : w_ft) left, w_run fit scr f at_ S left = some (S'.1, left)) → w_G r p len scr b S' 1 H0 H' → S'.1.length + S'.2.1.length ≤ 60 → Q 1 H') →
    (∀ H', (∀ (fit : w_ft) left, w_run fit scr f at_ S left = none) → w_X H0 H' → Q 2 H') →
    (∀ f' b S' ks ss n must H', f' < f → scr.length < b + f' → b ≤ scr.length → (∀ (fit : w_ft) left, w_run fit scr f at_ S left = w_ans fit ks ss must n S'.1 left fun st' left' => w_run fit scr f' b (st', S'.2) left') → ss.length ≠ 0 → w_G r p len scr b S' 3 H0 H' → w_K S'.1 ks ss n must H' → S'.1.length + S'.2.1.length ≤ 60 → Q 3 H') →
    jT (F_4_run_2 fu 170 (Int32.ofNat i) H) Q := by
  intro f
  induction f with
  | zero => intro at_ S i fu H h1 h2 h3; omega
  | succ f ih =>
    intro at_ S i fu H hf hia hat hfu h hb hD hF hA
    have hl200 : scr.length ≤ 200 := h.2.2.2.2.2.2.2.2
    obtain ⟨fu, rfl⟩ : ∃ k, fu = k + 2 := ⟨fu - 2, by omega⟩
    have hr5 := h.2.2.2.1
    have hi5 := h.2.2.2.2.1
    have ekr : (Int32.ofNat (jK H r).2) = Int32.ofNat len := by rw [hr5.2.1]
    have k4 := w_G_k h
    have e9 : jI H 170 9 = 0 := h.2.2.1
    by_cases hend : scr.length ≤ at_
    · -- the end
      have erun : ∀ (fit : w_ft) left, w_run fit scr (f + 1) at_ S left = if S.2.2.2.length = 0 then some (S.1, left) else none := fun fit left => by
        rw [w_run, if_pos hend]
      have g339 : jT (B_4_run_339 170 H) Q := by
        unfold B_4_run_339 B_4_run_359 B_4_run_362
        rw [e9, hi5.2.2.2.1]
        refine jT_g k4 (jT_neg (by decide) (jT_g k4 ?_))
        have hops := h.2.2.2.2.2.2
        by_cases z : S.2.2.2.length = 0
        · refine jT_neg (fun q => q (by rw [z]; rfl)) (jT_g k4 (jT_l ?_))
          have h1 := w_G_st (u := 1) h
          refine jT_g (w_G_k h1) ?_
          rw [h1.2.2.1]
          exact jT_ret (hD S at_ _ (fun fit left => by rw [erun, if_pos z]) h1 hb)
        · refine jT_pos (fun q => z ((jo_eq (a := S.2.2.2.length) (b := 0) (by omega) (by decide)).mp q)) (jT_g k4 (jT_l ?_))
          have h1 := w_G_X h
          refine jT_g (w_X_k h1).1 ?_
          rw [h1.2.2]
          exact jT_ret (hF _ (fun fit left => by rw [erun, if_neg z]) h1)
      unfold F_4_run_2 B_4_run_2
      rw [e9, hi5.1, hi5.2.1]
      by_cases c200 : 200 ≤ i
      · exact jT_pos (by rw [show (200 : Int32) = Int32.ofNat 200 from rfl, jo_le (by omega) (by omega)]; exact c200) g339
      · exact jT_neg (by rw [show (200 : Int32) = Int32.ofNat 200 from rfl, jo_le (by omega) (by omega)]; exact c200) (jT_g k4 (jT_neg (by decide) (jT_g k4 (jT_g k4 (jT_pos (by rw [jo_le (by omega) (by omega)]; omega) g339)))))
    -- an operation
    have hatl : at_ < scr.length := by omega
    have hc256 : (scr.getD at_ 0).toNat < 256 := u8_lt _
    have ebyte := w_G_b h hatl
    have e1 : Int32.ofNat (p + at_) + 1 = Int32.ofNat (p + (at_ + 1)) := jo_add (a := p + at_) (b := 1)
    unfold F_4_run_2 B_4_run_2
    rw [e9, hi5.1, hi5.2.1, hr5.1, ekr, e1, jo_nat (n := p + at_) (by omega), ebyte, jb_and]
    refine jT_neg (by rw [show (200 : Int32) = Int32.ofNat 200 from rfl, jo_le (by omega) (by omega)]; omega) (jT_g k4 (jT_neg (by decide) (jT_g k4 (jT_g k4 (jT_neg (by rw [jo_le (by omega) (by omega)]; omega) (jT_g k4 (jT_g k4 (jT_g (gT hr5.2.1) (jT_neg (by rw [jo_le (by omega) (by omega)]; omega) (jT_g k4 (jT_g k4 (jT_g (gA hr5.2.1 (jo_in (by omega) (by omega))) (jT_l (jT_g k4 (jT_g k4 (jT_l ?_))))))))))))))))
    have hg1 := w_G_at (b := at_ + 1) h
    generalize jsI H 170 6 (Int32.ofNat (p + (at_ + 1))) = H1 at *
    have hops := hg1.2.2.2.2.2.2
    -- the pure side
    have erun : ∀ (fit : w_ft) left, w_run fit scr (f + 1) at_ S left = if 170 < (scr.getD at_ 0).toNat ∧ w_all S.2.2.2 = true then
        (if 100 < S.2.2.1 + 1 then none else match w_ask (scr.getD at_ 0).toNat (S.2.2.1 + 1) S.1 with
          | none => none
          | some a => w_ans fit a.1 a.2.1 (w_must (scr.getD at_ 0).toNat) a.2.2.1 S.1 left fun st' left' => w_run fit scr f (at_ + 1) (st', S.2.1, a.2.2.2, S.2.2.2) left')
        else match w_on1 scr at_ (scr.getD at_ 0).toNat S with
          | none => none
          | some q => if 60 < q.2.1.length + q.2.2.1.length then none else w_run fit scr f q.1 q.2 left := fun fit left => by
      rw [w_run, if_neg hend]
      rfl
    generalize (scr.getD at_ 0).toNat = c at *
    clear ebyte hi5 e9 ekr h k4
    -- with the operations counted
    have g79 : ∀ d, d = (if 96 < c then 1 else 0) → jT (B_4_run_79 (F_4_run_2 (fu + 1)) 170 (Int32.ofNat i) (Int32.ofNat c) 170 (jI H1 170 10) (Int32.ofNat d) H1) Q := by
      intro d hd
      have eop : (if 96 < c then S.2.2.1 + 1 else S.2.2.1) = S.2.2.1 + d := by
        rw [hd]
        by_cases q : 96 < c
        · rw [if_pos q, if_pos q]
        · rw [if_neg q, if_neg q]
          rfl
      have hd1 : d ≤ 1 := by
        rw [hd]
        split <;> omega
      have ei10 : jI H1 170 10 = Int32.ofNat S.2.2.1 := hg1.2.2.2.2.1.2.2.1
      unfold B_4_run_79
      rw [ei10, jo_add]
      refine jT_g (w_G_k hg1) (jT_l ?_)
      by_cases ov : 100 < S.2.2.1 + d
      · -- too many
        have hx : w_X H0 (jsI (jsI H1 170 10 (Int32.ofNat (S.2.2.1 + d))) 170 9 2) := ⟨⟨_, _, w_M_f (w_M_f hg1.1)⟩, jfr_sI (jfr_sI hg1.2.1 (Or.inl (by decide))) (Or.inl (by decide)), jI_sIe⟩
        have k4 : (jK (jsI H1 170 10 (Int32.ofNat (S.2.2.1 + d))) 170).1 = 4 := gT (sK_170 (jsh_sI hg1.1.1 (by decide)))
        refine jT_g k4 (jT_neg (by rw [jI_sIe, show (100 : Int32) = Int32.ofNat 100 from rfl, jo_le (by omega) (by omega)]; omega) (jT_g k4 (jT_l (z4_r288x hx (by omega) fun H' hx' => hF H' (fun fit left => ?_) hx'))))
        have d1 : d = 1 := by omega
        have c96 : 96 < c := by
          by_cases q : 96 < c
          · exact q
          · rw [if_neg q] at hd
            omega
        rw [erun]
        split
        · rw [if_pos (by omega)]
        · have : w_on1 scr at_ c S = none := by
            unfold w_on1
            rw [eop, if_pos ov]
          rw [this]
      have h2 := w_G_ops (n := S.2.2.1 + d) hg1 (by omega) (by omega)
      have e10 : jI (jsI H1 170 10 (Int32.ofNat (S.2.2.1 + d))) 170 10 = Int32.ofNat (S.2.2.1 + d) := jI_sIe
      have e13 : jI (jsI H1 170 10 (Int32.ofNat (S.2.2.1 + d))) 170 13 = Int32.ofNat (w_cl S.2.2.2) := h2.2.2.2.2.1.2.2.2.2
      generalize jsI H1 170 10 (Int32.ofNat (S.2.2.1 + d)) = H2 at *
      have k4 := w_G_k h2
      rw [e10, e13]
      refine jT_g k4 (jT_pos (by rw [show (100 : Int32) = Int32.ofNat 100 from rfl, jo_le (by omega) (by omega)]; omega) ?_)
      have eon : w_on1 scr at_ c S = if c ≤ 77 then (w_psh scr at_ c S.1 (w_all S.2.2.2)).map fun q => (q.1, q.2, S.2.1, S.2.2.1, S.2.2.2)
          else if w_isF c = true then (w_flow c S.1 S.2.2.2).map fun q => (at_ + 1, q.1, S.2.1, S.2.2.1 + 1, q.2)
          else if w_all S.2.2.2 = false then some (at_ + 1, S.1, S.2.1, S.2.2.1 + d, S.2.2.2)
          else (w_op c S.1 S.2.1).map fun q => (at_ + 1, q.1, q.2, S.2.2.1 + d, S.2.2.2) := by
        unfold w_on1
        rw [eop, if_neg ov]
      have lt : ∀ k, k < 256 → (Int32.ofNat k < Int32.ofNat c ↔ k < c) := fun k hk => jo_lt (by omega) (by omega)
      have ec : ∀ k, k < 256 → (Int32.ofNat c = Int32.ofNat k ↔ c = k) := fun k hk => jo_eq (by omega) (by omega)
      -- one step on the pure side
      have onS : ¬ (170 < c ∧ w_all S.2.2.2 = true) → ∀ b S', w_on1 scr at_ c S = some (b, S') → ∀ (fit : w_ft) left, w_run fit scr (f + 1) at_ S left = if 60 < S'.1.length + S'.2.1.length then none else w_run fit scr f b S' left := fun hn b S' he fit left => by
        rw [erun, if_neg hn, he]
      have onN : ¬ (170 < c ∧ w_all S.2.2.2 = true) → w_on1 scr at_ c S = none → ∀ (fit : w_ft) left, w_run fit scr (f + 1) at_ S left = none := fun hn he fit left => by
        rw [erun, if_neg hn, he]
      -- the next round
      have nxt : ¬ (170 < c ∧ w_all S.2.2.2 = true) → ∀ b S' H', w_on1 scr at_ c S = some (b, S') → at_ + 1 ≤ b → b ≤ scr.length → w_G r p len scr b S' 0 H0 H' → jT (B_4_run_288 (F_4_run_2 (fu + 1)) 170 (Int32.ofNat i) H') Q := fun hn b S' H' he hb1 hb2 h' =>
        z4_r288 h' (by omega) (w_G_sl h') (fun q H3 hx => hF H3 (fun fit left => by rw [onS hn b S' he, if_pos q]) hx) fun q => ih b S' (i + 1) (fu + 1) H' (by omega) (by omega) hb2 (by omega) h' q
          (fun S3 b3 H3 e3 => hD S3 b3 H3 fun fit left => by rw [onS hn b S' he, if_neg (by omega)]; exact e3 fit left) (fun H3 e3 => hF H3 fun fit left => by rw [onS hn b S' he, if_neg (by omega)]; exact e3 fit left)
          fun f3 b3 S3 ks ss n must H3 l3 l4 l5 e3 => hA f3 b3 S3 ks ss n must H3 (by omega) l4 l5 fun fit left => by rw [onS hn b S' he, if_neg (by omega)]; exact e3 fit left
      have flt : ¬ (170 < c ∧ w_all S.2.2.2 = true) → w_on1 scr at_ c S = none → ∀ H', w_X H0 H' → jT (B_4_run_288 (F_4_run_2 (fu + 1)) 170 (Int32.ofNat i) H') Q := fun hn he H' hx => z4_r288x hx (by omega) fun H3 hx3 => hF H3 (onN hn he) hx3
      by_cases c77 : c ≤ 77
      · -- a push
        have hn : ¬ (170 < c ∧ w_all S.2.2.2 = true) := by omega
        have d0 : d = 0 := by rw [hd, if_neg (by omega)]
        rw [if_pos c77] at eon
        have h2' : w_G r p len scr (at_ + 1) S 0 H0 H2 := by rw [d0] at h2; exact h2
        refine jT_neg (by rw [show (77 : Int32) = Int32.ofNat 77 from rfl, lt 77 (by decide)]; omega) (jT_g k4 (jT_b (z4_push c77 hatl h2' hb (fun b st' H' e' h' => ?_) fun b H' e' h' => ?_)))
        · have hbb : at_ + 1 ≤ b ∧ b ≤ scr.length := by
            unfold w_psh at e'
            split at e'
            · cases e'
            · split at e'
              · cases e'
              · have := congrArg Prod.fst (Option.some.inj e')
                simp only at this
                omega
          exact nxt hn b (st', S.2) H' (by rw [eon, e']; rfl) hbb.1 hbb.2 h'
        · exact flt hn (by rw [eon, e']; rfl) H' ⟨⟨_, _, h'.1⟩, h'.2.1, h'.2.2.1⟩
      rw [if_neg c77] at eon
      refine jT_pos (by rw [show (77 : Int32) = Int32.ofNat 77 from rfl, lt 77 (by decide)]; omega) ?_
      have g138 : (c = 99 ∨ c = 100 ∨ c = 103 ∨ c = 104) → jT (B_4_run_138 (F_4_run_2 (fu + 1)) 170 (Int32.ofNat i) (Int32.ofNat c) H2) Q := fun cc => by
        have hn : ¬ (170 < c ∧ w_all S.2.2.2 = true) := by omega
        have d1 : d = 1 := by rw [hd, if_pos (by omega)]
        rw [if_pos (w_isF_t.mpr cc)] at eon
        unfold B_4_run_138
        have hpl : S.2.2.2.length ≤ S.2.2.1 := hops.1
        refine jT_g k4 (jT_b (z4_part cc h2 hb (by show S.2.2.2.length + 1 ≤ S.2.2.1 + d; omega) (fun st' pb' H' e' h' => ?_) fun H' e' hx => ?_))
        · refine nxt hn (at_ + 1) (st', S.2.1, S.2.2.1 + 1, pb') H' ?_ (Nat.le_refl _) (by omega) ?_
          · have e2 : w_flow c S.1 S.2.2.2 = some (st', pb') := e'
            rw [eon, e2]
            rfl
          · rw [d1] at h'
            exact h'
        · refine flt hn ?_ H' hx
          have e2 : w_flow c S.1 S.2.2.2 = none := e'
          rw [eon, e2]
          rfl
      by_cases f1 : c = 99
      · exact jT_pos ((ec 99 (by decide)).mpr f1) (g138 (Or.inl f1))
      refine jT_neg (fun q => f1 ((ec 99 (by decide)).mp q)) ?_
      by_cases f2 : c = 100
      · exact jT_pos ((ec 100 (by decide)).mpr f2) (g138 (Or.inr (Or.inl f2)))
      refine jT_neg (fun q => f2 ((ec 100 (by decide)).mp q)) ?_
      by_cases f3 : c = 103
      · exact jT_pos ((ec 103 (by decide)).mpr f3) (g138 (Or.inr (Or.inr (Or.inl f3))))
      refine jT_neg (fun q => f3 ((ec 103 (by decide)).mp q)) ?_
      by_cases f4 : c = 104
      · exact jT_neg (fun q => q ((ec 104 (by decide)).mpr f4)) (g138 (Or.inr (Or.inr (Or.inr f4))))
      refine jT_pos (fun q => f4 ((ec 104 (by decide)).mp q)) (jT_g k4 ?_)
      clear g138
      rw [if_neg (fun q => by have := w_isF_t.mp q; omega)] at eon
      have cle : w_cl S.2.2.2 ≤ S.2.2.2.length := List.count_le_length
      by_cases cl : w_all S.2.2.2 = true
      rotate_left
      · -- a part that is not done
        have cl0 : w_cl S.2.2.2 ≠ 0 := fun q => cl (w_all_cl.mpr q)
        have clf : w_all S.2.2.2 = false := by
          cases hh : w_all S.2.2.2
          · rfl
          · exact absurd hh cl
        rw [if_pos clf] at eon
        refine jT_neg (by rw [show (0 : Int32) = Int32.ofNat 0 from rfl, jo_le (by omega) (by omega)]; omega) ?_
        have e1' : Int32.ofNat i + 1 = Int32.ofNat (i + 1) := jo_add (a := i) (b := 1)
        unfold B_4_run_333
        rw [e1']
        have hn : ¬ (170 < c ∧ w_all S.2.2.2 = true) := fun q => cl q.2
        have hbb : ¬ 60 < S.1.length + S.2.1.length := by omega
        exact jT_l (ih (at_ + 1) (S.1, S.2.1, S.2.2.1 + d, S.2.2.2) (i + 1) (fu + 1) H2 (by omega) (by omega) (by omega) (by omega) h2 hb
          (fun S3 b3 H3 e3 => hD S3 b3 H3 fun fit left => by rw [onS hn _ _ eon, if_neg hbb]; exact e3 fit left) (fun H3 e3 => hF H3 fun fit left => by rw [onS hn _ _ eon, if_neg hbb]; exact e3 fit left)
          fun f3 b3 S3 ks ss n must H3 l3 l4 l5 e3 => hA f3 b3 S3 ks ss n must H3 (by omega) l4 l5 fun fit left => by rw [onS hn _ _ eon, if_neg hbb]; exact e3 fit left)
      have cl0 := w_all_cl.mp cl
      rw [if_neg (by rw [cl]; decide)] at eon
      refine jT_pos (by rw [cl0]; decide) ?_
      -- an operation that is done
      have okN : c ≤ 170 → ∀ st' sd' H', w_op c S.1 S.2.1 = some (st', sd') → w_N st' sd' 0 H2 H' → jT (B_4_run_288 (F_4_run_2 (fu + 1)) 170 (Int32.ofNat i) H') Q := fun hc170 st' sd' H' e' h' =>
        nxt (by omega) (at_ + 1) (st', sd', S.2.2.1 + d, S.2.2.2) H' (by rw [eon, e']; rfl) (Nat.le_refl _) (by omega) (w_G_op h2 h')
      have noN : c ≤ 170 → ∀ a b H', w_op c S.1 S.2.1 = none → w_N a b 2 H2 H' → jT (B_4_run_288 (F_4_run_2 (fu + 1)) 170 (Int32.ofNat i) H') Q := fun hc170 a b H' e' h' =>
        flt (by omega) (by rw [eon, e']; rfl) H' (w_N_X h2 h')
      have hN : w_N S.1 S.2.1 0 H2 H2 := ⟨h2.1, jfr_refl, h2.2.2.1⟩
      by_cases c97 : c ≤ 97
      · have eo := w_op_small (st := S.1) (sd := S.2.1) c97
        exact jT_neg (by rw [show (97 : Int32) = Int32.ofNat 97 from rfl, lt 97 (by decide)]; omega) (jT_g k4 (jT_b (z4_small hc256 hN hb (fun st' sd' H' e' h' => okN (by omega) st' sd' H' (eo.trans e') h') fun a b H' e' h' => noN (by omega) a b H' (eo.trans e') h')))
      refine jT_pos (by rw [show (97 : Int32) = Int32.ofNat 97 from rfl, lt 97 (by decide)]; omega) ?_
      by_cases c108 : c ≤ 108
      · have eo := w_op_pass (st := S.1) (sd := S.2.1) (by omega) c108
        exact jT_neg (by rw [show (108 : Int32) = Int32.ofNat 108 from rfl, lt 108 (by decide)]; omega) (jT_g k4 (jT_b (z4_pass hc256 hN hb (fun st' sd' H' e' h' => okN (by omega) st' sd' H' (eo.trans e') h') fun a b H' e' h' => noN (by omega) a b H' (eo.trans e') h')))
      refine jT_pos (by rw [show (108 : Int32) = Int32.ofNat 108 from rfl, lt 108 (by decide)]; omega) ?_
      have g215 : w_isA c = true → jT (B_4_run_215 (F_4_run_2 (fu + 1)) 170 (Int32.ofNat i) (Int32.ofNat c) H2) Q := fun ha => by
        have := w_isA_t.mp ha
        have eo := w_op_arr (st := S.1) (sd := S.2.1) (by omega) ha
        unfold B_4_run_215
        exact jT_g k4 (jT_b (z4_arrange hc256 hN hb (fun st' sd' H' e' h' => okN (by omega) st' sd' H' (eo.trans e') h') fun a b H' e' h' => noN (by omega) a b H' (eo.trans e') h'))
      by_cases a1 : c = 115
      · exact jT_pos ((ec 115 (by decide)).mpr a1) (g215 (w_isA_t.mpr (Or.inl a1)))
      refine jT_neg (fun q => a1 ((ec 115 (by decide)).mp q)) ?_
      by_cases a2 : c = 116
      · exact jT_pos ((ec 116 (by decide)).mpr a2) (g215 (w_isA_t.mpr (by omega)))
      refine jT_neg (fun q => a2 ((ec 116 (by decide)).mp q)) ?_
      by_cases a3 : c = 121
      · exact jT_pos ((ec 121 (by decide)).mpr a3) (g215 (w_isA_t.mpr (by omega)))
      refine jT_neg (fun q => a3 ((ec 121 (by decide)).mp q)) ?_
      by_cases a4 : c = 122
      · exact jT_pos ((ec 122 (by decide)).mpr a4) (g215 (w_isA_t.mpr (by omega)))
      refine jT_neg (fun q => a4 ((ec 122 (by decide)).mp q)) ?_
      by_cases a5 : c = 130
      · exact jT_neg (fun q => q ((ec 130 (by decide)).mpr a5)) (g215 (w_isA_t.mpr (by omega)))
      refine jT_pos (fun q => a5 ((ec 130 (by decide)).mp q)) ?_
      clear g215
      by_cases c130 : 130 < c
      rotate_left
      · have eo := w_op_mov (st := S.1) (sd := S.2.1) (c := c) (by omega) (fun q => by have := w_isA_t.mp q; omega) (by omega)
        exact jT_neg (by rw [show (130 : Int32) = Int32.ofNat 130 from rfl, lt 130 (by decide)]; exact c130) (jT_g k4 (jT_b (z4_move hc256 hN hb (fun st' sd' H' e' h' => okN (by omega) st' sd' H' (eo.trans e') h') fun a b H' e' h' => noN (by omega) a b H' (eo.trans e') h')))
      refine jT_pos (by rw [show (130 : Int32) = Int32.ofNat 130 from rfl, lt 130 (by decide)]; exact c130) ?_
      by_cases c136 : 136 < c
      rotate_left
      · have eo := w_op_cmp (st := S.1) (sd := S.2.1) (c := c) c130 (by omega)
        exact jT_neg (by rw [show (136 : Int32) = Int32.ofNat 136 from rfl, lt 136 (by decide)]; exact c136) (jT_g k4 (jT_b (z4_compare hc256 (by omega) hN hb (fun st' sd' H' e' h' => okN (by omega) st' sd' H' (eo.trans e') h') fun a b H' e' h' => noN (by omega) a b H' (eo.trans e') h')))
      refine jT_pos (by rw [show (136 : Int32) = Int32.ofNat 136 from rfl, lt 136 (by decide)]; exact c136) ?_
      by_cases c165 : 165 < c
      rotate_left
      · have eo := w_op_cal (st := S.1) (sd := S.2.1) (c := c) c136 (by omega)
        exact jT_neg (by rw [show (165 : Int32) = Int32.ofNat 165 from rfl, lt 165 (by decide)]; exact c165) (jT_g k4 (jT_b (z4_calculate hc256 (by omega) hN hb (fun st' sd' H' e' h' => okN (by omega) st' sd' H' (eo.trans e') h') fun a b H' e' h' => noN (by omega) a b H' (eo.trans e') h')))
      refine jT_pos (by rw [show (165 : Int32) = Int32.ofNat 165 from rfl, lt 165 (by decide)]; exact c165) ?_
      by_cases c170 : 170 < c
      rotate_left
      · have eo := w_op_dig (st := S.1) (sd := S.2.1) (c := c) c165
        exact jT_neg (by rw [show (170 : Int32) = Int32.ofNat 170 from rfl, lt 170 (by decide)]; exact c170) (jT_g k4 (jT_b (z4_digest hc256 hN hb (fun st' sd' H' e' h' => okN (by omega) st' sd' H' (eo.trans e') h') fun a b H' e' h' => noN (by omega) a b H' (eo.trans e') h')))
      refine jT_pos (by rw [show (170 : Int32) = Int32.ofNat 170 from rfl, lt 170 (by decide)]; exact c170) ?_
      -- a signature
      have d1 : d = 1 := by rw [hd, if_pos (by omega)]
      have erun2 : ∀ (fit : w_ft) left, w_run fit scr (f + 1) at_ S left = match w_ask c (S.2.2.1 + 1) S.1 with
          | none => none
          | some a => w_ans fit a.1 a.2.1 (w_must c) a.2.2.1 S.1 left fun st' left' => w_run fit scr f (at_ + 1) (st', S.2.1, a.2.2.2, S.2.2.2) left' := fun fit left => by
        rw [erun, if_pos ⟨c170, cl⟩, if_neg (by omega)]
      rw [d1] at h2
      refine jT_g k4 (jT_b (z4_ask hc256 h2 hb (fun a H' e' h' hK => ?_) fun H' e' hx => z4_r288x hx (by omega) fun H3 hx3 => hF H3 (fun fit left => ?_) hx3))
      rotate_left
      · have e2 : w_ask c (S.2.2.1 + 1) S.1 = none := e'
        rw [erun2, e2]
      have e2 : w_ask c (S.2.2.1 + 1) S.1 = some a := e'
      have erun3 : ∀ (fit : w_ft) left, w_run fit scr (f + 1) at_ S left = w_ans fit a.1 a.2.1 (w_must c) a.2.2.1 S.1 left fun st' left' => w_run fit scr f (at_ + 1) (st', S.2.1, a.2.2.2, S.2.2.2) left' := fun fit left => by
        rw [erun2, e2]
      unfold B_4_run_288
      rw [h'.2.2.1, hK.1]
      refine jT_g (w_G_k h') (jT_neg (fun q => q rfl) (jT_g (w_G_k h') ?_))
      have hml : a.2.1.length ≤ 8 := by
        have := hK.2.2.2.2.2.2.2
        omega
      by_cases m0 : a.2.1.length = 0
      · refine jT_neg (fun q => q (by rw [m0]; rfl)) (jT_g (w_G_k h') (jT_b (z4_finish (fit := true) rfl h' hb hK.2.2.2.2.2.2.1 hK.2.2.2.2.1 hK.2.2.2.2.2.1 (fun H3 _ h3 => ?_) fun H3 _ q _ => absurd q (by decide))))
        have erun4 : ∀ (fit : w_ft) left, w_run fit scr (f + 1) at_ S left = w_run fit scr f (at_ + 1) (w_fin S.1 a.2.2.1 (w_must c) true, S.2.1, a.2.2.2, S.2.2.2) left := fun fit left => by
          rw [erun3]
          unfold w_ans
          rw [w_mul_eq, if_pos m0]
          show (if w_must c = true then (if true = true then _ else none) else _) = _
          unfold w_fin
          by_cases q : w_must c = true
          · rw [if_pos q, if_pos rfl, if_pos q]
          · rw [if_neg q, if_neg q]
        have hlen : (w_fin S.1 a.2.2.1 (w_must c) true).length + S.2.1.length ≤ 60 := by
          have hn2 : a.2.2.1 ≤ S.1.length := hK.2.2.2.2.2.2.1
          have hn3 : 2 ≤ a.2.2.1 := hK.2.2.2.2.2.2.2.2.2
          unfold w_fin
          split
          · rw [w_dr_len]
            omega
          · rw [List.length_append, w_dr_len]
            show S.1.length - a.2.2.1 + 1 + S.2.1.length ≤ 60
            omega
        exact z4_r308 h3 (by omega) (w_G_sl h3) (fun q => by have : 60 < (w_fin S.1 a.2.2.1 (w_must c) true).length + S.2.1.length := q; omega) fun q => ih (at_ + 1) _ (i + 1) (fu + 1) H3 (by omega) (by omega) (by omega) (by omega) h3 hlen
          (fun S3 b3 H3 e3 => hD S3 b3 H3 fun fit left => by rw [erun4]; exact e3 fit left) (fun H3 e3 => hF H3 fun fit left => by rw [erun4]; exact e3 fit left)
          fun f3 b3 S3 ks ss n must H3 l3 l4 l5 e3 => hA f3 b3 S3 ks ss n must H3 (by omega) l4 l5 fun fit left => by rw [erun4]; exact e3 fit left
      · refine jT_pos (fun q => m0 ((jo_eq (a := a.2.1.length) (b := 0) (by omega) (by decide)).mp q)) (z4_r308 h' (by omega) (w_G_sl h') (fun q => by have : 60 < S.1.length + S.2.1.length := q; omega) fun q => ?_)
        -- it stops here
        have k4' := w_G_k h'
        have e9' : jI H' 170 9 = 3 := h'.2.2.1
        have g339 : jT (B_4_run_339 170 H') Q := by
          unfold B_4_run_339 B_4_run_362
          rw [e9']
          exact jT_g k4' (jT_pos (by decide) (jT_g k4' (jT_ret (hA f (at_ + 1) (S.1, S.2.1, a.2.2.2, S.2.2.2) a.1 a.2.1 a.2.2.1 (w_must c) H' (by omega) (by omega) (by omega) erun3 m0 h' hK hb))))
        unfold F_4_run_2 B_4_run_2
        rw [e9']
        by_cases c200 : 200 ≤ i + 1
        · exact jT_pos (by rw [show (200 : Int32) = Int32.ofNat 200 from rfl, jo_le (by omega) (by omega)]; exact c200) g339
        · exact jT_neg (by rw [show (200 : Int32) = Int32.ofNat 200 from rfl, jo_le (by omega) (by omega)]; exact c200) (jT_g k4' (jT_pos (by decide) g339))
    by_cases c96 : c ≤ 96
    · exact jT_g (w_G_k hg1) (jT_pos (by rw [show (96 : Int32) = Int32.ofNat 96 from rfl, jo_le (by omega) (by omega)]; exact c96) (g79 0 (by rw [if_neg (by omega)])))
    · exact jT_g (w_G_k hg1) (jT_neg (by rw [show (96 : Int32) = Int32.ofNat 96 from rfl, jo_le (by omega) (by omega)]; exact c96) (g79 1 (by rw [if_pos (by omega)])))
end RUNL
