/-! What a script does: the pure run. The class's machine: push, part. -/
def w_all (pb : List Bool) : Bool := pb.all id
def w_cl (pb : List Bool) : Nat := pb.count false
theorem w_all_cl {pb : List Bool} : w_all pb = true ↔ w_cl pb = 0 := by
  unfold w_all w_cl
  rw [List.count_eq_zero, List.all_eq_true]
  refine ⟨fun h q => by have := h _ q; simp at this, fun h x hx => ?_⟩
  cases x with
  | true => rfl
  | false => exact absurd hx h
def w_flow (c : Nat) (st : w_R) (pb : List Bool) : Option (w_R × List Bool) :=
  if c = 99 ∨ c = 100 then (if w_all pb = true then (if 1 ≤ st.length then some (w_dr st 1, pb ++ [ztrue (w_tp st 1) == decide (c = 99)]) else none) else some (st, pb ++ [false]))
  else if pb.length = 0 then none else if c = 103 then some (st, pb.take (pb.length - 1) ++ [!(pb.getD (pb.length - 1) false)]) else some (st, pb.take (pb.length - 1))
def w_wd (c : Nat) : Nat := if c = 76 then 1 else if c = 77 then 2 else 0
def w_sz (scr : List UInt8) (at_ c : Nat) : Nat := if c = 76 then (scr.getD (at_ + 1) 0).toNat else if c = 77 then (scr.getD (at_ + 1) 0).toNat + 256 * (scr.getD (at_ + 2) 0).toNat else c
def w_psh (scr : List UInt8) (at_ c : Nat) (st : w_R) (op : Bool) : Option (Nat × w_R) :=
  if scr.length < at_ + 1 + w_wd c then none
  else if 120 < w_sz scr at_ c ∨ scr.length < at_ + 1 + w_wd c + w_sz scr at_ c then none
  else some (at_ + 1 + w_wd c + w_sz scr at_ c, if op = true then st ++ [w_sl scr (at_ + 1 + w_wd c) (w_sz scr at_ c)] else st)
def w_isA (c : Nat) : Bool := decide (c = 115) || decide (c = 116) || decide (c = 121) || decide (c = 122) || decide (c = 130)
def w_isF (c : Nat) : Bool := decide (c = 99) || decide (c = 100) || decide (c = 103) || decide (c = 104)
def w_op (c : Nat) (st sd : w_R) : Option (w_R × w_R) :=
  if c ≤ 97 then w_small c st sd else if c ≤ 108 then w_pass c st sd else if w_isA c = true then w_arr c st sd else if c ≤ 130 then w_mov c st sd else if c ≤ 136 then w_cmp c st sd else if c ≤ 165 then w_cal c st sd else w_dig c st sd
abbrev w_S4 : Type := w_R × w_R × Nat × List Bool
def w_on1 (scr : List UInt8) (at_ c : Nat) (S : w_S4) : Option (Nat × w_S4) :=
  if 100 < (if 96 < c then S.2.2.1 + 1 else S.2.2.1) then none
  else if c ≤ 77 then (w_psh scr at_ c S.1 (w_all S.2.2.2)).map fun q => (q.1, q.2, S.2.1, S.2.2.1, S.2.2.2)
  else if w_isF c = true then (w_flow c S.1 S.2.2.2).map fun q => (at_ + 1, q.1, S.2.1, S.2.2.1 + 1, q.2)
  else if w_all S.2.2.2 = false then some (at_ + 1, S.1, S.2.1, (if 96 < c then S.2.2.1 + 1 else S.2.2.1), S.2.2.2)
  else (w_op c S.1 S.2.1).map fun q => (at_ + 1, q.1, q.2, (if 96 < c then S.2.2.1 + 1 else S.2.2.1), S.2.2.2)
/-- the pairs that are asked for -/
def w_mul (fit : List UInt8 → List UInt8 → Bool) : w_R → w_R → Nat → Option (Bool × Nat)
  | _, [], left => some (true, left)
  | [], _ :: _, left => some (false, left)
  | k :: ks, s :: ss, left => if ks.length < ss.length then some (false, left) else if left = 0 then none else if fit s k = true then w_mul fit ks ss (left - 1) else w_mul fit ks (s :: ss) (left - 1)
def w_ops (st : w_R) (from_ n : Nat) : w_R := (List.range n).map fun i => w_tp st (from_ + i)
/-- keys and signatures from the last on, how many are taken, and the operations -/
def w_ask (c ops : Nat) (st : w_R) : Option (w_R × w_R × Nat × Nat) :=
  if c < 172 ∨ 175 < c then none
  else if c ≤ 173 then (if 2 ≤ st.length then some (w_ops st 1 1, w_ops st 2 1, 2, ops) else none)
  else if st.length < 1 then none
  else match w_ix (w_tp st 1) 9 with
    | none => none
    | some n => if 100 < ops + n ∨ st.length < n + 2 then none
      else match w_ix (w_tp st (n + 2)) (n + 1) with
        | none => none
        | some m => if st.length < n + m + 3 then none else some (w_ops st 2 n, w_ops st (n + 3) m, n + m + 3, ops + n)
def w_ans (fit : List UInt8 → List UInt8 → Bool) (ks ss : w_R) (must : Bool) (n : Nat) (st : w_R) (left : Nat) (k : w_R → Nat → Option (w_R × Nat)) : Option (w_R × Nat) :=
  match w_mul fit ks ss left with
  | none => none
  | some q => if must = true then (if q.1 = true then k (w_dr st n) q.2 else none) else k (w_dr st n ++ [w_en (if q.1 = true then 1 else 0)]) q.2
def w_must (c : Nat) : Bool := decide (c = 173) || decide (c = 175)
def w_run (fit : List UInt8 → List UInt8 → Bool) (scr : List UInt8) : Nat → Nat → w_S4 → Nat → Option (w_R × Nat)
  | 0, _, _, _ => none
  | f + 1, at_, S, left =>
    if scr.length ≤ at_ then (if S.2.2.2.length = 0 then some (S.1, left) else none)
    else if 170 < (scr.getD at_ 0).toNat ∧ w_all S.2.2.2 = true then
      (if 100 < S.2.2.1 + 1 then none
       else match w_ask (scr.getD at_ 0).toNat (S.2.2.1 + 1) S.1 with
        | none => none
        | some a => w_ans fit a.1 a.2.1 (w_must (scr.getD at_ 0).toNat) a.2.2.1 S.1 left fun st' left' => w_run fit scr f (at_ + 1) (st', S.2.1, a.2.2.2, S.2.2.2) left')
    else match w_on1 scr at_ (scr.getD at_ 0).toNat S with
      | none => none
      | some q => if 60 < q.2.1.length + q.2.2.1.length then none else w_run fit scr f q.1 q.2 left
def w_F5 : Nat → Nat → Prop := fun a j => (170 ≤ a ∧ a ≤ 391 ∧ ¬ (a = 170 ∧ j = 8)) ∨ (43 ≤ a ∧ a ≤ 48)
/-- the class's machine with a script, in the middle of it -/
def w_G (r p len : Nat) (scr : List UInt8) (at_ : Nat) (S : w_S4) (v : Int32) (H0 H : jH) : Prop :=
  w_M S.1 S.2.1 H ∧ jfr w_F5 H0 H ∧ jI H 170 9 = v ∧
  (jR H 170 5 = r ∧ jK H r = (101, len) ∧ zRow H r p scr ∧ p + scr.length ≤ len ∧ len < 2000000 ∧ 422 ≤ r) ∧
  (jI H 170 6 = Int32.ofNat (p + at_) ∧ jI H 170 7 = Int32.ofNat (p + scr.length) ∧ jI H 170 10 = Int32.ofNat S.2.2.1 ∧ jI H 170 12 = Int32.ofNat S.2.2.2.length ∧ jI H 170 13 = Int32.ofNat (w_cl S.2.2.2)) ∧
  (∀ k, k < S.2.2.2.length → jI H 391 k = if S.2.2.2.getD k false = true then 1 else 0) ∧ S.2.2.2.length ≤ S.2.2.1 ∧ S.2.2.1 ≤ 100 ∧ scr.length ≤ 200
theorem w_F4_5 {a j : Nat} (h : w_F4 a j) : w_F5 a j := by
  unfold w_F4 at h
  unfold w_F5
  omega
section RUN4
variable {r p len at_ : Nat} {scr : List UInt8} {S : w_S4} {v : Int32} {H0 H : jH}
theorem w_G_N (h : w_G r p len scr at_ S v H0 H) : w_N S.1 S.2.1 v H H := ⟨h.1, jfr_refl, h.2.2.1⟩
/-- an operation on the stacks alone -/
theorem w_G_op {st sd : w_R} {u : Int32} {H' : jH} (h : w_G r p len scr at_ S v H0 H) (h' : w_N st sd u H H') : w_G r p len scr at_ (st, sd, S.2.2.1, S.2.2.2) u H0 H' := by
  obtain ⟨a, b, c, ⟨d1, d2, d3, d4, d5, d6⟩, ⟨e1, e2, e3, e4, e5⟩, g, i1, i2, i3⟩ := h
  obtain ⟨m, f, s⟩ := h'
  have fI : ∀ {a j}, ¬ w_F4 a j → jI H' a j = jI H a j := fun hn => jfr_I f hn
  have n170 : ∀ j, j ≠ 9 → ¬ w_F4 170 j := fun j hj q => by unfold w_F4 at q; omega
  have n391 : ∀ j, ¬ w_F4 391 j := fun j q => by unfold w_F4 at q; omega
  have nr : ∀ j, ¬ w_F4 r j := fun j q => by unfold w_F4 at q; omega
  refine ⟨m, jfr_trans b (jfr_mono f fun _ _ => w_F4_5), s, ⟨(jfr_R f (n170 5 (by decide))).trans d1, by rw [jfr_K f]; exact d2, zRow_eq d3 fun i _ => jfr_B f (nr _), d4, d5, d6⟩, ⟨(fI (n170 6 (by decide))).trans e1, (fI (n170 7 (by decide))).trans e2, (fI (n170 10 (by decide))).trans e3, (fI (n170 12 (by decide))).trans e4, (fI (n170 13 (by decide))).trans e5⟩, fun k hk => (fI (n391 k)).trans (g k hk), i1, i2, i3⟩
/-- a field of the machine is written -/
theorem w_M_f {st sd : w_R} {j : Nat} {u : Int32} (h : w_M st sd H) : w_M st sd (jsI H 170 j u) := by
  obtain ⟨a1, a2, a3, sp, a4⟩ := h
  have f : jfr (fun a _ => a = 170) H (jsI H 170 j u) := jfr_sI jfr_refl rfl
  have hh : ∀ S, zS3 S → ∀ a j, a = 170 → ¬ (a = S ∧ j = 2) ∧ ¬ (S + 1 ≤ a ∧ a ≤ S + 72) := fun S hS a j q => by
    unfold zS3 at hS
    omega
  exact ⟨jsh_sI a1 (by decide), zStk_fr a2 f (hh _ zS171), zStk_fr a3 f (hh _ zS244), sp, zStk_fr a4 f (hh _ zS317)⟩
theorem w_G_at {b : Nat} (h : w_G r p len scr at_ S v H0 H) : w_G r p len scr b S v H0 (jsI H 170 6 (Int32.ofNat (p + b))) := by
  obtain ⟨a, f, c, ⟨d1, d2, d3, d4, d5, d6⟩, ⟨e1, e2, e3, e4, e5⟩, g, i1, i2, i3⟩ := h
  exact ⟨w_M_f a, jfr_sI f (Or.inl (by omega)), (jI_sIn (by decide)).trans c, ⟨d1, d2, d3, d4, d5, d6⟩, ⟨jI_sIe, (jI_sIn (by decide)).trans e2, (jI_sIn (by decide)).trans e3, (jI_sIn (by decide)).trans e4, (jI_sIn (by decide)).trans e5⟩, fun k hk => (jI_sIa (by decide)).trans (g k hk), i1, i2, i3⟩
theorem w_G_ops {n : Nat} (h : w_G r p len scr at_ S v H0 H) (hn : S.2.2.1 ≤ n) (hn2 : n ≤ 100) : w_G r p len scr at_ (S.1, S.2.1, n, S.2.2.2) v H0 (jsI H 170 10 (Int32.ofNat n)) := by
  obtain ⟨a, f, c, ⟨d1, d2, d3, d4, d5, d6⟩, ⟨e1, e2, e3, e4, e5⟩, g, i1, i2, i3⟩ := h
  refine ⟨w_M_f a, jfr_sI f (Or.inl (by omega)), (jI_sIn (by decide)).trans c, ⟨d1, d2, d3, d4, d5, d6⟩, ⟨(jI_sIn (by decide)).trans e1, (jI_sIn (by decide)).trans e2, jI_sIe, (jI_sIn (by decide)).trans e4, (jI_sIn (by decide)).trans e5⟩, fun k hk => (jI_sIa (by decide)).trans (g k hk), ?_, hn2, i3⟩
  show S.2.2.2.length ≤ n
  omega
theorem w_G_st {u : Int32} (h : w_G r p len scr at_ S v H0 H) : w_G r p len scr at_ S u H0 (jsI H 170 9 u) := by
  obtain ⟨a, f, c, ⟨d1, d2, d3, d4, d5, d6⟩, ⟨e1, e2, e3, e4, e5⟩, g, i1, i2, i3⟩ := h
  exact ⟨w_M_f a, jfr_sI f (Or.inl (by omega)), jI_sIe, ⟨d1, d2, d3, d4, d5, d6⟩, ⟨(jI_sIn (by decide)).trans e1, (jI_sIn (by decide)).trans e2, (jI_sIn (by decide)).trans e3, (jI_sIn (by decide)).trans e4, (jI_sIn (by decide)).trans e5⟩, fun k hk => (jI_sIa (by decide)).trans (g k hk), i1, i2, i3⟩
theorem w_G_k (h : w_G r p len scr at_ S v H0 H) : (jK H 170).1 = 4 := by rw [sK_170 h.1.1]
theorem w_G_b (h : w_G r p len scr at_ S v H0 H) {i : Nat} (hi : i < scr.length) : jB H r (p + i) = scr.getD i 0 := h.2.2.2.1.2.2.1 i _ (getD_of hi)
/-- a push: its end, and what the stack is then -/
theorem z4_push {c : Nat} {Q : Unit → jH → Prop} (hc : c ≤ 77) (hat : at_ < scr.length) (h : w_G r p len scr (at_ + 1) S 0 H0 H) (hb : S.1.length + S.2.1.length ≤ 60)
    (hk1 : ∀ b st' H', w_psh scr at_ c S.1 (w_all S.2.2.2) = some (b, st') → w_G r p len scr b (st', S.2) 0 H0 H' → Q () H') (hk0 : ∀ b H', w_psh scr at_ c S.1 (w_all S.2.2.2) = none → w_G r p len scr b S 2 H0 H' → Q () H') : jT (F_4_push 170 (Int32.ofNat c) H) Q := by
  have e76 : (Int32.ofNat c = 76 ↔ c = 76) := jo_eq (a := c) (b := 76) (by omega) (by decide)
  have e77 : (Int32.ofNat c = 77 ↔ c = 77) := jo_eq (a := c) (b := 77) (by omega) (by decide)
  have hl200 := h.2.2.2.2.2.2.2.2
  have hlen := h.2.2.2.1.2.2.2
  -- with the size at hand
  have g99 : ∀ (w n : Nat), w ≤ 2 → n < 70000 → (scr.length < at_ + 1 + w → w_psh scr at_ c S.1 (w_all S.2.2.2) = none ∧ 70 < n) → (¬ scr.length < at_ + 1 + w → w = w_wd c ∧ n = w_sz scr at_ c) → jT (B_4_push_99 170 (Int32.ofNat w) (Int32.ofNat n) H) Q := by
    intro w n hw hn hbad hgood
    have e1 : Int32.ofNat (p + (at_ + 1)) + Int32.ofNat w = Int32.ofNat (p + (at_ + 1 + w)) := by rw [jo_add, Nat.add_assoc]
    unfold B_4_push_99
    rw [h.2.2.2.2.1.1, e1]
    have h1 := w_G_at (b := at_ + 1 + w) h
    refine jT_g (w_G_k h) (jT_g (w_G_k h) (jT_l ?_))
    generalize jsI H 170 6 (Int32.ofNat (p + (at_ + 1 + w))) = H1 at *
    have g128 : ∀ b, w_psh scr at_ c S.1 (w_all S.2.2.2) = none → w_G r p len scr b S 0 H0 H1 → jT (B_4_push_128 170 H1) Q := fun b hn h2 => by
      unfold B_4_push_128
      exact jT_g (w_G_k h2) (jT_l (jT_ret (hk0 b _ hn (w_G_st h2))))
    by_cases p1 : 120 < n
    · refine jT_pos (by rw [show (120 : Int32) = Int32.ofNat 120 from rfl, jo_lt (by omega) (by omega)]; exact p1) (g128 _ ?_ h1)
      by_cases q : scr.length < at_ + 1 + w
      · exact (hbad q).1
      · obtain ⟨q1, q2⟩ := hgood q
        unfold w_psh
        rw [← q1, if_neg q, ← q2, if_pos (Or.inl p1)]
    · rw [h1.2.2.2.2.1.1, h1.2.2.2.2.1.2.1, jo_add]
      refine jT_neg (by rw [show (120 : Int32) = Int32.ofNat 120 from rfl, jo_lt (by omega) (by omega)]; exact p1) (jT_g (w_G_k h1) (jT_g (w_G_k h1) ?_))
      by_cases p2 : scr.length < at_ + 1 + w + n
      · refine jT_neg (by rw [jo_le (by omega) (by omega)]; omega) (g128 _ ?_ h1)
        by_cases q : scr.length < at_ + 1 + w
        · exact (hbad q).1
        · obtain ⟨q1, q2⟩ := hgood q
          unfold w_psh
          rw [← q1, if_neg q, ← q2, if_pos (Or.inr p2)]
      · refine jT_pos (by rw [jo_le (by omega) (by omega)]; omega) (jT_g (w_G_k h1) ?_)
        obtain ⟨q1, q2⟩ := hgood (by omega)
        have eps : w_psh scr at_ c S.1 (w_all S.2.2.2) = some (at_ + 1 + w + n, if w_all S.2.2.2 = true then S.1 ++ [w_sl scr (at_ + 1 + w) n] else S.1) := by
          unfold w_psh
          rw [← q1, if_neg (by omega), ← q2, if_neg (by omega)]
        have g157 : ∀ H2 st', w_G r p len scr (at_ + 1 + w) (st', S.2) 0 H0 H2 → st' = (if w_all S.2.2.2 = true then S.1 ++ [w_sl scr (at_ + 1 + w) n] else S.1) → jT (B_4_push_157 170 (Int32.ofNat n) H2) Q := fun H2 st' h2 es => by
          have e2 : Int32.ofNat (p + (at_ + 1 + w)) + Int32.ofNat n = Int32.ofNat (p + (at_ + 1 + w + n)) := by rw [jo_add, Nat.add_assoc]
          unfold B_4_push_157
          rw [h2.2.2.2.2.1.1, e2]
          exact jT_g (w_G_k h2) (jT_g (w_G_k h2) (jT_l (jT_ret (hk1 _ _ _ (eps.trans (by rw [← es])) (w_G_at h2)))))
        rw [h1.2.2.2.2.1.2.2.2.2]
        by_cases p3 : w_all S.2.2.2 = true
        · have cl := w_all_cl.mp p3
          have hx : (w_sl scr (at_ + 1 + w) n).length = n := w_sl_len (by omega)
          simp only [(w_N_h (w_G_N h1)).2.2.1, h1.2.2.2.1.1]
          refine jT_neg (by rw [cl]; decide) (jT_g (w_G_k h1) (jT_g (w_G_k h1) (jT_g (w_G_k h1) (jT_g (w_N_k1 (w_G_N h1)) (jT_b (z9_put (p := p + (at_ + 1 + w)) (n := n) h1.1.1 zS171 h1.1.2.1 (by omega) h1.2.2.2.1.2.1 (by omega) (by omega) (by omega) fun H2 s2 z2 f2 => ?_))))))
          rw [w_sl_cut h1.2.2.2.1.2.2.1 (by omega)] at z2
          exact g157 H2 _ (w_G_op h1 (w_N_A (w_G_N h1) s2 z2 (jfr_mono f2 fun _ _ q => w_Sk_w q))) (by rw [if_pos p3])
        · have cl : w_cl S.2.2.2 ≠ 0 := fun q => p3 (w_all_cl.mpr q)
          have cle : w_cl S.2.2.2 ≤ S.2.2.2.length := List.count_le_length
          have := h1.2.2.2.2.2.2
          exact jT_pos (fun q => cl ((jo_eq (a := w_cl S.2.2.2) (b := 0) (by omega) (by decide)).mp q)) (g157 H1 S.1 h1 (by rw [if_neg p3]))
  -- the size
  have g21 : ∀ w, w ≤ 2 → w = w_wd c → jT (B_4_push_21 170 (Int32.ofNat c) (Int32.ofNat w) H) Q := by
    intro w hw ew
    unfold B_4_push_21
    by_cases w0 : w = 0
    · have n76 : c ≠ 76 ∧ c ≠ 77 := by
        rw [w0] at ew
        unfold w_wd at ew
        split at ew
        · omega
        · split at ew
          · omega
          · omega
      refine jT_pos (by rw [w0]; decide) (g99 w c hw (by omega) (fun q => by omega) fun _ => ⟨ew, ?_⟩)
      unfold w_sz
      rw [if_neg n76.1, if_neg n76.2]
    · have c76 : (c = 76 ∧ w = 1) ∨ (c = 77 ∧ w = 2) := by
        unfold w_wd at ew
        split at ew
        · omega
        · split at ew
          · omega
          · omega
      rw [h.2.2.2.2.1.1, h.2.2.2.2.1.2.1, jo_add, h.2.2.2.1.1]
      refine jT_neg (by rw [show (0 : Int32) = Int32.ofNat 0 from rfl, jo_le (by omega) (by omega)]; omega) (jT_g (w_G_k h) (jT_g (w_G_k h) ?_))
      have bad : scr.length < at_ + 1 + w → w_psh scr at_ c S.1 (w_all S.2.2.2) = none ∧ 70 < c := fun q => by
        refine ⟨?_, by omega⟩
        unfold w_psh
        rw [← ew, if_pos q]
      by_cases p1 : scr.length < at_ + 1 + w
      · exact jT_pos (by rw [jo_lt (by omega) (by omega)]; omega) (g99 w c hw (by omega) bad fun q => absurd p1 q)
      · have ekr : (Int32.ofNat (jK H r).2) = Int32.ofNat len := by rw [h.2.2.2.1.2.1]
        have e1 : Int32.ofNat (p + (at_ + 1)) + 1 = Int32.ofNat (p + (at_ + 2)) := jo_add (a := p + (at_ + 1)) (b := 1)
        rw [ekr, e1, jo_nat (n := p + (at_ + 1)) (by omega), jo_nat (n := p + (at_ + 2)) (by omega), w_G_b h (by omega), jb_and]
        refine jT_neg (by rw [jo_lt (by omega) (by omega)]; omega) (jT_g (w_G_k h) (jT_g (w_G_k h) (jT_g (gT h.2.2.2.1.2.1) (jT_neg (by rw [jo_lt (by omega) (by omega)]; omega) (jT_g (w_G_k h) (jT_g (w_G_k h) (jT_g (gA h.2.2.2.1.2.1 (jo_in (by omega) (by omega))) (jT_l ?_))))))))
        have hu := u8_lt (scr.getD (at_ + 1) 0)
        unfold B_4_push_97
        rcases c76 with ⟨cc, cw⟩ | ⟨cc, cw⟩
        · rw [cw]
          have e0 : Int32.ofNat (scr.getD (at_ + 1) 0).toNat ||| 0 = Int32.ofNat (scr.getD (at_ + 1) 0).toNat := Int32.or_zero
          rw [e0]
          refine jT_pos (by decide) (jT_l (g99 1 _ (by omega) (by omega) (fun q => by omega) fun _ => ⟨by rw [← cw]; exact ew, ?_⟩))
          unfold w_sz
          rw [if_pos cc]
        · rw [cw]
          have hu2 := u8_lt (scr.getD (at_ + 2) 0)
          have eor : Int32.ofNat (scr.getD (at_ + 1) 0).toNat ||| Int32.ofNat ((scr.getD (at_ + 2) 0).toNat * 2 ^ 8) = Int32.ofNat ((scr.getD (at_ + 2) 0).toNat * 2 ^ 8 + (scr.getD (at_ + 1) 0).toNat) := by rw [Int32.or_comm, jo_or (k := 8) (by omega)]
          rw [w_G_b h (by omega), jb_and, show (8 : Int32) = Int32.ofNat 8 from rfl, jo_shl (by decide), eor]
          refine jT_neg (fun q => q (by decide)) (jT_g (w_G_k h) (jT_g (w_G_k h) (jT_g (gA h.2.2.2.1.2.1 (jo_in (by omega) (by omega))) (jT_l (g99 2 _ (by omega) (by omega) (fun q => by omega) fun _ => ⟨by rw [← cw]; exact ew, ?_⟩)))))
          unfold w_sz
          rw [if_neg (by omega), if_pos cc]
          omega
  unfold F_4_push
  by_cases c6 : c = 76
  · exact jT_neg (fun q => q (e76.mpr c6)) (g21 1 (by decide) (by unfold w_wd; rw [if_pos c6]))
  · refine jT_pos (fun q => c6 (e76.mp q)) ?_
    by_cases c7 : c = 77
    · exact jT_neg (fun q => q (e77.mpr c7)) (g21 2 (by decide) (by unfold w_wd; rw [if_neg c6, if_pos c7]))
    · exact jT_pos (fun q => c7 (e77.mp q)) (g21 0 (by decide) (by unfold w_wd; rw [if_neg c6, if_neg c7]))
end RUN4
