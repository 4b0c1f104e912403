/-! The class's machine: calculate, digest. -/
def w_nc (c : Nat) : Nat := if c ≤ 146 then 1 else if c = 165 then 3 else 2
def w_o1 (c : Nat) (a : Int64) : Int64 := if c = 139 then a + 1 else if c = 140 then a - 1 else if c = 143 then -a else if c = 144 then jabsL a else if c = 145 then (if a = 0 then 1 else 0) else if a = 0 then 0 else 1
def w_o2 (c : Nat) (a b : Int64) : Int64 :=
  if c = 147 then a + b else if c = 148 then a - b else if c = 154 then (if a = 0 ∨ b = 0 then 0 else 1) else if c = 155 then (if a = 0 ∧ b = 0 then 0 else 1) else if c = 156 then (if a = b then 1 else 0)
  else if c = 158 then (if a = b then 0 else 1) else if c = 159 then (if b ≤ a then 0 else 1) else if c = 160 then (if a ≤ b then 0 else 1) else if c = 161 then (if b < a then 0 else 1) else if c = 162 then (if a < b then 0 else 1)
  else if c = 163 then jminL a b else jmaxL a b
def w_sh (st : w_R) (n : Nat) : Bool := (List.range n).all fun i => decide ((w_tp st (i + 1)).length ≤ 4)
def w_cbad (c : Nat) : Bool := decide (c < 139) || decide (c = 141) || decide (c = 142) || (decide (148 < c) && decide (c < 154))
def w_cal (c : Nat) (st sd : w_R) : Option (w_R × w_R) :=
  if w_cbad c = true ∨ st.length < w_nc c ∨ w_sh st (w_nc c) = false then none
  else if w_nc c = 1 then some (w_dr st 1 ++ [w_en (w_o1 c (zno (w_tp st 1)))], sd)
  else if w_nc c = 3 then some (w_dr st 3 ++ [w_en (if zno (w_tp st 3) < zno (w_tp st 2) ∨ zno (w_tp st 1) ≤ zno (w_tp st 3) then 0 else 1)], sd)
  else if c = 157 then (if zno (w_tp st 2) = zno (w_tp st 1) then some (w_dr st 2, sd) else none)
  else some (w_dr st 2 ++ [w_en (w_o2 c (zno (w_tp st 2)) (zno (w_tp st 1)))], sd)
def w_sm (x : Int64) : Prop := x.toInt.natAbs < 4294967296
theorem w_sm01 {P : Prop} [Decidable P] : (if P then (0 : Int64) else 1).toInt.natAbs < 1099511627776 := by
  by_cases c : P
  · rw [if_pos c]
    decide
  · rw [if_neg c]
    decide
theorem w_sm10 {P : Prop} [Decidable P] : (if P then (1 : Int64) else 0).toInt.natAbs < 1099511627776 := by
  by_cases c : P
  · rw [if_pos c]
    decide
  · rw [if_neg c]
    decide
theorem w_add_i {a b : Int64} (ha : w_sm a) (hb : w_sm b) : (a + b).toInt = a.toInt + b.toInt := by
  unfold w_sm at ha hb
  rw [Int64.toInt_add, bm64 (by omega) (by omega)]
theorem w_sub_i {a b : Int64} (ha : w_sm a) (hb : w_sm b) : (a - b).toInt = a.toInt - b.toInt := by
  unfold w_sm at ha hb
  rw [Int64.toInt_sub, bm64 (by omega) (by omega)]
theorem w_neg_i {a : Int64} (ha : w_sm a) : (-a).toInt = -a.toInt := by
  unfold w_sm at ha
  rw [Int64.toInt_neg, bm64 (by omega) (by omega)]
theorem w_o1_abs {c : Nat} {a : Int64} (ha : w_sm a) : (w_o1 c a).toInt.natAbs < 1099511627776 := by
  have h1 : w_sm 1 := by
    unfold w_sm
    decide
  have e1 : (1 : Int64).toInt = 1 := rfl
  have q1 := w_add_i ha h1
  have q2 := w_sub_i ha h1
  have q3 := w_neg_i ha
  have q4 := w_sm10 (P := a = 0)
  have q5 := w_sm01 (P := a = 0)
  have ha' := ha
  unfold w_sm at ha'
  unfold w_o1 jabsL
  split
  · omega
  · split
    · omega
    · split
      · omega
      · split
        · split <;> omega
        · split
          · exact q4
          · exact q5
theorem w_o2_abs {c : Nat} {a b : Int64} (ha : w_sm a) (hb : w_sm b) : (w_o2 c a b).toInt.natAbs < 1099511627776 := by
  have q1 := w_add_i ha hb
  have q2 := w_sub_i ha hb
  have ha' := ha
  have hb' := hb
  unfold w_sm at ha' hb'
  unfold w_o2
  split
  · omega
  split
  · omega
  split
  · exact w_sm01
  split
  · exact w_sm01
  split
  · exact w_sm10
  split
  · exact w_sm01
  split
  · exact w_sm01
  split
  · exact w_sm01
  split
  · exact w_sm01
  split
  · exact w_sm01
  split
  · unfold jminL
    split <;> omega
  · unfold jmaxL
    split <;> omega
section CALC
variable {st sd : w_R} {v : Int32} {H0 H : jH} {Q : Unit → jH → Prop} {c : Nat}
theorem z4_ofOne (hc : c < 256) {a : Int64} : F_4_ofOne (Int32.ofNat c) a H = some (w_o1 c a, H) := by
  have ec : ∀ k, k < 256 → (Int32.ofNat c = Int32.ofNat k ↔ c = k) := fun k hk => jo_eq (by omega) (by omega)
  have e9 : (Int32.ofNat c = 139 ↔ c = 139) := ec 139 (by decide)
  have e0 : (Int32.ofNat c = 140 ↔ c = 140) := ec 140 (by decide)
  have e1 : (Int32.ofNat c = 141 ↔ c = 141) := ec 141 (by decide)
  have e2 : (Int32.ofNat c = 142 ↔ c = 142) := ec 142 (by decide)
  have e3 : (Int32.ofNat c = 143 ↔ c = 143) := ec 143 (by decide)
  have e4 : (Int32.ofNat c = 144 ↔ c = 144) := ec 144 (by decide)
  have e5 : (Int32.ofNat c = 145 ↔ c = 145) := ec 145 (by decide)
  unfold F_4_ofOne B_4_ofOne_83 B_4_ofOne_71 w_o1
  simp only [e9, e0, e1, e2, e3, e4, e5]
  by_cases z : a = 0
  · simp only [z]
    repeat' split
    all_goals first | rfl | omega | simp_all
  · simp only [z]
    repeat' split
    all_goals first | rfl | omega | simp_all
theorem z4_ofTwo (hc : c < 256) (hb : w_cbad c = false) (h2 : w_nc c = 2) (h7 : c ≠ 157) (h165 : c ≤ 165) {a b : Int64} : F_4_ofTwo (Int32.ofNat c) a b H = some (w_o2 c a b, H) := by
  have ec : ∀ k, k < 256 → (Int32.ofNat c = Int32.ofNat k ↔ c = k) := fun k hk => jo_eq (by omega) (by omega)
  have hcc : c = 147 ∨ c = 148 ∨ c = 154 ∨ c = 155 ∨ c = 156 ∨ c = 158 ∨ c = 159 ∨ c = 160 ∨ c = 161 ∨ c = 162 ∨ c = 163 ∨ c = 164 := by
    have a1 : ¬ c < 139 ∧ c ≠ 141 ∧ c ≠ 142 ∧ ¬ (148 < c ∧ c < 154) := by
      unfold w_cbad at hb
      simp only [Bool.or_eq_false_iff, decide_eq_false_iff_not, Bool.and_eq_false_iff] at hb
      omega
    have a2 : 146 < c ∧ c ≠ 165 := by
      unfold w_nc at h2
      split at h2
      · omega
      · split at h2
        · omega
        · omega
    omega
  rcases hcc with rfl | rfl | rfl | rfl | rfl | rfl | rfl | rfl | rfl | rfl | rfl | rfl
  · rfl
  · rfl
  · show (if a = 0 then _ else _) = some (if a = 0 ∨ b = 0 then 0 else 1, H)
    by_cases p : a = 0
    · rw [if_pos p, if_pos (Or.inl p)]
      rfl
    · rw [if_neg p]
      by_cases q : b = 0
      · rw [if_pos q, if_pos (Or.inr q)]
        rfl
      · rw [if_neg q, if_neg (fun w => w.elim p q)]
        rfl
  · show (if ¬ a = 0 then _ else _) = some (if a = 0 ∧ b = 0 then 0 else 1, H)
    by_cases p : a = 0
    · rw [if_neg (fun w => w p)]
      by_cases q : b = 0
      · rw [if_pos q, if_pos ⟨p, q⟩]
        rfl
      · rw [if_neg q, if_neg (fun w => q w.2)]
        rfl
    · rw [if_pos p, if_neg (fun w => p w.1)]
      rfl
  · show (if ¬ a = b then _ else _) = some (if a = b then 1 else 0, H)
    by_cases p : a = b
    · rw [if_neg (fun w => w p), if_pos p]
      rfl
    · rw [if_pos p, if_neg p]
      rfl
  · show (if a = b then _ else _) = some (if a = b then 0 else 1, H)
    by_cases p : a = b
    · rw [if_pos p, if_pos p]
      rfl
    · rw [if_neg p, if_neg p]
      rfl
  · show (if b ≤ a then _ else _) = some (if b ≤ a then 0 else 1, H)
    by_cases p : b ≤ a
    · rw [if_pos p, if_pos p]
      rfl
    · rw [if_neg p, if_neg p]
      rfl
  · show (if a ≤ b then _ else _) = some (if a ≤ b then 0 else 1, H)
    by_cases p : a ≤ b
    · rw [if_pos p, if_pos p]
      rfl
    · rw [if_neg p, if_neg p]
      rfl
  · show (if b < a then _ else _) = some (if b < a then 0 else 1, H)
    by_cases p : b < a
    · rw [if_pos p, if_pos p]
      rfl
    · rw [if_neg p, if_neg p]
      rfl
  · show (if a < b then _ else _) = some (if a < b then 0 else 1, H)
    by_cases p : a < b
    · rw [if_pos p, if_pos p]
      rfl
    · rw [if_neg p, if_neg p]
      rfl
  · rfl
  · rfl
/-- any operand is read as some number -/
theorem z9_numAny {n : Nat} (hs : jsh H) (h : zStk 171 st H) (hn : 1 ≤ n) (hn2 : n < 1000) : ∃ x, F_9_number 171 (Int32.ofNat n) H = some (x, H) := by
  obtain ⟨k0, r0, r1, k1, k2, k3⟩ := sSt hs zS171
  obtain ⟨h1, h2, h3, -, h5⟩ := h
  unfold F_9_number B_9_number_13
  rw [if_neg (by rw [show (1 : Int32) = Int32.ofNat 1 from rfl, jo_lt (by omega) (by omega)]; omega), jg_t k0, h2]
  by_cases c : n ≤ st.length
  · obtain ⟨q1, q2, q3⟩ := h5 _ _ (w_tp_at hn c)
    have q4 := h3 (st.length - n) (by omega)
    have kr := k3 _ q4.1 q4.2
    have e1 : Int32.ofNat st.length - Int32.ofNat n = Int32.ofNat (st.length - n) := jo_sub c
    rw [if_pos (by rw [jo_le (by omega) (by omega)]; exact c), e1, r0, r1, jg_t k0, jg_t k0, jg_t (gA k1 (jo_in (by omega) (by omega))), jo_nat (n := st.length - n) (by omega)]
    dsimp only [jl]
    rw [jg_t k0, jg_t k0, jg_t (gA k2 (jo_in (by omega) (by omega))), q2]
    generalize (w_tp st n).length = L at *
    generalize jR H (171 + 1) (st.length - n) = r at *
    have fin : ∀ acc, ∃ x, B_9_number_106 r (Int32.ofNat L) acc H = some (x, H) := fun acc => by
      unfold B_9_number_106 B_9_number_124 B_9_number_126
      by_cases z : L = 0
      · exact ⟨acc, by rw [if_pos (by rw [z]; decide)]⟩
      · have em : Int32.ofNat L - 1 = Int32.ofNat (L - 1) := jo_sub (a := L) (b := 1) (by omega)
        rw [if_neg (by rw [show (0 : Int32) = Int32.ofNat 0 from rfl, jo_le (by omega) (by omega)]; omega), em, jg_t (gA kr (jo_in (by omega) (by omega)))]
        by_cases g : 0 ≤ jbs (jB H r (Int32.ofNat (L - 1)).toNatClampNeg)
        · exact ⟨acc, by rw [if_pos g]⟩
        · exact ⟨-acc, by rw [if_neg g]⟩
    have loop : ∀ (d i f : Nat) (acc : Int64), i + d = 8 → d < f → ∃ x, F_9_number_45 f r (Int32.ofNat L) acc (Int32.ofNat i) H = some (x, H) := by
      intro d
      induction d with
      | zero =>
        intro i f acc hi hf
        obtain ⟨f, rfl⟩ : ∃ k, f = k + 1 := ⟨f - 1, by omega⟩
        obtain rfl : i = 8 := by omega
        unfold F_9_number_45 B_9_number_45
        obtain ⟨x, hx⟩ := fin acc
        refine ⟨x, ?_⟩
        rw [if_pos (c := (8 : Int32) ≤ Int32.ofNat 8) (by decide), hx]
        split <;> rfl
      | succ d ih =>
        intro i f acc hi hf
        obtain ⟨f, rfl⟩ : ∃ k, f = k + 1 := ⟨f - 1, by omega⟩
        unfold F_9_number_45 B_9_number_45 B_9_number_84
        have e_i : Int32.ofNat i + 1 = Int32.ofNat (i + 1) := jo_add (a := i) (b := 1)
        obtain ⟨y, hy⟩ := fin acc
        by_cases z : L ≤ i
        · exact ⟨y, by rw [if_pos (by rw [jo_le (by omega) (by omega)]; exact z), hy]⟩
        · rw [if_neg (by rw [jo_le (by omega) (by omega)]; exact z), if_neg (by rw [show (8 : Int32) = Int32.ofNat 8 from rfl, jo_le (by omega) (by omega)]; omega), e_i]
          by_cases w : ¬ Int32.ofNat i = Int32.ofNat L - 1
          · rw [if_pos w, jg_t (gA kr (jo_in (by omega) (by omega)))]
            exact ih (i + 1) f _ (by omega) (by omega)
          · rw [if_neg w, jg_t (gA kr (jo_in (by omega) (by omega)))]
            exact ih (i + 1) f _ (by omega) (by omega)
    exact loop 8 0 jfuel 0 rfl (by unfold jfuel; omega)
  · exact ⟨0, by rw [if_neg (by rw [jo_le (by omega) (by omega)]; exact c)]⟩
theorem w_sh_t {n : Nat} : w_sh st n = true ↔ ∀ i, 1 ≤ i → i ≤ n → (w_tp st i).length ≤ 4 := by
  unfold w_sh
  rw [List.all_eq_true]
  refine ⟨fun h i h1 h2 => ?_, fun h i hi => decide_eq_true (h (i + 1) (by omega) (by have := List.mem_range.mp hi; omega))⟩
  have := of_decide_eq_true (h (i - 1) (List.mem_range.mpr (by omega)))
  rw [show i - 1 + 1 = i by omega] at this
  exact this
theorem z4_calculate (hc : c < 256) (h165 : c ≤ 165) (h : w_N st sd 0 H0 H) (hb : st.length + sd.length ≤ 60) (hk1 : ∀ st' sd' H', w_cal c st sd = some (st', sd') → w_N st' sd' 0 H0 H' → Q () H') (hk0 : ∀ a b H', w_cal c st sd = none → w_N a b 2 H0 H' → Q () H') : jT (F_4_calculate 170 (Int32.ofNat c) H) Q := by
  have ec : ∀ k, k < 256 → (Int32.ofNat c = Int32.ofNat k ↔ c = k) := fun k hk => jo_eq (by omega) (by omega)
  have el : ∀ k, k < 256 → (Int32.ofNat c < Int32.ofNat k ↔ c < k) := fun k hk => jo_lt (by omega) (by omega)
  have ele : ∀ k, k < 256 → (Int32.ofNat c ≤ Int32.ofNat k ↔ c ≤ k) := fun k hk => jo_le (by omega) (by omega)
  have b67 : ∀ u H1, w_N st sd u H0 H1 → w_cal c st sd = none → jT (B_4_calculate_67 170 H1) Q := fun u H1 h1 hn => by
    unfold B_4_calculate_67
    exact jT_g (w_N_k h1) (jT_l (jT_ret (hk0 _ _ _ hn (w_st h1))))
  have nn : ∀ P : Prop, P = (w_cbad c = true ∨ st.length < w_nc c ∨ w_sh st (w_nc c) = false) → P → w_cal c st sd = none := fun P hP p => by
    unfold w_cal
    rw [if_pos (hP ▸ p)]
  have n13 : w_nc c = 1 ∨ w_nc c = 2 ∨ w_nc c = 3 := by
    unfold w_nc
    split
    · exact Or.inl rfl
    · split
      · exact Or.inr (Or.inr rfl)
      · exact Or.inr (Or.inl rfl)
  have g59 : w_cbad c = false → jT (B_4_calculate_59 170 (Int32.ofNat c) (Int32.ofNat (w_nc c)) H) Q := by
    intro hcb
    unfold B_4_calculate_59
    refine jT_g (w_N_k h) (w_has h rfl (by omega) (fun hl => ?_) fun hl H' h' => jT_neg (fun q => q rfl) (b67 2 H' h' (nn _ rfl (Or.inr (Or.inl hl)))))
    refine jT_pos (by decide) ?_
    have loop : ∀ (d i fu : Nat), i + d = w_nc c + 1 → 1 ≤ i → d < fu → (∀ j, 1 ≤ j → j < i → (w_tp st j).length ≤ 4) → jT (F_4_calculate_75 fu 170 (Int32.ofNat c) (Int32.ofNat (w_nc c)) (Int32.ofNat i) H) Q := by
      intro d
      induction d with
      | zero =>
        intro i fu hi h1i hfu hall
        obtain ⟨fu, rfl⟩ : ∃ k, fu = k + 1 := ⟨fu - 1, by omega⟩
        obtain rfl : i = w_nc c + 1 := by omega
        have ess : w_sh st (w_nc c) = true := w_sh_t.mpr fun j h1 h2 => hall j h1 (by omega)
        have ecal : w_cal c st sd = if w_nc c = 1 then some (w_dr st 1 ++ [w_en (w_o1 c (zno (w_tp st 1)))], sd)
            else if w_nc c = 3 then some (w_dr st 3 ++ [w_en (if zno (w_tp st 3) < zno (w_tp st 2) ∨ zno (w_tp st 1) ≤ zno (w_tp st 3) then 0 else 1)], sd)
            else if c = 157 then (if zno (w_tp st 2) = zno (w_tp st 1) then some (w_dr st 2, sd) else none)
            else some (w_dr st 2 ++ [w_en (w_o2 c (zno (w_tp st 2)) (zno (w_tp st 1)))], sd) := by
          unfold w_cal
          rw [if_neg]
          intro q
          rcases q with q | q | q
          · rw [hcb] at q
            cases q
          · omega
          · rw [ess] at q
            cases q
        obtain ⟨x1, hx1⟩ := z9_numAny (n := 1) h.1.1 h.1.2.1 (by decide) (by decide)
        obtain ⟨x2, hx2⟩ := z9_numAny (n := 2) h.1.1 h.1.2.1 (by decide) (by decide)
        obtain ⟨x3, hx3⟩ := z9_numAny (n := 3) h.1.1 h.1.2.1 (by decide) (by decide)
        have ev : ∀ n x, F_9_number 171 (Int32.ofNat n) H = some (x, H) → 1 ≤ n → n ≤ w_nc c → x = zno (w_tp st n) := fun n x hx q1 q2 => by
          rw [z9_number h.1.1 zS171 h.1.2.1 q1 (by omega) (hall n q1 (by omega))] at hx
          exact (congrArg Prod.fst (Option.some.inj hx)).symm
        have ex1 := ev 1 x1 hx1 (by decide) (by omega)
        rw [show Int32.ofNat 1 = 1 from rfl] at hx1
        have ex2 := ev 2 x2 hx2 (by decide)
        rw [show Int32.ofNat 2 = 2 from rfl] at hx2
        have ex3 := ev 3 x3 hx3 (by decide)
        rw [show Int32.ofNat 3 = 3 from rfl] at hx3
        have s1 : w_sm (zno (w_tp st 1)) := zno_abs (hall 1 (by decide) (by omega))
        unfold F_4_calculate_75 B_4_calculate_75
        simp only [(w_N_h h).2.2.1, hx1, hx2, hx3, jb_ok]
        refine jT_pos (by rw [jo_lt (by omega) (by omega)]; omega) (jT_g (w_N_k h) (jT_g (w_N_k1 h) (jT_g (w_N_k h) (jT_g (w_N_k1 h) (jT_g (w_N_k h) (jT_g (w_N_k1 h) (jT_g (w_N_k h) (jT_g (w_N_k1 h) (w_drA (n := w_nc c) h rfl hl fun H2 h2 => ?_)))))))))
        have l2 : (w_dr st (w_nc c)).length = st.length - w_nc c := w_dr_len
        simp only [(w_N_h h2).2.2.1]
        rcases n13 with m | m | m
        · rw [m] at h2 l2 ⊢
          refine jT_neg (fun q => q rfl) (jT_g (w_N_k h2) ?_)
          rw [z4_ofOne hc, jb_ok, ex1]
          refine jT_g (w_N_k1 h2) (w_pnA h2 (w_o1_abs s1) (by omega) fun H3 h3 => ?_)
          unfold B_4_calculate_231
          exact jT_ret (hk1 _ _ H3 (by rw [ecal, if_pos m]) h3)
        · have s2 : w_sm (zno (w_tp st 2)) := zno_abs (hall 2 (by decide) (by omega))
          rw [ex1, ex2 (by omega)]
          have e57 : (Int32.ofNat c = 157 ↔ c = 157) := ec 157 (by decide)
          rw [m] at h2 l2 ⊢
          refine jT_pos (by decide) (jT_pos (by decide) ?_)
          by_cases c7 : c = 157
          · refine jT_pos (e57.mpr c7) ?_
            by_cases p : zno (w_tp st 2) = zno (w_tp st 1)
            · refine jT_pos p ?_
              unfold B_4_calculate_231
              exact jT_ret (hk1 _ _ H2 (by rw [ecal, if_neg (by omega), if_neg (by omega), if_pos c7, if_pos p]) h2)
            · refine jT_neg p (jT_g (w_N_k h2) (jT_l ?_))
              unfold B_4_calculate_231
              exact jT_ret (hk0 _ _ _ (by rw [ecal, if_neg (by omega), if_neg (by omega), if_pos c7, if_neg p]) (w_st h2))
          · refine jT_neg (fun q => c7 (e57.mp q)) (jT_g (w_N_k h2) ?_)
            rw [z4_ofTwo hc hcb m c7 h165, jb_ok]
            refine jT_g (w_N_k1 h2) (w_pnA h2 (w_o2_abs s2 s1) (by omega) fun H3 h3 => ?_)
            unfold B_4_calculate_231
            exact jT_ret (hk1 _ _ H3 (by rw [ecal, if_neg (by omega), if_neg (by omega), if_neg c7]) h3)
        · rw [ex1, ex2 (by omega), ex3 (by omega)]
          rw [m] at h2 l2 ⊢
          have g189 : ∀ x : Int64, x.toInt.natAbs < 1099511627776 → x = (if zno (w_tp st 3) < zno (w_tp st 2) ∨ zno (w_tp st 1) ≤ zno (w_tp st 3) then 0 else 1) → jT (B_4_calculate_189 171 x H2) Q := fun x hx ex => by
            unfold B_4_calculate_189 B_4_calculate_231
            refine jT_g (w_N_k1 h2) (w_pnA h2 hx (by omega) fun H3 h3 => jT_ret (hk1 _ _ H3 ?_ h3))
            rw [ecal, if_neg (by omega), if_pos m, ← ex]
          refine jT_pos (by decide) (jT_neg (fun q => q rfl) (jT_g (w_N_k h2) ?_))
          unfold B_4_calculate_188
          by_cases p : zno (w_tp st 3) < zno (w_tp st 2)
          · exact jT_pos p (g189 0 (by decide) (by rw [if_pos (Or.inl p)]))
          · refine jT_neg p ?_
            by_cases q : zno (w_tp st 1) ≤ zno (w_tp st 3)
            · exact jT_pos q (g189 0 (by decide) (by rw [if_pos (Or.inr q)]))
            · exact jT_neg q (g189 1 (by decide) (by rw [if_neg (fun w => w.elim p q)]))
      | succ d ih =>
        intro i fu hi h1i hfu hall
        obtain ⟨fu, rfl⟩ : ∃ k, fu = k + 1 := ⟨fu - 1, by omega⟩
        have e1 : Int32.ofNat i + 1 = Int32.ofNat (i + 1) := jo_add (a := i) (b := 1)
        unfold F_4_calculate_75 B_4_calculate_75
        simp only [(w_N_h h).2.2.1]
        refine jT_neg (by rw [jo_lt (by omega) (by omega)]; omega) (jT_g (w_N_k h) (jT_g (w_N_k1 h) (w_isN h rfl h1i (by omega) (fun q1 q2 => ?_) fun q => ?_)))
        · rw [e1]
          exact jT_pos (by decide) (jT_l (ih (i + 1) fu (by omega) (by omega) (by omega) fun j j1 j2 => by
            by_cases e : j = i
            · rw [e]
              exact q2
            · exact hall j j1 (by omega)))
        · refine jT_neg (fun w => w rfl) (jT_g (w_N_k h) (jT_l (jT_ret (hk0 _ _ _ (nn _ rfl (Or.inr (Or.inr ?_))) (w_st h)))))
          rw [← Bool.not_eq_true, w_sh_t]
          exact fun w => q ⟨by omega, w i h1i (by omega)⟩
    exact loop (w_nc c) 1 jfuel (by omega) (Nat.le_refl 1) (by unfold jfuel; omega) fun j j1 j2 => absurd j2 (by omega)
  have g23 : jT (B_4_calculate_23 170 (Int32.ofNat c) (Int32.ofNat (w_nc c)) H) Q := by
    unfold B_4_calculate_23
    have bb : w_cbad c = true → w_cal c st sd = none := fun q => nn _ rfl (Or.inl q)
    by_cases p1 : c < 139
    · exact jT_pos ((el 139 (by decide)).mpr p1) (b67 0 H h (bb (by unfold w_cbad; simp [p1])))
    refine jT_neg (fun q => p1 ((el 139 (by decide)).mp q)) ?_
    by_cases p2 : c = 141
    · exact jT_pos ((ec 141 (by decide)).mpr p2) (b67 0 H h (bb (by unfold w_cbad; simp [p2])))
    refine jT_neg (fun q => p2 ((ec 141 (by decide)).mp q)) ?_
    by_cases p3 : c = 142
    · exact jT_pos ((ec 142 (by decide)).mpr p3) (b67 0 H h (bb (by unfold w_cbad; simp [p3])))
    refine jT_neg (fun q => p3 ((ec 142 (by decide)).mp q)) ?_
    by_cases p4 : c ≤ 148
    · exact jT_pos ((ele 148 (by decide)).mpr p4) (g59 (by unfold w_cbad; rw [decide_eq_false p1, decide_eq_false p2, decide_eq_false p3, decide_eq_false (show ¬ 148 < c by omega)]; rfl))
    refine jT_neg (fun q => p4 ((ele 148 (by decide)).mp q)) ?_
    by_cases p5 : c < 154
    · exact jT_pos ((el 154 (by decide)).mpr p5) (b67 0 H h (bb (by unfold w_cbad; rw [decide_eq_true (show 148 < c by omega), decide_eq_true p5]; simp)))
    · exact jT_neg (fun q => p5 ((el 154 (by decide)).mp q)) (g59 (by unfold w_cbad; rw [decide_eq_false p1, decide_eq_false p2, decide_eq_false p3, decide_eq_false p5]; simp))
  unfold F_4_calculate
  by_cases p6 : 146 < c
  · refine jT_pos (by rw [show (146 : Int32) = Int32.ofNat 146 from rfl, jo_lt (by omega) (by omega)]; exact p6) ?_
    by_cases p7 : c = 165
    · have : w_nc c = 3 := by unfold w_nc; rw [if_neg (by omega), if_pos p7]
      rw [this] at g23
      exact jT_neg (fun q => q ((ec 165 (by decide)).mpr p7)) g23
    · have : w_nc c = 2 := by unfold w_nc; rw [if_neg (by omega), if_neg p7]
      rw [this] at g23
      exact jT_pos (fun q => p7 ((ec 165 (by decide)).mp q)) g23
  · have : w_nc c = 1 := by unfold w_nc; rw [if_pos (by omega)]
    rw [this] at g23
    exact jT_neg (by rw [show (146 : Int32) = Int32.ofNat 146 from rfl, jo_lt (by omega) (by omega)]; exact p6) g23
end CALC
