/-! Families in the pool: as sets; the class marks them. -/
def p_g (ps : List p_e) (k : Nat) : p_e := ps.getD k (([], [], ([], [], 0)), 0)
theorem p_g_at {ps : List p_e} {i : Nat} (h : i < ps.length) : ps[i]? = some (p_g ps i) := by
  unfold p_g
  rw [List.getD_eq_getElem?_getD, List.getElem?_eq_getElem h]
  rfl
theorem p_g_of {ps : List p_e} {i : Nat} {e : p_e} (h : ps[i]? = some e) : p_g ps i = e := by
  unfold p_g
  rw [List.getD_eq_getElem?_getD, h]
  rfl
/-- the one hangs on the other -/
def p_hg (ps : List p_e) (i j : Nat) : Bool := p_sp (p_g ps i).1.2.1 (p_g ps i).1.2.2 (p_g ps j).1.1
def p_cl (ps : List p_e) (T : Nat → Bool) : Prop := ∀ i j, i < ps.length → j < ps.length → T j = true → p_hg ps i j = true → T i = true
def p_su (n : Nat) (S T : Nat → Bool) : Prop := ∀ i, i < n → S i = true → T i = true
/-- a family -/
noncomputable def p_fam (ps : List p_e) (S : Nat → Bool) : Nat → Bool := fun i => b_if (∀ T, p_su ps.length S T → p_cl ps T → T i = true) true false
theorem p_fam_t {ps : List p_e} {S : Nat → Bool} {i : Nat} : p_fam ps S i = true ↔ ∀ T, p_su ps.length S T → p_cl ps T → T i = true := by
  unfold p_fam
  by_cases h : ∀ T, p_su ps.length S T → p_cl ps T → T i = true
  · rw [b_pos h]
    exact ⟨fun _ => h, fun _ => rfl⟩
  · rw [b_neg h]
    exact ⟨fun w => (by cases w), fun w => absurd w h⟩
theorem p_fam_su {ps : List p_e} {S : Nat → Bool} : p_su ps.length S (p_fam ps S) := fun i hi hs => p_fam_t.mpr fun T h1 _ => h1 i hi hs
theorem p_fam_cl {ps : List p_e} {S : Nat → Bool} : p_cl ps (p_fam ps S) := fun i j hi hj hT hg => p_fam_t.mpr fun T h1 h2 => h2 i j hi hj (p_fam_t.mp hT T h1 h2) hg
/-- between the beginning and the family -/
def p_mid (ps : List p_e) (S K : Nat → Bool) : Prop := p_su ps.length S K ∧ p_su ps.length K (p_fam ps S)
theorem p_mid_cl {ps : List p_e} {S K : Nat → Bool} (h : p_mid ps S K) (hc : p_cl ps K) : ∀ i, i < ps.length → K i = p_fam ps S i := fun i hi => jbl ⟨h.2 i hi, fun w => p_fam_t.mp w K h.1 hc⟩
def p_up (K : Nat → Bool) (i : Nat) : Nat → Bool := fun j => if j = i then true else K j
theorem p_up_e {K : Nat → Bool} {i : Nat} : p_up K i i = true := if_pos rfl
theorem p_up_n {K : Nat → Bool} {i j : Nat} (h : j ≠ i) : p_up K i j = K j := if_neg h
theorem p_cnt_up {K : Nat → Bool} {i : Nat} (h : K i = false) : ∀ n, b_cnt (p_up K i) n = b_cnt K n + if i < n then 1 else 0
  | 0 => rfl
  | n + 1 => by
    have ih := p_cnt_up h n
    show b_cnt (p_up K i) n + (if p_up K i n = true then 1 else 0) = b_cnt K n + (if K n = true then 1 else 0) + _
    by_cases c : n = i
    · rw [c] at ih ⊢
      rw [ih, p_up_e, h, if_neg (Nat.lt_irrefl i), if_pos (Nat.lt_succ_self i)]
      rfl
    · rw [p_up_n c, ih]
      generalize (if K n = true then 1 else 0) = z
      by_cases c2 : i < n
      · rw [if_pos c2, if_pos (show i < n + 1 by omega)]
        omega
      · rw [if_neg c2, if_neg (show ¬ i < n + 1 by omega)]
        omega
theorem p_cnt_all {K : Nat → Bool} {n : Nat} (h : n ≤ b_cnt K n) : ∀ i, i < n → K i = true := by
  induction n with
  | zero => exact fun i hi => absurd hi (Nat.not_lt_zero i)
  | succ n ih =>
    intro i hi
    have l := b_cnt_le (bad := K) n
    have h' : n + 1 ≤ b_cnt K n + (if K n = true then 1 else 0) := h
    have hn : K n = true := by
      cases hK : K n with
      | true => rfl
      | false =>
        rw [hK, if_neg (show ¬ (false = true) by decide)] at h'
        omega
    rw [hn, if_pos rfl] at h'
    by_cases c : i = n
    · rw [c]
      exact hn
    · exact ih (by omega) i (by omega)
theorem p_mid_up {ps : List p_e} {S K : Nat → Bool} {i j : Nat} (h : p_mid ps S K) (hi : i < ps.length) (hj : j < ps.length) (hK : K j = true) (hg : p_hg ps i j = true) : p_mid ps S (p_up K i) := by
  refine ⟨fun k hk hs => ?_, fun k hk hs => ?_⟩
  · by_cases c : k = i
    · rw [c]
      exact p_up_e
    · rw [p_up_n c]
      exact h.1 k hk hs
  · by_cases c : k = i
    · rw [c]
      exact p_fam_cl i j hi hj (h.2 j hj hK) hg
    · rw [p_up_n c] at hs
      exact h.2 k hk hs
/-- with the head itself -/
theorem p_fam_head {ps : List p_e} {h : Nat} (hh : h < ps.length) : ∀ i, i < ps.length → p_fam ps (fun i => decide (i = h) || p_hg ps i h) i = (decide (i = h) || p_fam ps (fun i => p_hg ps i h) i) := fun i hi => by
  refine jbl ⟨fun w => ?_, fun w => ?_⟩
  · refine p_fam_t.mp w (fun i => decide (i = h) || p_fam ps (fun i => p_hg ps i h) i) (fun k hk hs => ?_) fun k j hk hj hT hg => ?_
    · rcases Bool.or_eq_true_iff.mp hs with q | q
      · exact Bool.or_eq_true_iff.mpr (Or.inl q)
      · exact Bool.or_eq_true_iff.mpr (Or.inr (p_fam_su k hk q))
    · refine Bool.or_eq_true_iff.mpr (Or.inr ?_)
      rcases Bool.or_eq_true_iff.mp hT with q | q
      · rw [of_decide_eq_true q] at hg
        exact p_fam_su k hk hg
      · exact p_fam_cl k j hk hj q hg
  · rcases Bool.or_eq_true_iff.mp w with q | q
    · rw [of_decide_eq_true q]
      exact p_fam_su h hh (Bool.or_eq_true_iff.mpr (Or.inl (decide_eq_true rfl)))
    · refine p_fam_t.mpr fun T h1 h2 => p_fam_t.mp q T (fun k hk hs => h1 k hk (Bool.or_eq_true_iff.mpr (Or.inr hs))) h2
def p_ib (c : Bool) : Int32 := if c = true then 1 else 0
/-- flags of a row -/
def p_fl (a n : Nat) (K : Nat → Bool) (H : jH) : Prop := ∀ i, i < n → jI H a i = p_ib (K i)
theorem p_fl_up {a n i : Nat} {K : Nat → Bool} {H : jH} (h : p_fl a n K H) : p_fl a n (p_up K i) (jsI H a i 1) := fun j hj => by
  by_cases c : j = i
  · rw [c, p_up_e]
    exact jI_sIe
  · rw [p_up_n c]
    exact (jI_sIn c).trans (h j hj)
theorem p_fl_eq {a n : Nat} {K K' : Nat → Bool} {H : jH} (h : p_fl a n K H) (e : ∀ i, i < n → K i = K' i) : p_fl a n K' H := fun i hi => by rw [h i hi, e i hi]
def p_T418 : Nat → Nat → Prop := fun a _ => a = 418
theorem p_PA_418 {ps : List p_e} {H H' : jH} (h : p_PA ps H) (hf : jfr p_T418 H H') : p_PA ps H' := p_PA_fr h hf fun a j w => by unfold p_T418 at w; omega
section KIN6
variable {ps : List p_e} {Hs : jH} {S : Nat → Bool}
theorem p_sp6 (hA : p_PA ps Hs) (hok : p_ok ps) {i j : Nat} (hi : i < ps.length) (hj : j < ps.length) : F_10_spendsOf (jR Hs 415 i) (jR Hs 415 j) Hs = some (p_ib (p_hg ps i j), Hs) := by
  obtain ⟨⟨row, s, len, hx⟩, -⟩ := hA.2 i _ (p_g_at hi)
  obtain ⟨⟨row2, s2, len2, hx2⟩, -⟩ := hA.2 j _ (p_g_at hj)
  exact p_spendsOf (hok.2.1 i _ (p_g_at hi)).1 hx hx2
/-- does one hang on one that is marked? -/
theorem z6_mk83 {Q : Unit → jH → Prop} {k71 : Nat → Int32 → Int32 → Int32 → jH → Option (Unit × jH)} {K : Nat → Bool} {g : Bool} {t : Int32} {i : Nat} (hok : p_ok ps) (hA0 : p_PA ps Hs) (hi : i < ps.length)
    (hk : ∀ K' g' H', jsh H' → jfr p_T418 Hs H' → p_fl 418 ps.length K' H' → ((K' = K ∧ g' = g ∧ (K i = true ∨ ∀ j, j < ps.length → K j = true → p_hg ps i j = false)) ∨ (K i = false ∧ K' = p_up K i ∧ g' = true ∧ ∃ j, j < ps.length ∧ K j = true ∧ p_hg ps i j = true)) → jT (k71 414 (p_ib g') t (Int32.ofNat (i + 1)) H') Q) :
    ∀ (d j fu : Nat) (H : jH), j + d = ps.length → d < fu → jsh H → jfr p_T418 Hs H → p_fl 418 ps.length K H → (∀ j', j' < j → K j' = true → p_hg ps i j' = false) → jT (F_6_markKin_83 k71 fu 414 (p_ib g) t (Int32.ofNat i) (Int32.ofNat j) H) Q := by
  have l41 := hok.1
  have k6 : ∀ {H}, jsh H → (jK H 414).1 = 6 := fun hs => gT (sK_414 hs)
  have e1i : Int32.ofNat i + 1 = Int32.ofNat (i + 1) := jo_add (a := i) (b := 1)
  have out : ∀ (K' : Nat → Bool) (g' : Bool) (j fu : Nat) (H : jH), j ≤ ps.length → 0 < fu → jsh H → jfr p_T418 Hs H → p_fl 418 ps.length K' H → K' i = true → ((K' = K ∧ g' = g ∧ (K i = true ∨ ∀ j, j < ps.length → K j = true → p_hg ps i j = false)) ∨ (K i = false ∧ K' = p_up K i ∧ g' = true ∧ ∃ j, j < ps.length ∧ K j = true ∧ p_hg ps i j = true)) → jT (F_6_markKin_83 k71 fu 414 (p_ib g') t (Int32.ofNat i) (Int32.ofNat j) H) Q := fun K' g' j fu H hj hfu hs hf hfl hK hd => by
    obtain ⟨fu, rfl⟩ : ∃ k, fu = k + 1 := ⟨fu - 1, by omega⟩
    have hA := p_PA_418 hA0 hf
    have fin := hk K' g' H hs hf hfl hd
    unfold F_6_markKin_83 B_6_markKin_83 B_6_markKin_148
    rw [hA.1, sR_414_6 hs, jo_nat (n := i) (by omega), hfl i hi, hK, e1i]
    refine jT_g (k6 hs) ?_
    by_cases c : ps.length ≤ j
    · exact jT_pos (by rw [jo_le (by omega) (by omega)]; exact c) (jT_l fin)
    · exact jT_neg (by rw [jo_le (by omega) (by omega)]; exact c) (jT_g (k6 hs) (jT_g (gA (sK_418 hs) (jo_in (by omega) (by omega))) (jT_pos (by decide) (jT_l fin))))
  intro d
  induction d with
  | zero =>
    intro j fu H hj hfu hs hf hfl hn
    obtain ⟨fu, rfl⟩ : ∃ k, fu = k + 1 := ⟨fu - 1, by omega⟩
    have hA := p_PA_418 hA0 hf
    have fin := hk K g H hs hf hfl (Or.inl ⟨rfl, rfl, Or.inr fun j' hj' => hn j' (by omega)⟩)
    unfold F_6_markKin_83 B_6_markKin_83 B_6_markKin_148
    rw [hA.1, e1i]
    exact jT_g (k6 hs) (jT_pos (by rw [jo_le (by omega) (by omega)]; omega) (jT_l fin))
  | succ d ih =>
    intro j fu H hj hfu hs hf hfl hn
    have hjj : j < ps.length := by omega
    cases hKi : K i with
    | true => exact out K g j fu H (by omega) (by omega) hs hf hfl hKi (Or.inl ⟨rfl, rfl, Or.inl hKi⟩)
    | false =>
      obtain ⟨fu, rfl⟩ : ∃ k, fu = k + 1 := ⟨fu - 1, by omega⟩
      have hA := p_PA_418 hA0 hf
      have e1 : Int32.ofNat j + 1 = Int32.ofNat (j + 1) := jo_add (a := j) (b := 1)
      obtain ⟨⟨row, s, len, hx⟩, -⟩ := hA.2 i _ (p_g_at hi)
      have k10 := hx.1.1
      have nxt : (K j = true → p_hg ps i j = false) → jT (B_6_markKin_142 (F_6_markKin_83 k71 fu) 414 (p_ib g) t (Int32.ofNat i) (Int32.ofNat j) H) Q := fun hc => by
        unfold B_6_markKin_142
        rw [e1]
        refine jT_l (ih (j + 1) fu H (by omega) (by omega) hs hf hfl fun j' hj' hK' => ?_)
        by_cases q : j' = j
        · rw [q] at hK' ⊢
          exact hc hK'
        · exact hn j' (by omega) hK'
      unfold F_6_markKin_83 B_6_markKin_83
      rw [hA.1, sR_414_6 hs, sR_414_2 hs, jo_nat (n := i) (by omega), jo_nat (n := j) (by omega), hfl i hi, hKi, hfl j hjj]
      refine jT_g (k6 hs) (jT_neg (by rw [jo_le (by omega) (by omega)]; omega) (jT_g (k6 hs) (jT_g (gA (sK_418 hs) (jo_in (by omega) (by omega))) (jT_neg (fun w => w rfl) (jT_g (k6 hs) (jT_g (gA (sK_418 hs) (jo_in (by omega) (by omega))) ?_))))))
      cases hKj : K j with
      | false => exact jT_pos rfl (nxt fun w => by rw [hKj] at w; cases w)
      | true =>
        refine jT_neg (by decide) (jT_g (k6 hs) (jT_g (gA (sK_415 hs) (jo_in (by omega) (by omega))) (jT_g (k6 hs) (jT_g (gA (sK_415 hs) (jo_in (by omega) (by omega))) (jT_g k10 ?_)))))
        rw [p_sp6 hA hok hi hjj, jb_ok]
        cases hg : p_hg ps i j with
        | false => exact jT_pos rfl (nxt fun _ => hg)
        | true =>
          rw [sR_414_6 hs]
          refine jT_neg (by decide) (jT_g (k6 hs) (jT_g (gA (sK_418 hs) (jo_in (by omega) (by omega))) (jT_l ?_)))
          unfold B_6_markKin_142
          rw [e1]
          exact jT_l (out (p_up K i) true (j + 1) fu _ (by omega) (by omega) (jsh_sI hs (by decide)) (jfr_sI hf rfl) (p_fl_up hfl) p_up_e (Or.inr ⟨hKi, rfl, rfl, j, hjj, hKj, hg⟩))
/-- one pass -/
theorem z6_mk71 {Q : Unit → jH → Prop} {k54 : Nat → Int32 → Int32 → jH → Option (Unit × jH)} {K0 : Nat → Bool} {t : Nat} (hok : p_ok ps) (hA0 : p_PA ps Hs)
    (hk : ∀ K g H', jsh H' → jfr p_T418 Hs H' → p_fl 418 ps.length K H' → p_mid ps S K → ((g = false ∧ p_cl ps K) ∨ (g = true ∧ b_cnt K0 ps.length < b_cnt K ps.length)) → jT (k54 414 (p_ib g) (Int32.ofNat (t + 1)) H') Q) :
    ∀ (d i fu : Nat) (K : Nat → Bool) (g : Bool) (H : jH), i + d = ps.length → d < fu → jsh H → jfr p_T418 Hs H → p_fl 418 ps.length K H → p_mid ps S K → ((g = false ∧ K = K0 ∧ ∀ i', i' < i → K i' = true ∨ ∀ j, j < ps.length → K j = true → p_hg ps i' j = false) ∨ (g = true ∧ b_cnt K0 ps.length < b_cnt K ps.length)) → jT (F_6_markKin_71 k54 fu 414 (p_ib g) (Int32.ofNat t) (Int32.ofNat i) H) Q := by
  have l41 := hok.1
  have k6 : ∀ {H}, jsh H → (jK H 414).1 = 6 := fun hs => gT (sK_414 hs)
  intro d
  induction d with
  | zero =>
    intro i fu K g H hl hfu hs hf hfl hm hd
    obtain ⟨fu, rfl⟩ : ∃ k, fu = k + 1 := ⟨fu - 1, by omega⟩
    have hA := p_PA_418 hA0 hf
    have e1 : Int32.ofNat t + 1 = Int32.ofNat (t + 1) := jo_add (a := t) (b := 1)
    unfold F_6_markKin_71 B_6_markKin_71
    rw [hA.1, e1]
    refine jT_g (k6 hs) (jT_pos (by rw [jo_le (by omega) (by omega)]; omega) (jT_l (hk K g H hs hf hfl hm ?_)))
    rcases hd with ⟨q1, q2, q3⟩ | q
    · refine Or.inl ⟨q1, fun i' j hi' hj hT hg => ?_⟩
      rcases q3 i' (by omega) with w | w
      · exact w
      · rw [w j hj hT] at hg
        cases hg
    · exact Or.inr q
  | succ d ih =>
    intro i fu K g H hl hfu hs hf hfl hm hd
    obtain ⟨fu, rfl⟩ : ∃ k, fu = k + 1 := ⟨fu - 1, by omega⟩
    have hA := p_PA_418 hA0 hf
    have hi : i < ps.length := by omega
    unfold F_6_markKin_71 B_6_markKin_71
    rw [hA.1]
    refine jT_g (k6 hs) (jT_neg (by rw [jo_le (by omega) (by omega)]; omega) ?_)
    refine z6_mk83 (K := K) (g := g) (t := Int32.ofNat t) (i := i) (Hs := Hs) hok hA0 hi (fun K' g' H' hs' hf' hfl' hd' => ?_) ps.length 0 jfuel H (Nat.zero_add _) (by unfold jfuel; omega) hs hf hfl fun j hj => absurd hj (Nat.not_lt_zero j)
    rcases hd' with ⟨rfl, rfl, h3⟩ | ⟨h1, rfl, rfl, j, h2, h3, h4⟩
    · refine ih (i + 1) fu K' g' H' (by omega) (by omega) hs' hf' hfl' hm ?_
      rcases hd with ⟨q1, q2, q3⟩ | q
      · refine Or.inl ⟨q1, q2, fun i' hi' => ?_⟩
        by_cases c : i' = i
        · rw [c]
          exact h3
        · exact q3 i' (by omega)
      · exact Or.inr q
    · refine ih (i + 1) fu _ _ H' (by omega) (by omega) hs' hf' hfl' (p_mid_up hm hi h2 h3 h4) (Or.inr ⟨rfl, ?_⟩)
      rw [p_cnt_up h1, if_pos hi]
      rcases hd with ⟨-, q2, -⟩ | ⟨-, q⟩
      · rw [q2]
        exact Nat.lt_succ_self _
      · omega
/-- pass after pass -/
theorem z6_mk54 {Q : Unit → jH → Prop} (hok : p_ok ps) (hA0 : p_PA ps Hs) (hk : ∀ H', jsh H' → jfr p_T418 Hs H' → p_fl 418 ps.length (p_fam ps S) H' → Q () H') :
    ∀ (d t fu : Nat) (K : Nat → Bool) (g : Bool) (H : jH), t + d = ps.length → d < fu → jsh H → jfr p_T418 Hs H → p_fl 418 ps.length K H → p_mid ps S K → (g = false → p_cl ps K) → (g = true → t ≤ b_cnt K ps.length) → jT (F_6_markKin_54 fu 414 (p_ib g) (Int32.ofNat t) H) Q := by
  have l41 := hok.1
  have k6 : ∀ {H}, jsh H → (jK H 414).1 = 6 := fun hs => gT (sK_414 hs)
  intro d
  induction d with
  | zero =>
    intro t fu K g H hl hfu hs hf hfl hm h0 h1
    obtain ⟨fu, rfl⟩ : ∃ k, fu = k + 1 := ⟨fu - 1, by omega⟩
    have hA := p_PA_418 hA0 hf
    unfold F_6_markKin_54 B_6_markKin_54 B_6_markKin_160
    rw [hA.1]
    refine jT_g (k6 hs) (jT_pos (by rw [jo_le (by omega) (by omega)]; omega) (jT_ret (hk H hs hf (p_fl_eq hfl (p_mid_cl hm ?_)))))
    cases g with
    | false => exact h0 rfl
    | true => exact fun i j hi hj _ _ => p_cnt_all (by have := h1 rfl; omega) i hi
  | succ d ih =>
    intro t fu K g H hl hfu hs hf hfl hm h0 h1
    obtain ⟨fu, rfl⟩ : ∃ k, fu = k + 1 := ⟨fu - 1, by omega⟩
    have hA := p_PA_418 hA0 hf
    unfold F_6_markKin_54 B_6_markKin_54 B_6_markKin_160
    rw [hA.1]
    refine jT_g (k6 hs) (jT_neg (by rw [jo_le (by omega) (by omega)]; omega) ?_)
    cases g with
    | false => exact jT_pos rfl (jT_ret (hk H hs hf (p_fl_eq hfl (p_mid_cl hm (h0 rfl)))))
    | true =>
      refine jT_neg (by decide) ?_
      refine z6_mk71 (S := S) (K0 := K) (t := t) (Hs := Hs) hok hA0 (fun K' g' H' hs' hf' hfl' hm' hd' => ?_) ps.length 0 jfuel K false H (Nat.zero_add _) (by unfold jfuel; omega) hs hf hfl hm (Or.inl ⟨rfl, rfl, fun i hi => absurd hi (Nat.not_lt_zero i)⟩)
      refine ih (t + 1) fu K' g' H' (by omega) (by omega) hs' hf' hfl' hm' (fun e => ?_) fun e => ?_
      · rcases hd' with ⟨-, q⟩ | ⟨q, -⟩
        · exact q
        · rw [e] at q
          cases q
      · rcases hd' with ⟨q, -⟩ | ⟨-, q⟩
        · rw [e] at q
          cases q
        · have := h1 rfl
          omega
theorem z6_markKin {α : Type} {Q : α → jH → Prop} {k : Unit → jH → Option (α × jH)} {oh rh sh lh : Nat} {tbh nmh : List UInt8} {yh : w_y} (hs : jsh Hs) (hok : p_ok ps) (hA0 : p_PA ps Hs) (hx : w_x oh rh sh lh tbh yh nmh Hs) (hS : ∀ i, i < ps.length → (S i = true ↔ jR Hs 415 i = oh ∨ p_sp (p_g ps i).1.2.1 (p_g ps i).1.2.2 nmh = true))
    (hk : ∀ H', jsh H' → jfr p_T418 Hs H' → p_fl 418 ps.length (p_fam ps S) H' → jT (k () H') Q) : jT (jb (F_6_markKin 414 oh Hs) k) Q := by
  have l41 := hok.1
  have k6 : ∀ {H}, jsh H → (jK H 414).1 = 6 := fun hs => gT (sK_414 hs)
  have ho : 422 ≤ oh := hx.2.2.2.2.2.2.2.2.2.2.1
  have loop : ∀ (d i fu : Nat) (H : jH), i + d = ps.length → d < fu → jsh H → jfr p_T418 Hs H → p_fl 418 i S H → jT (F_6_markKin_2 fu 414 oh (Int32.ofNat i) H) (fun x h => jT (k x h) Q) := by
    intro d
    induction d with
    | zero =>
      intro i fu H hl hfu hs hf hfl
      obtain ⟨fu, rfl⟩ : ∃ k, fu = k + 1 := ⟨fu - 1, by omega⟩
      obtain rfl : i = ps.length := by omega
      have hA := p_PA_418 hA0 hf
      unfold F_6_markKin_2 B_6_markKin_2
      rw [hA.1]
      refine jT_g (k6 hs) (jT_pos (by rw [jo_le (by omega) (by omega)]; exact Nat.le_refl _) ?_)
      exact z6_mk54 (S := S) (Q := fun x h => jT (k x h) Q) hok hA0 hk ps.length 0 jfuel S true H (Nat.zero_add _) (by unfold jfuel; omega) hs hf hfl ⟨fun i _ w => w, p_fam_su⟩ (fun w => by cases w) fun _ => Nat.zero_le _
    | succ d ih =>
      intro i fu H hl hfu hs hf hfl
      obtain ⟨fu, rfl⟩ : ∃ k, fu = k + 1 := ⟨fu - 1, by omega⟩
      have hi : i < ps.length := by omega
      have hA := p_PA_418 hA0 hf
      have hx1 := w_x_jfr hx hf fun a j q w => by unfold p_T418 at w; omega
      have eR : jR H 415 i = jR Hs 415 i := jfr_R hf (by unfold p_T418; decide)
      obtain ⟨⟨row, s, len, hxi⟩, -⟩ := hA.2 i _ (p_g_at hi)
      have hyi := (hok.2.1 i _ (p_g_at hi)).1
      have k10 := hxi.1.1
      have oi : 422 ≤ jR H 415 i := hxi.2.2.2.2.2.2.2.2.2.2.1
      have e1 : Int32.ofNat i + 1 = Int32.ofNat (i + 1) := jo_add (a := i) (b := 1)
      have set : ∀ v : Int32, v &&& 1 = p_ib (S i) → jT (B_6_markKin_43 (F_6_markKin_2 fu) 414 oh (Int32.ofNat i) 418 (Int32.ofNat i) v H) (fun x h => jT (k x h) Q) := fun v hv => by
        unfold B_6_markKin_43
        rw [jo_nat (n := i) (by omega), hv, e1]
        refine jT_g (gA (sK_418 hs) (jo_in (by omega) (by omega))) (jT_l (jT_l (ih (i + 1) fu _ (by omega) (by omega) (jsh_sI hs (by decide)) (jfr_sI hf rfl) fun j hj => ?_)))
        by_cases c : j = i
        · rw [c]
          exact jI_sIe
        · exact (jI_sIn c).trans (hfl j (by omega))
      have one : S i = true → jT (B_6_markKin_38 (F_6_markKin_2 fu) 414 oh (Int32.ofNat i) 418 (Int32.ofNat i) H) (fun x h => jT (k x h) Q) := fun hv => by
        unfold B_6_markKin_38
        exact set 1 (by rw [hv]; decide)
      unfold F_6_markKin_2 B_6_markKin_2
      rw [hA.1, sR_414_2 hs, sR_414_6 hs, jo_nat (n := i) (by omega)]
      refine jT_g (k6 hs) (jT_neg (by rw [jo_le (by omega) (by omega)]; omega) (jT_g (k6 hs) (jT_g (k6 hs) (jT_g (gA (sK_415 hs) (jo_in (by omega) (by omega))) (jT_g ⟨Or.inr (show 31 ≤ _ by omega), Or.inr (show 31 ≤ _ by omega)⟩ ?_)))))
      by_cases c : jR H 415 i = oh
      · exact jT_pos c (one ((hS i hi).mpr (Or.inl (eR ▸ c))))
      · refine jT_neg c (jT_g (k6 hs) (jT_g (gA (sK_415 hs) (jo_in (by omega) (by omega))) (jT_g k10 ?_)))
        rw [p_spendsOf hyi hxi hx1, jb_ok]
        by_cases q : p_sp (p_g ps i).1.2.1 (p_g ps i).1.2.2 nmh = true
        · rw [if_pos q]
          exact jT_neg (by decide) (one ((hS i hi).mpr (Or.inr q)))
        · rw [if_neg q]
          have : S i = false := by
            cases hSi : S i with
            | false => rfl
            | true =>
              rcases (hS i hi).mp hSi with w | w
              · exact absurd (eR.trans w) c
              · exact absurd w q
          exact jT_pos rfl (set 0 (by rw [this]; decide))
  unfold F_6_markKin
  exact jT_b (loop ps.length 0 jfuel Hs (Nat.zero_add _) (by unfold jfuel; omega) hs jfr_refl fun j hj => absurd hj (Nat.not_lt_zero j))
end KIN6
