/-! Which family goes when too many wait. -/
/-- sums of fees and of sizes over those that are marked -/
def p_fs (ps : List p_e) (K : Nat → Bool) : Nat → Int64
  | 0 => 0
  | j + 1 => p_fs ps K j + if K j = true then (p_g ps j).2 else 0
def p_sn (ps : List p_e) (K : Nat → Bool) : Nat → Nat
  | 0 => 0
  | j + 1 => p_sn ps K j + if K j = true then (p_g ps j).1.2.1.length else 0
theorem p_sn_le {ps : List p_e} {K : Nat → Bool} (hok : p_ok ps) : ∀ {j : Nat}, j ≤ ps.length → p_sn ps K j ≤ 2000 * j
  | 0, _ => Nat.zero_le _
  | j + 1, h => by
    have ih := p_sn_le (K := K) hok (j := j) (by omega)
    have := (hok.2.1 j _ (p_g_at (by omega))).1.2.2
    unfold p_sn
    split <;> omega
theorem p_sn_mono {ps : List p_e} {K : Nat → Bool} {i : Nat} : ∀ {j : Nat}, i ≤ j → p_sn ps K i ≤ p_sn ps K j
  | 0, h => by
    obtain rfl : i = 0 := by omega
    exact Nat.le_refl _
  | j + 1, h => by
    by_cases c : i = j + 1
    · rw [c]
      exact Nat.le_refl _
    · have := p_sn_mono (ps := ps) (K := K) (i := i) (j := j) (by omega)
      show _ ≤ p_sn ps K j + _
      omega
theorem p_sn_pos {ps : List p_e} {K : Nat → Bool} (hok : p_ok ps) {i : Nat} (hi : i < ps.length) (hK : K i = true) : 1 ≤ p_sn ps K ps.length := by
  have h1 := p_sn_mono (ps := ps) (K := K) (i := i + 1) (j := ps.length) hi
  have h2 : p_sn ps K (i + 1) = p_sn ps K i + (p_g ps i).1.2.1.length := by
    show p_sn ps K i + (if K i = true then _ else 0) = _
    rw [if_pos hK]
  have hy := (hok.2.1 i _ (p_g_at hi)).1
  have sp := (ztx_spec hy.1).2.2.1
  have := hy.2.1
  omega
/-- pays more for its bytes -/
def p_dr (f s f' s' : Int64) : Bool := decide (if f / s = f' / s' then ¬ (jremL f s * s' ≤ jremL f' s' * s) else ¬ (f / s ≤ f' / s'))
theorem z6_dearer {f s f' s' : Int64} {H : jH} (h1 : ¬ s ≤ 0) (h2 : 0 < s') (h3 : ¬ s = 0) (h4 : ¬ s' = 0) : F_6_isDearer f s f' s' H = some (p_ib (p_dr f s f' s'), H) := by
  unfold F_6_isDearer B_6_isDearer_48 B_6_isDearer_71 p_dr
  rw [if_neg h1, if_pos h2, jg_t h3]
  show jg _ (if f / s = f' / s' then _ else _) = _
  rw [jg_t h4]
  by_cases c : f / s = f' / s'
  · rw [if_pos c, jg_t h3, jg_t h4]
    by_cases q : jremL f s * s' ≤ jremL f' s' * s
    · rw [if_pos q, jg_t (Or.inl rfl), decide_eq_false (by rw [if_pos c]; exact fun w => w q)]
      rfl
    · rw [if_neg q, jg_t (Or.inr rfl), decide_eq_true (by rw [if_pos c]; exact q)]
      rfl
  · rw [if_neg c]
    by_cases q : f / s ≤ f' / s'
    · rw [if_pos q, jg_t (Or.inl rfl), decide_eq_false (by rw [if_neg c]; exact fun w => w q)]
      rfl
    · rw [if_neg q, jg_t (Or.inr rfl), decide_eq_true (by rw [if_neg c]; exact q)]
      rfl
/-- the family of one in the pool -/
noncomputable def p_fh (ps : List p_e) (h : Nat) : Nat → Bool := fun i => decide (i = h) || p_fam ps (fun i => p_hg ps i h) i
noncomputable def p_ff (ps : List p_e) (h : Nat) : Int64 := p_fs ps (p_fh ps h) ps.length
noncomputable def p_fz (ps : List p_e) (h : Nat) : Int64 := Int64.ofNat (p_sn ps (p_fh ps h) ps.length)
theorem p_fz_pos {ps : List p_e} (hok : p_ok ps) {h : Nat} (hh : h < ps.length) : ¬ p_fz ps h ≤ 0 ∧ 0 < p_fz ps h ∧ ¬ p_fz ps h = 0 := by
  have h1 : 1 ≤ p_sn ps (p_fh ps h) ps.length := p_sn_pos hok hh (Bool.or_eq_true_iff.mpr (Or.inl (decide_eq_true rfl)))
  have h2 := p_sn_le (K := p_fh ps h) hok (Nat.le_refl ps.length)
  have l41 := hok.1
  unfold p_fz
  refine ⟨?_, ?_, ?_⟩
  · rw [lo_le0 (by omega)]
    omega
  · rw [show (0 : Int64) = Int64.ofNat 0 from rfl, lo_lt (by decide) (by omega)]
    exact h1
  · rw [show (0 : Int64) = Int64.ofNat 0 from rfl, lo_inj (by omega) (by decide)]
    omega
/-- the one whose family pays least, of the first ones -/
noncomputable def p_lst (ps : List p_e) : Nat → Nat
  | 0 => 0
  | i + 1 => if i = 0 then 0 else if p_dr (p_ff ps i) (p_fz ps i) (p_ff ps (p_lst ps i)) (p_fz ps (p_lst ps i)) = true then p_lst ps i else i
theorem p_lst_lt {ps : List p_e} : ∀ {i : Nat}, p_lst ps i < i ∨ (i = 0 ∧ p_lst ps i = 0)
  | 0 => Or.inr ⟨rfl, rfl⟩
  | i + 1 => by
    have ih := p_lst_lt (ps := ps) (i := i)
    left
    unfold p_lst
    split
    · omega
    · split <;> omega
/-- those that are not marked -/
def p_kp (K : Nat → Bool) : Nat → List p_e → List p_e
  | _, [] => []
  | i, e :: r => if K i = true then p_kp K (i + 1) r else e :: p_kp K (i + 1) r
theorem p_kp_len {K : Nat → Bool} : ∀ {ps : List p_e} {i : Nat}, (p_kp K i ps).length ≤ ps.length
  | [], _ => Nat.le_refl _
  | e :: r, i => by
    have := p_kp_len (K := K) (ps := r) (i := i + 1)
    unfold p_kp
    split
    · rw [List.length_cons]
      omega
    · rw [List.length_cons, List.length_cons]
      omega
theorem p_kp_lt {K : Nat → Bool} : ∀ {ps : List p_e} {i j : Nat}, j < ps.length → K (i + j) = true → (p_kp K i ps).length < ps.length
  | [], i, j, h, _ => absurd h (Nat.not_lt_zero j)
  | e :: r, i, j, h, hK => by
    have l := p_kp_len (K := K) (ps := r) (i := i + 1)
    unfold p_kp
    split
    · rw [List.length_cons]
      omega
    · next c =>
      cases j with
      | zero => exact absurd hK c
      | succ j =>
        have := p_kp_lt (K := K) (ps := r) (i := i + 1) (j := j) (Nat.lt_of_succ_lt_succ h) (by rw [← hK]; congr 1; omega)
        rw [List.length_cons, List.length_cons]
        omega
theorem p_kp_snoc {K : Nat → Bool} {e : p_e} : ∀ {ps : List p_e} {i : Nat}, p_kp K i (ps ++ [e]) = p_kp K i ps ++ if K (i + ps.length) = true then [] else [e]
  | [], i => by
    show p_kp K i [e] = [] ++ _
    unfold p_kp
    rw [List.nil_append]
    rfl
  | f :: r, i => by
    have ih := p_kp_snoc (K := K) (e := e) (ps := r) (i := i + 1)
    rw [List.cons_append, p_kp, ih, List.length_cons, show i + 1 + r.length = i + (r.length + 1) by omega]
    conv => rhs; rw [p_kp]
    split
    · rfl
    · rfl
theorem p_kp_at {K : Nat → Bool} : ∀ {ps : List p_e} {i k : Nat} {e : p_e}, (p_kp K i ps)[k]? = some e → ∃ j, k ≤ j ∧ ps[j]? = some e ∧ K (i + j) = false
  | [], i, k, e, h => by cases h
  | f :: r, i, k, e, h => by
    unfold p_kp at h
    split at h
    · obtain ⟨j, h1, h2, h3⟩ := p_kp_at h
      exact ⟨j + 1, by omega, h2, by rw [← h3]; congr 1; omega⟩
    · next c =>
      cases k with
      | zero => exact ⟨0, Nat.le_refl _, h, by cases hK : K (i + 0) with
        | false => rfl
        | true => exact absurd hK c⟩
      | succ k =>
        obtain ⟨j, h1, h2, h3⟩ := p_kp_at (ps := r) (i := i + 1) (k := k) h
        exact ⟨j + 1, by omega, h2, by rw [← h3]; congr 1; omega⟩
theorem p_kp_inj {K : Nat → Bool} : ∀ {ps : List p_e} {i k l : Nat} {e f : p_e}, (∀ (a b : Nat) (x y : p_e), ps[a]? = some x → ps[b]? = some y → x.1.1 = y.1.1 → a = b) → (p_kp K i ps)[k]? = some e → (p_kp K i ps)[l]? = some f → e.1.1 = f.1.1 → k = l
  | [], i, k, l, e, f, _, h, _, _ => by cases h
  | g :: r, i, k, l, e, f, hu, h1, h2, en => by
    have hr : ∀ (a b : Nat) (x y : p_e), r[a]? = some x → r[b]? = some y → x.1.1 = y.1.1 → a = b := fun a b x y q1 q2 q3 => Nat.succ_inj.mp (hu (a + 1) (b + 1) x y q1 q2 q3)
    unfold p_kp at h1 h2
    split at h1
    · next c =>
      rw [if_pos c] at h2
      exact p_kp_inj hr h1 h2 en
    · next c =>
      rw [if_neg c] at h2
      cases k with
      | zero =>
        cases l with
        | zero => rfl
        | succ l =>
          obtain ⟨j, -, q2, -⟩ := p_kp_at (ps := r) (i := i + 1) (k := l) h2
          have q1 : (g :: r)[0]? = some e := h1
          have := hu 0 (j + 1) e f q1 q2 en
          omega
      | succ k =>
        cases l with
        | zero =>
          obtain ⟨j, -, q2, -⟩ := p_kp_at (ps := r) (i := i + 1) (k := k) h1
          have q1 : (g :: r)[0]? = some f := h2
          have := hu (j + 1) 0 e f q2 q1 en
          omega
        | succ l => exact congrArg Nat.succ (p_kp_inj (i := i + 1) hr h1 h2 en)
theorem p_kp_ok {K : Nat → Bool} {ps : List p_e} (hok : p_ok ps) : p_ok (p_kp K 0 ps) := by
  have := p_kp_len (K := K) (ps := ps) (i := 0)
  refine ⟨by have := hok.1; omega, fun k e hk => ?_, fun i j e f h1 h2 en => p_kp_inj hok.2.2 h1 h2 en⟩
  obtain ⟨j, -, q, -⟩ := p_kp_at hk
  exact hok.2.1 j e q
/-- what stays, and whether the newest one goes -/
noncomputable def p_evi (ps : List p_e) : List p_e × Bool := (p_kp (p_fh ps (p_lst ps ps.length)) 0 ps, p_fh ps (p_lst ps ps.length) (ps.length - 1))
