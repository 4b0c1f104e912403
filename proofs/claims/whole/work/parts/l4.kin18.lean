/-! Families in the pool: the reference marks them. -/
def p_T503 : Nat → Nat → Prop := fun a _ => a = 503
theorem p_PB_503 {ps : List p_e} {H H' : jH} (h : p_PB ps H) (hf : jfr p_T503 H H') : p_PB ps H' := p_PB_fr h hf fun a j w => by unfold p_T503 at w; omega
section KIN18
variable {ps : List p_e} {Hs : jH} {S : Nat → Bool}
theorem p_hg18 (hs : jsh Hs) (hB : p_PB ps Hs) (hok : p_ok ps) {i j : Nat} (hi : i < ps.length) (hj : j < ps.length) : F_18_hangs 421 (Int32.ofNat i) 498 (Int32.ofNat (32 * j)) Hs = some (p_ib (p_hg ps i j), Hs) := by
  have l41 := hok.1
  exact z18_hangs hs hB hok (p_g_at hi) (sK_498 hs) (by decide) (by omega) (hB.2 j _ (p_g_at hj)).1.2.2.1 (hok.2.1 j _ (p_g_at hj)).2
theorem y18_fam52 {Q : Unit → jH → Prop} {k40 : Nat → Int32 → Int32 → jH → Option (Unit × jH)} {K : Nat → Bool} {g : Bool} {i : Nat} (hok : p_ok ps) (hB0 : p_PB ps Hs) (hi : i < ps.length)
    (hk : ∀ K' g' H', jsh H' → jfr p_T503 Hs H' → p_fl 503 ps.length K' H' → ((K' = K ∧ g' = g ∧ (K i = true ∨ ∀ j, j < ps.length → K j = true → p_hg ps i j = false)) ∨ (K i = false ∧ K' = p_up K i ∧ g' = true ∧ ∃ j, j < ps.length ∧ K j = true ∧ p_hg ps i j = true)) → jT (k40 421 (p_ib g') (Int32.ofNat (i + 1)) H') Q) :
    ∀ (d j fu : Nat) (H : jH), j + d = ps.length → d < fu → jsh H → jfr p_T503 Hs H → p_fl 503 ps.length K H → (∀ j', j' < j → K j' = true → p_hg ps i j' = false) → jT (F_18_family_52 k40 fu 421 (p_ib g) (Int32.ofNat i) (Int32.ofNat j) H) Q := by
  have l41 := hok.1
  have k6 : ∀ {H}, jsh H → (jK H 421).1 = 18 := fun hs => gT (sK_421 hs)
  have e1i : Int32.ofNat i + 1 = Int32.ofNat (i + 1) := jo_add (a := i) (b := 1)
  have out : ∀ (K' : Nat → Bool) (g' : Bool) (j fu : Nat) (H : jH), j ≤ ps.length → 0 < fu → jsh H → jfr p_T503 Hs H → p_fl 503 ps.length K' H → K' i = true → ((K' = K ∧ g' = g ∧ (K i = true ∨ ∀ j, j < ps.length → K j = true → p_hg ps i j = false)) ∨ (K i = false ∧ K' = p_up K i ∧ g' = true ∧ ∃ j, j < ps.length ∧ K j = true ∧ p_hg ps i j = true)) → jT (F_18_family_52 k40 fu 421 (p_ib g') (Int32.ofNat i) (Int32.ofNat j) H) Q := fun K' g' j fu H hj hfu hs hf hfl hK hd => by
    obtain ⟨fu, rfl⟩ : ∃ k, fu = k + 1 := ⟨fu - 1, by omega⟩
    have hB := p_PB_503 hB0 hf
    have fin := hk K' g' H hs hf hfl hd
    unfold F_18_family_52 B_18_family_52 B_18_family_115
    rw [hB.1, sR_421_44 hs, jo_nat (n := i) (by omega), hfl i hi, hK, e1i]
    refine jT_g (k6 hs) ?_
    by_cases c : ps.length ≤ j
    · exact jT_pos (by rw [jo_le (by omega) (by omega)]; exact c) (jT_l fin)
    · exact jT_neg (by rw [jo_le (by omega) (by omega)]; exact c) (jT_g (k6 hs) (jT_g (gA (sK_503 hs) (jo_in (by omega) (by omega))) (jT_pos (by decide) (jT_l fin))))
  intro d
  induction d with
  | zero =>
    intro j fu H hj hfu hs hf hfl hn
    obtain ⟨fu, rfl⟩ : ∃ k, fu = k + 1 := ⟨fu - 1, by omega⟩
    have hB := p_PB_503 hB0 hf
    have fin := hk K g H hs hf hfl (Or.inl ⟨rfl, rfl, Or.inr fun j' hj' => hn j' (by omega)⟩)
    unfold F_18_family_52 B_18_family_52 B_18_family_115
    rw [hB.1, e1i]
    exact jT_g (k6 hs) (jT_pos (by rw [jo_le (by omega) (by omega)]; omega) (jT_l fin))
  | succ d ih =>
    intro j fu H hj hfu hs hf hfl hn
    have hjj : j < ps.length := by omega
    cases hKi : K i with
    | true => exact out K g j fu H (by omega) (by omega) hs hf hfl hKi (Or.inl ⟨rfl, rfl, Or.inl hKi⟩)
    | false =>
      obtain ⟨fu, rfl⟩ : ∃ k, fu = k + 1 := ⟨fu - 1, by omega⟩
      have hB := p_PB_503 hB0 hf
      have e1 : Int32.ofNat j + 1 = Int32.ofNat (j + 1) := jo_add (a := j) (b := 1)
      have nxt : (K j = true → p_hg ps i j = false) → jT (B_18_family_109 (F_18_family_52 k40 fu) 421 (p_ib g) (Int32.ofNat i) (Int32.ofNat j) H) Q := fun hc => by
        unfold B_18_family_109
        rw [e1]
        refine jT_l (ih (j + 1) fu H (by omega) (by omega) hs hf hfl fun j' hj' hK' => ?_)
        by_cases q : j' = j
        · rw [q] at hK' ⊢
          exact hc hK'
        · exact hn j' (by omega) hK'
      unfold F_18_family_52 B_18_family_52
      rw [hB.1, sR_421_44 hs, sR_421_39 hs, jo_nat (n := i) (by omega), jo_nat (n := j) (by omega), hfl i hi, hKi, hfl j hjj, p_e32]
      refine jT_g (k6 hs) (jT_neg (by rw [jo_le (by omega) (by omega)]; omega) (jT_g (k6 hs) (jT_g (gA (sK_503 hs) (jo_in (by omega) (by omega))) (jT_neg (fun w => w rfl) (jT_g (k6 hs) (jT_g (gA (sK_503 hs) (jo_in (by omega) (by omega))) ?_))))))
      cases hKj : K j with
      | false => exact jT_pos rfl (nxt fun w => by rw [hKj] at w; cases w)
      | true =>
        refine jT_neg (by decide) (jT_g (k6 hs) (jT_g (k6 hs) ?_))
        rw [p_hg18 hs hB hok hi hjj, jb_ok]
        cases hg : p_hg ps i j with
        | false => exact jT_pos rfl (nxt fun _ => hg)
        | true =>
          rw [sR_421_44 hs]
          refine jT_neg (by decide) (jT_g (k6 hs) (jT_g (gA (sK_503 hs) (jo_in (by omega) (by omega))) (jT_l ?_)))
          unfold B_18_family_109
          rw [e1]
          exact jT_l (out (p_up K i) true (j + 1) fu _ (by omega) (by omega) (jsh_sI hs (by decide)) (jfr_sI hf rfl) (p_fl_up hfl) p_up_e (Or.inr ⟨hKi, rfl, rfl, j, hjj, hKj, hg⟩))
/-- one pass -/
theorem y18_fam40 {Q : Unit → jH → Prop} {k31 : Nat → Int32 → jH → Option (Unit × jH)} {K0 : Nat → Bool} (hok : p_ok ps) (hB0 : p_PB ps Hs)
    (hk : ∀ K g H', jsh H' → jfr p_T503 Hs H' → p_fl 503 ps.length K H' → p_mid ps S K → ((g = false ∧ p_cl ps K) ∨ (g = true ∧ b_cnt K0 ps.length < b_cnt K ps.length)) → jT (k31 421 (p_ib g) H') Q) :
    ∀ (d i fu : Nat) (K : Nat → Bool) (g : Bool) (H : jH), i + d = ps.length → d < fu → jsh H → jfr p_T503 Hs H → p_fl 503 ps.length K H → p_mid ps S K → ((g = false ∧ K = K0 ∧ ∀ i', i' < i → K i' = true ∨ ∀ j, j < ps.length → K j = true → p_hg ps i' j = false) ∨ (g = true ∧ b_cnt K0 ps.length < b_cnt K ps.length)) → jT (F_18_family_40 k31 fu 421 (p_ib g) (Int32.ofNat i) H) Q := by
  have l41 := hok.1
  have k6 : ∀ {H}, jsh H → (jK H 421).1 = 18 := fun hs => gT (sK_421 hs)
  intro d
  induction d with
  | zero =>
    intro i fu K g H hl hfu hs hf hfl hm hd
    obtain ⟨fu, rfl⟩ : ∃ k, fu = k + 1 := ⟨fu - 1, by omega⟩
    have hB := p_PB_503 hB0 hf
    unfold F_18_family_40 B_18_family_40
    rw [hB.1]
    refine jT_g (k6 hs) (jT_pos (by rw [jo_le (by omega) (by omega)]; omega) (hk K g H hs hf hfl hm ?_))
    rcases hd with ⟨q1, q2, q3⟩ | q
    · refine Or.inl ⟨q1, fun i' j hi' hj hT hg => ?_⟩
      rcases q3 i' (by omega) with w | w
      · exact w
      · rw [w j hj hT] at hg
        cases hg
    · exact Or.inr q
  | succ d ih =>
    intro i fu K g H hl hfu hs hf hfl hm hd
    obtain ⟨fu, rfl⟩ : ∃ k, fu = k + 1 := ⟨fu - 1, by omega⟩
    have hB := p_PB_503 hB0 hf
    have hi : i < ps.length := by omega
    unfold F_18_family_40 B_18_family_40
    rw [hB.1]
    refine jT_g (k6 hs) (jT_neg (by rw [jo_le (by omega) (by omega)]; omega) ?_)
    refine y18_fam52 (K := K) (g := g) (i := i) (Hs := Hs) hok hB0 hi (fun K' g' H' hs' hf' hfl' hd' => ?_) ps.length 0 jfuel H (Nat.zero_add _) (by unfold jfuel; omega) hs hf hfl fun j hj => absurd hj (Nat.not_lt_zero j)
    rcases hd' with ⟨rfl, rfl, h3⟩ | ⟨h1, rfl, rfl, j, h2, h3, h4⟩
    · refine ih (i + 1) fu K' g' H' (by omega) (by omega) hs' hf' hfl' hm ?_
      rcases hd with ⟨q1, q2, q3⟩ | q
      · refine Or.inl ⟨q1, q2, fun i' hi' => ?_⟩
        by_cases c : i' = i
        · rw [c]
          exact h3
        · exact q3 i' (by omega)
      · exact Or.inr q
    · refine ih (i + 1) fu _ _ H' (by omega) (by omega) hs' hf' hfl' (p_mid_up hm hi h2 h3 h4) (Or.inr ⟨rfl, ?_⟩)
      rw [p_cnt_up h1, if_pos hi]
      rcases hd with ⟨-, q2, -⟩ | ⟨-, q⟩
      · rw [q2]
        exact Nat.lt_succ_self _
      · omega
/-- pass after pass -/
theorem y18_fam31 {Q : Unit → jH → Prop} (hok : p_ok ps) (hB0 : p_PB ps Hs) (hk : ∀ H', jsh H' → jfr p_T503 Hs H' → p_fl 503 ps.length (p_fam ps S) H' → Q () H') :
    ∀ (d fu : Nat) (K : Nat → Bool) (g : Bool) (H : jH), ps.length ≤ b_cnt K ps.length + d → d + 1 < fu → jsh H → jfr p_T503 Hs H → p_fl 503 ps.length K H → p_mid ps S K → (g = false → p_cl ps K) → jT (F_18_family_31 fu 421 (p_ib g) H) Q := by
  have l41 := hok.1
  have pass : ∀ (d fu : Nat) (K : Nat → Bool) (H : jH), jsh H → jfr p_T503 Hs H → p_fl 503 ps.length K H → p_mid ps S K → (∀ K' g' H', jsh H' → jfr p_T503 Hs H' → p_fl 503 ps.length K' H' → p_mid ps S K' → ((g' = false ∧ p_cl ps K') ∨ (g' = true ∧ b_cnt K ps.length < b_cnt K' ps.length)) → jT (F_18_family_31 fu 421 (p_ib g') H') Q) → jT (F_18_family_31 (fu + 1) 421 (p_ib true) H) Q := fun d fu K H hs hf hfl hm hn => by
    unfold F_18_family_31 B_18_family_31
    refine jT_neg (by decide) ?_
    exact y18_fam40 (S := S) (K0 := K) (Hs := Hs) hok hB0 hn ps.length 0 jfuel K false H (Nat.zero_add _) (by unfold jfuel; omega) hs hf hfl hm (Or.inl ⟨rfl, rfl, fun i hi => absurd hi (Nat.not_lt_zero i)⟩)
  have done : ∀ (fu : Nat) (K : Nat → Bool) (H : jH), 0 < fu → jsh H → jfr p_T503 Hs H → p_fl 503 ps.length K H → p_mid ps S K → p_cl ps K → jT (F_18_family_31 fu 421 (p_ib false) H) Q := fun fu K H hfu hs hf hfl hm hc => by
    obtain ⟨fu, rfl⟩ : ∃ k, fu = k + 1 := ⟨fu - 1, by omega⟩
    unfold F_18_family_31 B_18_family_31
    exact jT_pos rfl (jT_ret (hk H hs hf (p_fl_eq hfl (p_mid_cl hm hc))))
  intro d
  induction d with
  | zero =>
    intro fu K g H hl hfu hs hf hfl hm h0
    cases g with
    | false => exact done fu K H (by omega) hs hf hfl hm (h0 rfl)
    | true =>
      obtain ⟨fu, rfl⟩ : ∃ k, fu = k + 1 := ⟨fu - 1, by omega⟩
      refine pass 0 fu K H hs hf hfl hm fun K' g' H' hs' hf' hfl' hm' hd' => ?_
      rcases hd' with ⟨rfl, q⟩ | ⟨-, q⟩
      · exact done fu K' H' (by omega) hs' hf' hfl' hm' q
      · have := b_cnt_le (bad := K') ps.length
        omega
  | succ d ih =>
    intro fu K g H hl hfu hs hf hfl hm h0
    cases g with
    | false => exact done fu K H (by omega) hs hf hfl hm (h0 rfl)
    | true =>
      obtain ⟨fu, rfl⟩ : ∃ k, fu = k + 1 := ⟨fu - 1, by omega⟩
      refine pass (d + 1) fu K H hs hf hfl hm fun K' g' H' hs' hf' hfl' hm' hd' => ?_
      rcases hd' with ⟨rfl, q⟩ | ⟨rfl, q⟩
      · exact done fu K' H' (by omega) hs' hf' hfl' hm' q
      · exact ih fu K' true H' (by omega) (by omega) hs' hf' hfl' hm' fun w => by cases w
theorem y18_family {α : Type} {Q : α → jH → Prop} {k : Unit → jH → Option (α × jH)} {r lr p : Nat} {nm : List UInt8} (hs : jsh Hs) (hok : p_ok ps) (hB0 : p_PB ps Hs) (hr : jK Hs r = (101, lr)) (hlr : lr < 2147483600) (hp : p + 32 ≤ lr) (hr3 : r ≠ 503) (hz : zRow Hs r p nm) (hn : nm.length = 32) (hS : ∀ i, i < ps.length → S i = p_sp (p_g ps i).1.2.1 (p_g ps i).1.2.2 nm)
    (hk : ∀ H', jsh H' → jfr p_T503 Hs H' → p_fl 503 ps.length (p_fam ps S) H' → jT (k () H') Q) : jT (jb (F_18_family 421 r (Int32.ofNat p) Hs) k) Q := by
  have l41 := hok.1
  have k6 : ∀ {H}, jsh H → (jK H 421).1 = 18 := fun hs => gT (sK_421 hs)
  have loop : ∀ (d i fu : Nat) (H : jH), i + d = ps.length → d < fu → jsh H → jfr p_T503 Hs H → p_fl 503 i S H → jT (F_18_family_2 fu 421 r (Int32.ofNat p) (Int32.ofNat i) H) (fun x h => jT (k x h) Q) := by
    intro d
    induction d with
    | zero =>
      intro i fu H hl hfu hs hf hfl
      obtain ⟨fu, rfl⟩ : ∃ k, fu = k + 1 := ⟨fu - 1, by omega⟩
      obtain rfl : i = ps.length := by omega
      have hB := p_PB_503 hB0 hf
      unfold F_18_family_2 B_18_family_2
      rw [hB.1]
      refine jT_g (k6 hs) (jT_pos (by rw [jo_le (by omega) (by omega)]; exact Nat.le_refl _) ?_)
      exact y18_fam31 (S := S) (Q := fun x h => jT (k x h) Q) hok hB0 hk ps.length jfuel S true H (by omega) (by unfold jfuel; omega) hs hf hfl ⟨fun i _ w => w, p_fam_su⟩ (fun w => by cases w)
    | succ d ih =>
      intro i fu H hl hfu hs hf hfl
      obtain ⟨fu, rfl⟩ : ∃ k, fu = k + 1 := ⟨fu - 1, by omega⟩
      have hi : i < ps.length := by omega
      have hB := p_PB_503 hB0 hf
      have e1 : Int32.ofNat i + 1 = Int32.ofNat (i + 1) := jo_add (a := i) (b := 1)
      have hg := z18_hangs hs hB hok (p_g_at hi) (by rw [jfr_K hf]; exact hr) hlr hp (zRow_eq hz fun j _ => jfr_B hf (by unfold p_T503; exact hr3)) hn
      have ev : (if p_sp (p_g ps i).1.2.1 (p_g ps i).1.2.2 nm = true then (1 : Int32) else 0) &&& 1 = p_ib (S i) := by
        rw [hS i hi]
        cases p_sp (p_g ps i).1.2.1 (p_g ps i).1.2.2 nm <;> decide
      unfold F_18_family_2 B_18_family_2
      rw [hB.1, sR_421_44 hs, hg, e1]
      refine jT_g (k6 hs) (jT_neg (by rw [jo_le (by omega) (by omega)]; omega) (jT_g (k6 hs) (jT_g (k6 hs) ?_)))
      rw [jb_ok, jo_nat (n := i) (by omega), ev]
      refine jT_g (gA (sK_503 hs) (jo_in (by omega) (by omega))) (jT_l (jT_l (ih (i + 1) fu _ (by omega) (by omega) (jsh_sI hs (by decide)) (jfr_sI hf rfl) fun j hj => ?_)))
      by_cases c : j = i
      · rw [c]
        exact jI_sIe
      · exact (jI_sIn c).trans (hfl j (by omega))
  unfold F_18_family
  exact jT_b (loop ps.length 0 jfuel Hs (Nat.zero_add _) (by unfold jfuel; omega) hs jfr_refl fun j hj => absurd hj (Nat.not_lt_zero j))
end KIN18
