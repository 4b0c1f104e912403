/-! The class: the bits that must be; a name against a target. -/
theorem lo_orK {a b k : Nat} (hb : b < 2 ^ k) : Int64.ofNat (a * 2 ^ k) ||| Int64.ofNat b = Int64.ofNat (a * 2 ^ k + b) := by
  have e3 : ∀ k, (Int64.ofNat k).toBitVec = BitVec.ofNat 64 k := fun _ => rfl
  refine Int64.toBitVec_inj.mp ?_
  rw [Int64.toBitVec_or, e3, e3, e3, ← BitVec.ofNat_or]
  congr 1
  have := Nat.shiftLeft_add_eq_or_of_lt hb a
  rw [Nat.shiftLeft_eq] at this
  exact this.symm
def b_h4 (w : Nat → Nat) (n i : Nat) : Nat := nv 4294967296 (fun j => w (i + j)) (n - i)
theorem b_h4_0 {w : Nat → Nat} {n : Nat} : b_h4 w n 0 = nv 4294967296 w n := by
  unfold b_h4
  rw [Nat.sub_zero]
  exact nv_ext fun j _ => by rw [Nat.zero_add]
theorem b_h4_n {w : Nat → Nat} {n : Nat} : b_h4 w n n = 0 := by
  unfold b_h4
  rw [Nat.sub_self]
  rfl
theorem b_h4_s {w : Nat → Nat} {n i : Nat} (h : i < n) : b_h4 w n i = w i + 4294967296 * b_h4 w n (i + 1) := by
  unfold b_h4
  rw [show n - i = 1 + (n - (i + 1)) by omega, nv_cut]
  show (0 + w (i + 0) * 4294967296 ^ 0) + 4294967296 ^ 1 * _ = _
  rw [Nat.pow_zero, Nat.pow_one, Nat.zero_add, Nat.mul_one]
  congr 2
  exact nv_ext fun j _ => by rw [show i + (1 + j) = i + 1 + j by omega]
theorem b_h4_ext {w v : Nat → Nat} {n i : Nat} (h : ∀ j, i ≤ j → j < n → w j = v j) : b_h4 w n i = b_h4 v n i := by
  unfold b_h4
  exact nv_ext fun j hj => h (i + j) (by omega) (by omega)
theorem b_sc_al4 {q z r l e : Nat} (h : 4800 * q + r = l * 4294967296 + e) : (q + 4294967296 * z) * 4800 + r = e + 4294967296 * (z * 4800 + l) := by omega
theorem b_cltL {x y : Nat} (hx : x < 4294967296) (hy : y < 4294967296) : jmaxL 1200 (jminL 19200 (Int64.ofNat x - Int64.ofNat y)) = Int64.ofNat (b_clt x y) := by
  have hsub := lo_subZ hx hy
  have i1 : (Int64.ofNat x - Int64.ofNat y < (19200 : Int64)) ↔ x < y + 19200 := by
    rw [Int64.lt_iff_toInt_lt, hsub, show (19200 : Int64).toInt = 19200 from rfl]
    omega
  have i2 : (Int64.ofNat x - Int64.ofNat y < (1200 : Int64)) ↔ x < y + 1200 := by
    rw [Int64.lt_iff_toInt_lt, hsub, show (1200 : Int64).toInt = 1200 from rfl]
    omega
  unfold jmaxL jminL b_clt
  by_cases c1 : x < y + 19200
  · rw [if_pos (i1.mpr c1)]
    by_cases c2 : x < y + 1200
    · rw [if_pos (i2.mpr c2), if_pos c2]
      rfl
    · rw [if_neg (fun w => c2 (i2.mp w)), if_neg c2, if_neg (by omega), lo_sub (by omega)]
  · rw [if_neg (fun w => c1 (i1.mp w)), if_neg (by decide), if_neg (by omega)]
    by_cases c2 : y + 19200 < x
    · rw [if_pos c2]
      rfl
    · rw [if_neg c2, show x - y = 19200 by omega]
      rfl
def b_Tt : Nat → Nat → Prop := fun a _ => a = 403 ∨ a = 404
theorem jsh_lo {T : Nat → Nat → Prop} {H H' : jH} (hs : jsh H) (hf : jfr T H H') (hT : ∀ a j, T a j → 403 ≤ a ∧ a ≤ 408) : jsh H' := jsh_fr hs hf (by
    have : ∀ q ∈ jRs, ¬ (403 ≤ q.1 ∧ q.1 ≤ 408) := by decide +kernel
    intro q hq w
    exact this q hq (hT _ _ w)) fun a ha j w => by have := hT _ _ w; omega
section BB1
variable {α : Type} {nb : Nat} {bs : List b_k} {os : List Nat} {Hs : jH} {R : Int32 → jH → Prop}
theorem jshTt {H H' : jH} (hs : jsh H) (hf : jfr b_Tt H H') : jsh H' := jsh_lo hs hf fun a j w => by unfold b_Tt at w; omega
/-- the end: the limit, and the compact form -/
theorem z1_bb140 {e : Nat → Nat} {n t p : Nat} (hs : jsh Hs) (he : ∀ i, i < 9 → e i < 4294967296) (hne : nv 4294967296 e 9 / 4800 = n * t / 4800) (hn : 2 ^ 106 ≤ n) (h1200 : 1200 ≤ t) (hQ : ∀ H', jsh H' → jfr b_Tt Hs H' → R (Int32.ofNat (b_cp (b_rtg n t))) H') :
    ∀ (i fu l : Nat) (q : Nat → Nat) (H : jH), i ≤ 9 → i < fu → l < 4800 → jfr b_Tt Hs H → (∀ j, j < 9 → jI H 403 j = Int32.ofNat (if j < i then e j else q j)) → (∀ j, j < 9 → q j < 4294967296) → b_h4 q 9 i * 4800 + l = b_h4 e 9 i → jT (F_1_bitsBehind_140 fu 398 (Int64.ofNat l) (Int32.ofNat i - 1) H) R := by
  have k1 : ∀ {H}, jsh H → (jK H 398).1 = 1 := fun hs => gT (sK_398 hs)
  obtain ⟨l1, l2, l3, l4⟩ := b_lim_lt
  intro i
  induction i with
  | zero =>
    intro fu l q H hi hfu hl hf hv hq hh
    obtain ⟨fu, rfl⟩ : ∃ k, fu = k + 1 := ⟨fu - 1, by omega⟩
    have hs1 := jshTt hs hf
    rw [b_h4_0, b_h4_0] at hh
    have hval : nv 4294967296 q 9 = n * t / 4800 := by
      rw [← hne, ← hh, Nat.mul_comm, Nat.mul_add_div (by decide), Nat.div_eq_of_lt hl, Nat.add_zero]
    have r3 : r9 H 403 (n * t / 4800) := ⟨q, fun j hj => ⟨(hv j hj).trans (congrArg Int32.ofNat (if_neg (Nat.not_lt_zero j))), hq j hj⟩, hval⟩
    unfold F_1_bitsBehind_140 B_1_bitsBehind_140
    rw [sR_398_12 hs1]
    refine jT_pos (by decide) (jT_g (k1 hs1) (jT_b (z1_setTarget (n := 545259519) (sK_404 hs1) (by decide) (by decide) (by decide) fun H2 f2 r4 => ?_)))
    have f2' : jfr b_Tt Hs H2 := jfr_trans hf (jfr_mono f2 fun a j w => Or.inr w)
    have hs2 := jshTt hs f2'
    have r3' : r9 H2 403 (n * t / 4800) := r9_fr r3 f2 fun j w => by unfold b_Ta at w; omega
    have r4' : r9 H2 404 b_lim := r4
    obtain ⟨u, u1, u2⟩ := r3'
    obtain ⟨v, v1, v2⟩ := r4'
    rw [sR_398_11 hs2, sR_398_12 hs2, z1_compare (by decide) (sK_403 hs2) (sK_404 hs2) u1 v1, jb_ok, u2, v2]
    have hfin := hQ H2 hs2 f2'
    have hle : b_rtg n t ≤ b_lim := by
      unfold b_rtg
      split <;> omega
    have p1 : (256 : Nat) ^ 3 * 16 ≤ 2 ^ 106 := by decide +kernel
    have p2 : (2 : Nat) ^ 106 ≤ 2 ^ 254 := by decide +kernel
    have h3 : 256 ^ 3 ≤ b_rtg n t := by
      rcases b_rtg_ok hn h1200 with e | e
      · generalize 2 ^ 106 = z at hn p1
        omega
      · rw [e]
        generalize 2 ^ 106 = z at p1 p2
        generalize 2 ^ 254 = y at p2 l4
        omega
    obtain ⟨c1, -, -, c4, c5⟩ := b_cp_ok h3 hle
    have c6 : b_nbf 40 (b_rtg n t) ≤ 36 := by
      rcases Nat.lt_or_ge 36 (b_nbf 40 (b_rtg n t)) with c | c
      · rcases c5.2 with e | e
        · omega
        · have h1 := Nat.pow_le_pow_right (show 0 < 256 by decide) (show 32 ≤ b_nbf 40 (b_rtg n t) - 1 by omega)
          generalize 256 ^ 32 = z at l1 h1
          omega
      · exact c
    unfold b_cp at hfin
    unfold b_cmp
    refine jT_g (k1 hs2) (jT_g (k1 hs2) ?_)
    unfold b_rtg at hfin c4 c5 c6
    by_cases cl : b_lim < n * t / 4800
    · rw [if_pos cl] at hfin c4 c5 c6
      rw [if_neg (Nat.lt_asymm cl), if_pos cl]
      unfold B_1_bitsBehind_227
      rw [sR_398_12 hs2, z1_compact (sK_404 hs2) ⟨v, v1, v2⟩ c5 c4 c6, jb_ok]
      exact jT_neg (by decide) (jT_g (k1 hs2) (jT_ret hfin))
    · rw [if_neg cl] at hfin c4 c5 c6
      rw [if_neg cl]
      unfold B_1_bitsBehind_227
      rw [sR_398_11 hs2, z1_compact (sK_403 hs2) ⟨u, u1, u2⟩ c5 c4 c6, jb_ok]
      exact jT_pos (by split <;> decide) (jT_g (k1 hs2) (jT_ret hfin))
  | succ i ih =>
    intro fu l q H hi hfu hl hf hv hq hh
    obtain ⟨fu, rfl⟩ : ∃ k, fu = k + 1 := ⟨fu - 1, by omega⟩
    have hs1 := jshTt hs hf
    have e1 : Int32.ofNat (i + 1) - 1 = Int32.ofNat i := jo_sub (a := i + 1) (b := 1) (by omega)
    have e2 : Int32.ofNat i + (-1) = Int32.ofNat i - 1 := (Int32.sub_eq_add_neg _ _).symm
    have hei := he i (by omega)
    have ev : jI H 403 i = Int32.ofNat (e i) := (hv i (by omega)).trans (congrArg Int32.ofNat (if_pos (by omega)))
    have ex : jshlL (Int64.ofNat l) 32 ||| (Int32.toInt64 (Int32.ofNat (e i)) &&& 4294967295) = Int64.ofNat (l * 4294967296 + e i) := by
      rw [lw_of hei, show (32 : Int32) = Int32.ofNat 32 from rfl, lo_shl6 (by decide), lo_orK hei]
    have g : jin (Int32.ofNat i) 9 := jo_in (by omega) (by omega)
    have eq : Int64.toInt32 (Int64.ofNat (l * 4294967296 + e i) / 4800) = Int32.ofNat ((l * 4294967296 + e i) / 4800) := by
      rw [show (4800 : Int64) = Int64.ofNat 4800 from rfl, lo_div (by omega) (by decide), lo_to32 (by omega)]
    have er : jremL (Int64.ofNat (l * 4294967296 + e i)) 4800 = Int64.ofNat ((l * 4294967296 + e i) % 4800) := lo_rem (b := 4800) (by omega) (by decide)
    unfold F_1_bitsBehind_140 B_1_bitsBehind_140
    rw [e1, sR_398_11 hs1, sK_403 hs1, jo_nat (n := i) (by omega), ev, ex, e2]
    refine jT_neg (by show ¬ _ < Int32.ofNat 0; rw [jo_lt (by omega) (by decide)]; omega) (jT_g (k1 hs1) (jT_g ⟨rfl, g⟩ (jT_l (jT_g (k1 hs1) (jT_g (by decide) (jT_g ⟨rfl, by decide, g⟩ ?_))))))
    rw [eq, er]
    refine jT_l (jT_g (by decide) (jT_l (jT_l (ih fu _ (nup q i ((l * 4294967296 + e i) / 4800)) _ (by omega) (by omega) (Nat.mod_lt _ (by decide)) (jfr_sI hf (Or.inl rfl)) (fun j hj => ?_) (fun j hj => ?_) ?_))))
    · by_cases c : j = i
      · rw [c, if_neg (Nat.lt_irrefl _)]
        unfold nup
        rw [if_pos rfl]
        exact jI_sIe
      · refine (jI_sIn c).trans ((hv j hj).trans ?_)
        unfold nup
        rw [if_neg c]
        by_cases c2 : j < i
        · rw [if_pos c2, if_pos (by omega)]
        · rw [if_neg c2, if_neg (by omega)]
    · unfold nup
      split
      · omega
      · exact hq j hj
    · have h1 := b_h4_s (w := nup q i ((l * 4294967296 + e i) / 4800)) (n := 9) (i := i) (by omega)
      have h2 := b_h4_s (w := e) (n := 9) (i := i) (by omega)
      have h3 : b_h4 (nup q i ((l * 4294967296 + e i) / 4800)) 9 (i + 1) = b_h4 q 9 (i + 1) := b_h4_ext fun j h1 h2 => by
        unfold nup
        rw [if_neg (by omega)]
      have h4 : nup q i ((l * 4294967296 + e i) / 4800) i = (l * 4294967296 + e i) / 4800 := by
        unfold nup
        rw [if_pos rfl]
      rw [h1, h2, h3, h4, ← hh]
      exact b_sc_al4 (Nat.div_add_mod (l * 4294967296 + e i) 4800)
theorem z1_bb84 {n t : Nat} (hs : jsh Hs) (hn : r9 Hs 403 n) (hlo : 2 ^ 106 ≤ n) (hle : n ≤ b_lim) (h1 : 1200 ≤ t) (h2 : t ≤ 19200) (hQ : ∀ H', jsh H' → jfr b_Tt Hs H' → R (Int32.ofNat (b_cp (b_rtg n t))) H') : jT (F_1_bitsBehind_84 jfuel 398 (Int64.ofNat t) 0 0 Hs) R := by
  have k1 : ∀ {H}, jsh H → (jK H 398).1 = 1 := fun hs => gT (sK_398 hs)
  obtain ⟨d, d1, d2⟩ := hn
  have hlt : n * t < 4294967296 ^ 9 := by
    have h3 : n * t ≤ b_lim * 19200 := Nat.mul_le_mul hle h2
    have h4 : b_lim * 19200 < 4294967296 ^ 9 := by
      rw [b_lim_lt.2.2.1]
      decide +kernel
    exact Nat.lt_of_le_of_lt h3 h4
  have loop : ∀ (dd i fu c : Nat) (e : Nat → Nat) (H : jH), i + dd = 9 → dd < fu → c < 65536 → jfr b_Tt Hs H → (∀ j, j < 9 → jI H 403 j = Int32.ofNat (if j < i then e j else d j)) → (∀ j, j < i → e j < 4294967296) → nv 4294967296 e i + c * 4294967296 ^ i = nv 4294967296 d i * t → jT (F_1_bitsBehind_84 fu 398 (Int64.ofNat t) (Int64.ofNat c) (Int32.ofNat i) H) R := by
    intro dd
    induction dd with
    | zero =>
      intro i fu c e H hi hfu hc hf hv he hh
      obtain ⟨fu, rfl⟩ : ∃ k, fu = k + 1 := ⟨fu - 1, by omega⟩
      obtain rfl : i = 9 := by omega
      rw [d2] at hh
      have c0 : c = 0 := by
        cases c with
        | zero => rfl
        | succ c =>
          rw [Nat.add_mul, Nat.one_mul] at hh
          generalize 4294967296 ^ 9 = z at hh hlt
          generalize c * z = y at hh
          omega
      rw [c0, Nat.zero_mul, Nat.add_zero] at hh
      unfold F_1_bitsBehind_84 B_1_bitsBehind_84
      refine jT_pos (by decide) ?_
      exact z1_bb140 (Hs := Hs) (e := e) (n := n) (t := t) (p := 0) hs (fun j hj => he j hj) (by rw [hh]) hlo h1 hQ 9 jfuel 0 (fun _ => 0) H (Nat.le_refl _) (by unfold jfuel; omega) (by decide) hf (fun j hj => (hv j hj).trans (by rw [if_pos hj, if_pos hj])) (fun _ _ => by decide) (by rw [b_h4_n, b_h4_n])
    | succ dd ih =>
      intro i fu c e H hi hfu hc hf hv he hh
      obtain ⟨fu, rfl⟩ : ∃ k, fu = k + 1 := ⟨fu - 1, by omega⟩
      have hs1 := jshTt hs hf
      have e1 : Int32.ofNat i + 1 = Int32.ofNat (i + 1) := jo_add (a := i) (b := 1)
      have hdi := (d1 i (by omega)).2
      have ev : jI H 403 i = Int32.ofNat (d i) := (hv i (by omega)).trans (congrArg Int32.ofNat (if_neg (Nat.lt_irrefl _)))
      have hm : d i * t ≤ 4294967295 * 19200 := Nat.mul_le_mul (by omega) h2
      have ex : Int64.ofNat c + (Int32.toInt64 (Int32.ofNat (d i)) &&& 4294967295) * Int64.ofNat t = Int64.ofNat (c + d i * t) := by
        rw [lw_of hdi, lo_mul, lo_add]
      have g : jin (Int32.ofNat i) 9 := jo_in (by omega) (by omega)
      have er : Int64.toInt32 (Int64.ofNat (c + d i * t)) = Int32.ofNat ((c + d i * t) % 4294967296) := lw_i32 _
      have eq : jushrL (Int64.ofNat (c + d i * t)) 32 = Int64.ofNat ((c + d i * t) / 4294967296) := lw_ushr (k := 32) (by omega) (by decide)
      unfold F_1_bitsBehind_84 B_1_bitsBehind_84
      rw [sR_398_11 hs1, sK_403 hs1, jo_nat (n := i) (by omega), ev, ex, e1]
      refine jT_neg (by show ¬ Int32.ofNat 9 ≤ _; rw [jo_le (by decide) (by omega)]; omega) (jT_g (k1 hs1) (jT_g ⟨rfl, g⟩ (jT_l (jT_g (k1 hs1) (jT_g ⟨rfl, by decide, g⟩ ?_)))))
      rw [er, eq]
      have hcar : (c + d i * t) / 4294967296 < 65536 := by
        generalize d i * t = x at hm
        omega
      refine jT_l (jT_l (jT_l (ih (i + 1) fu _ (nup e i ((c + d i * t) % 4294967296)) _ (by omega) (by omega) hcar (jfr_sI hf (Or.inl rfl)) (fun j hj => ?_) (fun j hj => ?_) ?_)))
      · by_cases cj : j = i
        · rw [cj, if_pos (Nat.lt_succ_self _)]
          unfold nup
          rw [if_pos rfl]
          exact jI_sIe
        · refine (jI_sIn cj).trans ((hv j hj).trans ?_)
          unfold nup
          rw [if_neg cj]
          by_cases c2 : j < i
          · rw [if_pos c2, if_pos (by omega)]
          · rw [if_neg c2, if_neg (by omega)]
      · unfold nup
        split
        · exact Nat.mod_lt _ (by decide)
        · exact he j (by omega)
      · have h1 : nv 4294967296 (nup e i ((c + d i * t) % 4294967296)) (i + 1) = nv 4294967296 e i + (c + d i * t) % 4294967296 * 4294967296 ^ i := by
          have hx : nv 4294967296 (nup e i ((c + d i * t) % 4294967296)) i = nv 4294967296 e i := nv_ext fun j hj => by
            unfold nup
            rw [if_neg (by omega)]
          show nv 4294967296 (nup e i ((c + d i * t) % 4294967296)) i + nup e i ((c + d i * t) % 4294967296) i * 4294967296 ^ i = _
          rw [hx]
          unfold nup
          rw [if_pos rfl]
        have h2 : nv 4294967296 d (i + 1) = nv 4294967296 d i + d i * 4294967296 ^ i := rfl
        rw [h1, h2, Nat.add_mul, ← hh, Nat.pow_succ]
        have hdm := Nat.div_add_mod (c + d i * t) 4294967296
        have e3 : d i * 4294967296 ^ i * t = d i * t * 4294967296 ^ i := by rw [Nat.mul_right_comm]
        rw [e3]
        generalize d i * t = x at hdm ⊢
        generalize (c + x) / 4294967296 = y at hdm ⊢
        generalize (c + x) % 4294967296 = z at hdm ⊢
        generalize 4294967296 ^ i = w
        have e4 : (4294967296 * y + z) * w = (c + x) * w := by rw [hdm]
        rw [Nat.add_mul, Nat.add_mul] at e4
        have e5 : y * (w * 4294967296) = 4294967296 * y * w := by
          rw [Nat.mul_comm w, ← Nat.mul_assoc, Nat.mul_comm y]
        rw [e5]
        generalize 4294967296 * y * w = p1 at e4 ⊢
        generalize z * w = p2 at e4 ⊢
        generalize c * w = p3 at e4 ⊢
        generalize x * w = p4 at e4 ⊢
        omega
  refine loop 9 0 jfuel 0 (fun _ => 0) Hs rfl (by unfold jfuel; omega) (by decide) jfr_refl (fun j hj => (d1 j hj).1.trans (congrArg Int32.ofNat (if_neg (Nat.not_lt_zero j)).symm)) (fun j hj => absurd hj (Nat.not_lt_zero j)) ?_
  show 0 + 0 * 4294967296 ^ 0 = 0 * t
  rw [Nat.zero_mul, Nat.zero_mul]
theorem z1_bitsBehind {Q : α → jH → Prop} {k : Int32 → jH → Option (α × jH)} {p : Nat} (hw : b_wf bs) (hb : b_bok bs) (hs : jsh Hs) (hB : b_BC nb bs os Hs) (hp : p < bs.length) (hk : ∀ H', jsh H' → jfr b_Tt Hs H' → jT (k (Int32.ofNat (b_mst bs p)) H') Q) : jT (jb (F_1_bitsBehind 398 (b_o os p) Hs) k) Q := by
  have l300 := hw.2.1
  have hp3 := b_ht_300 hw hp
  obtain ⟨q1, q2, q3, q4⟩ := hb p hp
  have lo := b_tg_lo hp3 q3
  obtain ⟨-, m2⟩ := hB.2.2.2.2 _ hp
  have kp : (jK Hs (b_o os p)).1 = 0 := m2.1.1
  have e6 : jI Hs (b_o os p) 6 = Int32.ofNat (b_ht bs p) := m2.1.2.2.2.1
  have e2 : jI Hs (b_o os p) 2 = Int32.ofNat (b_bi bs p) := m2.1.2.2.2.2.1
  have e1 : Int32.ofNat (b_ht bs p) + 1 = Int32.ofNat (b_ht bs p + 1) := jo_add (a := b_ht bs p) (b := 1)
  have em8 : jrem (Int32.ofNat (b_ht bs p + 1)) 8 = Int32.ofNat ((b_ht bs p + 1) % 8) := jo_rem (b := 8) (by omega) (by decide)
  unfold F_1_bitsBehind
  rw [e6, e1, em8]
  refine jT_b (jT_g kp (jT_g (by decide) ?_))
  by_cases c : (b_ht bs p + 1) % 8 = 0
  · have em : b_mst bs p = b_cp (b_rtg (b_tg (b_bi bs p)) (b_clt (b_ti bs p) (b_ti bs (b_at bs p (b_ht bs p - 7))))) := if_pos c
    obtain ⟨z1, z2, z3⟩ := b_at_ok hw hp (show b_ht bs p - 7 ≤ b_ht bs p by omega)
    have y4 := (hb _ z3).2.2.2
    obtain ⟨t1, t2⟩ := b_clt_le (a := b_ti bs p) (b := b_ti bs (b_at bs p (b_ht bs p - 7)))
    obtain ⟨-, mz⟩ := hB.2.2.2.2 _ z3
    have fin : jT (B_1_bitsBehind_45 398 (b_o os p) (b_o os (b_at bs p (b_ht bs p - 7))) Hs) (fun v h => jT (k v h) Q) := by
      have t3 : jL Hs (b_o os p) 3 = Int64.ofNat (b_ti bs p) := m2.1.2.2.2.2.2
      have t4 : jL Hs (b_o os (b_at bs p (b_ht bs p - 7))) 3 = Int64.ofNat (b_ti bs (b_at bs p (b_ht bs p - 7))) := mz.1.2.2.2.2.2
      unfold B_1_bitsBehind_45
      rw [t3, t4, b_cltL q4 y4, sR_398_11 hs, e2]
      refine jT_g kp (jT_g mz.1.1 (jT_l (jT_g (gT (sK_398 hs)) (jT_g kp (jT_b (z1_setTarget (sK_403 hs) (by decide) (by have := q1.1; omega) (by have := q1.2.1; omega) fun H1 f1 r1 => ?_))))))
      have f1' : jfr b_Tt Hs H1 := jfr_mono f1 fun a j w => Or.inl w
      have s1 := jshTt hs f1'
      refine z1_bb84 (R := fun v h => jT (k v h) Q) s1 r1 lo q2 t1 t2 fun H2 s2 f2 => ?_
      rw [← em]
      exact hk H2 s2 (jfr_trans f1' f2)
    have loop : ∀ (d i fu : Nat), i + d = 7 → d < fu → F_1_bitsBehind_21 fu 398 (b_o os p) (b_o os (b_at bs p (b_ht bs p - i))) (Int32.ofNat i) Hs = B_1_bitsBehind_45 398 (b_o os p) (b_o os (b_at bs p (b_ht bs p - 7))) Hs := by
      intro d
      induction d with
      | zero =>
        intro i fu hi hfu
        obtain ⟨fu, rfl⟩ : ∃ k, fu = k + 1 := ⟨fu - 1, by omega⟩
        obtain rfl : i = 7 := by omega
        unfold F_1_bitsBehind_21 B_1_bitsBehind_21
        rw [if_pos (by decide)]
      | succ d ih =>
        intro i fu hi hfu
        obtain ⟨fu, rfl⟩ : ∃ k, fu = k + 1 := ⟨fu - 1, by omega⟩
        obtain ⟨x1, x2, x3⟩ := b_at_ok hw hp (show b_ht bs p - i ≤ b_ht bs p by omega)
        have x4 := b_ht_pos hw x3 (by omega)
        obtain ⟨w1, w2, -⟩ := hw.2.2.2.2 _ x4 x3
        obtain ⟨-, mx⟩ := hB.2.2.2.2 _ x3
        have ei : Int32.ofNat i + 1 = Int32.ofNat (i + 1) := jo_add (a := i) (b := 1)
        have epa : b_pa bs (b_at bs p (b_ht bs p - i)) = b_at bs p (b_ht bs p - (i + 1)) := by
          have g1 : b_at bs (b_at bs p (b_ht bs p - i)) (b_ht bs p - (i + 1)) = b_at bs p (b_ht bs p - (i + 1)) := b_at_at hw hp (by omega) (by omega)
          rw [b_at_pa hw x3 x4 (by omega)] at g1
          have sf : b_at bs (b_pa bs (b_at bs p (b_ht bs p - i))) (b_ht bs (b_pa bs (b_at bs p (b_ht bs p - i)))) = b_pa bs (b_at bs p (b_ht bs p - i)) := b_at_self
          rw [show b_ht bs (b_pa bs (b_at bs p (b_ht bs p - i))) = b_ht bs p - (i + 1) by omega] at sf
          rw [← sf, g1]
        have e5 : jR Hs (b_o os (b_at bs p (b_ht bs p - i))) 5 = b_o os (b_at bs p (b_ht bs p - (i + 1))) := by
          rw [mx.1.2.2.1]
          unfold b_po
          rw [if_neg (by omega), epa]
        have hpos := (b_o_pos hs hB (b_at_ok hw hp (show b_ht bs p - (i + 1) ≤ b_ht bs p by omega)).2.2).1
        unfold F_1_bitsBehind_21 B_1_bitsBehind_21
        rw [if_neg (by show ¬ Int32.ofNat 7 ≤ _; rw [jo_le (by decide) (by omega)]; omega), jg_t mx.1.1, e5, if_neg (by omega), jg_t mx.1.1, ei]
        exact ih (i + 1) fu (by omega) (by omega)
    refine jT_pos (by rw [c]; rfl) ?_
    have h0 := loop 7 0 jfuel rfl (by unfold jfuel; omega)
    rw [Nat.sub_zero, b_at_self] at h0
    exact jT_eq h0 fin
  · have em : b_mst bs p = b_bi bs p := if_neg c
    have hfin := hk Hs hs jfr_refl
    rw [em] at hfin
    rw [e2]
    exact jT_neg (fun w => c ((jo_eq (b := 0) (by omega) (by decide)).mp w)) (jT_g kp (jT_ret hfin))
/-- whether a name is above a target -/
theorem z1_isAbove {N a n : Nat} {nm : List UInt8} {H : jH} (kN : jK H N = (101, 32)) (ka : jK H a = (100, 9)) (hz : zRow H N 0 nm) (h32 : nm.length = 32) (hr : r9 H a n) (hn : n < 256 ^ 32) : F_1_isAbove N a H = some (if n < b_nn nm then 1 else 0, H) := by
  have hw : ∀ j, j < 32 → (nm.getD j 0).toNat < 256 := fun j _ => UInt8.toNat_lt _
  have hd : ∀ j, j < 32 → n / 256 ^ j % 256 < 256 := fun j _ => Nat.mod_lt _ (by decide)
  have hall : nv 256 (fun j => n / 256 ^ j % 256) 32 = n := nv_all hn
  have loop : ∀ (i fu : Nat), i ≤ 32 → i < fu → (∀ j, i ≤ j → j < 32 → (nm.getD j 0).toNat = n / 256 ^ j % 256) → F_1_isAbove_3 fu N a (Int32.ofNat i - 1) H = some (if n < b_nn nm then 1 else 0, H) := by
    intro i
    induction i with
    | zero =>
      intro fu hi hfu he
      obtain ⟨fu, rfl⟩ : ∃ k, fu = k + 1 := ⟨fu - 1, by omega⟩
      have e : b_nn nm = n := by
        rw [← hall]
        exact nv_ext fun j hj => he j (Nat.zero_le _) hj
      unfold F_1_isAbove_3 B_1_isAbove_3
      rw [if_pos (by decide), jg_t (Or.inl rfl), e, if_neg (Nat.lt_irrefl _)]
    | succ i ih =>
      intro fu hi hfu he
      obtain ⟨fu, rfl⟩ : ∃ k, fu = k + 1 := ⟨fu - 1, by omega⟩
      have e1 : Int32.ofNat (i + 1) - 1 = Int32.ofNat i := jo_sub (a := i + 1) (b := 1) (by omega)
      have e2 : Int32.ofNat i + (-1) = Int32.ofNat i - 1 := (Int32.sub_eq_add_neg _ _).symm
      have ev : jB H N i = nm.getD i 0 := by
        have := hz i _ (getD_of (by omega))
        rwa [Nat.zero_add] at this
      have hb := UInt8.toNat_lt (nm.getD i 0)
      have hm := hd i (by omega)
      refine jT_det ?_
      unfold F_1_isAbove_3 B_1_isAbove_3 B_1_isAbove_24 B_1_isAbove_49
      rw [e1, kN, jo_nat (n := i) (by omega), ev, jb_and, z1_byteOf ka hr (by omega), jb_ok, e2]
      refine jT_neg (by show ¬ _ < Int32.ofNat 0; rw [jo_lt (by omega) (by decide)]; omega) (jT_g rfl (jT_neg (by show ¬ Int32.ofNat 32 ≤ _; rw [jo_le (by decide) (by omega)]; omega) (jT_g ⟨rfl, jo_in (by omega) (by show _ < 32; omega)⟩ ?_)))
      by_cases c : (nm.getD i 0).toNat = n / 256 ^ i % 256
      · refine jT_pos (by rw [c]) (jT_l (jT_eq (ih fu (by omega) (by omega) fun j h1 h2 => ?_) (jT_ret ⟨rfl, rfl⟩)))
        by_cases cj : j = i
        · rw [cj]
          exact c
        · exact he j (by omega) h2
      · refine jT_neg (fun w => c ((jo_eq (by omega) (by omega)).mp w)) ?_
        by_cases cl : (nm.getD i 0).toNat ≤ n / 256 ^ i % 256
        · have hlt : b_nn nm < n := by
            have := nv_top (a := fun j => (nm.getD j 0).toNat) (b := fun j => n / 256 ^ j % 256) (i := i) (n := 32) hw (by omega) (fun j h1 h2 => he j (by omega) h2) (by omega)
            rwa [hall] at this
          refine jT_pos (by rw [jo_le (by omega) (by omega)]; exact cl) (jT_g (Or.inl rfl) (jT_ret ⟨?_, rfl⟩))
          rw [if_neg (Nat.lt_asymm hlt)]
        · have hlt : n < b_nn nm := by
            have := nv_top (a := fun j => n / 256 ^ j % 256) (b := fun j => (nm.getD j 0).toNat) (i := i) (n := 32) hd (by omega) (fun j h1 h2 => (he j (by omega) h2).symm) (by omega)
            rwa [hall] at this
          refine jT_neg (by rw [jo_le (by omega) (by omega)]; exact cl) (jT_g (Or.inr rfl) (jT_ret ⟨?_, rfl⟩))
          rw [if_pos hlt]
  unfold F_1_isAbove
  exact loop 32 jfuel (Nat.le_refl _) (by unfold jfuel; omega) fun j h1 h2 => absurd h2 (by omega)
end BB1
