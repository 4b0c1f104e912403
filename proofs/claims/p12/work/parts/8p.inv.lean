/-! Signature.invert: a power modulo the order. -/
def zN8 (H : jH) (r n : Nat) : Prop := ∃ w, zw8 H r 8 w ∧ nv 4294967296 w 8 = n
theorem zN8_fJ {S : Nat → Prop} {H H' : jH} {r n : Nat} (h : zN8 H r n) (hf : jfJ S H H') (hr : ¬ S r) : zN8 H' r n := by
  obtain ⟨w, h1, h2⟩ := h
  exact ⟨w, zw8_fJ h1 hf hr, h2⟩
theorem zN8_lt {H : jH} {r n : Nat} (h : zN8 H r n) : n < 4294967296 ^ 8 := by
  obtain ⟨w, h1, h2⟩ := h
  rw [← h2]
  exact nv_lt fun i hi => (h1 i hi).2
theorem sPw {H : jH} (hs : jsh H) {k : Nat} (hk : k < 16) : jK H (59 + k) = (100, 8) ∧ jR H 58 k = 59 + k := by
  have hz : ((List.range 16).all fun k => decide (jKs[59 + k]? = some (100, 8) ∧ (58, k, 59 + k) ∈ jRs)) = true := by decide +kernel
  rw [List.all_eq_true] at hz
  obtain ⟨e1, m1⟩ := of_decide_eq_true (hz k (List.mem_range.mpr hk))
  exact ⟨sK hs e1 (by omega) (by omega), hs.2.2.2.1 _ m1 (Or.inl rfl)⟩
theorem sK58 {H : jH} (hs : jsh H) : jK H 58 = (111, 16) := sK hs (a := 58) rfl (by decide) (by decide)
theorem zN8_one {H : jH} {r : Nat} (h : ∀ j, j < 8 → jI H r j = 0) : zN8 (jsI H r 0 1) r 1 := by
  refine ⟨nup (fun _ => 0) 0 1, fun j hj => ?_, by decide +kernel⟩
  unfold nup
  by_cases e : j = 0
  · rw [if_pos e, e]
    exact ⟨jI_sIe, by decide⟩
  · rw [if_neg e]
    exact ⟨(jI_sIn e).trans (h j hj), show 0 < 4294967296 by decide⟩
section INV
variable {Q : Unit → jH → Prop} {a : Nat} {H0 : jH}
theorem z8_mulE {t ta tb to ra rb x y : Nat} {H : jH} (e0 : t = to) (e1 : ta = ra) (e2 : tb = rb) (hs : jsh H) (kt : jK H to = (100, 8)) (ht : 31 ≤ to) (nt : ¬ zSm to) (kA : jK H ra = (100, 8)) (kB : jK H rb = (100, 8)) (nA : ¬ zSm ra) (nB : ¬ zSm rb) (hA : zN8 H ra x) (hB : zN8 H rb y)
    (hk : ∀ H', jfJ (fun a => zSm a ∨ a = to) H H' → zN8 H' to (x * y % nN) → Q () H') : jT (F_8_multiply 50 t ta tb H) Q := by
  obtain ⟨A, a1, a2⟩ := hA
  obtain ⟨B, b1, b2⟩ := hB
  refine z8_mul e0 e1 e2 hs kt ht nt kA kB nA nB a1 b1 fun H' v hf hv he => hk H' hf ⟨v, hv, ?_⟩
  rw [he, a2, b2]
def zSv (a : Nat) : Nat → Prop := fun r => zSm r ∨ (59 ≤ r ∧ r < 75) ∨ r = a
/-- four squarings -/
theorem z8_inv76 {k70 : Nat → Nat → Int32 → jH → Option (Unit × jH)} {k v : Nat} (ha : 31 ≤ a) (na : ¬ zSm a) (nb : ¬ (59 ≤ a ∧ a < 75)) (ka : jK H0 a = (100, 8)) (hs : jsh H0) (hk64 : k < 64)
    (hk : ∀ H', jfJ (fun r => zSm r ∨ r = a) H0 H' → zN8 H' a (v ^ 16 % nN) → jT (B_8_invert_76 k70 (fun _ _ _ _ _ => none) 50 a (Int32.ofNat (4 * k)) (Int32.ofNat 4) H') Q) :
    ∀ (d j fu : Nat) (H : jH), j + d = 4 → d < fu → jfJ (fun r => zSm r ∨ r = a) H0 H → zN8 H a (v ^ 2 ^ j % nN) → jT (F_8_invert_76 k70 fu 50 a (Int32.ofNat (4 * k)) (Int32.ofNat j) H) Q := by
  intro d
  induction d with
  | zero =>
    intro j fu H hj hfu hfr hv
    obtain ⟨fu, rfl⟩ : ∃ k, fu = k + 1 := ⟨fu - 1, by omega⟩
    obtain rfl : j = 4 := by omega
    have := hk H hfr hv
    unfold F_8_invert_76
    unfold B_8_invert_76 at this ⊢
    rw [if_pos (by decide)] at this ⊢
    exact this
  | succ d ih =>
    intro j fu H hj hfu hfr hv
    obtain ⟨fu, rfl⟩ : ∃ k, fu = k + 1 := ⟨fu - 1, by omega⟩
    unfold F_8_invert_76 B_8_invert_76
    have hsH := jsh_fJ hs hfr (fun r hr q => by rcases q with (q | q) | q <;> omega)
    have e1 : Int32.ofNat j + 1 = Int32.ofNat (j + 1) := jo_add (a := j) (b := 1)
    have kaH : jK H a = (100, 8) := by rw [hfr.1, ka]
    refine jT_neg (by rw [show (4 : Int32) = Int32.ofNat 4 from rfl, jo_le (by omega) (by omega)]; omega) (jT_g (by rw [sK_50 hsH]) (jT_b (z8_mulE (to := a) (ra := a) (rb := a) rfl rfl rfl hsH kaH ha na kaH kaH na na hv hv fun H1 f1 v1 => jT_l ?_)))
    rw [e1]
    refine ih (j + 1) fu H1 (by omega) (by omega) (jfJ_trans hfr f1) ?_
    rw [← Nat.mul_mod, ← Nat.pow_add, ← Nat.two_mul, Nat.mul_comm, ← Nat.pow_succ] at v1
    exact v1
theorem nib (k : Nat) (hk : k < 64) : ∀ H : jH, jsh H → jushr (if 32 ≤ 4 * k then jI H 8 (4 * k / 32) else jI H 8 0 - 2) (jrem (Int32.ofNat (4 * k)) 32) &&& 15 = Int32.ofNat ((nN - 2) / 16 ^ k % 16) := fun H hs => by
  have e : ∀ k, k < 64 → jushr (if 32 ≤ 4 * k then Int32.ofNat (wN (4 * k / 32)) else Int32.ofNat (wN 0) - 2) (jrem (Int32.ofNat (4 * k)) 32) &&& 15 = Int32.ofNat ((nN - 2) / 16 ^ k % 16) := by decide +kernel
  rw [← e k hk]
  by_cases h : 32 ≤ 4 * k
  · rw [if_pos h, if_pos h, sSt8 hs _ (by omega)]
  · rw [if_neg h, if_neg h, sSt8 hs _ (by omega)]
/-- four bits -/
theorem z8_inv118 {k70 : Nat → Nat → Int32 → jH → Option (Unit × jH)} {k x v : Nat} {H : jH} (ha : 31 ≤ a) (na : ¬ zSm a) (nb : ¬ (59 ≤ a ∧ a < 75)) (ka : jK H a = (100, 8)) (hs : jsh H) (hk64 : k < 64) (hp : ∀ i, i < 16 → zN8 H (59 + i) (x ^ i % nN)) (hv : zN8 H a v)
    (hk : ∀ H', jfJ (fun r => zSm r ∨ r = a) H H' → zN8 H' a (v * (x ^ ((nN - 2) / 16 ^ k % 16) % nN) % nN) → jT (k70 50 a (Int32.ofNat (4 * k) + (-4)) H') Q) :
    jT (B_8_invert_76 k70 (fun _ _ _ _ _ => none) 50 a (Int32.ofNat (4 * k)) (Int32.ofNat 4) H) Q := by
  have k50 : (jK H 50).1 = 8 := by rw [sK_50 hs]
  have hn : (nN - 2) / 16 ^ k % 16 < 16 := Nat.mod_lt _ (by decide)
  have go : ∀ s0 : Int32, s0 = (if 32 ≤ 4 * k then jI H 8 (4 * k / 32) else jI H 8 0 - 2) → jT (B_8_invert_118 k70 50 a (Int32.ofNat (4 * k)) s0 H) Q := fun s0 h0 => by
    unfold B_8_invert_118
    rw [h0, nib k hk64 H hs]
    refine jT_g k50 (jT_g (by decide) ?_)
    rw [sR_50_8 hs, jo_nat (n := (nN - 2) / 16 ^ k % 16) (by omega)]
    refine jT_g (by rw [sK58 hs]; exact ⟨rfl, jo_in (by omega) hn⟩) (jT_g k50 (jT_b (z8_mulE (to := a) (ra := a) (rb := 59 + (nN - 2) / 16 ^ k % 16) rfl rfl (sPw hs hn).2 hs ka ha na ka (sPw hs hn).1 na (fun q => by rcases q with q | q <;> omega) hv (hp _ hn) fun H1 f1 v1 => jT_l (hk H1 f1 v1))))
  unfold B_8_invert_76
  refine jT_pos (by decide) ?_
  by_cases h : 32 ≤ 4 * k
  · refine jT_pos (by rw [show (32 : Int32) = Int32.ofNat 32 from rfl, jo_le (by omega) (by omega)]; exact h) (jT_g (by decide) ?_)
    have e1 : Int32.ofNat (4 * k) / 32 = Int32.ofNat (4 * k / 32) := jo_div (a := 4 * k) (b := 32) (by omega) (by omega)
    rw [e1, jo_nat (n := 4 * k / 32) (by omega)]
    exact jT_g (gI (sK hs (a := 8) (q := (100, 8)) rfl (by decide) (by decide)) (jo_in (by omega) (by omega))) (go _ (by rw [if_pos h]))
  · refine jT_neg (by rw [show (32 : Int32) = Int32.ofNat 32 from rfl, jo_le (by omega) (by omega)]; exact h) ?_
    exact jT_g (gI (sK hs (a := 8) (q := (100, 8)) rfl (by decide) (by decide)) (by decide)) (go _ (by rw [if_neg h]; rfl))
theorem z8_inv70 {x : Nat} (ha : 31 ≤ a) (na : ¬ zSm a) (nb : ¬ (59 ≤ a ∧ a < 75)) (ka : jK H0 a = (100, 8)) (hs : jsh H0) (hp : ∀ i, i < 16 → zN8 H0 (59 + i) (x ^ i % nN))
    (hk : ∀ H', jfJ (fun r => zSm r ∨ r = a) H0 H' → zN8 H' a (x ^ (nN - 2) % nN) → Q () H') :
    ∀ (k fu : Nat) (H : jH), k ≤ 64 → k < fu → jfJ (fun r => zSm r ∨ r = a) H0 H → zN8 H a (x ^ ((nN - 2) / 16 ^ k) % nN) → jT (F_8_invert_70 fu 50 a (Int32.ofNat (4 * k) + (-4)) H) Q := by
  intro k
  induction k with
  | zero =>
    intro fu H hk64 hfu hfr hv
    obtain ⟨fu, rfl⟩ : ∃ k, fu = k + 1 := ⟨fu - 1, by omega⟩
    unfold F_8_invert_70 B_8_invert_70
    refine jT_pos (by decide) (jT_ret (hk H hfr ?_))
    rw [Nat.pow_zero, Nat.div_one] at hv
    exact hv
  | succ k ih =>
    intro fu H hk64 hfu hfr hv
    obtain ⟨fu, rfl⟩ : ∃ k, fu = k + 1 := ⟨fu - 1, by omega⟩
    unfold F_8_invert_70 B_8_invert_70
    have e4 : Int32.ofNat (4 * (k + 1)) + (-4) = Int32.ofNat (4 * k) := by
      rw [show 4 * (k + 1) = 4 * k + 4 by omega, ← jo_add, Int32.add_assoc, show Int32.ofNat 4 + (-4) = 0 from by decide, Int32.add_zero]
    have hsH := jsh_fJ hs hfr (fun r hr q => by rcases q with (q | q) | q <;> omega)
    have kaH : jK H a = (100, 8) := by rw [hfr.1, ka]
    rw [e4]
    refine jT_neg (by rw [show (0 : Int32) = Int32.ofNat 0 from rfl, jo_lt (by omega) (by omega)]; omega) ?_
    have hv1 : zN8 H a ((x ^ ((nN - 2) / 16 ^ (k + 1))) ^ 2 ^ 0 % nN) := by
      rw [Nat.pow_zero, Nat.pow_one]
      exact hv
    refine z8_inv76 (H0 := H) (v := x ^ ((nN - 2) / 16 ^ (k + 1))) ha na nb kaH hsH (by omega) (fun H1 f1 v1 => ?_) 4 0 jfuel H rfl (by unfold jfuel; omega) jfJ_refl hv1
    have hs1 := jsh_fJ hsH f1 (fun r hr q => by rcases q with (q | q) | q <;> omega)
    have ne : ∀ i, i < 16 → ¬ (zSm (59 + i) ∨ 59 + i = a) := fun i hi q => by rcases q with (q | q) | q <;> omega
    refine z8_inv118 (x := x) ha na nb (by rw [f1.1]; exact kaH) hs1 (by omega) (fun i hi => zN8_fJ (zN8_fJ (hp i hi) hfr (ne i hi)) f1 (ne i hi)) v1 fun H2 f2 v2 => ?_
    refine ih fu H2 (by omega) (by omega) (jfJ_trans hfr (jfJ_trans f1 f2)) ?_
    have e : x ^ ((nN - 2) / 16 ^ k) % nN = (x ^ ((nN - 2) / 16 ^ (k + 1))) ^ 16 % nN * (x ^ ((nN - 2) / 16 ^ k % 16) % nN) % nN := by
      rw [← Nat.mul_mod, ← Nat.pow_mul, ← Nat.pow_add]
      congr 2
      rw [Nat.pow_succ, ← Nat.div_div_eq_div_mul]
      omega
    rw [e]
    exact v2
/-- the small powers -/
theorem z8_inv21 {x : Nat} (ha : 31 ≤ a) (na : ¬ zSm a) (nb : ¬ (59 ≤ a ∧ a < 75)) (ka : jK H0 a = (100, 8)) (hs : jsh H0) (hx : zN8 H0 a x)
    (hk : ∀ H', jfJ (zSv a) H0 H' → zN8 H' a (x ^ (nN - 2) % nN) → Q () H') :
    ∀ (d i fu : Nat) (H : jH), i + d = 16 → d < fu → 1 ≤ i → jfJ (fun r => zSm r ∨ (59 ≤ r ∧ r < 75)) H0 H → (∀ j, j < i → zN8 H (59 + j) (x ^ j % nN)) → jT (F_8_invert_21 fu 50 a (Int32.ofNat i) H) Q := by
  have h18 : ∀ r, r < 18 → ¬ (zSm r ∨ (59 ≤ r ∧ r < 75)) := fun r hr q => by rcases q with (q | q) | q <;> omega
  have nax : ¬ (zSm a ∨ (59 ≤ a ∧ a < 75)) := fun q => q.elim na nb
  intro d
  induction d with
  | zero =>
    intro i fu H hi hfu h1 hfr hp
    obtain ⟨fu, rfl⟩ : ∃ k, fu = k + 1 := ⟨fu - 1, by omega⟩
    obtain rfl : i = 16 := by omega
    unfold F_8_invert_21 B_8_invert_21
    have hsH := jsh_fJ hs hfr h18
    have kaH : jK H a = (100, 8) := by rw [hfr.1, ka]
    refine jT_pos (by decide) (jT_g (by rw [sK_50 hsH]) ?_)
    rw [sR_50_8 hsH]
    refine jT_g (by rw [sK58 hsH]; exact ⟨rfl, by decide⟩) ?_
    have k59 := (sPw hsH (k := 0) (by decide)).1
    rw [show (0 : Int32).toNatClampNeg = 0 from rfl, (sPw hsH (k := 0) (by decide)).2]
    refine jT_g ⟨by rw [k59], by rw [kaH], ha, by decide, by decide, by decide, by rw [k59]; decide, by rw [kaH]; decide⟩ (jT_l ?_)
    have f1 : jfJ (fun r => zSm r ∨ r = a) H (jcpI H (59 + 0) 0 a 0 (8 : Int32).toNatClampNeg) := ⟨rfl, rfl, rfl, rfl, rfl, fun r hr j => ⟨rfl, jcpf_ne fun q => hr (Or.inr q.1)⟩⟩
    have v1 : zN8 (jcpI H (59 + 0) 0 a 0 (8 : Int32).toNatClampNeg) a (x ^ 0 % nN) := by
      obtain ⟨w, q1, q2⟩ := hp 0 (by omega)
      refine ⟨w, fun j hj => ⟨?_, (q1 j hj).2⟩, q2⟩
      show jcpf (jI H) (59 + 0) 0 a 0 8 a j = _
      rw [jcpf_in (by omega) (by omega), show 0 + (j - 0) = j by omega]
      exact (q1 j hj).1
    generalize jcpI H (59 + 0) 0 a 0 (8 : Int32).toNatClampNeg = H1 at f1 v1
    have hs1 := jsh_fJ hsH f1 (fun r hr q => by rcases q with (q | q) | q <;> omega)
    have ne : ∀ i, i < 16 → ¬ (zSm (59 + i) ∨ 59 + i = a) := fun i hi q => by rcases q with (q | q) | q <;> omega
    have e0 : x ^ ((nN - 2) / 16 ^ 64) % nN = x ^ 0 % nN := by
      have : (nN - 2) / 16 ^ 64 = 0 := by decide +kernel
      rw [this]
    refine z8_inv70 (x := x) ha na nb (by rw [f1.1]; exact kaH) hs1 (fun i hi => zN8_fJ (hp i hi) f1 (ne i hi)) (fun H2 f2 v2 => hk H2 (jfJ_trans (jfJ_mono hfr fun r hr => hr.elim Or.inl fun q => Or.inr (Or.inl q)) (jfJ_trans (jfJ_mono f1 fun r hr => hr.elim Or.inl fun q => Or.inr (Or.inr q)) (jfJ_mono f2 fun r hr => hr.elim Or.inl fun q => Or.inr (Or.inr q)))) v2) 64 jfuel H1 (by omega) (by unfold jfuel; omega) jfJ_refl (by rw [e0]; exact v1)
  | succ d ih =>
    intro i fu H hi hfu h1 hfr hp
    obtain ⟨fu, rfl⟩ : ∃ k, fu = k + 1 := ⟨fu - 1, by omega⟩
    unfold F_8_invert_21 B_8_invert_21
    have hsH := jsh_fJ hs hfr h18
    have kaH : jK H a = (100, 8) := by rw [hfr.1, ka]
    have e1 : Int32.ofNat i + 1 = Int32.ofNat (i + 1) := jo_add (a := i) (b := 1)
    have em : Int32.ofNat i - 1 = Int32.ofNat (i - 1) := jo_sub (a := i) (b := 1) h1
    have k50 : (jK H 50).1 = 8 := by rw [sK_50 hsH]
    have hi16 : i < 16 := by omega
    refine jT_neg (by rw [show (16 : Int32) = Int32.ofNat 16 from rfl, jo_le (by omega) (by omega)]; omega) (jT_g k50 ?_)
    rw [sR_50_8 hsH, em, jo_nat (n := i) (by omega), jo_nat (n := i - 1) (by omega)]
    refine jT_g (by rw [sK58 hsH]; exact ⟨rfl, jo_in (by omega) hi16⟩) (jT_g k50 (jT_g (by rw [sK58 hsH]; exact ⟨rfl, jo_in (by omega) (by show i - 1 < 16; omega)⟩) (jT_g k50 (jT_b (z8_mulE (to := 59 + i) (ra := 59 + (i - 1)) (rb := a) (sPw hsH hi16).2 (sPw hsH (by omega)).2 rfl hsH (sPw hsH hi16).1 (by omega) (fun q => by rcases q with q | q <;> omega) (sPw hsH (by omega)).1 kaH (fun q => by rcases q with q | q <;> omega) na (hp (i - 1) (by omega)) (zN8_fJ hx hfr nax) fun H1 f1 v1 => jT_l ?_)))))
    rw [e1]
    refine ih (i + 1) fu H1 (by omega) (by omega) (by omega) (jfJ_trans hfr (jfJ_mono f1 fun r hr => hr.elim Or.inl fun q => Or.inr (by omega))) fun j hj => ?_
    by_cases e : j = i
    · rw [e]
      have : x ^ (i - 1) % nN * x % nN = x ^ i % nN := by
        rw [Nat.mod_mul_mod, ← Nat.pow_succ, show (i - 1).succ = i by omega]
      rw [← this]
      exact v1
    · exact zN8_fJ (hp j (by omega)) f1 (fun q => by rcases q with (q | q) | q <;> omega)
theorem z8_invert {t x : Nat} (e0 : t = a) (ha : 31 ≤ a) (na : ¬ zSm a) (nb : ¬ (59 ≤ a ∧ a < 75)) (ka : jK H0 a = (100, 8)) (hs : jsh H0) (hx : zN8 H0 a x)
    (hk : ∀ H', jfJ (zSv a) H0 H' → zN8 H' a (x ^ (nN - 2) % nN) → Q () H') : jT (F_8_invert 50 t H0) Q := by
  subst e0
  unfold F_8_invert
  have r59 : jR H0 58 (0 : Int32).toNatClampNeg = 59 := (sPw hs (k := 0) (by decide)).2
  refine jT_g (by rw [sK_50 hs]) ?_
  rw [sR_50_8 hs]
  refine jT_g (by rw [sK58 hs]; exact ⟨rfl, by decide⟩) (jT_b (zA_fillI (r := 59) (n := 8) r59 (sPw hs (k := 0) (by decide)).1 (by decide) (by decide) fun H1 f1 z1 => ?_))
  have f1' : jfJ (fun r => zSm r ∨ (59 ≤ r ∧ r < 75)) H0 H1 := jfJ_mono f1 fun r hr => Or.inr (by omega)
  have hs1 := jsh_fJ hs f1' (fun r hr q => by rcases q with (q | q) | q <;> omega)
  have r59' : jR H1 58 (0 : Int32).toNatClampNeg = 59 := (sPw hs1 (k := 0) (by decide)).2
  refine jT_g (by rw [sK_50 hs1]) ?_
  rw [sR_50_8 hs1]
  refine jT_g (by rw [sK58 hs1]; exact ⟨rfl, by decide⟩) ?_
  rw [r59']
  refine jT_g (gIw (sPw hs1 (k := 0) (by decide)).1 (by decide) (by decide)) (jT_l ?_)
  refine z8_inv21 (H0 := H0) (x := x) ha na nb ka hs hx hk 15 1 jfuel _ rfl (by unfold jfuel; omega) (by omega) (jfJ_sI f1' (Or.inr ⟨by decide, by decide⟩)) fun j hj => ?_
  obtain rfl : j = 0 := by omega
  have : x ^ 0 % nN = 1 := by
    rw [Nat.pow_zero]
    decide +kernel
  rw [this]
  exact zN8_one z1
end INV
