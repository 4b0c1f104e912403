/-! Points.read of the reference: bytes become a number, bit by bit. -/
theorem nv_bits (N : Nat) : ∀ n, nv 2 (fun p => N / 2 ^ p % 2) n = N % 2 ^ n
  | 0 => by rw [Nat.pow_zero, Nat.mod_one]; rfl
  | n + 1 => by
    show nv 2 (fun p => N / 2 ^ p % 2) n + N / 2 ^ n % 2 * 2 ^ n = _
    rw [nv_bits N n, Nat.mod_pow_succ, Nat.mul_comm]
theorem nv_nil (b : Nat) (w : Nat → Nat) : nv b w 0 = 0 := rfl
theorem nv_succ (b : Nat) (w : Nat → Nat) (n : Nat) : nv b w (n + 1) = nv b w n + w n * b ^ n := rfl
theorem nv_group (f : Nat → Nat) (n : Nat) : nv 67108864 (fun i => nv 2 (fun s => f (26 * i + s)) 26) n = nv 2 f (26 * n) := by
  induction n with
  | zero =>
    rw [Nat.mul_zero, nv_nil, nv_nil]
  | succ n ih =>
    have h2 := nv_cut (b := 2) (w := f) (m := 26 * n) 26
    have h3 : (2 : Nat) ^ (26 * n) = 67108864 ^ n := by rw [Nat.pow_mul, show (2 : Nat) ^ 26 = 67108864 by decide]
    rw [h3] at h2
    rw [nv_succ, ih, Nat.mul_add, Nat.mul_one, h2, Nat.mul_comm (67108864 ^ n)]
theorem u8_lt (u : UInt8) : u.toNat < 256 := u.toNat_lt
/-- the number of bytes, highest first; no more than 32 are looked at -/
def rdn (b : Nat → UInt8) (f n : Nat) : Nat := nv 256 (fun k => (b (f + n - 1 - k)).toNat) (min n 32)
theorem rdn_32 (b : Nat → UInt8) (f : Nat) : rdn b f 32 = bgn b f 32 := rfl
theorem or_bit {x b s : Nat} (hb : b ≤ 1) (h : x / 2 ^ s % 2 = 0) : x ||| b * 2 ^ s = x + b * 2 ^ s := by
  have e1 : x % 2 ^ (s + 1) = x % 2 ^ s := by rw [Nat.mod_pow_succ, h, Nat.mul_zero, Nat.add_zero]
  have e2 := Nat.div_add_mod x (2 ^ (s + 1))
  rw [e1] at e2
  have hlo : x % 2 ^ s < 2 ^ s := Nat.mod_lt _ (Nat.two_pow_pos s)
  generalize x % 2 ^ s = lo at e2 hlo
  generalize x / 2 ^ (s + 1) = hi at e2
  have hlo2 : lo < 2 ^ (s + 1) := by rw [Nat.pow_succ]; omega
  have hc : 2 ^ s * b + lo < 2 ^ (s + 1) := by
    rw [Nat.pow_succ]
    have : 2 ^ s * b ≤ 2 ^ s * 1 := Nat.mul_le_mul_left _ hb
    omega
  rw [← e2, Nat.two_pow_add_eq_or_of_lt hlo2, Nat.or_assoc, Nat.mul_comm b, Nat.or_comm lo, ← Nat.two_pow_add_eq_or_of_lt hlo, ← Nat.two_pow_add_eq_or_of_lt hc, ← Nat.two_pow_add_eq_or_of_lt hlo2]
  omega
theorem jo_orN (x y : Nat) : Int32.ofNat x ||| Int32.ofNat y = Int32.ofNat (x ||| y) := by
  refine Int32.toBitVec_inj.mp ?_
  show BitVec.ofNat 32 x ||| BitVec.ofNat 32 y = BitVec.ofNat 32 (x ||| y)
  exact BitVec.ofNat_or.symm
/-- the row a holds the bits f -/
def zb13 (H : jH) (a : Nat) (f : Nat → Nat) : Prop := ∀ i, i < 10 → jI H 429 (10 * a + i) = Int32.ofNat (nv 2 (fun s => f (26 * i + s)) 26)
theorem zb13_set {H : jH} {a p b : Nat} {f : Nat → Nat} (hz : zb13 H a f) (hf : ∀ p, f p < 2) (h0 : f p = 0) (hb : b ≤ 1) (hp : p < 260) :
    zb13 (jsI H 429 (10 * a + p / 26) (Int32.ofNat (nv 2 (fun s => f (26 * (p / 26) + s)) 26) ||| Int32.ofNat (b * 2 ^ (p % 26)))) a (nup f p b) := fun i hi => by
  by_cases e : i = p / 26
  · rw [e, jI_sIe, jo_orN, or_bit hb ?_]
    · congr 1
      have hup := nv_up (b := 2) (w := fun s => f (26 * (p / 26) + s)) (i := p % 26) (v := b) (n := 26) (Nat.mod_lt _ (by decide))
      have e2 : f (26 * (p / 26) + p % 26) = 0 := by rw [Nat.div_add_mod]; exact h0
      have hup2 : nv 2 (nup (fun s => f (26 * (p / 26) + s)) (p % 26) b) 26 + f (26 * (p / 26) + p % 26) * 2 ^ (p % 26) = nv 2 (fun s => f (26 * (p / 26) + s)) 26 + b * 2 ^ (p % 26) := hup
      rw [e2, Nat.zero_mul, Nat.add_zero] at hup2
      rw [← hup2]
      refine nv_ext fun s hs => ?_
      unfold nup
      by_cases e3 : s = p % 26
      · rw [if_pos e3, if_pos (by rw [e3]; omega)]
      · rw [if_neg e3, if_neg (by omega)]
    · have hd := nv_digit (b := 2) (w := fun s => f (26 * (p / 26) + s)) (n := 26) (i := p % 26) (fun s _ => hf _) (by decide) (Nat.mod_lt _ (by decide))
      rw [hd]
      show f (26 * (p / 26) + p % 26) = 0
      rw [Nat.div_add_mod]
      exact h0
  · rw [jI_sIn (by omega), hz i hi]
    congr 1
    refine nv_ext fun s hs => ?_
    unfold nup
    rw [if_neg (by omega)]
theorem zb13_r {H : jH} {a N : Nat} (hN : N < 2 ^ 256) (h : zb13 H a fun p => N / 2 ^ p % 2) : zr H a N := by
  refine ⟨_, fun i hi => ⟨h i hi, ?_⟩, ?_⟩
  · exact Nat.lt_of_lt_of_le (nv_lt fun s _ => Nat.mod_lt _ (by decide)) (by decide)
  · have e1 := nv_group (fun p => N / 2 ^ p % 2) 10
    rw [nv_bits, Nat.mod_eq_of_lt (Nat.lt_of_lt_of_le hN (by decide +kernel))] at e1
    exact e1
theorem zb13_0 {H : jH} {a : Nat} (h : ∀ i, i < 10 → jI H 429 (10 * a + i) = 0) : zb13 H a fun _ => 0 := fun i hi => by
  rw [h i hi, nv_zero fun _ _ => rfl]
  rfl
theorem rdn_bit {b : Nat → UInt8} {f n k s : Nat} (hk : k < min n 32) (hs : s < 8) : rdn b f n / 2 ^ (8 * k + s) % 2 = (b (f + n - 1 - k)).toNat / 2 ^ s % 2 := by
  have hd := nv_digit (b := 256) (w := fun k => (b (f + n - 1 - k)).toNat) (n := min n 32) (i := k) (fun i _ => u8_lt _) (by decide) hk
  have hd2 : rdn b f n / 256 ^ k % 256 = (b (f + n - 1 - k)).toNat := hd
  rw [← hd2, Nat.pow_add, Nat.pow_mul, show (2 : Nat) ^ 8 = 256 by decide, ← Nat.div_div_eq_div_mul]
  generalize rdn b f n / 256 ^ k = z
  have e2 : (256 : Nat) = 2 ^ s * 2 ^ (8 - s) := by rw [← Nat.pow_add, show s + (8 - s) = 8 by omega]
  rw [e2, Nat.mod_mul_right_div_self]
  have e3 : (2 : Nat) ^ (8 - s) = 2 * 2 ^ (7 - s) := by rw [Nat.mul_comm, ← Nat.pow_succ, show (7 - s).succ = 8 - s by omega]
  rw [e3, Nat.mod_mul_right_mod]
theorem rdn_lt (b : Nat → UInt8) (f n : Nat) : rdn b f n < 2 ^ 256 := by
  have h : rdn b f n < 256 ^ min n 32 := nv_lt fun i _ => u8_lt _
  refine Nat.lt_of_lt_of_le h ?_
  rw [show (256 : Nat) = 2 ^ 8 by decide, ← Nat.pow_mul]
  exact Nat.pow_le_pow_right (by decide) (by omega)
/-- the bytes that were put -/
def zB13 (H : jH) (b : Nat → UInt8) : Prop := ∀ j, j < 100 → jI H 434 j = Int32.ofNat (b j).toNat
theorem zB13_f3 {M : Nat → Prop} {H H' : jH} {b : Nat → UInt8} (h : zB13 H b) (hf : jf3 M H H') : zB13 H' b := fun j hj => (hf.2.2.2.2.2.2 434 j fun q => absurd q.1 (by decide)).trans (h j hj)
theorem g434 {H : jH} (hs : jsh H) {k : Nat} (hk : k < 100) : (jK H 434).1 = 100 ∧ jin (Int32.ofNat k) (jK H 434).2 := gI (sK_434 hs) (jo_in (by omega) hk)
section RD13
variable {Q : Unit → jH → Prop} {H0 : jH} {b : Nat → UInt8} {a f n : Nat}
theorem z13_read28 {k8 : Nat → Int32 → Int32 → Int32 → Int32 → jH → Option (Unit × jH)} {K j : Nat} (ha : a < 48) (hfn : f + n ≤ 100) (hn : n ≤ 33) (hj : j + K + 1 = n) (hs : jsh H0) (hB : zB13 H0 b)
    (hk : ∀ H', jf3 (· = a) H0 H' → zb13 H' a (fun p => if 8 * K ≤ p then rdn b f n / 2 ^ p % 2 else 0) → jT (k8 428 (Int32.ofNat a) (Int32.ofNat f) (Int32.ofNat n) (Int32.ofNat (j + 1)) H') Q) :
    ∀ (d t fu : Nat) (H : jH), t + d = 8 → d < fu → jf3 (· = a) H0 H → zb13 H a (fun p => if (8 * K ≤ p ∧ p < 8 * K + t) ∨ 8 * (K + 1) ≤ p then rdn b f n / 2 ^ p % 2 else 0) → jT (F_13_read_28 k8 fu 428 (Int32.ofNat a) (Int32.ofNat f) (Int32.ofNat n) (Int32.ofNat j) (Int32.ofNat (8 * K)) (Int32.ofNat t) H) Q := by
  have e1 : Int32.ofNat j + 1 = Int32.ofNat (j + 1) := jo_add (a := j) (b := 1)
  intro d
  induction d with
  | zero =>
    intro t fu H ht hfu hfr hz
    obtain ⟨fu, rfl⟩ : ∃ k, fu = k + 1 := ⟨fu - 1, by omega⟩
    obtain rfl : t = 8 := by omega
    unfold F_13_read_28 B_13_read_28 B_13_read_93
    rw [e1]
    refine jT_pos (by decide) (jT_l (hk H hfr ?_))
    have e : (fun p => if (8 * K ≤ p ∧ p < 8 * K + 8) ∨ 8 * (K + 1) ≤ p then rdn b f n / 2 ^ p % 2 else 0) = fun p => if 8 * K ≤ p then rdn b f n / 2 ^ p % 2 else 0 := funext fun p => by
      by_cases h : 8 * K ≤ p
      · rw [if_pos h, if_pos (by omega)]
      · rw [if_neg h, if_neg (by omega)]
    rw [← e]
    exact hz
  | succ d ih =>
    intro t fu H ht hfu hfr hz
    obtain ⟨fu, rfl⟩ : ∃ k, fu = k + 1 := ⟨fu - 1, by omega⟩
    unfold F_13_read_28 B_13_read_28 B_13_read_93
    have hsH := jsh_f3 hs hfr
    refine jT_neg (by rw [show (8 : Int32) = Int32.ofNat 8 from rfl, jo_le (by omega) (by omega)]; omega) ?_
    by_cases hK : 32 ≤ K
    · rw [e1]
      refine jT_pos (by rw [show (256 : Int32) = Int32.ofNat 256 from rfl, jo_le (by omega) (by omega)]; omega) (jT_l (hk H hfr ?_))
      have z0 : ∀ p, 256 ≤ p → rdn b f n / 2 ^ p % 2 = 0 := fun p hp => by
        rw [Nat.div_eq_of_lt (Nat.lt_of_lt_of_le (rdn_lt b f n) (Nat.pow_le_pow_right (by decide) hp))]
      have e : (fun p => if (8 * K ≤ p ∧ p < 8 * K + t) ∨ 8 * (K + 1) ≤ p then rdn b f n / 2 ^ p % 2 else 0) = fun p => if 8 * K ≤ p then rdn b f n / 2 ^ p % 2 else 0 := funext fun p => by
        by_cases h : 8 * K ≤ p
        · rw [if_pos h, z0 p (by omega)]
          split <;> rfl
        · rw [if_neg h, if_neg (by omega)]
      rw [← e]
      exact hz
    · refine jT_neg (by rw [show (256 : Int32) = Int32.ofNat 256 from rfl, jo_le (by omega) (by omega)]; omega) ?_
      have hp : 8 * K + t < 256 := by omega
      have hby := (zB13_f3 hB hfr) (f + j) (by omega)
      have hblt := u8_lt (b (f + j))
      have et1 : Int32.ofNat t + 1 = Int32.ofNat (t + 1) := jo_add (a := t) (b := 1)
      have ebit := rdn_bit (b := b) (f := f) (n := n) (k := K) (s := t) (by omega) (by omega)
      rw [show f + n - 1 - K = f + j by omega] at ebit
      have hdig := hz ((8 * K + t) / 26) (by omega)
      rw [jo_add (a := 8 * K) (b := t), show (26 : Int32) = Int32.ofNat 26 from rfl, jo_div (by omega) (by decide), jo_rem (by omega) (by decide), sR_428_0 hsH, sR_428_5 hsH, e10, jo_add (a := f) (b := j), jo_nat (n := f + j) (by omega), jo_nat (n := 10 * a + (8 * K + t) / 26) (by omega), hby, jo_shr (by omega) (by omega), jo_and1, jo_shl (Nat.lt_trans (Nat.mod_lt _ (by decide)) (by decide : 26 < 32)), ← ebit, hdig, et1]
      refine jT_g (k13 hsH) (jT_g (by decide) (jT_g (g429 hsH (by omega)) (jT_g (k13 hsH) (jT_g (g434 hsH (by omega)) (jT_g (by decide) (jT_g (g429w hsH (by omega)) (jT_l (jT_l (ih (t + 1) fu _ (by omega) (by omega) (jf3_sI hfr (show (10 * a + (8 * K + t) / 26) / 10 = a by omega)) ?_)))))))))
      have hset := zb13_set (p := 8 * K + t) (b := rdn b f n / 2 ^ (8 * K + t) % 2) hz (fun p => by
        show (if _ then _ else _) < 2
        split
        · exact Nat.mod_lt _ (by decide)
        · decide) (if_neg (by omega)) (by omega) (by omega)
      have e : nup (fun p => if (8 * K ≤ p ∧ p < 8 * K + t) ∨ 8 * (K + 1) ≤ p then rdn b f n / 2 ^ p % 2 else 0) (8 * K + t) (rdn b f n / 2 ^ (8 * K + t) % 2) = fun p => if (8 * K ≤ p ∧ p < 8 * K + (t + 1)) ∨ 8 * (K + 1) ≤ p then rdn b f n / 2 ^ p % 2 else 0 := funext fun p => by
        unfold nup
        by_cases h : p = 8 * K + t
        · rw [if_pos h, if_pos (by omega), h]
        · rw [if_neg h]
          show (if (8 * K ≤ p ∧ p < 8 * K + t) ∨ 8 * (K + 1) ≤ p then rdn b f n / 2 ^ p % 2 else 0) = _
          by_cases h2 : (8 * K ≤ p ∧ p < 8 * K + t) ∨ 8 * (K + 1) ≤ p
          · rw [if_pos h2, if_pos (by omega)]
          · rw [if_neg h2, if_neg (by omega)]
      rw [← e]
      exact hset
theorem z13_read {a' f' n' : Int32} (ea : a' = Int32.ofNat a) (ef : f' = Int32.ofNat f) (en : n' = Int32.ofNat n) (ha : a < 48) (hfn : f + n ≤ 100) (hn : n ≤ 33) (hM : mOk (· = a)) (hs : jsh H0) (hC : z13C H0) (hB : zB13 H0 b) (hk : ∀ H', jsh H' → z13C H' → jf3 (· = a) H0 H' → zr H' a (rdn b f n) → Q () H') : jT (F_13_read 428 a' f' n' H0) Q := by
  subst ea
  subst ef
  subst en
  unfold F_13_read
  have loop : ∀ (d j fu : Nat) (H : jH), j + d = n → d < fu → jf3 (· = a) H0 H → zb13 H a (fun p => if 8 * (n - j) ≤ p then rdn b f n / 2 ^ p % 2 else 0) → jT (F_13_read_8 fu 428 (Int32.ofNat a) (Int32.ofNat f) (Int32.ofNat n) (Int32.ofNat j) H) Q := by
    intro d
    induction d with
    | zero =>
      intro j fu H hj hfu hfr hz
      obtain ⟨fu, rfl⟩ : ∃ k, fu = k + 1 := ⟨fu - 1, by omega⟩
      unfold F_13_read_8 B_13_read_8
      refine jT_pos (by rw [jo_le (by omega) (by omega)]; omega) (jT_ret (hk H (jsh_f3 hs hfr) (z13C_f3 hC hfr hM) hfr (zb13_r (rdn_lt b f n) ?_)))
      have e : (fun p => if 8 * (n - j) ≤ p then rdn b f n / 2 ^ p % 2 else 0) = fun p => rdn b f n / 2 ^ p % 2 := funext fun p => if_pos (by omega)
      rw [← e]
      exact hz
    | succ d ih =>
      intro j fu H hj hfu hfr hz
      obtain ⟨fu, rfl⟩ : ∃ k, fu = k + 1 := ⟨fu - 1, by omega⟩
      unfold F_13_read_8 B_13_read_8
      have e8 : 8 * (Int32.ofNat n - 1 - Int32.ofNat j) = Int32.ofNat (8 * (n - 1 - j)) := by
        rw [show (1 : Int32) = Int32.ofNat 1 from rfl, jo_sub (by omega), jo_sub (by omega), show (8 : Int32) = Int32.ofNat 8 from rfl, jo_mul]
      rw [e8]
      refine jT_neg (by rw [jo_le (by omega) (by omega)]; omega) (jT_l (z13_read28 (H0 := H) (K := n - 1 - j) ha hfn hn (by omega) (jsh_f3 hs hfr) (zB13_f3 hB hfr) (fun H1 f1 z1 => ih (j + 1) fu H1 (by omega) (by omega) (jf3_trans hfr f1) (by rw [show n - (j + 1) = n - 1 - j by omega]; exact z1)) 8 0 jfuel H rfl (by unfold jfuel; omega) jf3_refl ?_))
      have e : (fun p => if 8 * (n - j) ≤ p then rdn b f n / 2 ^ p % 2 else 0) = fun p => if (8 * (n - 1 - j) ≤ p ∧ p < 8 * (n - 1 - j) + 0) ∨ 8 * (n - 1 - j + 1) ≤ p then rdn b f n / 2 ^ p % 2 else 0 := funext fun p => by
        by_cases h : 8 * (n - j) ≤ p
        · rw [if_pos h, if_pos (by omega)]
        · rw [if_neg h, if_neg (by omega)]
      rw [← e]
      exact hz
  refine jT_g (k13 hs) (jT_b ?_)
  unfold F_13_nothing
  refine z13_nothing2 (H0 := H0) (a := a) ha hs (fun H1 f1 v1 => loop n 0 jfuel H1 (by omega) (by unfold jfuel; omega) f1 ?_) 10 0 jfuel H0 rfl (by unfold jfuel; omega) jf3_refl fun j hj => absurd hj (Nat.not_lt_zero j)
  have e : (fun p => if 8 * (n - 0) ≤ p then rdn b f n / 2 ^ p % 2 else 0) = fun _ => 0 := funext fun p => by
    by_cases h : 8 * (n - 0) ≤ p
    · rw [if_pos h]
      have hl : rdn b f n < 256 ^ min n 32 := nv_lt fun i _ => u8_lt _
      rw [show (256 : Nat) = 2 ^ 8 by decide, ← Nat.pow_mul] at hl
      rw [Nat.div_eq_of_lt (Nat.lt_of_lt_of_le hl (Nat.pow_le_pow_right (by decide) (by omega)))]
    · rw [if_neg h]
  rw [e]
  exact zb13_0 v1
end RD13
