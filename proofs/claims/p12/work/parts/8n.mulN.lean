/-! Signature.multiply: the product modulo the order. -/
def nN : Nat := 115792089237316195423570985008687907852837564279074904382605163141518161494337
def nC : Nat := 432420386565659656852420866394968145599
def wN (i : Nat) : Nat := nN / 4294967296 ^ i % 4294967296
def wC (i : Nat) : Nat := nC / 4294967296 ^ i % 4294967296
def wP (i : Nat) : Nat := np_P / 4294967296 ^ i % 4294967296
theorem sSt7 {H : jH} (hs : jsh H) : ∀ i, i < 8 → jI H 7 i = Int32.ofNat (wP i) := fun i hi => by
  rw [hs.2.2.1 7 (by decide) i]
  have : ∀ i, i < 8 → (jvals.getD 7 []).getD i 0 = Int32.ofNat (wP i) := by decide +kernel
  exact this i hi
theorem sSt8 {H : jH} (hs : jsh H) : ∀ i, i < 8 → jI H 8 i = Int32.ofNat (wN i) := fun i hi => by
  rw [hs.2.2.1 8 (by decide) i]
  have : ∀ i, i < 8 → (jvals.getD 8 []).getD i 0 = Int32.ofNat (wN i) := by decide +kernel
  exact this i hi
theorem sSt9 {H : jH} (hs : jsh H) : ∀ i, i < 5 → jI H 9 i = Int32.ofNat (wC i) := fun i hi => by
  rw [hs.2.2.1 9 (by decide) i]
  have : ∀ i, i < 5 → (jvals.getD 9 []).getD i 0 = Int32.ofNat (wC i) := by decide +kernel
  exact this i hi
theorem wN_nv : nv 4294967296 wN 8 = nN := by decide +kernel
theorem wP_nv : nv 4294967296 wP 8 = np_P := by decide +kernel
theorem wN_lt (i : Nat) : wN i < 4294967296 := Nat.mod_lt _ (by decide)
theorem wC_lt (i : Nat) : wC i < 4294967296 := Nat.mod_lt _ (by decide)
theorem wP_lt (i : Nat) : wP i < 4294967296 := Nat.mod_lt _ (by decide)
section WORD
variable {α : Type} {Q : α → jH → Prop} {S : Nat → Prop} {H0 H : jH} {r m i v : Nat} {w : Nat → Nat}
theorem zw8_up (h : zw8 H r m w) (hv : v < 4294967296) : zw8 (jsI H r i (Int32.ofNat v)) r m (nup w i v) := fun j hj => by
  unfold nup
  by_cases e : j = i
  · rw [if_pos e, e]
    exact ⟨jI_sIe, hv⟩
  · rw [if_neg e]
    exact ⟨(jI_sIn e).trans (h j hj).1, (h j hj).2⟩
theorem zw8_fJ (h : zw8 H r m w) (hf : jfJ S H H0) (hr : ¬ S r) : zw8 H0 r m w := fun j hj => ⟨((hf.2.2.2.2.2 r hr j).2).trans (h j hj).1, (h j hj).2⟩
theorem zw8_ne {r' : Nat} {x : Int32} (h : zw8 H r m w) (hr : r ≠ r') : zw8 (jsI H r' i x) r m w := fun j hj => ⟨(jI_sIa hr).trans (h j hj).1, (h j hj).2⟩
theorem gI {n : Nat} (hk : jK H r = (100, n)) {ii : Int32} (h : jin ii n) : (jK H r).1 = 100 ∧ jin ii (jK H r).2 := by
  rw [hk]
  exact ⟨rfl, h⟩
theorem gIw {n : Nat} (hk : jK H r = (100, n)) (h32 : 31 ≤ r) {ii : Int32} (h : jin ii n) : (jK H r).1 = 100 ∧ jF0 ≤ r ∧ jin ii (jK H r).2 := by
  rw [hk]
  exact ⟨rfl, h32, h⟩
end WORD
section FILL
variable {Q : Unit → jH → Prop} {r : Nat} {H0 : jH}
theorem zA_fill5 {v : Int32} {n : Nat} (k0 : jK H0 r = (100, n)) (h32 : 31 ≤ r) (hn : n < 2147483648) (hk : ∀ H', jfJ (· = r) H0 H' → (∀ j, j < n → jI H' r j = v) → Q () H') :
    ∀ (d i fu : Nat) (H : jH), i + d = n → d < fu → jfJ (· = r) H0 H → (∀ j, j < i → jI H r j = v) → jT (F_A_fill_5 fu r v (Int32.ofNat i) (Int32.ofNat n) H) Q := by
  intro d
  induction d with
  | zero =>
    intro i fu H hi hfu hfr h1
    obtain ⟨fu, rfl⟩ : ∃ k, fu = k + 1 := ⟨fu - 1, by omega⟩
    unfold F_A_fill_5 B_A_fill_5
    exact jT_pos (by rw [jo_le (by omega) (by omega)]; omega) (jT_ret (hk H hfr fun j hj => h1 j (by omega)))
  | succ d ih =>
    intro i fu H hi hfu hfr h1
    obtain ⟨fu, rfl⟩ : ∃ k, fu = k + 1 := ⟨fu - 1, by omega⟩
    unfold F_A_fill_5 B_A_fill_5
    have e1 : Int32.ofNat i + 1 = Int32.ofNat (i + 1) := jo_add (a := i) (b := 1)
    have kH : jK H r = (100, n) := by rw [hfr.1, k0]
    rw [e1, jo_nat (n := i) (by omega)]
    refine jT_neg (by rw [jo_le (by omega) (by omega)]; omega) (jT_g (gIw kH h32 (jo_in (by omega) (by omega))) (jT_l (jT_l (ih (i + 1) fu _ (by omega) (by omega) (jfJ_sI hfr rfl) fun j hj => ?_))))
    by_cases e : j = i
    · rw [e]
      exact jI_sIe
    · exact (jI_sIn e).trans (h1 j (by omega))
theorem zA_fillI {t : Nat} {v : Int32} {n : Nat} (e : t = r) (k0 : jK H0 r = (100, n)) (h32 : 31 ≤ r) (hn : n < 2147483648) (hk : ∀ H', jfJ (· = r) H0 H' → (∀ j, j < n → jI H' r j = v) → Q () H') : jT (F_A_fill t v H0) Q := by
  subst e
  unfold F_A_fill
  rw [k0]
  exact jT_g rfl (jT_l (zA_fill5 k0 h32 hn hk n 0 jfuel H0 (by omega) (by unfold jfuel; omega) jfJ_refl fun j hj => absurd hj (Nat.not_lt_zero j)))
end FILL
theorem mn_inner {B c a b w p W R E Ej Ei : Nat} {x W2 : Nat} (hx : x = c + (a * b + w)) (hE : E = Ei * Ej) (hW : W2 + w * E = W + x % B * E) (h : W + c * E = R + a * p * Ei) : W2 + x / B * (E * B) = R + a * (p + b * Ej) * Ei := by
  have e1 : x % B * E + x / B * (E * B) = x * E := by
    have e := Nat.mod_add_div x B
    have : (x % B + B * (x / B)) * E = x * E := by rw [e]
    rw [Nat.add_mul] at this
    rw [← this]
    congr 1
    rw [Nat.mul_comm E B, ← Nat.mul_assoc, Nat.mul_comm (x / B)]
  have e2 : x * E = c * E + a * b * E + w * E := by
    rw [hx, Nat.add_mul, Nat.add_mul]
    omega
  have e3 : a * (p + b * Ej) * Ei = a * p * Ei + a * b * E := by
    rw [hE, Nat.mul_add, Nat.add_mul, ← Nat.mul_assoc, Nat.mul_comm Ei Ej, ← Nat.mul_assoc]
  rw [e3]
  omega
section MULN
variable {Q : Unit → jH → Prop} {to ra rb : Nat} {A Bb : Nat → Nat} {H0 : jH}
def zSm : Nat → Prop := fun a => a = 56 ∨ a = 57
/-- one row of the product -/
theorem z8_mul24 {k11 : Nat → Nat → Nat → Nat → Int32 → jH → Option (Unit × jH)} {i : Nat} {w0 : Nat → Nat} (hi : i < 8) (hs : jsh H0) (kA : jK H0 ra = (100, 8)) (kB : jK H0 rb = (100, 8)) (hA : zw8 H0 ra 8 A) (hB : zw8 H0 rb 8 Bb) (nA : ¬ zSm ra) (nB : ¬ zSm rb) (hz : ∀ k, i + 8 ≤ k → w0 k = 0)
    (hk : ∀ H' w, jfJ zSm H0 H' → zw8 H' 56 16 w → nv 4294967296 w 16 = nv 4294967296 w0 16 + A i * nv 4294967296 Bb 8 * 4294967296 ^ i → (∀ k, i + 9 ≤ k → w k = 0) → jT (k11 50 to ra rb (Int32.ofNat (i + 1)) H') Q) :
    ∀ (d j fu c : Nat) (w : Nat → Nat) (H : jH), j + d = 8 → d < fu → jfJ zSm H0 H → zw8 H 56 16 w → c < 4294967296 → nv 4294967296 w 16 + c * 4294967296 ^ (i + j) = nv 4294967296 w0 16 + A i * nv 4294967296 Bb j * 4294967296 ^ i → (∀ k, i + j ≤ k → w k = w0 k) →
      jT (F_8_multiply_24 k11 fu 50 to ra rb (Int32.ofNat i) (Int64.ofNat c) (Int32.ofNat j) H) Q := by
  intro d
  induction d with
  | zero =>
    intro j fu c w H hj hfu hfr hw hc hv hsame
    obtain ⟨fu, rfl⟩ : ∃ k, fu = k + 1 := ⟨fu - 1, by omega⟩
    obtain rfl : j = 8 := by omega
    unfold F_8_multiply_24 B_8_multiply_24
    have hsH := jsh_fJ hs hfr (fun a ha q => by rcases q with q | q <;> omega)
    have e8 : Int32.ofNat i + 8 = Int32.ofNat (i + 8) := jo_add (a := i) (b := 8)
    have e1 : Int32.ofNat i + 1 = Int32.ofNat (i + 1) := jo_add (a := i) (b := 1)
    refine jT_pos (by decide) (jT_g (by rw [sK_50 hsH]) ?_)
    rw [sR_50_6 hsH, e8, e1, jo_nat (n := i + 8) (by omega), lw_i32, Nat.mod_eq_of_lt hc]
    refine jT_g (gIw (sK_56 hsH) (by decide) (jo_in (by omega) (by omega))) (jT_l (jT_l (hk _ (nup w (i + 8) c) (jfJ_sI hfr (Or.inl rfl)) (zw8_up hw hc) ?_ fun k hk2 => ?_)))
    · have hup := nv_up (b := 4294967296) (w := w) (i := i + 8) (v := c) (n := 16) (by omega)
      have : w (i + 8) = 0 := (hsame (i + 8) (Nat.le_refl _)).trans (hz _ (Nat.le_refl _))
      rw [this, Nat.zero_mul] at hup
      omega
    · unfold nup
      rw [if_neg (by omega), hsame k (by omega), hz k (by omega)]
  | succ d ih =>
    intro j fu c w H hj hfu hfr hw hc hv hsame
    obtain ⟨fu, rfl⟩ : ∃ k, fu = k + 1 := ⟨fu - 1, by omega⟩
    unfold F_8_multiply_24 B_8_multiply_24
    have hsH := jsh_fJ hs hfr (fun a ha q => by rcases q with q | q <;> omega)
    have eij : Int32.ofNat i + Int32.ofNat j = Int32.ofNat (i + j) := jo_add
    have e1 : Int32.ofNat j + 1 = Int32.ofNat (j + 1) := jo_add (a := j) (b := 1)
    have kA' : jK H ra = (100, 8) := by rw [hfr.1, kA]
    have kB' : jK H rb = (100, 8) := by rw [hfr.1, kB]
    have vA := zw8_fJ hA hfr nA i (by omega)
    have vB := zw8_fJ hB hfr nB j (by omega)
    have vW := hw (i + j) (by omega)
    have hbd : c + (A i * Bb j + w (i + j)) < 18446744073709551616 := by
      have := Nat.mul_le_mul (Nat.le_of_lt_succ (Nat.lt_succ_of_le (Nat.le_sub_one_of_lt vA.2))) (Nat.le_of_lt_succ (Nat.lt_succ_of_le (Nat.le_sub_one_of_lt vB.2)))
      have h2 : A i * Bb j ≤ 4294967295 * 4294967295 := this
      omega
    refine jT_neg (by rw [show (8 : Int32) = Int32.ofNat 8 from rfl, jo_le (by omega) (by omega)]; omega) (jT_g (gI kA' (jo_in (by omega) (by omega))) (jT_g (gI kB' (jo_in (by omega) (by omega))) (jT_g (by rw [sK_50 hsH]) ?_)))
    rw [sR_50_6 hsH, eij, jo_nat (n := i) (by omega), jo_nat (n := j) (by omega), jo_nat (n := i + j) (by omega), vA.1, vB.1, vW.1, lw_of vA.2, lw_of vB.2, lw_of vW.2, lo_mul, lo_add, lo_add, e1]
    refine jT_g (gI (sK_56 hsH) (jo_in (by omega) (by omega))) (jT_l (jT_g (by rw [sK_50 hsH]) (jT_g (gIw (sK_56 hsH) (by decide) (jo_in (by omega) (by omega))) (jT_l (jT_l (jT_l ?_))))))
    rw [show (32 : Int32) = Int32.ofNat 32 from rfl, lw_ushr hbd (by decide), lw_i32]
    obtain ⟨x, hx⟩ : ∃ x, x = c + (A i * Bb j + w (i + j)) := ⟨_, rfl⟩
    rw [← hx] at hbd ⊢
    refine ih (j + 1) fu (x / 4294967296) (nup w (i + j) (x % 4294967296)) _ (by omega) (by omega) (jfJ_sI hfr (Or.inl rfl)) (zw8_up hw (Nat.mod_lt _ (by decide))) (by omega) ?_ fun k hk2 => ?_
    · have hup := nv_up (b := 4294967296) (w := w) (i := i + j) (v := x % 4294967296) (n := 16) (by omega)
      have := mn_inner (B := 4294967296) (Ei := 4294967296 ^ i) (Ej := 4294967296 ^ j) hx (Nat.pow_add ..) hup hv
      rw [show i + (j + 1) = i + j + 1 by omega, Nat.pow_succ]
      exact this
    · unfold nup
      rw [if_neg (by omega)]
      exact hsame k (by omega)
end MULN
