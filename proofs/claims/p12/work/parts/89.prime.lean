/-! Primes, Fermat's theorem, Pocklington's. -/
def np_pr (n : Nat) : Prop := 1 < n ∧ ∀ d, d ∣ n → d = 1 ∨ d = n
theorem np_cop {r a : Nat} (hr : np_pr r) (ha : ¬ r ∣ a) : Nat.Coprime r a := by
  rcases hr.2 _ (Nat.gcd_dvd_left r a) with h | h
  · exact h
  · exact absurd (h ▸ Nat.gcd_dvd_right r a) ha
theorem np_mul {r a b : Nat} (hr : np_pr r) (h : r ∣ a * b) : r ∣ a ∨ r ∣ b := by
  by_cases ha : r ∣ a
  · exact Or.inl ha
  · exact Or.inr ((np_cop hr ha).dvd_of_dvd_mul_left h)
theorem np_has : ∀ (k n : Nat), n ≤ k → 1 < n → ∃ r, np_pr r ∧ r ∣ n
  | 0, n, h, h1 => by omega
  | k + 1, n, h, h1 => by
    by_cases hp : np_pr n
    · exact ⟨n, hp, Nat.dvd_refl n⟩
    · have : ∃ d, d ∣ n ∧ d ≠ 1 ∧ d ≠ n := by
        refine Classical.byContradiction fun hn => hp ⟨h1, fun d hd => ?_⟩
        refine Classical.byContradiction fun hc => hn ⟨d, hd, fun e => hc (Or.inl e), fun e => hc (Or.inr e)⟩
      obtain ⟨d, hd, hd1, hdn⟩ := this
      have hle := Nat.le_of_dvd (by omega) hd
      have hd0 : d ≠ 0 := fun e => by
        rw [e] at hd
        have := Nat.eq_zero_of_zero_dvd hd
        omega
      obtain ⟨r, hr, hrd⟩ := np_has k d (by omega) (by omega)
      exact ⟨r, hr, Nat.dvd_trans hrd hd⟩
def np_c : Nat → Nat → Nat
  | _, 0 => 1
  | 0, _ + 1 => 0
  | n + 1, k + 1 => np_c n k + np_c n (k + 1)
theorem np_c_mul : ∀ n k, np_c (n + 1) (k + 1) * (k + 1) = (n + 1) * np_c n k
  | 0, 0 => rfl
  | 0, k + 1 => by
    show (0 + 0) * (k + 1 + 1) = 1 * 0
    omega
  | n + 1, 0 => by
    have h := np_c_mul n 0
    show (1 + np_c (n + 1) 1) * 1 = (n + 1 + 1) * 1
    have h1 : np_c n 0 = 1 := by cases n <;> rfl
    rw [h1] at h
    change np_c (n + 1) 1 * 1 = (n + 1) * 1 at h
    omega
  | n + 1, k + 1 => by
    have h1 := np_c_mul n k
    have h2 := np_c_mul n (k + 1)
    show (np_c (n + 1) (k + 1) + np_c (n + 1) (k + 2)) * (k + 2) = (n + 2) * np_c (n + 1) (k + 1)
    have h3 : np_c (n + 1) (k + 1) = np_c n k + np_c n (k + 1) := rfl
    have e1 : np_c (n + 1) (k + 1) * (k + 2) = np_c (n + 1) (k + 1) * (k + 1) + np_c (n + 1) (k + 1) := by rw [show k + 2 = k + 1 + 1 by omega, Nat.mul_add, Nat.mul_one]
    have e2 : (n + 2) * np_c (n + 1) (k + 1) = (n + 1) * np_c (n + 1) (k + 1) + np_c (n + 1) (k + 1) := by rw [show n + 2 = n + 1 + 1 by omega, Nat.add_mul (n + 1) 1, Nat.one_mul]
    have e3 : (n + 1) * np_c (n + 1) (k + 1) = (n + 1) * np_c n k + (n + 1) * np_c n (k + 1) := by rw [h3, Nat.mul_add]
    change np_c (n + 1) (k + 2) * (k + 2) = _ at h2
    rw [Nat.add_mul, e1, h1, h2, e2, e3]
    omega
def np_s (f : Nat → Nat) : Nat → Nat
  | 0 => 0
  | n + 1 => np_s f n + f n
theorem np_s_add {f g : Nat → Nat} : ∀ n, np_s (fun k => f k + g k) n = np_s f n + np_s g n
  | 0 => rfl
  | n + 1 => by
    show np_s (fun k => f k + g k) n + (f n + g n) = np_s f n + f n + (np_s g n + g n)
    rw [np_s_add n]
    omega
theorem np_s_mul {f : Nat → Nat} {x : Nat} : ∀ n, np_s (fun k => f k * x) n = np_s f n * x
  | 0 => (Nat.zero_mul x).symm
  | n + 1 => by
    show np_s (fun k => f k * x) n + f n * x = (np_s f n + f n) * x
    rw [np_s_mul n, Nat.add_mul]
theorem np_s_first {f : Nat → Nat} : ∀ n, np_s f (n + 1) = f 0 + np_s (fun k => f (k + 1)) n
  | 0 => by
    show 0 + f 0 = f 0 + 0
    omega
  | n + 1 => by
    show np_s f (n + 1) + f (n + 1) = f 0 + (np_s (fun k => f (k + 1)) n + f (n + 1))
    rw [np_s_first n]
    omega
theorem np_c_big : ∀ n k, n < k → np_c n k = 0
  | 0, 0, h => by omega
  | 0, k + 1, _ => rfl
  | n + 1, 0, h => by omega
  | n + 1, k + 1, h => by
    show np_c n k + np_c n (k + 1) = 0
    rw [np_c_big n k (by omega), np_c_big n (k + 1) (by omega)]
theorem np_binom (x : Nat) : ∀ n, (x + 1) ^ n = np_s (fun k => np_c n k * x ^ k) (n + 1)
  | 0 => rfl
  | n + 1 => by
    have h := np_binom x n
    rw [Nat.pow_succ, h, Nat.mul_add, Nat.mul_one, np_s_first (f := fun k => np_c (n + 1) k * x ^ k) (n + 1)]
    have e1 : np_s (fun k => np_c (n + 1) (k + 1) * x ^ (k + 1)) (n + 1) = np_s (fun k => np_c n k * x ^ k) (n + 1) * x + np_s (fun k => np_c n (k + 1) * x ^ (k + 1)) (n + 1) := by
      rw [← np_s_mul, ← np_s_add]
      refine congrArg (fun f => np_s f (n + 1)) (funext fun k => ?_)
      show (np_c n k + np_c n (k + 1)) * x ^ (k + 1) = np_c n k * x ^ k * x + np_c n (k + 1) * x ^ (k + 1)
      rw [Nat.add_mul, Nat.pow_succ, Nat.mul_assoc]
    have e2 : np_s (fun k => np_c n k * x ^ k) (n + 1) = np_c (n + 1) 0 * x ^ 0 + np_s (fun k => np_c n (k + 1) * x ^ (k + 1)) (n + 1) := by
      rw [np_s_first n]
      show _ = _ + (np_s _ n + np_c n (n + 1) * x ^ (n + 1))
      rw [np_c_big n (n + 1) (by omega), Nat.zero_mul, Nat.add_zero]
      have : np_c n 0 = np_c (n + 1) 0 := by cases n <;> rfl
      rw [this]
      rfl
    rw [e1]
    omega
theorem np_s_dvd {f : Nat → Nat} {r : Nat} : ∀ n, (∀ k, k < n → r ∣ f k) → r ∣ np_s f n
  | 0, _ => Nat.dvd_zero r
  | n + 1, h => Nat.dvd_add (np_s_dvd n fun k hk => h k (by omega)) (h n (by omega))
theorem np_c_n : ∀ n, np_c n n = 1
  | 0 => rfl
  | n + 1 => by
    show np_c n n + np_c n (n + 1) = 1
    rw [np_c_n n, np_c_big n (n + 1) (by omega)]
/-- Fermat's theorem -/
theorem np_flt {r : Nat} (hr : np_pr r) : ∀ x : Nat, x ^ r % r = x % r
  | 0 => by rw [Nat.zero_pow (by have := hr.1; omega)]
  | x + 1 => by
    obtain ⟨m, rfl⟩ : ∃ m, r = m + 1 := ⟨r - 1, by have := hr.1; omega⟩
    have ih := np_flt hr x
    rw [np_binom]
    show (np_s _ (m + 1) + np_c (m + 1) (m + 1) * x ^ (m + 1)) % (m + 1) = _
    rw [np_s_first m, np_c_n]
    have hd : (m + 1) ∣ np_s (fun k => np_c (m + 1) (k + 1) * x ^ (k + 1)) m := by
      refine np_s_dvd m fun k hk => Nat.dvd_mul_right_of_dvd ?_ _
      have h1 : (m + 1) ∣ np_c (m + 1) (k + 1) * (k + 1) := ⟨_, np_c_mul m k⟩
      rcases np_mul hr h1 with h | h
      · exact h
      · exact absurd (Nat.le_of_dvd (by omega) h) (by omega)
    have e0 : np_c (m + 1) 0 * x ^ 0 = 1 := rfl
    rw [e0, Nat.one_mul, Nat.add_right_comm, Nat.add_mod, Nat.mod_eq_zero_of_dvd hd, Nat.add_zero, Nat.mod_mod, Nat.add_comm 1, Nat.add_mod, ih, ← Nat.add_mod]
theorem np_flt1 {r x : Nat} (hr : np_pr r) (hx : ¬ r ∣ x) : x ^ (r - 1) % r = 1 := by
  have h := np_flt hr x
  have h1 := hr.1
  obtain ⟨m, rfl⟩ : ∃ m, r = m + 1 := ⟨r - 1, by omega⟩
  rw [Nat.add_sub_cancel]
  have hpos : 0 < x ^ m := Nat.pow_pos (Nat.pos_of_ne_zero fun e => hx (e ▸ Nat.dvd_zero _))
  have hd : (m + 1) ∣ x * (x ^ m - 1) := by
    have h2 := Nat.sub_mod_eq_zero_of_mod_eq h
    have h3 := Nat.dvd_of_mod_eq_zero h2
    rw [Nat.mul_sub, Nat.mul_one, Nat.mul_comm, ← Nat.pow_succ]
    exact h3
  rcases np_mul hr hd with h2 | h2
  · exact absurd h2 hx
  · obtain ⟨c, hc⟩ := h2
    rw [show x ^ m = 1 + (m + 1) * c by omega, Nat.add_mul_mod_self_left]
    exact Nat.mod_eq_of_lt h1
theorem np_bez (a b : Nat) : ∃ x y : Int, (a : Int) * x + (b : Int) * y = ((Nat.gcd a b : Nat) : Int) := by
  induction a, b using Nat.gcd.induction with
  | H0 n => exact ⟨0, 1, by rw [Nat.gcd_zero_left]; omega⟩
  | H1 m n hm ih =>
    obtain ⟨x, y, h⟩ := ih
    refine ⟨y - ((n / m : Nat) : Int) * x, x, ?_⟩
    rw [Nat.gcd_rec, ← h]
    have e : ((n % m : Nat) : Int) = (n : Int) - (m : Int) * ((n / m : Nat) : Int) := by
      have := Nat.div_add_mod n m
      have h2 : ((m * (n / m) + n % m : Nat) : Int) = (n : Int) := by rw [this]
      rw [Int.natCast_add, Int.natCast_mul] at h2
      omega
    rw [e, Int.mul_sub, Int.sub_mul, ← Int.mul_assoc]
    omega
theorem np_inv {q s : Nat} (hs : 0 < s) (hq : 0 < q) (h : Nat.Coprime q s) : ∃ u v : Nat, u * q = 1 + v * s := by
  obtain ⟨x, y, e⟩ := np_bez q s
  rw [h] at e
  have hs' : (s : Int) ≠ 0 := by omega
  have h0 := Int.emod_nonneg x hs'
  have e1 := Int.emod_add_mul_ediv x s
  obtain ⟨w, hw⟩ : ∃ w, w = (q : Int) * (x % s) - 1 := ⟨_, rfl⟩
  have hdv : (s : Int) ∣ w := ⟨-y - (q : Int) * (x / s), by
    rw [hw, show x % (s : Int) = x - s * (x / s) by omega, Int.mul_sub, Int.mul_sub, ← Int.mul_assoc, ← Int.mul_assoc, Int.mul_comm (q : Int) s, Int.mul_neg]
    have : ((1 : Nat) : Int) = 1 := rfl
    omega⟩
  obtain ⟨z, hz⟩ := hdv
  by_cases hz0 : 0 ≤ z
  · refine ⟨(x % s).toNat, z.toNat, ?_⟩
    have a1 : ((x % (s : Int)).toNat : Int) = x % s := Int.toNat_of_nonneg h0
    have a2 : (z.toNat : Int) = z := Int.toNat_of_nonneg hz0
    have : (((x % (s : Int)).toNat * q : Nat) : Int) = ((1 + z.toNat * s : Nat) : Int) := by
      rw [Int.natCast_mul, Int.natCast_add, Int.natCast_mul, a1, a2, Int.mul_comm, Int.mul_comm z]
      have : ((1 : Nat) : Int) = 1 := rfl
      omega
    exact Int.ofNat_inj.mp this
  · have q0 : 0 ≤ (q : Int) * (x % s) := Int.mul_nonneg (by omega) h0
    have : (s : Int) * z ≤ (s : Int) * (-1) := Int.mul_le_mul_of_nonneg_left (by omega) (by omega)
    have e2 : (s : Int) * z = -1 := by omega
    have e3 : (q : Int) * (x % s) = 0 := by omega
    have hs1 : s = 1 := by
      have : s ∣ 1 := ⟨(-z).toNat, by
        have a2 : ((-z).toNat : Int) = -z := Int.toNat_of_nonneg (by omega)
        have : ((1 : Nat) : Int) = ((s * (-z).toNat : Nat) : Int) := by
          rw [Int.natCast_mul, a2, Int.mul_neg]
          omega
        exact Int.ofNat_inj.mp this⟩
      exact Nat.dvd_one.mp this
    subst hs1
    exact ⟨1, q - 1, by omega⟩
/-- powers modulo n, by halves -/
def np_sq (n a e h : Nat) : Nat := if e % 2 = 1 then h * h % n * a % n else h * h % n
def np_pw (n a : Nat) : Nat → Nat → Nat
  | 0, _ => 1 % n
  | k + 1, e => np_sq n a e (np_pw n a k (e / 2))
theorem np_pw_eq (n a : Nat) : ∀ k e, e < 2 ^ k → np_pw n a k e = a ^ e % n
  | 0, e, h => by
    have : e = 0 := by
      have : (2 : Nat) ^ 0 = 1 := rfl
      omega
    rw [this]
    rfl
  | k + 1, e, h => by
    have ih := np_pw_eq n a k (e / 2) (by rw [Nat.pow_succ] at h; omega)
    show np_sq n a e (np_pw n a k (e / 2)) = _
    rw [ih]
    unfold np_sq
    have e2 : a ^ (e / 2) % n * (a ^ (e / 2) % n) % n = a ^ (2 * (e / 2)) % n := by
      rw [← Nat.mul_mod, ← Nat.pow_add, Nat.two_mul]
    by_cases ho : e % 2 = 1
    · rw [if_pos ho, e2, Nat.mod_mul_mod, ← Nat.pow_succ, show (2 * (e / 2)).succ = e by omega]
    · rw [if_neg ho, e2, show 2 * (e / 2) = e by omega]
/-- Pocklington's step: a prime that divides n leaves 1 by q -/
theorem np_pock {n q m a r k : Nat} (hr : np_pr r) (hrn : r ∣ n) (hn1 : 1 < n) (hq : np_pr q) (hn : n - 1 = q * m) (hk : n < 2 ^ k) (h1 : np_pw n a k (n - 1) = 1) (h2 : Nat.gcd (np_pw n a k m + (n - 1)) n = 1) : q ∣ r - 1 := by
  have hr1 := hr.1
  have hq1 := hq.1
  have hm : m ≤ n - 1 := by
    rw [hn]
    exact Nat.le_mul_of_pos_left m (by omega)
  rw [np_pw_eq n a k _ (by omega)] at h1 h2
  refine Classical.byContradiction fun hd => ?_
  have hcop : Nat.Coprime q (r - 1) := np_cop hq hd
  obtain ⟨u, v, e⟩ := np_inv (by omega) (by omega) hcop
  have h1r : a ^ (n - 1) % r = 1 := by
    have : a ^ (n - 1) % n % r = 1 % r := by rw [h1]
    rw [Nat.mod_mod_of_dvd _ hrn, Nat.mod_eq_of_lt hr1] at this
    exact this
  have hra : ¬ r ∣ a ^ m := by
    intro hh
    have h3 : r ∣ a ^ (n - 1) := by
      rw [hn, Nat.mul_comm, Nat.pow_mul]
      exact Nat.dvd_trans hh (by obtain ⟨c, rfl⟩ : ∃ c, q = c + 1 := ⟨q - 1, by omega⟩; exact ⟨(a ^ m) ^ c, by rw [Nat.pow_succ, Nat.mul_comm]⟩)
    have := Nat.mod_eq_zero_of_dvd h3
    omega
  have f1 : (a ^ m) ^ (r - 1) % r = 1 := np_flt1 hr hra
  have f2 : (a ^ m) ^ (u * q) % r = 1 := by
    rw [← Nat.pow_mul, show m * (u * q) = (n - 1) * u by rw [hn, Nat.mul_comm u q, ← Nat.mul_assoc, Nat.mul_comm m q], Nat.pow_mul, Nat.pow_mod, h1r, Nat.one_pow, Nat.mod_eq_of_lt hr1]
  have f3 : (a ^ m) ^ (u * q) % r = a ^ m % r := by
    rw [e, Nat.pow_add, Nat.pow_one, Nat.mul_comm v, Nat.pow_mul, Nat.mul_mod, Nat.pow_mod _ v, f1, Nat.one_pow, Nat.mod_eq_of_lt hr1, Nat.mul_one, Nat.mod_mod]
  have f4 : a ^ m % r = 1 := f3 ▸ f2
  have f5 : (a ^ m % n + (n - 1)) % r = 0 := by
    obtain ⟨c, rfl⟩ := hrn
    have e3 : a ^ m % (r * c) % r = 1 := (Nat.mod_mod_of_dvd _ ⟨c, rfl⟩).trans f4
    have e4 := Nat.div_add_mod (a ^ m % (r * c)) r
    rw [e3] at e4
    have e5 : a ^ m % (r * c) + (r * c - 1) = r * (a ^ m % (r * c) / r + c) := by
      rw [Nat.mul_add]
      omega
    rw [e5]
    exact Nat.mul_mod_right r _
  have f6 : r ∣ Nat.gcd (a ^ m % n + (n - 1)) n := Nat.dvd_gcd (Nat.dvd_of_mod_eq_zero f5) hrn
  rw [h2] at f6
  have := Nat.dvd_one.mp f6
  omega
theorem np_prime {n F : Nat} (hn : 1 < n) (hF : n < (F + 1) * (F + 1)) (h : ∀ r, np_pr r → r ∣ n → F ∣ r - 1) : np_pr n := by
  obtain ⟨r, hr, hrn⟩ := np_has n n (Nat.le_refl _) hn
  have hbig : ∀ r, np_pr r → r ∣ n → F + 1 ≤ r := fun r hr hrn => by
    have h1 := hr.1
    have := Nat.le_of_dvd (by omega) (h r hr hrn)
    omega
  obtain ⟨c, hc⟩ := hrn
  by_cases h1 : c = 1
  · rw [h1, Nat.mul_one] at hc
    rw [hc]
    exact hr
  · have hc0 : c ≠ 0 := fun e => by
      rw [e, Nat.mul_zero] at hc
      omega
    obtain ⟨r2, hr2, hrc⟩ := np_has c c (Nat.le_refl _) (by omega)
    have b1 := hbig r hr ⟨c, hc⟩
    have b2 := hbig r2 hr2 (Nat.dvd_trans hrc ⟨r, by rw [hc, Nat.mul_comm]⟩)
    have b3 := Nat.le_of_dvd (by omega) hrc
    have b4 : (F + 1) * (F + 1) ≤ r * c := Nat.mul_le_mul b1 (by omega)
    omega
theorem np_two {p q m : Nat} (hp : np_pr p) (hq : np_pr q) (hne : p ≠ q) (h1 : p ∣ m) (h2 : q ∣ m) : p * q ∣ m := by
  obtain ⟨c, rfl⟩ := h1
  rcases np_mul hq h2 with h | h
  · rcases hp.2 _ h with e | e
    · have := hq.1
      omega
    · exact absurd e.symm hne
  · exact Nat.mul_dvd_mul_left p h
/-- small primes, by trial -/
def np_try (n b : Nat) : Bool := (List.range b).all fun d => decide (d < 2) || decide (n % d ≠ 0)
theorem np_small {n b : Nat} (hn : 1 < n) (hb : n < b * b) (h : np_try n b = true) : np_pr n := by
  have key : ∀ d, 2 ≤ d → d < b → ¬ d ∣ n := fun d h1 h2 hd => by
    unfold np_try at h
    rw [List.all_eq_true] at h
    have h3 := h d (List.mem_range.mpr h2)
    rw [Bool.or_eq_true, decide_eq_true_iff, decide_eq_true_iff] at h3
    rcases h3 with h3 | h3
    · omega
    · exact h3 (Nat.mod_eq_zero_of_dvd hd)
  obtain ⟨r, hr, hrn⟩ := np_has n n (Nat.le_refl _) hn
  obtain ⟨c, hc⟩ := hrn
  by_cases h1 : c = 1
  · rw [h1, Nat.mul_one] at hc
    rw [hc]
    exact hr
  · have hc0 : c ≠ 0 := fun e => by
      rw [e, Nat.mul_zero] at hc
      omega
    have hr1 := hr.1
    have b1 : b ≤ r := Classical.byContradiction fun hh => key r (by omega) (by omega) ⟨c, hc⟩
    have b2 : b ≤ c := Classical.byContradiction fun hh => key c (by omega) (by omega) ⟨r, by rw [hc, Nat.mul_comm]⟩
    have := Nat.mul_le_mul b1 b2
    omega
def np_q3 : Nat := 107590001
def np_q2 : Nat := 255515944373312847190720520512484175977
def np_q1 : Nat := 205115282021455665897114700593932402728804164701536103180137503955397371
def np_P : Nat := 115792089237316195423570985008687907853269984665640564039457584007908834671663
theorem np_q3_pr : np_pr np_q3 := np_small (b := 10400) (by decide) (by decide) (by decide +kernel)
theorem np_q3b_pr : np_pr 7240687 := np_small (b := 2700) (by decide) (by decide) (by decide +kernel)
theorem np_q3c_pr : np_pr 96557 := np_small (b := 320) (by decide) (by decide) (by decide +kernel)
theorem np_q2_pr : np_pr np_q2 := by
  refine np_prime (F := 107590001 * 7240687 * 96557) (by decide) (by decide) fun r hr hrn => ?_
  have h1 : 107590001 ∣ r - 1 := np_pock (a := 2) (k := 128) (m := 2374904191824599455024826335976) hr hrn (by decide) np_q3_pr (by decide +kernel) (by decide +kernel) (by decide +kernel) (by decide +kernel)
  have h2 : 7240687 ∣ r - 1 := np_pock (a := 2) (k := 128) (m := 35288908963101546467996824129048) hr hrn (by decide) np_q3b_pr (by decide +kernel) (by decide +kernel) (by decide +kernel) (by decide +kernel)
  have h3 : 96557 ∣ r - 1 := np_pock (a := 2) (k := 128) (m := 2646270538369179315748423423599368) hr hrn (by decide) np_q3c_pr (by decide +kernel) (by decide +kernel) (by decide +kernel) (by decide +kernel)
  have h4 : 107590001 * 7240687 ∣ r - 1 := np_two np_q3_pr np_q3b_pr (by decide) h1 h2
  obtain ⟨c, hc⟩ := h4
  rw [hc] at h3 ⊢
  refine Nat.mul_dvd_mul_left _ ?_
  rcases np_mul np_q3c_pr h3 with h | h
  · exact absurd (Nat.mod_eq_zero_of_dvd h) (by decide)
  · exact h
theorem np_q1_pr : np_pr np_q1 :=
  np_prime (F := np_q2) (by decide) (by decide) fun r hr hrn => np_pock (a := 2) (k := 238) (m := 802749442992798076634733441528810) hr hrn (by decide) np_q2_pr (by decide +kernel) (by decide +kernel) (by decide +kernel) (by decide +kernel)
theorem np_P_pr : np_pr np_P :=
  np_prime (F := np_q1) (by decide) (by decide) fun r hr hrn => np_pock (a := 2) (k := 256) (m := 564522) hr hrn (by decide) np_q1_pr (by decide +kernel) (by decide +kernel) (by decide +kernel) (by decide +kernel)
