/-! Total answers: a function of the abstract heap comes to an answer, and what holds of it. -/
def jT {α : Type} (o : Option (α × jH)) (Q : α → jH → Prop) : Prop := ∃ x : α × jH, o = some x ∧ Q x.1 x.2
section JT
variable {α β : Type} {Q : α → jH → Prop}
theorem jT_ret {x : α} {H : jH} (h : Q x H) : jT (some (x, H)) Q := ⟨(x, H), rfl, h⟩
theorem jT_g {c : Prop} [Decidable c] {o : Option (α × jH)} (hc : c) (h : jT o Q) : jT (jg c o) Q := by
  unfold jg
  rw [if_pos hc]
  exact h
theorem jT_l {γ : Type} {e : γ} {k : γ → Option (α × jH)} (h : jT (k e) Q) : jT (jl e k) Q := h
theorem jT_nw {H : jH} {t n : Nat} {k : Nat → jH → Option (α × jH)} (h : jT (k (jn H) (jnew H t n)) Q) : jT (jnw H t n k) Q := h
theorem jT_b {o : Option (β × jH)} {k : β → jH → Option (α × jH)} (h : jT o (fun x h => jT (k x h) Q)) : jT (jb o k) Q := by
  obtain ⟨x, rfl, h2⟩ := h
  exact h2
theorem jT_imp {o : Option (α × jH)} {P : α → jH → Prop} (h : jT o P) (hk : ∀ x h, P x h → Q x h) : jT o Q := by
  obtain ⟨x, h1, h2⟩ := h
  exact ⟨x, h1, hk _ _ h2⟩
theorem jT_pos {c : Prop} [Decidable c] {a b : Option (α × jH)} (hc : c) (h : jT a Q) : jT (if c then a else b) Q := by
  rw [if_pos hc]
  exact h
theorem jT_neg {c : Prop} [Decidable c] {a b : Option (α × jH)} (hc : ¬ c) (h : jT b Q) : jT (if c then a else b) Q := by
  rw [if_neg hc]
  exact h
theorem jT_if {c : Prop} [Decidable c] {a b : Option (α × jH)} (h1 : c → jT a Q) (h2 : ¬ c → jT b Q) : jT (if c then a else b) Q := by
  by_cases hc : c
  · exact jT_pos hc (h1 hc)
  · exact jT_neg hc (h2 hc)
end JT
/-- what stays: all slots but those of S; kinds and counts -/
def jfr (S : Nat → Nat → Prop) (H H' : jH) : Prop := jK H' = jK H ∧ jn H' = jn H ∧ js H' = js H ∧ ∀ a j, ¬ S a j → jI H' a j = jI H a j ∧ jL H' a j = jL H a j ∧ jR H' a j = jR H a j ∧ jB H' a j = jB H a j
section JFR
variable {S : Nat → Nat → Prop} {H H1 H2 : jH}
theorem jfr_refl : jfr S H H := ⟨rfl, rfl, rfl, fun _ _ _ => ⟨rfl, rfl, rfl, rfl⟩⟩
theorem jfr_trans (h1 : jfr S H H1) (h2 : jfr S H1 H2) : jfr S H H2 :=
  ⟨h2.1.trans h1.1, h2.2.1.trans h1.2.1, h2.2.2.1.trans h1.2.2.1, fun a j hs => ⟨(h2.2.2.2 a j hs).1.trans (h1.2.2.2 a j hs).1, (h2.2.2.2 a j hs).2.1.trans (h1.2.2.2 a j hs).2.1, (h2.2.2.2 a j hs).2.2.1.trans (h1.2.2.2 a j hs).2.2.1, (h2.2.2.2 a j hs).2.2.2.trans (h1.2.2.2 a j hs).2.2.2⟩⟩
theorem jfr_mono {S' : Nat → Nat → Prop} (h : jfr S H H1) (hs : ∀ a j, S a j → S' a j) : jfr S' H H1 := ⟨h.1, h.2.1, h.2.2.1, fun a j hn => h.2.2.2 a j fun q => hn (hs a j q)⟩
theorem jup_ne {γ : Type} {f : Nat → Nat → γ} {a i b j : Nat} {v : γ} (h : ¬ (b = a ∧ j = i)) : jup f a i v b j = f b j := if_neg h
theorem jup_eq {γ : Type} {f : Nat → Nat → γ} {a i : Nat} {v : γ} : jup f a i v a i = v := if_pos ⟨rfl, rfl⟩
theorem jup_a {γ : Type} {f : Nat → Nat → γ} {a i b j : Nat} {v : γ} (h : b ≠ a) : jup f a i v b j = f b j := if_neg fun q => h q.1
theorem jup_i {γ : Type} {f : Nat → Nat → γ} {a i b j : Nat} {v : γ} (h : j ≠ i) : jup f a i v b j = f b j := if_neg fun q => h q.2
theorem jfr_sI {a i : Nat} {v : Int32} (h : jfr S H H1) (hs : S a i) : jfr S H (jsI H1 a i v) :=
  jfr_trans h ⟨rfl, rfl, rfl, fun b j hn => ⟨jup_ne fun q => hn (q.1 ▸ q.2 ▸ hs), rfl, rfl, rfl⟩⟩
theorem jfr_sL {a i : Nat} {v : Int64} (h : jfr S H H1) (hs : S a i) : jfr S H (jsL H1 a i v) :=
  jfr_trans h ⟨rfl, rfl, rfl, fun b j hn => ⟨rfl, jup_ne fun q => hn (q.1 ▸ q.2 ▸ hs), rfl, rfl⟩⟩
theorem jfr_sR {a i : Nat} {v : Nat} (h : jfr S H H1) (hs : S a i) : jfr S H (jsR H1 a i v) :=
  jfr_trans h ⟨rfl, rfl, rfl, fun b j hn => ⟨rfl, rfl, jup_ne fun q => hn (q.1 ▸ q.2 ▸ hs), rfl⟩⟩
theorem jfr_sB {a i : Nat} {v : UInt8} (h : jfr S H H1) (hs : S a i) : jfr S H (jsB H1 a i v) :=
  jfr_trans h ⟨rfl, rfl, rfl, fun b j hn => ⟨rfl, rfl, rfl, jup_ne fun q => hn (q.1 ▸ q.2 ▸ hs)⟩⟩
theorem jcpf_ne {γ : Type} {f : Nat → Nat → γ} {a sp b dp n c j : Nat} (h : ¬ (c = b ∧ dp ≤ j ∧ j < dp + n)) : jcpf f a sp b dp n c j = f c j := if_neg h
theorem jcpf_in {γ : Type} {f : Nat → Nat → γ} {a sp b dp n j : Nat} (h1 : dp ≤ j) (h2 : j < dp + n) : jcpf f a sp b dp n b j = f a (sp + (j - dp)) := if_pos ⟨rfl, h1, h2⟩
theorem jfr_cpI {a sp b dp n : Nat} (h : jfr S H H1) (hs : ∀ j, dp ≤ j → j < dp + n → S b j) : jfr S H (jcpI H1 a sp b dp n) :=
  jfr_trans h ⟨rfl, rfl, rfl, fun c j hn => ⟨jcpf_ne fun q => hn (q.1 ▸ hs j q.2.1 q.2.2), rfl, rfl, rfl⟩⟩
theorem jfr_cpR {a sp b dp n : Nat} (h : jfr S H H1) (hs : ∀ j, dp ≤ j → j < dp + n → S b j) : jfr S H (jcpR H1 a sp b dp n) :=
  jfr_trans h ⟨rfl, rfl, rfl, fun c j hn => ⟨rfl, rfl, jcpf_ne fun q => hn (q.1 ▸ hs j q.2.1 q.2.2), rfl⟩⟩
theorem jfr_cpB {a sp b dp n : Nat} (h : jfr S H H1) (hs : ∀ j, dp ≤ j → j < dp + n → S b j) : jfr S H (jcpB H1 a sp b dp n) :=
  jfr_trans h ⟨rfl, rfl, rfl, fun c j hn => ⟨rfl, rfl, rfl, jcpf_ne fun q => hn (q.1 ▸ hs j q.2.1 q.2.2)⟩⟩
end JFR
/-! Small ints by their numbers. -/
theorem jo_int {n : Nat} (h : n < 2147483648) : (Int32.ofNat n).toInt = n := by
  rw [Int32.toInt_ofNat_of_lt h]
theorem jo_nat {n : Nat} (h : n < 2147483648) : (Int32.ofNat n).toNatClampNeg = n := Int32.toNatClampNeg_ofNat_of_lt h
theorem jo_in {n k : Nat} (h : n < 2147483648) (hk : n < k) : jin (Int32.ofNat n) k := by
  unfold jin
  rw [jo_int h]
  omega
theorem jo_le {a b : Nat} (ha : a < 2147483648) (hb : b < 2147483648) : (Int32.ofNat a ≤ Int32.ofNat b) ↔ a ≤ b := by
  rw [Int32.le_iff_toInt_le, jo_int ha, jo_int hb]
  omega
theorem jo_lt {a b : Nat} (ha : a < 2147483648) (hb : b < 2147483648) : (Int32.ofNat a < Int32.ofNat b) ↔ a < b := by
  rw [Int32.lt_iff_toInt_lt, jo_int ha, jo_int hb]
  omega
theorem jo_add {a b : Nat} : Int32.ofNat a + Int32.ofNat b = Int32.ofNat (a + b) := (Int32.ofNat_add a b).symm
theorem jo_mul {a b : Nat} : Int32.ofNat a * Int32.ofNat b = Int32.ofNat (a * b) := (Int32.ofNat_mul a b).symm
theorem jo_sub {a b : Nat} (h : b ≤ a) : Int32.ofNat a - Int32.ofNat b = Int32.ofNat (a - b) := by
  obtain ⟨c, rfl⟩ := Nat.le.dest h
  rw [← jo_add, Nat.add_sub_cancel_left, Int32.add_comm, Int32.add_sub_cancel]
theorem jo_eq {a b : Nat} (ha : a < 2147483648) (hb : b < 2147483648) : (Int32.ofNat a = Int32.ofNat b) ↔ a = b := by
  refine ⟨fun h => ?_, fun h => by rw [h]⟩
  have := congrArg Int32.toInt h
  rw [jo_int ha, jo_int hb] at this
  omega
theorem jo_div {a b : Nat} (ha : a < 2147483648) (hb : b < 2147483648) : Int32.ofNat a / Int32.ofNat b = Int32.ofNat (a / b) := by
  refine Int32.toInt_inj.mp ?_
  have hne : Int32.ofNat a ≠ Int32.minValue := by
    intro h
    have h2 := congrArg Int32.toInt h
    rw [jo_int ha] at h2
    have h3 : Int32.minValue.toInt = -2147483648 := rfl
    omega
  rw [Int32.toInt_div_of_ne_left _ _ hne, jo_int ha, jo_int hb, jo_int (Nat.lt_of_le_of_lt (Nat.div_le_self a b) ha)]
  exact (Int.ofNat_tdiv a b).symm
theorem jo_rem {a b : Nat} (ha : a < 2147483648) (hb : b < 2147483648) : jrem (Int32.ofNat a) (Int32.ofNat b) = Int32.ofNat (a % b) := by
  unfold jrem
  rw [jo_div ha hb, jo_mul, jo_sub (Nat.div_mul_le_self a b)]
  congr 1
  have := Nat.div_add_mod a b
  rw [Nat.mul_comm] at this
  omega
