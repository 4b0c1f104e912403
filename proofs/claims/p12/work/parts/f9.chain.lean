/-! Blocks that are known, and their chains, as lists. -/
abbrev b_k : Type := List UInt8 × List UInt8 × Nat × Nat × Nat × Nat × List b_t
def b_k0 : b_k := ([], [], 0, 0, 0, 0, [])
def b_g (bs : List b_k) (k : Nat) : b_k := bs.getD k b_k0
def b_by (bs : List b_k) (k : Nat) : List UInt8 := (b_g bs k).1
def b_nm (bs : List b_k) (k : Nat) : List UInt8 := (b_g bs k).2.1
def b_pa (bs : List b_k) (k : Nat) : Nat := (b_g bs k).2.2.1
def b_ht (bs : List b_k) (k : Nat) : Nat := (b_g bs k).2.2.2.1
def b_bi (bs : List b_k) (k : Nat) : Nat := (b_g bs k).2.2.2.2.1
def b_ti (bs : List b_k) (k : Nat) : Nat := (b_g bs k).2.2.2.2.2.1
def b_tx (bs : List b_k) (k : Nat) : List b_t := (b_g bs k).2.2.2.2.2.2
def b_wf (bs : List b_k) : Prop := 1 ≤ bs.length ∧ bs.length ≤ 300 ∧ b_ht bs 0 = 0 ∧ (∀ k, k < bs.length → (b_nm bs k).length = 32) ∧ ∀ k, 1 ≤ k → k < bs.length → b_pa bs k < k ∧ b_ht bs k = b_ht bs (b_pa bs k) + 1 ∧ b_lay (b_by bs k) (b_tx bs k) ∧ b_toks true (b_tx bs k) ∧ b_tx bs k ≠ []
section CHN
variable {bs : List b_k}
theorem b_ht_le (hw : b_wf bs) : ∀ {k : Nat}, k < bs.length → b_ht bs k ≤ k := by
  intro k
  induction k using Nat.strongRecOn with
  | _ k ih =>
    intro hk
    by_cases c : k = 0
    · subst c
      exact Nat.le_of_eq hw.2.2.1
    · obtain ⟨h1, h2, -⟩ := hw.2.2.2.2 k (by omega) hk
      have := ih _ h1 (by omega)
      omega
theorem b_ht_300 (hw : b_wf bs) {k : Nat} (hk : k < bs.length) : b_ht bs k < 300 := by
  have := b_ht_le hw hk
  have := hw.2.1
  omega
theorem b_ht_pos (hw : b_wf bs) {k : Nat} (hk : k < bs.length) (hh : 0 < b_ht bs k) : 1 ≤ k := by
  by_cases c : k = 0
  · rw [c, hw.2.2.1] at hh
    omega
  · omega
theorem b_ht_0 (hw : b_wf bs) {k : Nat} (hk : k < bs.length) (hh : b_ht bs k = 0) : k = 0 := by
  by_cases c : k = 0
  · exact c
  · have := (hw.2.2.2.2 k (by omega) hk).2.1
    omega
def b_up (bs : List b_k) : Nat → Nat → Nat
  | 0, k => k
  | d + 1, k => b_up bs d (b_pa bs k)
/-- the block of a height in a block's chain -/
def b_at (bs : List b_k) (k h : Nat) : Nat := b_up bs (b_ht bs k - h) k
theorem b_up_ok (hw : b_wf bs) : ∀ {d k : Nat}, k < bs.length → d ≤ b_ht bs k → b_up bs d k ≤ k ∧ b_ht bs (b_up bs d k) + d = b_ht bs k ∧ (1 ≤ d → b_up bs d k < k)
  | 0, k, _, _ => ⟨Nat.le_refl _, rfl, fun w => by omega⟩
  | d + 1, k, hk, hd => by
    obtain ⟨h1, h2, -⟩ := hw.2.2.2.2 k (b_ht_pos hw hk (by omega)) hk
    obtain ⟨q1, q2, -⟩ := b_up_ok (d := d) hw (k := b_pa bs k) (by omega) (by omega)
    show b_up bs d (b_pa bs k) ≤ k ∧ b_ht bs (b_up bs d (b_pa bs k)) + (d + 1) = _ ∧ (1 ≤ d + 1 → b_up bs d (b_pa bs k) < k)
    omega
theorem b_up_add : ∀ {d e k : Nat}, b_up bs (d + e) k = b_up bs e (b_up bs d k)
  | 0, e, k => by rw [Nat.zero_add]; rfl
  | d + 1, e, k => by
    rw [show d + 1 + e = (d + e) + 1 by omega]
    show b_up bs (d + e) (b_pa bs k) = _
    rw [b_up_add]
    rfl
theorem b_at_ok (hw : b_wf bs) {k h : Nat} (hk : k < bs.length) (hh : h ≤ b_ht bs k) : b_at bs k h ≤ k ∧ b_ht bs (b_at bs k h) = h ∧ b_at bs k h < bs.length := by
  obtain ⟨q1, q2, -⟩ := b_up_ok (d := b_ht bs k - h) hw hk (by omega)
  unfold b_at
  omega
theorem b_at_self {k : Nat} : b_at bs k (b_ht bs k) = k := by
  unfold b_at
  rw [Nat.sub_self]
  rfl
theorem b_at_at (hw : b_wf bs) {k h g : Nat} (hk : k < bs.length) (hh : h ≤ b_ht bs k) (hg : g ≤ h) : b_at bs (b_at bs k h) g = b_at bs k g := by
  have e := (b_at_ok hw hk hh).2.1
  have : b_at bs (b_at bs k h) g = b_up bs (b_ht bs (b_at bs k h) - g) (b_at bs k h) := rfl
  rw [this, e]
  unfold b_at
  rw [← b_up_add]
  congr 1
  omega
theorem b_at_pa (hw : b_wf bs) {k g : Nat} (hk : k < bs.length) (hk1 : 1 ≤ k) (hg : g ≤ b_ht bs (b_pa bs k)) : b_at bs k g = b_at bs (b_pa bs k) g := by
  obtain ⟨-, h2, -⟩ := hw.2.2.2.2 k hk1 hk
  unfold b_at
  rw [h2, show b_ht bs (b_pa bs k) + 1 - g = (b_ht bs (b_pa bs k) - g) + 1 by omega]
  rfl
theorem b_at_0 (hw : b_wf bs) {k : Nat} (hk : k < bs.length) : b_at bs k 0 = 0 := by
  obtain ⟨h1, h2, h3⟩ := b_at_ok hw hk (Nat.zero_le _)
  exact b_ht_0 hw h3 h2
/-- the coins behind a height of a block's chain, and how many were spent -/
def b_co (bs : List b_k) (k : Nat) : Nat → List w_cn × Nat
  | 0 => ([], 0)
  | h + 1 => b_app (h + 1) true (b_tx bs (b_at bs k (h + 1))) (b_co bs k h)
theorem b_co_eq {k k' h : Nat} (he : ∀ g, g ≤ h → 1 ≤ g → b_at bs k g = b_at bs k' g) : b_co bs k h = b_co bs k' h := by
  induction h with
  | zero => rfl
  | succ h ih =>
    unfold b_co
    rw [he (h + 1) (Nat.le_refl _) (by omega), ih fun g g1 g2 => he g (by omega) g2]
/-- a block's own verdict in its chain -/
noncomputable def b_v (bs : List b_k) (k : Nat) : Int32 × b_st := b_all (b_ht bs k) (b_tx bs k) (b_co bs k (b_ht bs k - 1)).1 (b_co bs k (b_ht bs k - 1)).2
def b_right (bs : List b_k) (k : Nat) : Prop := ∀ h, 1 ≤ h → h ≤ b_ht bs k → (b_v bs (b_at bs k h)).1 = 0
theorem b_co_at (hw : b_wf bs) {k h : Nat} (hk : k < bs.length) (hh : h ≤ b_ht bs k) : ∀ {g : Nat}, g ≤ h → b_co bs (b_at bs k h) g = b_co bs k g := fun {g} hg => b_co_eq fun i h1 h2 => b_at_at hw hk hh (by omega)
theorem b_v_at (hw : b_wf bs) {k h : Nat} (hk : k < bs.length) (h1 : 1 ≤ h) (hh : h ≤ b_ht bs k) : b_v bs (b_at bs k h) = b_all h (b_tx bs (b_at bs k h)) (b_co bs k (h - 1)).1 (b_co bs k (h - 1)).2 := by
  unfold b_v
  rw [(b_at_ok hw hk hh).2.1, b_co_at hw hk hh (Nat.sub_le _ _)]
/-- what is right fits -/
theorem b_co_ok (hw : b_wf bs) {k : Nat} (hk : k < bs.length) : ∀ {h : Nat}, h ≤ b_ht bs k → (∀ g, 1 ≤ g → g ≤ h → (b_v bs (b_at bs k g)).1 = 0) → (b_co bs k h).1.length ≤ 1500 ∧ (b_co bs k h).2 ≤ 3000 ∧ ∀ g, 1 ≤ g → g ≤ h → b_fits g true (b_tx bs (b_at bs k g)) (b_co bs k (g - 1))
  | 0, _, _ => ⟨Nat.zero_le _, Nat.zero_le _, fun g h1 h2 => by omega⟩
  | h + 1, hh, hr => by
    obtain ⟨q1, q2, q3⟩ := b_co_ok hw hk (h := h) (by omega) fun g g1 g2 => hr g g1 (by omega)
    have h0 := hr (h + 1) (by omega) (Nat.le_refl _)
    rw [b_v_at hw hk (by omega) hh] at h0
    obtain ⟨p1, p2, p3⟩ := b_at_ok hw hk hh
    obtain ⟨-, -, -, ht, -⟩ := hw.2.2.2.2 _ (b_ht_pos hw p3 (by omega)) p3
    have hf := (b_all_app ht q1 q2 h0).1
    obtain ⟨r1, r2⟩ := b_fits_len hf q1 q2
    refine ⟨r1, r2, fun g g1 g2 => ?_⟩
    by_cases c : g = h + 1
    · rw [c]
      exact hf
    · exact q3 g g1 (by omega)
end CHN
