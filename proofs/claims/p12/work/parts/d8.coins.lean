/-! Coins: the tables of both, and how a coin is found. -/
/-- a coin: its maker's name, which output, its maker's bytes and places, its height -/
abbrev w_cn : Type := List UInt8 × Nat × List UInt8 × w_y × Nat
def w_cv (c : w_cn) : Int64 := Int64.ofNat (zho (fun i => c.2.2.1.getD i 0) ((c.2.2.2.1.2.1.getD c.2.1 (0, 0)).1 + 8) 8)
def w_ck (c : w_cn) : List UInt8 := w_sl c.2.2.1 ((c.2.2.2.1.2.1.getD c.2.1 (0, 0)).1 + 9) (c.2.2.2.1.2.1.getD c.2.1 (0, 0)).2
def w_cok (c : w_cn) : Prop := c.1.length = 32 ∧ w_ty c.2.2.1 c.2.2.2.1 ∧ c.2.1 < c.2.2.2.1.2.1.length
def w_CA (cs : List w_cn) (H : jH) : Prop :=
  jI H 392 3 = Int32.ofNat cs.length ∧ cs.length ≤ 1500 ∧ (∀ k c, cs[k]? = some c → w_cok c ∧ (∃ row s len, w_x (jR H 393 k) row s len c.2.2.1 c.2.2.2.1 c.1 H) ∧ jI H 394 k = Int32.ofNat c.2.1 ∧ jI H 395 k = Int32.ofNat c.2.2.2.2)
/-- the first coin of that name and output -/
def w_fd : List w_cn → List UInt8 → Nat → Nat → Option Nat
  | [], _, _, _ => none
  | c :: r, nm, ix, i => if c.1 = nm ∧ c.2.1 = ix then some i else w_fd r nm ix (i + 1)
def w_fv (o : Option Nat) : Int32 := match o with
  | some k => Int32.ofNat k
  | none => -1
theorem jo_eq4G {a b : Nat} (ha : a < 4294967296) (hb : b < 4294967296) : Int32.ofNat a = Int32.ofNat b ↔ a = b := by
  refine ⟨fun h => ?_, fun h => by rw [h]⟩
  have h2 : (Int32.ofNat a).toUInt32.toNat = (Int32.ofNat b).toUInt32.toNat := by rw [h]
  have e : ∀ n, (Int32.ofNat n).toUInt32.toNat = n % 4294967296 := fun n => UInt32.toNat_ofNat' (n := n)
  rw [e, e, Nat.mod_eq_of_lt ha, Nat.mod_eq_of_lt hb] at h2
  exact h2
theorem zeq_row {H : jH} {a c p q n : Nat} {l m : List UInt8} (h1 : zRow H a p l) (h2 : zRow H c q m) (e1 : l.length = n) (e2 : m.length = n) : zeq (jB H a) (jB H c) p q n = true ↔ l = m := by
  rw [zeq_t]
  refine ⟨fun h => List.ext_getElem? fun i => ?_, fun h i hi => ?_⟩
  · by_cases c : i < n
    · rw [getD_of (l := l) (by omega), getD_of (l := m) (by omega), ← h1 i _ (getD_of (by omega)), ← h2 i _ (getD_of (by omega)), h i c]
    · rw [List.getElem?_eq_none (by omega), List.getElem?_eq_none (by omega)]
  · rw [h1 i _ (getD_of (by omega)), h2 i _ (getD_of (by omega)), h]
theorem w_fd_lt {nm : List UInt8} {ix : Nat} : ∀ {cs : List w_cn} {i k : Nat}, w_fd cs nm ix i = some k → i ≤ k ∧ k < i + cs.length
  | [], _, _, h => by cases h
  | c :: r, i, k, h => by
    unfold w_fd at h
    have hl : (c :: r).length = r.length + 1 := rfl
    split at h
    · have := Option.some.inj h
      omega
    · have := w_fd_lt h
      omega
theorem w_fd_at {nm : List UInt8} {ix : Nat} : ∀ {cs : List w_cn} {i k : Nat}, w_fd cs nm ix i = some k → ∃ c, cs[k - i]? = some c ∧ c.1 = nm ∧ c.2.1 = ix
  | [], _, _, h => by cases h
  | c :: r, i, k, h => by
    unfold w_fd at h
    split at h
    · next hc =>
      have := Option.some.inj h
      refine ⟨c, ?_, hc⟩
      rw [show k - i = 0 by omega]
      rfl
    · obtain ⟨c', h1, h2⟩ := w_fd_at h
      have := w_fd_lt h
      refine ⟨c', ?_, h2⟩
      rw [show k - i = (k - (i + 1)) + 1 by omega]
      exact h1
section COIN
variable {cs : List w_cn} {H : jH} {r lr p ix : Nat} {nm : List UInt8}
theorem z2_find (hs : jsh H) (h : w_CA cs H) (hr : jK H r = (101, lr)) (hlr : lr < 2147483600) (hp : p + 32 ≤ lr) (hz : zRow H r p nm) (hn : nm.length = 32) (hix : ix < 4294967296) : F_2_find 392 r (Int32.ofNat p) (Int32.ofNat ix) H = some (w_fv (w_fd cs nm ix 0), H) := by
  obtain ⟨h1, h2, h3⟩ := h
  have k2 : (jK H 392).1 = 2 := gT (sK_392 hs)
  have loop : ∀ (rest : List w_cn) (i fu : Nat), i + rest.length = cs.length → rest.length < fu → (∀ k, rest[k]? = cs[i + k]?) → F_2_find_3 fu 392 r (Int32.ofNat p) (Int32.ofNat ix) (Int32.ofNat i) H = some (w_fv (w_fd rest nm ix i), H) := by
    intro rest
    induction rest with
    | nil =>
      intro i fu hl hfu hc
      obtain ⟨fu, rfl⟩ : ∃ k, fu = k + 1 := ⟨fu - 1, by omega⟩
      unfold F_2_find_3 B_2_find_3
      have hl' : i = cs.length := hl
      rw [jg_t k2, h1, if_pos (by rw [jo_le (by omega) (by omega)]; omega)]
      rfl
    | cons c rest ih =>
      intro i fu hl hfu hc
      have hlen : (c :: rest).length = rest.length + 1 := rfl
      obtain ⟨fu, rfl⟩ : ∃ k, fu = k + 1 := ⟨fu - 1, by omega⟩
      have hci : cs[i]? = some c := by
        have := hc 0
        rw [Nat.add_zero] at this
        exact this.symm
      obtain ⟨ok, ⟨row, s, len, hx⟩, e1, e2⟩ := h3 i c hci
      have hkk : c.2.1 < 8 := by have := (ztx_spec ok.2.1.1).2.1; have := ok.2.2; omega
      have nxt := ih (i + 1) fu (by omega) (by omega) fun k => by
        have := hc (k + 1)
        rw [show i + 1 + k = i + (k + 1) by omega]
        exact this
      have ei : Int32.ofNat i + 1 = Int32.ofNat (i + 1) := jo_add (a := i) (b := 1)
      unfold F_2_find_3 B_2_find_3 B_2_find_45
      unfold w_fd
      rw [jg_t k2, h1, if_neg (by rw [jo_le (by omega) (by omega)]; omega), jg_t k2, sR_392_1 hs, jg_t (gA (sK_394 hs) (jo_in (by omega) (by omega))), jo_nat (n := i) (by omega), e1, ei]
      by_cases c1 : c.2.1 = ix
      · rw [if_neg (fun q => q (by rw [c1])), jg_t k2, sR_392_0 hs, jg_t (gA (sK_393 hs) (jo_in (by omega) (by omega))), jg_t hx.1.1, hx.2.2.2.2.1]
        have sm := z3_same (p := 0) (q := p) hx.2.2.2.2.2.1 hr (by decide) hlr (by decide) (by omega)
        have er : (0 + 32 ≤ 32 ∧ p + 32 ≤ lr ∧ zeq (jB H (jR H 393 i + 1)) (jB H r) 0 p 32 = true) ↔ c.1 = nm := by
          rw [← zeq_row hx.2.2.2.2.2.2.1 hz ok.1 hn]
          exact ⟨fun q => q.2.2, fun q => ⟨by decide, hp, q⟩⟩
        show jb (F_3_same (jR H 393 i + 1) (Int32.ofNat 0) r (Int32.ofNat p) H) _ = _
        rw [sm, jb_ok]
        by_cases c2 : c.1 = nm
        · rw [if_pos (er.mpr c2), if_neg (by decide), if_pos ⟨c2, c1⟩]
          rfl
        · rw [if_neg (fun q => c2 (er.mp q)), if_pos rfl, if_neg fun q => c2 q.1]
          exact nxt
      · rw [if_pos (fun q => c1 ((jo_eq4G (by omega) hix).mp q)), if_neg fun q => c1 q.2]
        exact nxt
  unfold F_2_find
  exact loop cs 0 jfuel (Nat.zero_add _) (by unfold jfuel; omega) fun k => by rw [Nat.zero_add]
end COIN
