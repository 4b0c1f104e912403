/-! Blocks that are right, put on again: as a function; the class. -/
def b_app (h : Nat) : Bool → List b_t → List w_cn × Nat → List w_cn × Nat
  | _, [], q => q
  | rt, x :: r, q => b_app h false r (w_chg x.1 x.2.1 x.2.2 h rt q.1 q.2)
def b_fits (h : Nat) : Bool → List b_t → List w_cn × Nat → Prop
  | _, [], _ => True
  | rt, x :: r, q => (w_chg x.1 x.2.1 x.2.2 h rt q.1 q.2).1.length ≤ 1500 ∧ (w_chg x.1 x.2.1 x.2.2 h rt q.1 q.2).2 ≤ 3000 ∧ (rt = false → w_dok x.2.1 x.2.2 x.2.2.1.length 0 q.1) ∧ b_fits h false r (w_chg x.1 x.2.1 x.2.2 h rt q.1 q.2)
theorem b_one_0 {h : Nat} {rt : Bool} {x : b_t} {S : b_st} (h0 : (b_one h rt x S).1 = 0) : ∃ l, (b_one h rt x S).2 = b_nxt h rt x S l ∧ b_mk S.1 x (b_nin rt x) S.2.1 = 0 ∧ (rt = false → b_jd (Int32.ofNat h) S.1 x.2.1 x.2.2 = 0) := by
  unfold b_one at h0 ⊢
  unfold b_nin
  cases rt with
  | true =>
    rw [if_pos rfl] at h0 ⊢
    rw [if_pos rfl]
    by_cases c : b_mk S.1 x 0 S.2.1 = 0
    · rw [if_pos c]
      exact ⟨_, rfl, c, fun w => (by cases w)⟩
    · rw [if_neg c] at h0
      exact absurd h0 c
  | false =>
    rw [if_neg (show ¬ (false = true) by decide)] at h0 ⊢
    rw [if_neg (show ¬ (false = true) by decide)]
    by_cases cj : b_jd (Int32.ofNat h) S.1 x.2.1 x.2.2 = 0
    · rw [if_pos cj] at h0 ⊢
      cases hs : b_scr S.1 x.2.1 x.2.2 S.2.2.2 with
      | none =>
        rw [hs] at h0
        exact absurd (show (34 : Int32) = 0 from h0) (by decide)
      | some l =>
        rw [hs] at h0
        have h1 : (if b_mk S.1 x x.2.2.1.length S.2.1 = 0 then ((0 : Int32), b_nxt h false x S l) else (b_mk S.1 x x.2.2.1.length S.2.1, S)).1 = 0 := h0
        by_cases c : b_mk S.1 x x.2.2.1.length S.2.1 = 0
        · refine ⟨l, ?_, c, fun _ => cj⟩
          show (if b_mk S.1 x x.2.2.1.length S.2.1 = 0 then ((0 : Int32), b_nxt h false x S l) else (b_mk S.1 x x.2.2.1.length S.2.1, S)).2 = _
          rw [if_pos c]
        · rw [if_neg c] at h1
          exact absurd h1 c
    · rw [if_neg cj] at h0
      exact absurd h0 cj
theorem b_seq_app {h : Nat} : ∀ {r : List b_t} {rt : Bool} {S : b_st}, b_toks rt r → S.1.length ≤ 1500 → S.2.1 ≤ 3000 → (b_seq h rt r S).1 = 0 → b_fits h rt r (S.1, S.2.1) ∧ ((b_seq h rt r S).2.1, (b_seq h rt r S).2.2.1) = b_app h rt r (S.1, S.2.1)
  | [], rt, S, _, _, _, _ => ⟨trivial, rfl⟩
  | x :: r, rt, S, ht, h1, h2, h0 => by
    unfold b_seq at h0 ⊢
    by_cases c : (b_one h rt x S).1 = 0
    · rw [if_pos c] at h0 ⊢
      obtain ⟨l, e1, e2, e3⟩ := b_one_0 c
      obtain ⟨p1, p2, p3⟩ := b_chg_ok (h := h) ht.1 h1 h2 rfl (fun w => b_jd_0 (e3 w)) e2
      rw [e1] at h0 ⊢
      obtain ⟨q1, q2⟩ := b_seq_app (S := b_nxt h rt x S l) ht.2 p1 p2 h0
      exact ⟨⟨p1, p2, p3, q1⟩, q2⟩
    · rw [if_neg c] at h0
      exact absurd h0 c
theorem b_all_app {h : Nat} {txs : List b_t} {cs : List w_cn} {m : Nat} (ht : b_toks true txs) (h1 : cs.length ≤ 1500) (h2 : m ≤ 3000) (h0 : (b_all h txs cs m).1 = 0) : b_fits h true txs (cs, m) ∧ ((b_all h txs cs m).2.1, (b_all h txs cs m).2.2.1) = b_app h true txs (cs, m) := by
  unfold b_all at h0 ⊢
  by_cases c : (b_seq h true txs (cs, m, 0, 24)).1 = 0
  · rw [if_pos c] at h0 ⊢
    obtain ⟨q1, q2⟩ := b_seq_app (S := (cs, m, 0, 24)) ht h1 h2 c
    refine ⟨q1, ?_⟩
    rw [← q2]
    by_cases c2 : w_sum (txs.getD 0 ([], [], ([], [], 0))).2.1 (txs.getD 0 ([], [], ([], [], 0))).2.2 ≤ b_sub h + (b_seq h true txs (cs, m, 0, 24)).2.2.2.1
    · rw [if_pos c2]
    · rw [if_neg c2]
  · rw [if_neg c] at h0
    exact absurd h0 c
theorem b_fits_len {h : Nat} : ∀ {r : List b_t} {rt : Bool} {q : List w_cn × Nat}, b_fits h rt r q → q.1.length ≤ 1500 → q.2 ≤ 3000 → (b_app h rt r q).1.length ≤ 1500 ∧ (b_app h rt r q).2 ≤ 3000
  | [], _, _, _, h1, h2 => ⟨h1, h2⟩
  | x :: r, rt, q, hf, _, _ => b_fits_len (r := r) (rt := false) (q := w_chg x.1 x.2.1 x.2.2 h rt q.1 q.2) hf.2.2.2 hf.1 hf.2.1
/-- what putting on writes -/
def b_FA : Nat → Nat → Prop := fun a _ => 392 ≤ a ∧ a ≤ 397
section AP2
variable {α : Type} {Q : α → jH → Prop} {B h : Nat} {txs : List b_t} {Hs : jH}
theorem z2_app2 {R : Unit → jH → Prop} (hb : b_bt B h txs Hs) (hB : B < 414 ∨ 422 ≤ B) (hA : jR Hs B 4 < 414 ∨ 422 ≤ jR Hs B 4) (htl : txs.length ≤ 12) (q0 : List w_cn × Nat) (hk : ∀ H', jsh H' → jfr b_FA Hs H' → b_KA q0.1 q0.2 H' → R () H') :
    ∀ (r : List b_t) (i fu : Nat) (rt : Bool) (q : List w_cn × Nat) (H : jH), txs.drop i = r → i + r.length = txs.length → r.length < fu → (rt = true ↔ i = 0) → b_toks rt r → b_fits h rt r q → jsh H → jfr b_FA Hs H → b_KA q.1 q.2 H → b_app h rt r q = q0 → jT (F_2_apply_2 fu 392 B (Int32.ofNat i) H) R := by
  have nT : ∀ a j, b_FA a j → a < 410 ∨ (414 ≤ a ∧ a < 422) := fun a j w => by unfold b_FA at w; omega
  intro r
  induction r with
  | nil =>
    intro i fu rt q H hd hi hfu hrt htok hft hs hfr hK hq
    obtain ⟨fu, rfl⟩ : ∃ k, fu = k + 1 := ⟨fu - 1, by omega⟩
    have hq' : q = q0 := hq
    subst hq'
    obtain ⟨b1, b2, b3, b4, b5, b6⟩ := b_bt_fr hb hfr nT hB hA
    have ei : i = txs.length := by
      have : i + 0 = txs.length := hi
      omega
    unfold F_2_apply_2 B_2_apply_2
    rw [b3]
    exact jT_g b1 (jT_g rfl (jT_pos (by show Int32.ofNat txs.length ≤ _; rw [jo_le (by omega) (by omega)]; omega) (jT_ret (hk H hs hfr hK))))
  | cons x r ih =>
    intro i fu rt q H hd hi hfu hrt htok hft hs hfr hK hq
    obtain ⟨fu, rfl⟩ : ∃ k, fu = k + 1 := ⟨fu - 1, by omega⟩
    have hi' : i + (r.length + 1) = txs.length := hi
    have hfu' : r.length + 1 < fu + 1 := hfu
    obtain ⟨tok, toks⟩ := htok
    obtain ⟨p1, p2, p3, p4⟩ := hft
    have ex : txs[i]? = some x := by
      have : (txs.drop i)[0]? = some x := by rw [hd]; rfl
      rwa [List.getElem?_drop, Nat.add_zero] at this
    have hd' : txs.drop (i + 1) = r := by
      rw [← List.drop_drop, hd]
      rfl
    obtain ⟨b1, b2, b3, b4, b5, b6⟩ := b_bt_fr hb hfr nT hB hA
    obtain ⟨row, s, len, hx⟩ := b6 i x ex
    have e1 : Int32.ofNat i + 1 = Int32.ofNat (i + 1) := jo_add (a := i) (b := 1)
    have k2 : (jK H 392).1 = 2 := gT (sK_392 hs)
    have go : ∀ a3 : Int32, a3 = (if rt = true then 1 else 0) → jT (B_2_apply_31 (F_2_apply_2 fu) 392 B (Int32.ofNat i) 392 (jR H (jR H B 4) i) (Int32.ofNat h) a3 H) R := fun a3 ea => by
      unfold B_2_apply_31
      refine jT_g k2 (z2_change rt ea tok.2.1 hs hx hK.1 hK.2.1 hK.2.2.1 p1 fun H2 s2 f2 A2 v5 v4 => jT_l ?_)
      rw [e1]
      exact ih (i + 1) fu false _ H2 hd' (by omega) (by omega) ⟨fun w => (by cases w), fun w => absurd w (Nat.succ_ne_zero i)⟩ toks p4 s2 (jfr_trans hfr (jfr_mono f2 fun a j w => by unfold w_T3c at w; unfold b_FA; omega)) ⟨A2, v5, v4, p2⟩ hq
    unfold F_2_apply_2 B_2_apply_2
    rw [b3, b5, jo_nat (n := i) (by omega)]
    refine jT_g b1 (jT_g rfl (jT_neg (by show ¬ Int32.ofNat txs.length ≤ Int32.ofNat i; rw [jo_le (by omega) (by omega)]; omega) (jT_g b1 (jT_g ⟨rfl, jo_in (by omega) (by show i < txs.length; omega)⟩ (jT_g b1 ?_)))))
    cases rt with
    | true =>
      have i0 : i = 0 := hrt.mp rfl
      subst i0
      exact jT_neg (fun w => w rfl) (go 1 rfl)
    | false =>
      have i0 : i ≠ 0 := fun w => by have := hrt.mpr w; cases this
      exact jT_pos (fun w => i0 ((jo_eq (a := i) (b := 0) (by omega) (by decide)).mp w)) (go 0 rfl)
theorem z2_apply {k : Unit → jH → Option (α × jH)} {q : List w_cn × Nat} (hb : b_bt B h txs Hs) (hB : B < 414 ∨ 422 ≤ B) (hA : jR Hs B 4 < 414 ∨ 422 ≤ jR Hs B 4) (htl : txs.length ≤ 12) (htok : b_toks true txs) (hft : b_fits h true txs q) (hs : jsh Hs) (hK : b_KA q.1 q.2 Hs)
    (hk : ∀ H', jsh H' → jfr b_FA Hs H' → b_KA (b_app h true txs q).1 (b_app h true txs q).2 H' → jT (k () H') Q) : jT (jb (F_2_apply 392 B Hs) k) Q := by
  unfold F_2_apply
  exact jT_b (z2_app2 (R := fun v H => jT (k v H) Q) hb hB hA htl (b_app h true txs q) hk txs 0 jfuel true q Hs rfl (Nat.zero_add _) (by unfold jfuel; omega) ⟨fun _ => rfl, fun _ => rfl⟩ htok hft hs jfr_refl hK rfl)
theorem z2_clear {k : Unit → jH → Option (α × jH)} (hs : jsh Hs) (hk : ∀ H', jsh H' → jfr b_FA Hs H' → b_KA [] 0 H' → jT (k () H') Q) : jT (jb (F_2_clear 392 Hs) k) Q := by
  unfold F_2_clear
  have s3 : jsh (jsL (jsI (jsI Hs 392 3 0) 392 4 0) 392 5 0) := jsh_sL (jsh_sI (jsh_sI hs (by decide)) (by decide))
  have f3 : jfr b_FA Hs (jsL (jsI (jsI Hs 392 3 0) 392 4 0) 392 5 0) := jfr_sL (jfr_sI (jfr_sI jfr_refl (by unfold b_FA; omega)) (by unfold b_FA; omega)) (by unfold b_FA; omega)
  have s1 : jsh (jsI Hs 392 3 0) := jsh_sI hs (by decide)
  have s2 : jsh (jsI (jsI Hs 392 3 0) 392 4 0) := jsh_sI s1 (by decide)
  have v3 : jI (jsI (jsI Hs 392 3 0) 392 4 0) 392 3 = 0 := (jI_sIn (by decide)).trans jI_sIe
  have v4 : jI (jsI (jsI Hs 392 3 0) 392 4 0) 392 4 = 0 := jI_sIe
  exact jT_b (jT_g (gT (sK_392 hs)) (jT_l (jT_g (gT (sK_392 s1)) (jT_l (jT_g (gT (sK_392 s2)) (jT_l (jT_ret (hk _ s3 f3 ⟨⟨v3, by decide, fun k c hc => by cases hc⟩, jL_sLe, v4, by decide⟩))))))))
end AP2
