/-! What is wrong with a transaction by itself, in the reference; and which inputs are root inputs. -/
theorem jbl {r c : Bool} (h : r = true ↔ c = true) : r = c := by
  cases r <;> cases c <;> simp_all
section FAULT2
variable {t row len : Nat} {b : Nat → UInt8} {ins outs : List (Nat × Nat)} {H : jH}
theorem z17_twice14 (ht : zT t) (hs : jsh H) (h0 : jR H t 0 = row) (hk : jK H row = (101, len)) (hlen : len < 2000000) (hb : jB H row = b) (hm : ins.length ≤ 8) (hi : zRi t b H ins) (hin : ∀ w ∈ ins, w.1 + 41 ≤ len) {K : Nat → Int32 → Int32 → jH → Option (Int32 × jH)} {i : Nat} (hil : i < ins.length) :
    ∀ (d j f : Nat) (c r : Bool), j + d = i → d < f → (r = true ↔ c = true ∨ ∃ j', j ≤ j' ∧ j' < i ∧ zpr b ins i j' = true) → F_17_isTwice_14 K f t (if c = true then 1 else 0) (Int32.ofNat i) (Int32.ofNat j) H = K t (if r = true then 1 else 0) (Int32.ofNat (i + 1)) H := by
  have k0 := t_k hs ht
  have r7 := t_r7 hs ht
  have r8 := t_r8 hs ht
  have k1 := t_k1 hs ht
  have k2 := t_k2 hs ht
  intro d
  induction d with
  | zero =>
    intro j f c r hj hf hr
    obtain rfl : j = i := by omega
    obtain ⟨f, rfl⟩ : ∃ k, f = k + 1 := ⟨f - 1, by omega⟩
    unfold F_17_isTwice_14 B_17_isTwice_14
    have e_j : Int32.ofNat j + 1 = Int32.ofNat (j + 1) := jo_add (a := j) (b := 1)
    have hrc : r = c := jbl (hr.trans ⟨fun w => w.elim id fun ⟨j', h1, h2, _⟩ => absurd h1 (by omega), Or.inl⟩)
    rw [if_pos (by rw [jo_le (by omega) (by omega)]; exact Nat.le_refl j), hrc]
    dsimp only [jl]
    rw [e_j]
  | succ d ih =>
    intro j f c r hj hf hr
    obtain ⟨f, rfl⟩ : ∃ k, f = k + 1 := ⟨f - 1, by omega⟩
    unfold F_17_isTwice_14 B_17_isTwice_14 B_17_isTwice_67 B_17_isTwice_71 B_17_isTwice_72
    have hjl : j < ins.length := by omega
    have e_j : Int32.ofNat j + 1 = Int32.ofNat (j + 1) := jo_add (a := j) (b := 1)
    have hst : ∀ c' : Bool, (c' = true ↔ c = true ∨ zpr b ins i j = true) → F_17_isTwice_14 K f t (if c' = true then 1 else 0) (Int32.ofNat i) (Int32.ofNat (j + 1)) H = K t (if r = true then 1 else 0) (Int32.ofNat (i + 1)) H := fun c' hc' => by
      refine ih (j + 1) f c' r (by omega) (by omega) (hr.trans ?_)
      rw [hc']
      refine ⟨fun w => ?_, fun w => ?_⟩
      · rcases w with w | ⟨j', h1, h2, h3⟩
        · exact Or.inl (Or.inl w)
        · by_cases hq : j' = j
          · rw [hq] at h3
            exact Or.inl (Or.inr h3)
          · exact Or.inr ⟨j', by omega, h2, h3⟩
      · rcases w with (w | w) | ⟨j', h1, h2, h3⟩
        · exact Or.inl w
        · exact Or.inr ⟨j, Nat.le_refl j, by omega, w⟩
        · exact Or.inr ⟨j', by omega, h2, h3⟩
    rw [if_neg (by rw [jo_le (by omega) (by omega)]; omega)]
    dsimp only [jl]
    rw [e_j]
    cases c with
    | true =>
      rw [if_pos (by decide)]
      exact hst true ⟨fun _ => Or.inl rfl, fun _ => rfl⟩
    | false =>
      have hn : ¬ zpr b ins i j = true → F_17_isTwice_14 K f t 0 (Int32.ofNat i) (Int32.ofNat (j + 1)) H = K t (if r = true then 1 else 0) (Int32.ofNat (i + 1)) H := fun hz => hst false ⟨fun w => absurd w (by decide), fun w => w.elim (fun w => absurd w (by decide)) fun w => absurd w hz⟩
      have hy : zpr b ins i j = true → F_17_isTwice_14 K f t 1 (Int32.ofNat i) (Int32.ofNat (j + 1)) H = K t (if r = true then 1 else 0) (Int32.ofNat (i + 1)) H := fun hz => hst true ⟨fun _ => Or.inr hz, fun _ => rfl⟩
      obtain ⟨a1, a2, -⟩ := hi i _ (List.getElem?_eq_getElem hil)
      obtain ⟨c1, c2, -⟩ := hi j _ (List.getElem?_eq_getElem hjl)
      have bi : zP ins i + 41 ≤ len := by rw [zP_get hil]; exact hin _ (List.getElem_mem hil)
      have bj : zP ins j + 41 ≤ len := by rw [zP_get hjl]; exact hin _ (List.getElem_mem hjl)
      rw [← zP_get hil] at a1 a2
      rw [← zP_get hjl] at c1 c2
      rw [if_neg (by decide), jg_t k0, r8, k2, jg_t ⟨rfl, jo_in (by omega) (by omega)⟩, jg_t k0, jg_t ⟨rfl, jo_in (by omega) (by omega)⟩, jo_nat (n := i) (by omega), jo_nat (n := j) (by omega), a2, c2, zle_zho, zle_zho]
      by_cases hx : zho b (zP ins i + 36) 4 = zho b (zP ins j + 36) 4
      · rw [if_neg (fun w => w (by rw [hx])), jg_t k0, jg_t k0, r7, k1, jg_t ⟨rfl, jo_in (by omega) (by omega)⟩, jg_t k0, jg_t k0, jg_t ⟨rfl, jo_in (by omega) (by omega)⟩, a1, c1, h0, show (32 : Int32) = Int32.ofNat 32 from rfl, z18_like hk hk (by omega) (by omega) (by omega) (by omega), jb_ok, hb]
        by_cases hz : zeq b b (zP ins i) (zP ins j) 32 = true
        · rw [if_pos hz, if_neg (by decide)]
          refine hy ?_
          unfold zpr
          rw [decide_eq_true hx, hz]
          rfl
        · rw [if_neg hz, if_pos rfl]
          refine hn fun w => hz ?_
          unfold zpr at w
          rw [Bool.and_eq_true] at w
          exact w.2
      · have z1 := zho4 b (zP ins i + 36)
        have z2 := zho4 b (zP ins j + 36)
        rw [if_pos (fun w => hx ((lo_eq (by omega) (by omega)).mp w))]
        refine hn fun w => hx ?_
        unfold zpr at w
        rw [Bool.and_eq_true] at w
        exact of_decide_eq_true w.1
theorem z17_isTwice (ht : zT t) (hs : jsh H) (h0 : jR H t 0 = row) (hk : jK H row = (101, len)) (hlen : len < 2000000) (hb : jB H row = b) (h4 : jI H t 4 = Int32.ofNat ins.length) (hm : ins.length ≤ 8) (hi : zRi t b H ins) (hin : ∀ w ∈ ins, w.1 + 41 ≤ len) :
    F_17_isTwice t H = some ((if ztw b ins = true then 1 else 0), H) := by
  have k0 := t_k hs ht
  have loop : ∀ (d i f : Nat) (c r : Bool), i + d = ins.length → d < f → (r = true ↔ c = true ∨ ∃ i', i ≤ i' ∧ i' < ins.length ∧ ∃ j', j' < i' ∧ zpr b ins i' j' = true) → F_17_isTwice_4 f t (if c = true then 1 else 0) (Int32.ofNat i) H = some ((if r = true then 1 else 0), H) := by
    intro d
    induction d with
    | zero =>
      intro i f c r hi' hf hr
      obtain ⟨f, rfl⟩ : ∃ k, f = k + 1 := ⟨f - 1, by omega⟩
      unfold F_17_isTwice_4 B_17_isTwice_4
      have hrc : r = c := jbl (hr.trans ⟨fun w => w.elim id fun ⟨j', h1, h2, _⟩ => absurd h1 (by omega), Or.inl⟩)
      rw [jg_t k0, h4, if_pos (by rw [jo_le (by omega) (by omega)]; omega), jg_t (by cases c <;> decide), hrc]
    | succ d ih =>
      intro i f c r hi' hf hr
      obtain ⟨f, rfl⟩ : ∃ k, f = k + 1 := ⟨f - 1, by omega⟩
      unfold F_17_isTwice_4 B_17_isTwice_4
      have hil : i < ins.length := by omega
      rw [jg_t k0, h4, if_neg (by rw [jo_le (by omega) (by omega)]; omega)]
      have hr2 : (c || (List.range i).any fun j => zpr b ins i j) = true ↔ c = true ∨ ∃ j', 0 ≤ j' ∧ j' < i ∧ zpr b ins i j' = true := by
        rw [Bool.or_eq_true, List.any_eq_true]
        exact ⟨fun w => w.imp id fun ⟨j', h1, h2⟩ => ⟨j', Nat.zero_le _, List.mem_range.mp h1, h2⟩, fun w => w.imp id fun ⟨j', _, h1, h2⟩ => ⟨j', List.mem_range.mpr h1, h2⟩⟩
      refine (z17_twice14 ht hs h0 hk hlen hb hm hi hin hil i 0 jfuel c _ (by omega) (by unfold jfuel; omega) hr2).trans ?_
      refine ih (i + 1) f _ r (by omega) (by omega) (hr.trans ?_)
      rw [hr2]
      refine ⟨fun w => ?_, fun w => ?_⟩
      · rcases w with w | ⟨i', h1, h2, j', h3, h4⟩
        · exact Or.inl (Or.inl w)
        · by_cases hq : i' = i
          · rw [hq] at h3 h4
            exact Or.inl (Or.inr ⟨j', Nat.zero_le _, h3, h4⟩)
          · exact Or.inr ⟨i', by omega, h2, j', h3, h4⟩
      · rcases w with (w | ⟨j', _, h3, h4⟩) | ⟨i', h1, h2, j', h3, h4⟩
        · exact Or.inl w
        · exact Or.inr ⟨i, Nat.le_refl i, hil, j', h3, h4⟩
        · exact Or.inr ⟨i', by omega, h2, j', h3, h4⟩
  unfold F_17_isTwice
  have := loop ins.length 0 jfuel false (ztw b ins) (by omega) (by unfold jfuel; omega) (by
    rw [ztw_t]
    exact ⟨fun ⟨i, h1, j, h2, h3⟩ => Or.inr ⟨i, Nat.zero_le i, h1, j, h2, h3⟩, fun w => w.elim (fun w => absurd w (by decide)) fun ⟨i, _, h1, j, h2, h3⟩ => ⟨i, h1, j, h2, h3⟩⟩)
  rw [if_neg (by decide)] at this
  exact this
theorem z17_fault (ht : zT t) (hs : jsh H) (h0 : jR H t 0 = row) (hk : jK H row = (101, len)) (hlen : len < 2000000) (hb : jB H row = b) (h4 : jI H t 4 = Int32.ofNat ins.length) (hm : ins.length ≤ 8) (hi : zRi t b H ins) (hin : ∀ w ∈ ins, w.1 + 41 ≤ len)
    (h5 : jI H t 5 = Int32.ofNat outs.length) (hm2 : outs.length ≤ 8) (ho : zRo t b H outs) :
    F_17_fault t H = some (zfl b ins outs, H) := by
  have k0 := t_k hs ht
  have z0 : ∀ n, n ≤ 8 → (Int32.ofNat n = 0 ↔ n = 0) := fun n hn => by
    rw [show (0 : Int32) = Int32.ofNat 0 from rfl, jo_eq (by omega) (by omega)]
  have hv : ∀ (k : Nat) (v : Int64), (zvs b outs)[k]? = some v → jL H (t + 6) k = v := fun k v hkv => by
    unfold zvs at hkv
    rw [List.getElem?_map] at hkv
    obtain ⟨w, hw, rfl⟩ := Option.map_eq_some_iff.mp hkv
    exact (ho k w hw).1
  have hvl : (zvs b outs).length = outs.length := List.length_map _
  unfold F_17_fault B_17_fault_14 B_17_fault_41 zfl
  rw [jg_t k0, h4]
  by_cases h1 : ins.length = 0
  · rw [if_pos ((z0 _ hm).mpr h1), if_pos (Or.inl h1)]
  · rw [if_neg (fun w => h1 ((z0 _ hm).mp w)), jg_t k0, h5]
    by_cases h2 : outs.length = 0
    · rw [if_neg (fun w => w ((z0 _ hm2).mpr h2)), if_pos (Or.inr h2)]
    · rw [if_pos (fun w => h2 ((z0 _ hm2).mp w)), if_neg (fun w => w.elim h1 h2), jg_t k0, z17_isLarge (vs := zvs b outs) ht hs (by rw [hvl]; exact h5) (by rw [hvl]; exact hm2) hv, jb_ok]
      by_cases h3 : ztm (zvs b outs) 0 = true
      · rw [if_pos h3, if_neg (by decide), if_pos h3]
      · rw [if_neg h3, if_pos rfl, if_neg h3, jg_t k0, z17_isTwice ht hs h0 hk hlen hb h4 hm hi hin, jb_ok]
        by_cases h6 : ztw b ins = true
        · rw [if_pos h6, if_neg (by decide), if_pos h6]
        · rw [if_neg h6, if_pos rfl, if_neg h6]
end FAULT2
