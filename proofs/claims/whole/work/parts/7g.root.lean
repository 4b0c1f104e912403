/-! Root inputs, in the reference: the same as in the class. -/
theorem zho_full {b : Nat → UInt8} {p : Nat} : zho b (p + 36) 4 = 4294967295 ↔ ∀ j, 32 ≤ j → j < 36 → b (p + j) = 255 := by
  have h1 := UInt8.toNat_lt (b (p + 35))
  have h2 := UInt8.toNat_lt (b (p + 34))
  have h3 := UInt8.toNat_lt (b (p + 33))
  have h4 := UInt8.toNat_lt (b (p + 32))
  have e : zho b (p + 36) 4 = (((0 * 256 + (b (p + 35)).toNat) * 256 + (b (p + 34)).toNat) * 256 + (b (p + 33)).toNat) * 256 + (b (p + 32)).toNat := rfl
  have u : ∀ x : UInt8, x = 255 ↔ x.toNat = 255 := fun x => ⟨fun h => by rw [h]; rfl, fun h => UInt8.toNat_inj.mp h⟩
  rw [e]
  refine ⟨fun h j hj1 hj2 => ?_, fun h => ?_⟩
  · rw [u]
    obtain rfl | rfl | rfl | rfl : j = 32 ∨ j = 33 ∨ j = 34 ∨ j = 35 := by omega
    all_goals omega
  · have q1 := (u _).mp (h 35 (by omega) (by omega))
    have q2 := (u _).mp (h 34 (by omega) (by omega))
    have q3 := (u _).mp (h 33 (by omega) (by omega))
    have q4 := (u _).mp (h 32 (by omega) (by omega))
    omega
theorem zrt_t {b : Nat → UInt8} {len p : Nat} (h : p + 36 ≤ len) : zrt b len p = true ↔ zho b (p + 36) 4 = 4294967295 ∧ ∀ j, j < 32 → b (p + j) = 0 := by
  rw [zho_full]
  unfold zrt
  rw [List.all_eq_true]
  refine ⟨fun w => ⟨fun j h1 h2 => ?_, fun j h1 => ?_⟩, fun w i hi => ?_⟩
  · have := w j (List.mem_range.mpr h2)
    rw [Bool.and_eq_true] at this
    have := of_decide_eq_true this.2
    rw [if_neg (by omega)] at this
    exact this
  · have := w j (List.mem_range.mpr (by omega))
    rw [Bool.and_eq_true] at this
    have := of_decide_eq_true this.2
    rw [if_pos h1] at this
    exact this
  · have hi := List.mem_range.mp hi
    rw [Bool.and_eq_true]
    refine ⟨decide_eq_true (by omega), decide_eq_true ?_⟩
    by_cases h3 : i < 32
    · rw [if_pos h3]
      exact w.2 i h3
    · rw [if_neg h3]
      exact w.1 i (by omega) hi
section ROOT
variable {t row len : Nat} {b : Nat → UInt8} {ins outs : List (Nat × Nat)} {H : jH}
theorem z17_root21 (ht : zT t) (hs : jsh H) (h0 : jR H t 0 = row) (hk : jK H row = (101, len)) (hlen : len < 2000000) (hb : jB H row = b) {i p : Nat} (hi : i < 8) (h7 : jI H (t + 1) i = Int32.ofNat p) (hp : p + 36 ≤ len) :
    ∀ (d j f : Nat) (c r : Bool), j + d = 32 → d < f → (r = true ↔ c = true ∧ ∀ j', j ≤ j' → j' < 32 → b (p + j') = 0) → F_17_isRoot_21 f t (Int32.ofNat i) (if c = true then 1 else 0) (Int32.ofNat j) H = some ((if r = true then 1 else 0), H) := by
  have k0 := t_k hs ht
  have r7 := t_r7 hs ht
  have k1 := t_k1 hs ht
  intro d
  induction d with
  | zero =>
    intro j f c r hj hf hr
    obtain ⟨f, rfl⟩ : ∃ k, f = k + 1 := ⟨f - 1, by omega⟩
    unfold F_17_isRoot_21 B_17_isRoot_21
    have hrc : r = c := jbl (hr.trans ⟨And.left, fun w => ⟨w, fun j' h1 h2 => absurd h1 (by omega)⟩⟩)
    rw [if_pos (by rw [show (32 : Int32) = Int32.ofNat 32 from rfl, jo_le (by omega) (by omega)]; omega), jg_t (by cases c <;> decide), hrc]
  | succ d ih =>
    intro j f c r hj hf hr
    obtain ⟨f, rfl⟩ : ∃ k, f = k + 1 := ⟨f - 1, by omega⟩
    unfold F_17_isRoot_21 B_17_isRoot_21 B_17_isRoot_51 B_17_isRoot_52
    have e_j : Int32.ofNat j + 1 = Int32.ofNat (j + 1) := jo_add (a := j) (b := 1)
    have ej : Int32.ofNat p + Int32.ofNat j = Int32.ofNat (p + j) := jo_add
    have hst : ∀ c' : Bool, (c' = true ↔ c = true ∧ b (p + j) = 0) → F_17_isRoot_21 f t (Int32.ofNat i) (if c' = true then 1 else 0) (Int32.ofNat (j + 1)) H = some ((if r = true then 1 else 0), H) := fun c' hc' => by
      refine ih (j + 1) f c' r (by omega) (by omega) (hr.trans ?_)
      rw [hc']
      refine ⟨fun w => ⟨⟨w.1, w.2 j (Nat.le_refl j) (by omega)⟩, fun j' h1 h2 => w.2 j' (by omega) h2⟩, fun w => ⟨w.1.1, fun j' h1 h2 => ?_⟩⟩
      by_cases hq : j' = j
      · rw [hq]
        exact w.1.2
      · exact w.2 j' (by omega) h2
    rw [if_neg (by rw [show (32 : Int32) = Int32.ofNat 32 from rfl, jo_le (by omega) (by omega)]; omega)]
    dsimp only [jl]
    rw [e_j]
    cases c with
    | false =>
      rw [if_pos (by decide)]
      exact hst false ⟨fun w => absurd w (by decide), fun w => absurd w.1 (by decide)⟩
    | true =>
      rw [if_neg (by decide), jg_t k0, jg_t k0, r7, k1, jg_t ⟨rfl, jo_in (by omega) (by omega)⟩, jo_nat (n := i) (by omega), h7, ej, h0, hk, jg_t ⟨rfl, jo_in (by omega) (by show p + j < len; omega)⟩, jo_nat (n := p + j) (by omega), hb]
      by_cases hz : b (p + j) = 0
      · rw [if_neg (fun w => w (by rw [hz]; decide))]
        exact hst true ⟨fun _ => ⟨rfl, hz⟩, fun _ => rfl⟩
      · rw [if_pos (fun w => hz ((jbs_eq _ 0).mp (w.trans (by decide))))]
        exact hst false ⟨fun w => absurd w (by decide), fun w => absurd w.2 hz⟩
theorem z17_isRoot (ht : zT t) (hs : jsh H) (h0 : jR H t 0 = row) (hk : jK H row = (101, len)) (hlen : len < 2000000) (hb : jB H row = b) (hm : ins.length ≤ 8) (hi : zRi t b H ins) (hin : ∀ w ∈ ins, w.1 + 41 ≤ len) {i : Nat} (hil : i < ins.length) :
    F_17_isRoot t (Int32.ofNat i) H = some ((if zrt b len (zP ins i) = true then 1 else 0), H) := by
  have k0 := t_k hs ht
  have r8 := t_r8 hs ht
  have k2 := t_k2 hs ht
  obtain ⟨a1, a2, -⟩ := hi i _ (List.getElem?_eq_getElem hil)
  have bi : zP ins i + 41 ≤ len := by rw [zP_get hil]; exact hin _ (List.getElem_mem hil)
  rw [← zP_get hil] at a1 a2
  have z1 := zho4 b (zP ins i + 36)
  have hr := zrt_t (b := b) (len := len) (p := zP ins i) (by omega)
  unfold F_17_isRoot B_17_isRoot_18
  rw [jg_t k0, r8, k2, jg_t ⟨rfl, jo_in (by omega) (by omega)⟩, jo_nat (n := i) (by omega), a2, zle_zho, show (4294967295 : Int64) = Int64.ofNat 4294967295 from rfl]
  by_cases hx : zho b (zP ins i + 36) 4 = 4294967295
  · rw [if_neg (fun w => w (by rw [hx]))]
    exact z17_root21 ht hs h0 hk hlen hb (by omega) a1 (by omega) 32 0 jfuel true _ (by omega) (by unfold jfuel; omega) (hr.trans ⟨fun w => ⟨rfl, fun j' _ h2 => w.2 j' h2⟩, fun w => ⟨hx, fun j h => w.2 j (Nat.zero_le j) h⟩⟩)
  · rw [if_pos (fun w => hx ((lo_eq (by omega) (by omega)).mp w))]
    exact z17_root21 ht hs h0 hk hlen hb (by omega) a1 (by omega) 32 0 jfuel false _ (by omega) (by unfold jfuel; omega) (hr.trans ⟨fun w => absurd w.1 hx, fun w => absurd w.1 (by decide)⟩)
theorem z17_hasRoot (ht : zT t) (hs : jsh H) (h0 : jR H t 0 = row) (hk : jK H row = (101, len)) (hlen : len < 2000000) (hb : jB H row = b) (h4 : jI H t 4 = Int32.ofNat ins.length) (hm : ins.length ≤ 8) (hi : zRi t b H ins) (hin : ∀ w ∈ ins, w.1 + 41 ≤ len) :
    F_17_hasRoot t H = some (zany b len (ins.map (·.1)), H) := by
  have k0 := t_k hs ht
  have loop : ∀ (d i f : Nat) (c r : Bool), i + d = ins.length → d < f → (r = true ↔ c = true ∨ ∃ i', i ≤ i' ∧ i' < ins.length ∧ zrt b len (zP ins i') = true) → F_17_hasRoot_4 f t (if c = true then 1 else 0) (Int32.ofNat i) H = some ((if r = true then 1 else 0), H) := by
    intro d
    induction d with
    | zero =>
      intro i f c r hi' hf hr
      obtain ⟨f, rfl⟩ : ∃ k, f = k + 1 := ⟨f - 1, by omega⟩
      unfold F_17_hasRoot_4 B_17_hasRoot_4
      have hrc : r = c := jbl (hr.trans ⟨fun w => w.elim id fun ⟨j', h1, h2, _⟩ => absurd h1 (by omega), Or.inl⟩)
      rw [jg_t k0, h4, if_pos (by rw [jo_le (by omega) (by omega)]; omega), jg_t (by cases c <;> decide), hrc]
    | succ d ih =>
      intro i f c r hi' hf hr
      obtain ⟨f, rfl⟩ : ∃ k, f = k + 1 := ⟨f - 1, by omega⟩
      unfold F_17_hasRoot_4 B_17_hasRoot_4 B_17_hasRoot_24 B_17_hasRoot_29
      have hil : i < ins.length := by omega
      have e_i : Int32.ofNat i + 1 = Int32.ofNat (i + 1) := jo_add (a := i) (b := 1)
      have hst : ∀ c' : Bool, (c' = true ↔ c = true ∨ zrt b len (zP ins i) = true) → F_17_hasRoot_4 f t (if c' = true then 1 else 0) (Int32.ofNat (i + 1)) H = some ((if r = true then 1 else 0), H) := fun c' hc' => by
        refine ih (i + 1) f c' r (by omega) (by omega) (hr.trans ?_)
        rw [hc']
        refine ⟨fun w => ?_, fun w => ?_⟩
        · rcases w with w | ⟨i', h1, h2, h3⟩
          · exact Or.inl (Or.inl w)
          · by_cases hq : i' = i
            · rw [hq] at h3
              exact Or.inl (Or.inr h3)
            · exact Or.inr ⟨i', by omega, h2, h3⟩
        · rcases w with (w | w) | ⟨i', h1, h2, h3⟩
          · exact Or.inl w
          · exact Or.inr ⟨i, Nat.le_refl i, hil, w⟩
          · exact Or.inr ⟨i', by omega, h2, h3⟩
      rw [jg_t k0, h4, if_neg (by rw [jo_le (by omega) (by omega)]; omega)]
      dsimp only [jl]
      rw [e_i]
      cases c with
      | true =>
        rw [if_pos (by decide)]
        exact hst true ⟨fun _ => Or.inl rfl, fun _ => rfl⟩
      | false =>
        rw [if_neg (by decide), jg_t k0, z17_isRoot ht hs h0 hk hlen hb hm hi hin hil, jb_ok]
        by_cases hz : zrt b len (zP ins i) = true
        · rw [if_pos hz, if_neg (by decide)]
          exact hst true ⟨fun _ => Or.inr hz, fun _ => rfl⟩
        · rw [if_neg hz, if_pos rfl]
          exact hst false ⟨fun w => absurd w (by decide), fun w => w.elim (fun w => absurd w (by decide)) fun w => absurd w hz⟩
  unfold F_17_hasRoot zany
  have := loop ins.length 0 jfuel false ((ins.map (·.1)).any (zrt b len)) (by omega) (by unfold jfuel; omega) (by
    rw [List.any_map, List.any_eq_true]
    refine ⟨fun ⟨w, h1, h2⟩ => ?_, fun w => ?_⟩
    · obtain ⟨i, hi, he⟩ := List.getElem_of_mem h1
      refine Or.inr ⟨i, Nat.zero_le i, hi, ?_⟩
      rw [zP_get hi, he]
      exact h2
    · rcases w with w | ⟨i, _, h1, h2⟩
      · exact absurd w (by decide)
      · rw [zP_get h1] at h2
        exact ⟨_, List.getElem_mem h1, h2⟩)
  rw [if_neg (by decide)] at this
  exact this
end ROOT
