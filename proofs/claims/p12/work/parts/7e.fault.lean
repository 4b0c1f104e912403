/-! What is wrong with a transaction by itself. -/
def zP (l : List (Nat × Nat)) (i : Nat) : Nat := (l.getD i (0, 0)).1
def zpr (b : Nat → UInt8) (ins : List (Nat × Nat)) (i j : Nat) : Bool := decide (zho b (zP ins i + 36) 4 = zho b (zP ins j + 36) 4) && zeq b b (zP ins i) (zP ins j) 32
def ztw (b : Nat → UInt8) (ins : List (Nat × Nat)) : Bool := (List.range ins.length).any fun i => (List.range i).any fun j => zpr b ins i j
theorem ztw_t {b : Nat → UInt8} {ins : List (Nat × Nat)} : ztw b ins = true ↔ ∃ i, i < ins.length ∧ ∃ j, j < i ∧ zpr b ins i j = true := by
  unfold ztw
  rw [List.any_eq_true]
  refine ⟨fun ⟨i, hi, h⟩ => ?_, fun ⟨i, hi, j, hj, h⟩ => ⟨i, List.mem_range.mpr hi, List.any_eq_true.mpr ⟨j, List.mem_range.mpr hj, h⟩⟩⟩
  obtain ⟨j, hj, h⟩ := List.any_eq_true.mp h
  exact ⟨i, List.mem_range.mp hi, j, List.mem_range.mp hj, h⟩
def zfl (b : Nat → UInt8) (ins outs : List (Nat × Nat)) : Int32 := if ins.length = 0 ∨ outs.length = 0 then 2 else if ztm (zvs b outs) 0 = true then 3 else if ztw b ins = true then 4 else 0
theorem jo_eq32 {a b : Nat} (ha : a < 4294967296) (hb : b < 4294967296) : Int32.ofNat a = Int32.ofNat b ↔ a = b := by
  refine ⟨fun h => ?_, fun h => by rw [h]⟩
  have := congrArg (fun x : Int32 => x.toBitVec.toNat) h
  simp only [Int32.toBitVec_ofNat', BitVec.toNat_ofNat] at this
  omega
theorem lo_eq {a b : Nat} (ha : a < 18446744073709551616) (hb : b < 18446744073709551616) : Int64.ofNat a = Int64.ofNat b ↔ a = b := by
  refine ⟨fun h => ?_, fun h => by rw [h]⟩
  have := congrArg (fun x : Int64 => x.toBitVec.toNat) h
  simp only [Int64.toBitVec_ofNat', BitVec.toNat_ofNat] at this
  omega
theorem zho4 (b : Nat → UInt8) (q : Nat) : zho b q 4 < 4294967296 := by
  have := zho_lt b q 4
  have h : (256 : Nat) ^ 4 = 4294967296 := by decide
  rw [h] at this
  exact this
theorem zP_get {l : List (Nat × Nat)} {i : Nat} (h : i < l.length) : zP l i = (l[i]).1 := by
  unfold zP
  rw [List.getD_eq_getElem?_getD, List.getElem?_eq_getElem h]
  rfl
section FAULT
variable {t row len ai ao : Nat} {b : Nat → UInt8} {ins outs : List (Nat × Nat)} {H : jH}
theorem z10_index (h : zO10 t row len H) (hb : jB H row = b) (ha : jR H t 4 = ai) (hk : jK H ai = (100, ins.length)) (hm : ins.length ≤ 8) (hp : zPl H ai (ins.map (·.1))) (hin : ∀ w ∈ ins, w.1 + 41 ≤ len) {k : Nat} (hkl : k < ins.length) :
    F_10_index t (Int32.ofNat k) H = some (Int32.ofNat (zho b (zP ins k + 36) 4), H) := by
  have hw := hin _ (List.getElem_mem hkl)
  have hlen := h.2.2.2.2.1
  have n0 : ¬ (Int32.ofNat k < 0) := by
    rw [show (0 : Int32) = Int32.ofNat 0 from rfl, jo_lt (by omega) (by omega)]
    omega
  have e32 : Int32.ofNat (zP ins k) + 32 = Int32.ofNat (zP ins k + 32) := jo_add (a := zP ins k) (b := 32)
  have hz : zP ins k + 41 ≤ len := by rw [zP_get hkl]; exact hw
  have hv : jI H ai k = Int32.ofNat (zP ins k) := by rw [zP_get hkl]; exact zPl_get hp hkl
  unfold F_10_index B_10_index_33
  rw [if_neg n0, jg_t h.2.1, ha, hk, jg_t rfl, if_pos (by rw [jo_lt (by omega) (by omega)]; exact hkl), jg_t h.2.1, jg_t h.2.1, jg_t ⟨rfl, jo_in (by omega) hkl⟩, jo_nat (n := k) (by omega), hv, e32, h.2.2.1, z10_low2 h.2.2.2.1 (by omega) (by omega), jb_ok, hb]
  unfold zlw
  rw [if_pos (by omega), zlow_zho]
theorem z10_fault_29 (h : zO10 t row len H) (hb : jB H row = b) (ha : jR H t 4 = ai) (hk : jK H ai = (100, ins.length)) (hm : ins.length ≤ 8) (hp : zPl H ai (ins.map (·.1))) (hin : ∀ w ∈ ins, w.1 + 41 ≤ len) :
    ∀ (d i f : Nat), i + d = ins.length → d < f → (∀ i', i' < i → ∀ j', j' < i' → ¬ zpr b ins i' j' = true) → F_10_fault_29 f t (Int32.ofNat i) H = some ((if ztw b ins = true then 4 else 0), H) := by
  have hlen := h.2.2.2.2.1
  intro d
  induction d with
  | zero =>
    intro i f hi hf hno
    obtain ⟨f, rfl⟩ : ∃ k, f = k + 1 := ⟨f - 1, by omega⟩
    unfold F_10_fault_29 B_10_fault_29
    rw [jg_t h.2.1, ha, hk, jg_t rfl, if_pos (by rw [jo_le (by omega) (by omega)]; show ins.length ≤ i; omega), if_neg]
    intro q
    obtain ⟨i', h1, j', h2, h3⟩ := ztw_t.mp q
    exact hno i' (by omega) j' h2 h3
  | succ d ih =>
    intro i f hi hf hno
    obtain ⟨f, rfl⟩ : ∃ k, f = k + 1 := ⟨f - 1, by omega⟩
    unfold F_10_fault_29 B_10_fault_29
    have hil : i < ins.length := by omega
    have inner : ∀ (e j g : Nat), j + e = i → e < g → (∀ j', j' < j → ¬ zpr b ins i j' = true) → F_10_fault_40 (F_10_fault_29 f) g t (Int32.ofNat i) (Int32.ofNat j) H = some ((if ztw b ins = true then 4 else 0), H) := by
      intro e
      induction e with
      | zero =>
        intro j g hj hg hnj
        obtain rfl : j = i := by omega
        obtain ⟨g, rfl⟩ : ∃ k, g = k + 1 := ⟨g - 1, by omega⟩
        unfold F_10_fault_40 B_10_fault_40
        have e_j : Int32.ofNat j + 1 = Int32.ofNat (j + 1) := jo_add (a := j) (b := 1)
        rw [if_pos (by rw [jo_le (by omega) (by omega)]; exact Nat.le_refl j)]
        dsimp only [jl]
        rw [e_j]
        refine ih (j + 1) f (by omega) (by omega) fun i' hi' j' hj' => ?_
        by_cases hq : i' = j
        · subst hq
          exact hnj j' hj'
        · exact hno i' (by omega) j' hj'
      | succ e ihe =>
        intro j g hj hg hnj
        obtain ⟨g, rfl⟩ : ∃ k, g = k + 1 := ⟨g - 1, by omega⟩
        unfold F_10_fault_40 B_10_fault_40 B_10_fault_86
        have hjl : j < ins.length := by omega
        have e_j : Int32.ofNat j + 1 = Int32.ofNat (j + 1) := jo_add (a := j) (b := 1)
        rw [if_neg (by rw [jo_le (by omega) (by omega)]; omega), jg_t h.2.1, z10_index h hb ha hk hm hp hin hil, jb_ok, jg_t h.2.1, z10_index h hb ha hk hm hp hin hjl, jb_ok]
        have hgo : ¬ zpr b ins i j = true → F_10_fault_40 (F_10_fault_29 f) g t (Int32.ofNat i) (Int32.ofNat (j + 1)) H = some ((if ztw b ins = true then 4 else 0), H) := fun hn => ihe (j + 1) g (by omega) (by omega) fun j' hj' => by
          by_cases hq : j' = j
          · rw [hq]
            exact hn
          · exact hnj j' (by omega)
        dsimp only [jl]
        rw [e_j]
        by_cases hx : zho b (zP ins i + 36) 4 = zho b (zP ins j + 36) 4
        · rw [if_neg (fun w => w (by rw [hx]))]
          have vi : jI H ai i = Int32.ofNat (zP ins i) := by rw [zP_get hil]; exact zPl_get hp hil
          have vj : jI H ai j = Int32.ofNat (zP ins j) := by rw [zP_get hjl]; exact zPl_get hp hjl
          have bi : zP ins i + 41 ≤ len := by rw [zP_get hil]; exact hin _ (List.getElem_mem hil)
          have bj : zP ins j + 41 ≤ len := by rw [zP_get hjl]; exact hin _ (List.getElem_mem hjl)
          rw [jg_t h.2.1, jg_t h.2.1, ha, hk, jg_t ⟨rfl, jo_in (by omega) hil⟩, jg_t h.2.1, jg_t h.2.1, jg_t ⟨rfl, jo_in (by omega) hjl⟩, jo_nat (n := i) (by omega), jo_nat (n := j) (by omega), vi, vj, h.2.2.1, z3_same h.2.2.2.1 h.2.2.2.1 (by omega) (by omega) (by omega) (by omega), jb_ok, hb]
          by_cases hz : zeq b b (zP ins i) (zP ins j) 32 = true
          · have hp2 : zpr b ins i j = true := by
              unfold zpr
              rw [decide_eq_true hx, hz]
              rfl
            rw [if_neg (by rw [if_pos ⟨by omega, by omega, hz⟩]; decide), if_pos (ztw_t.mpr ⟨i, hil, j, by omega, hp2⟩)]
          · rw [if_pos (by rw [if_neg (fun w => hz w.2.2)])]
            refine hgo fun w => hz ?_
            unfold zpr at w
            rw [Bool.and_eq_true] at w
            exact w.2
        · rw [if_pos (fun w => hx ((jo_eq32 (zho4 _ _) (zho4 _ _)).mp w))]
          refine hgo fun w => hx ?_
          unfold zpr at w
          rw [Bool.and_eq_true] at w
          exact of_decide_eq_true w.1
    rw [jg_t h.2.1, ha, hk, jg_t rfl, if_neg (by rw [jo_le (by omega) (by omega)]; show ¬ ins.length ≤ i; omega)]
    exact inner i 0 jfuel (by omega) (by unfold jfuel; omega) (fun j' hj' => absurd hj' (Nat.not_lt_zero j'))
theorem z10_fault (h : zO10 t row len H) (hb : jB H row = b) (ha : jR H t 4 = ai) (hk : jK H ai = (100, ins.length)) (hm : ins.length ≤ 8) (hp : zPl H ai (ins.map (·.1))) (hin : ∀ w ∈ ins, w.1 + 41 ≤ len)
    (ha2 : jR H t 5 = ao) (hk2 : jK H ao = (100, outs.length)) (hm2 : outs.length ≤ 8) (hp2 : zPl H ao (outs.map (·.1))) (hin2 : ∀ w ∈ outs, w.1 + 9 ≤ len) :
    F_10_fault t H = some (zfl b ins outs, H) := by
  unfold F_10_fault B_10_fault_16 zfl
  have z0 : ∀ n, n ≤ 8 → (Int32.ofNat n = 0 ↔ n = 0) := fun n hn => by
    rw [show (0 : Int32) = Int32.ofNat 0 from rfl, jo_eq (by omega) (by omega)]
  rw [jg_t h.2.1, ha, hk, jg_t rfl]
  by_cases h1 : ins.length = 0
  · rw [if_pos ((z0 _ hm).mpr h1), if_pos (Or.inl h1)]
  · rw [if_neg (fun w => h1 ((z0 _ hm).mp w)), jg_t h.2.1, ha2, hk2, jg_t rfl]
    by_cases h2 : outs.length = 0
    · rw [if_neg (fun w => w ((z0 _ hm2).mpr h2)), if_pos (Or.inr h2)]
    · rw [if_pos (fun w => h2 ((z0 _ hm2).mp w)), if_neg (fun w => w.elim h1 h2), jg_t h.2.1, z10_isTooMuch h hb ha2 hk2 hm2 hp2 hin2, jb_ok]
      by_cases h3 : ztm (zvs b outs) 0 = true
      · rw [if_pos h3, if_neg (by decide), if_pos h3]
      · rw [if_neg h3, if_pos rfl, if_neg h3]
        exact z10_fault_29 h hb ha hk hm hp hin ins.length 0 jfuel (by omega) (by unfold jfuel; omega) (fun i' hi' => absurd hi' (Nat.not_lt_zero i'))
end FAULT
