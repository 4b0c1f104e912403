/-! Sums, looks at the tree, names by their words. -/
def zsL (f : Nat → Int64) : Nat → Int64
  | 0 => 0
  | k + 1 => zsL f k + f k
theorem z6_gain {Q : Int64 → jH → Prop} {c : Nat} {H : jH} (hs : jsh H) (hc : c ≤ 41) (h1 : jI H 414 4 = Int32.ofNat c) (hQ : Q (zsL (jL H 416) c) H) : jT (F_6_gain 414 H) Q := by
  have loop : ∀ (d i f : Nat), i + d = c → d < f → jT (F_6_gain_4 f 414 (zsL (jL H 416) i) (Int32.ofNat i) H) Q := by
    intro d
    induction d with
    | zero =>
      intro i f hi hf
      obtain rfl : i = c := by omega
      obtain ⟨f, rfl⟩ : ∃ k, f = k + 1 := ⟨f - 1, by omega⟩
      unfold F_6_gain_4 B_6_gain_4
      rw [h1]
      exact jT_g (by rw [sK_414 hs]) (jT_pos (by rw [jo_le (by omega) (by omega)]; omega) (jT_ret hQ))
    | succ d ih =>
      intro i f hi hf
      obtain ⟨f, rfl⟩ : ∃ k, f = k + 1 := ⟨f - 1, by omega⟩
      unfold F_6_gain_4 B_6_gain_4
      have e_i : Int32.ofNat i + 1 = Int32.ofNat (i + 1) := jo_add (a := i) (b := 1)
      rw [h1, e_i, sR_414_3 hs, sK_414 hs, sK_416 hs, jo_nat (n := i) (by omega)]
      refine jT_g rfl (jT_neg (by rw [jo_le (by omega) (by omega)]; omega) (jT_g rfl (jT_g ⟨rfl, jo_in (by omega) (by show i < 41; omega)⟩ (jT_l (jT_l ?_)))))
      exact ih (i + 1) f (by omega) (by omega)
  exact loop c 0 jfuel (by omega) (by unfold jfuel; omega)
theorem z18_fees {Q : Int64 → jH → Prop} {c : Nat} {H : jH} (hs : jsh H) (hc : c ≤ 42) (h1 : jI H 421 36 = Int32.ofNat c) (hQ : Q (zsL (jL H 499) c) H) : jT (F_18_fees 421 H) Q := by
  have loop : ∀ (d i f : Nat), i + d = c → d < f → jT (F_18_fees_4 f 421 (zsL (jL H 499) i) (Int32.ofNat i) H) Q := by
    intro d
    induction d with
    | zero =>
      intro i f hi hf
      obtain rfl : i = c := by omega
      obtain ⟨f, rfl⟩ : ∃ k, f = k + 1 := ⟨f - 1, by omega⟩
      unfold F_18_fees_4 B_18_fees_4
      rw [h1]
      exact jT_g (by rw [sK_421 hs]) (jT_pos (by rw [jo_le (by omega) (by omega)]; omega) (jT_ret hQ))
    | succ d ih =>
      intro i f hi hf
      obtain ⟨f, rfl⟩ : ∃ k, f = k + 1 := ⟨f - 1, by omega⟩
      unfold F_18_fees_4 B_18_fees_4
      have e_i : Int32.ofNat i + 1 = Int32.ofNat (i + 1) := jo_add (a := i) (b := 1)
      rw [h1, e_i, sR_421_40 hs, sK_421 hs, sK_499 hs, jo_nat (n := i) (by omega)]
      refine jT_g rfl (jT_neg (by rw [jo_le (by omega) (by omega)]; omega) (jT_g rfl (jT_g ⟨rfl, jo_in (by omega) (by show i < 42; omega)⟩ (jT_l (jT_l ?_)))))
      exact ih (i + 1) f (by omega) (by omega)
  exact loop c 0 jfuel (by omega) (by unfold jfuel; omega)
theorem z18_total_12 {Q : Int64 → jH → Prop} {c : Nat} {H : jH} (hs : jsh H) (hc : c ≤ 1700) (h1 : jI H 421 17 = Int32.ofNat c) (hQ : Q (zsL (jL H 484) c) H) : jT (F_18_total_12 jfuel 421 0 0 H) Q := by
  have loop : ∀ (d i f : Nat), i + d = c → d < f → jT (F_18_total_12 f 421 (zsL (jL H 484) i) (Int32.ofNat i) H) Q := by
    intro d
    induction d with
    | zero =>
      intro i f hi hf
      obtain rfl : i = c := by omega
      obtain ⟨f, rfl⟩ : ∃ k, f = k + 1 := ⟨f - 1, by omega⟩
      unfold F_18_total_12 B_18_total_12
      rw [h1]
      exact jT_g (by rw [sK_421 hs]) (jT_pos (by rw [jo_le (by omega) (by omega)]; omega) (jT_ret hQ))
    | succ d ih =>
      intro i f hi hf
      obtain ⟨f, rfl⟩ : ∃ k, f = k + 1 := ⟨f - 1, by omega⟩
      unfold F_18_total_12 B_18_total_12
      have e_i : Int32.ofNat i + 1 = Int32.ofNat (i + 1) := jo_add (a := i) (b := 1)
      rw [h1, e_i, sR_421_22 hs, sK_421 hs, sK_484 hs, jo_nat (n := i) (by omega)]
      refine jT_g rfl (jT_neg (by rw [jo_le (by omega) (by omega)]; omega) (jT_g rfl (jT_g ⟨rfl, jo_in (by omega) (by show i < 1700; omega)⟩ (jT_l (jT_l ?_)))))
      exact ih (i + 1) f (by omega) (by omega)
  exact loop c 0 jfuel (by omega) (by unfold jfuel; omega)
theorem z16_isBlock {b m : Nat} {H : jH} (hs : jsh H) (hm : m ≤ 300) (hb : b < m) (h1 : jI H 445 1 = Int32.ofNat m) : F_16_isBlock 445 (Int32.ofNat b) H = some (1, H) := by
  unfold F_16_isBlock B_16_isBlock_17
  have n1 : ¬ (Int32.ofNat b < 0) := by
    rw [show (0 : Int32) = Int32.ofNat 0 from rfl, jo_lt (by omega) (by omega)]
    omega
  have n2 : ¬ (Int32.ofNat m ≤ Int32.ofNat b) := by
    rw [jo_le (by omega) (by omega)]
    omega
  rw [if_neg n1, sK_445 hs, jg_t rfl, h1, if_neg n2]
  rfl
/-- what is looked for of a block -/
def zlk (H : jH) (b : Nat) (w : Int32) : Int64 := if w = 0 then Int32.toInt64 (jI H 446 b) else if w = 1 then Int32.toInt64 (jI H 447 b) else if w = 2 then jL H 448 b else if w = 3 then jL H 449 b else if jI H 450 b = 0 then 0 else 1
theorem z16_look {Q : Int64 → jH → Prop} {b m : Nat} {w : Int32} {H : jH} (hs : jsh H) (hm : m ≤ 300) (hb : b < m) (h1 : jI H 445 1 = Int32.ofNat m) (hw : w = 0 ∨ w = 1 ∨ w = 2 ∨ w = 3 ∨ w = 4) (hQ : Q (zlk H b w) H) : jT (F_16_look 445 (Int32.ofNat b) w H) Q := by
  have loop : ∀ (d i f : Nat) (x : Int32), i + d = m → d < f → jT (F_16_look_17 f 445 (Int32.ofNat b) w x (Int32.ofNat i) H) Q := by
    intro d
    induction d with
    | zero =>
      intro i f x hi hf
      obtain rfl : i = m := by omega
      obtain ⟨f, rfl⟩ : ∃ k, f = k + 1 := ⟨f - 1, by omega⟩
      unfold F_16_look_17 B_16_look_17 B_16_look_143
      rw [h1, sR_445_2 hs, sR_445_3 hs, sR_445_4 hs, sR_445_5 hs, sR_445_6 hs, sK_445 hs, sK_446 hs, sK_447 hs, sK_448 hs, sK_449 hs, sK_450 hs, jo_nat (n := b) (by omega)]
      have g : jin (Int32.ofNat b) 300 := jo_in (by omega) (by omega)
      refine jT_g rfl (jT_pos (by rw [jo_le (by omega) (by omega)]; omega) ?_)
      rcases hw with rfl | rfl | rfl | rfl | rfl
      · exact jT_neg (by decide) (jT_g rfl (jT_g ⟨rfl, g⟩ (jT_ret hQ)))
      · exact jT_pos (by decide) (jT_neg (by decide) (jT_g rfl (jT_g ⟨rfl, g⟩ (jT_ret hQ))))
      · exact jT_pos (by decide) (jT_pos (by decide) (jT_neg (by decide) (jT_g rfl (jT_g ⟨rfl, g⟩ (jT_ret hQ)))))
      · exact jT_pos (by decide) (jT_pos (by decide) (jT_pos (by decide) (jT_neg (by decide) (jT_g rfl (jT_g ⟨rfl, g⟩ (jT_ret hQ))))))
      · refine jT_pos (by decide) (jT_pos (by decide) (jT_pos (by decide) (jT_pos (by decide) (jT_neg (by decide) (jT_g rfl (jT_g ⟨rfl, g⟩ ?_))))))
        have e : zlk H b 4 = if jI H 450 b = 0 then 0 else 1 := rfl
        rw [e] at hQ
        by_cases h0 : jI H 450 b = 0
        · rw [if_pos h0] at hQ
          exact jT_pos h0 (jT_ret hQ)
        · rw [if_neg h0] at hQ
          exact jT_neg h0 (jT_ret hQ)
    | succ d ih =>
      intro i f x hi hf
      obtain ⟨f, rfl⟩ : ∃ k, f = k + 1 := ⟨f - 1, by omega⟩
      unfold F_16_look_17 B_16_look_17 B_16_look_44
      have e_i : Int32.ofNat i + 1 = Int32.ofNat (i + 1) := jo_add (a := i) (b := 1)
      rw [h1, e_i, sR_445_2 hs, sK_445 hs, sK_446 hs, jo_nat (n := i) (by omega)]
      refine jT_g rfl (jT_neg (by rw [jo_le (by omega) (by omega)]; omega) (jT_g rfl (jT_g ⟨rfl, jo_in (by omega) (by show i < 300; omega)⟩ ?_)))
      exact jT_if (fun _ => jT_l (ih (i + 1) f _ (by omega) (by omega))) (fun _ => jT_l (ih (i + 1) f _ (by omega) (by omega)))
  unfold F_16_look
  refine jT_g (by rw [sK_445 hs]) (jT_b (jT_eq (z16_isBlock hs hm hb h1) (jT_ret (jT_pos (by decide) ?_))))
  exact loop m 0 jfuel 0 (by omega) (by unfold jfuel; omega)
theorem z18_height {Q : Int32 → jH → Prop} {b m : Nat} {H : jH} (hs : jsh H) (hm : m ≤ 300) (hb : b < m) (h1 : jI H 445 1 = Int32.ofNat m) (hQ : Q (jI H 447 b) H) : jT (F_18_height 421 (Int32.ofNat b) H) Q := by
  unfold F_18_height
  rw [sR_421_3 hs, sK_421 hs, sK_445 hs]
  refine jT_g rfl (jT_g rfl (jT_b (z16_look hs hm hb h1 (Or.inr (Or.inl rfl)) (jT_ret ?_))))
  have e : zlk H b 1 = Int32.toInt64 (jI H 447 b) := rfl
  rw [e, Int32.toInt32_toInt64]
  exact hQ
/-- a block that is low enough is its own answer -/
theorem z16_below_here {Q : Int32 → jH → Prop} {b m h : Nat} {H : jH} (hs : jsh H) (hm : m ≤ 300) (hb : b < m) (h1 : jI H 445 1 = Int32.ofNat m) (hh : h < 300) (h2 : jI H 447 b = Int32.ofNat h) (hQ : Q (Int32.ofNat b) H) : jT (F_16_below 445 (Int32.ofNat b) (Int32.ofNat h) H) Q := by
  unfold F_16_below
  refine jT_g (by rw [sK_445 hs]) (jT_b (jT_eq (z16_isBlock hs hm hb h1) (jT_ret (jT_neg (by decide) (jT_neg (by rw [show (0 : Int32) = Int32.ofNat 0 from rfl, jo_lt (by omega) (by omega)]; omega) ?_)))))
  have g : jin (Int32.ofNat b) 300 := jo_in (by omega) (by omega)
  rw [sR_445_3 hs, sK_445 hs, sK_447 hs, jo_nat (n := b) (by omega), h2]
  refine jT_g rfl (jT_g ⟨rfl, g⟩ (jT_pos (by rw [jo_le (by omega) (by omega)]; omega) ?_))
  obtain ⟨f, ef⟩ : ∃ f, jfuel = f + 1 := ⟨4294967295, rfl⟩
  rw [ef]
  unfold F_16_below_26 B_16_below_26
  rw [sR_445_3 hs, sK_445 hs, sK_447 hs, jo_nat (n := b) (by omega), h2]
  exact jT_g rfl (jT_g ⟨rfl, g⟩ (jT_pos (by rw [jo_le (by omega) (by omega)]; omega) (jT_ret hQ)))
/-- eight bytes as a long, the highest first -/
def zeb (b : Nat → UInt8) : Nat → Int64
  | 0 => 0
  | i + 1 => jshlL (zeb b i) 8 ||| Int32.toInt64 (jbs (b i) &&& 255)
theorem zeb_eq {b c : Nat → UInt8} : ∀ {n : Nat}, (∀ i, i < n → b i = c i) → zeb b n = zeb c n
  | 0, _ => rfl
  | n + 1, h => by
    unfold zeb
    rw [zeb_eq (n := n) (fun i hi => h i (by omega)), h n (by omega)]
theorem z11_block_30 {Q : Int64 → jH → Prop} {o nm k : Nat} {H : jH} (hk : k < 4) (ho : (jK H o).1 = 0) (hn : jR H o 1 = nm) (hkn : jK H nm = (101, 32)) (hQ : Q (zeb (fun i => jB H nm (8 * k + i)) 8) H) : jT (F_11_block_30 jfuel (Int32.ofNat k) o 0 0 H) Q := by
  have loop : ∀ (d i f : Nat), i + d = 8 → d < f → jT (F_11_block_30 f (Int32.ofNat k) o (zeb (fun i => jB H nm (8 * k + i)) i) (Int32.ofNat i) H) Q := by
    intro d
    induction d with
    | zero =>
      intro i f hi hf
      obtain rfl : i = 8 := by omega
      obtain ⟨f, rfl⟩ : ∃ k, f = k + 1 := ⟨f - 1, by omega⟩
      unfold F_11_block_30 B_11_block_30
      exact jT_pos (by decide) (jT_ret hQ)
    | succ d ih =>
      intro i f hi hf
      obtain ⟨f, rfl⟩ : ∃ k, f = k + 1 := ⟨f - 1, by omega⟩
      unfold F_11_block_30 B_11_block_30
      have e : (8 : Int32) * Int32.ofNat k + Int32.ofNat i = Int32.ofNat (8 * k + i) := by
        rw [show (8 : Int32) = Int32.ofNat 8 from rfl, jo_mul, jo_add]
      have e_i : Int32.ofNat i + 1 = Int32.ofNat (i + 1) := jo_add (a := i) (b := 1)
      rw [hn, hkn, e, e_i, jo_nat (n := 8 * k + i) (by omega)]
      refine jT_neg (by rw [show (8 : Int32) = Int32.ofNat 8 from rfl, jo_le (by omega) (by omega)]; omega) (jT_g ho (jT_g ⟨rfl, jo_in (by omega) (by show 8 * k + i < 32; omega)⟩ (jT_l (jT_l ?_))))
      exact ih (i + 1) f (by omega) (by omega)
  exact loop 8 0 jfuel rfl (by unfold jfuel; omega)
theorem z18_block_54 {Q : Int64 → jH → Prop} {o : Nat} {H : jH} (hs : jsh H) (ho : o + 8 ≤ 9600) (hQ : Q (zeb (fun i => jB H 476 (o + i)) 8) H) : jT (F_18_block_54 jfuel 421 (Int32.ofNat o) 0 0 H) Q := by
  have loop : ∀ (d i f : Nat), i + d = 8 → d < f → jT (F_18_block_54 f 421 (Int32.ofNat o) (zeb (fun i => jB H 476 (o + i)) i) (Int32.ofNat i) H) Q := by
    intro d
    induction d with
    | zero =>
      intro i f hi hf
      obtain rfl : i = 8 := by omega
      obtain ⟨f, rfl⟩ : ∃ k, f = k + 1 := ⟨f - 1, by omega⟩
      unfold F_18_block_54 B_18_block_54
      exact jT_pos (by decide) (jT_ret hQ)
    | succ d ih =>
      intro i f hi hf
      obtain ⟨f, rfl⟩ : ∃ k, f = k + 1 := ⟨f - 1, by omega⟩
      unfold F_18_block_54 B_18_block_54
      have e : Int32.ofNat o + Int32.ofNat i = Int32.ofNat (o + i) := jo_add
      have e_i : Int32.ofNat i + 1 = Int32.ofNat (i + 1) := jo_add (a := i) (b := 1)
      rw [sR_421_8 hs, sK_421 hs, sK_476 hs, e, e_i, jo_nat (n := o + i) (by omega)]
      refine jT_neg (by rw [show (8 : Int32) = Int32.ofNat 8 from rfl, jo_le (by omega) (by omega)]; omega) (jT_g rfl (jT_g ⟨rfl, jo_in (by omega) (by show o + i < 9600; omega)⟩ (jT_l (jT_l ?_))))
      exact ih (i + 1) f (by omega) (by omega)
  exact loop 8 0 jfuel rfl (by unfold jfuel; omega)
/-- how many blocks are bad -/
def zcb (f : Nat → Int32) : Nat → Int32
  | 0 => 0
  | k + 1 => zcb f k + (if f k = 0 then 0 else 1)
/-- the coins are those of the tip's chain -/
theorem z18_need_here {b : Int32} {H : jH} (hs : jsh H) (h : jI H 421 16 = b) : F_18_need 421 b H = some ((), H) := by
  unfold F_18_need
  rw [sK_421 hs, jg_t rfl, if_neg (fun q => q h)]
theorem z18_count {Q : Int32 → jH → Prop} {m : Nat} {w : Int32} {H : jH} (hs : jsh H) (hm : m ≤ 300) (h1 : jI H 445 1 = Int32.ofNat m) {P : jH → Prop} (hneed : jT (F_18_need 421 (jI H 421 13) H) fun _ h => P h)
    (hP : ∀ h, P h → jT (if w = 0 then jg ((jK h 421).1 = 18) (jg ((jK h (jR h 421 3)).1 = 16) (jb (F_16_size (jR h 421 3) h) fun x7 h8 => some (x7, h8)))
      else if w = 1 then jg ((jK h 421).1 = 18) (jg ((jK h 421).1 = 18) (jb (F_18_height 421 (jI h 421 13) h) fun x9 h10 => some (x9, h10)))
      else if w = 2 then jg ((jK h 421).1 = 18) (some ((jI h 421 17), h)) else if w = 3 then jg ((jK h 421).1 = 18) (some ((jI h 421 36), h))
      else if w = 4 then jg ((jK h 421).1 = 18) (some ((jI h 421 48), h)) else if w = 5 then some (zcb (jI H 450) m, h) else some ((-1), h)) Q) : jT (F_18_count 421 w H) Q := by
  have loop : ∀ (d i f : Nat), i + d = m → d < f → jT (F_18_count_4 f 421 w (zcb (jI H 450) i) (Int32.ofNat i) H) Q := by
    intro d
    induction d with
    | zero =>
      intro i f hi hf
      obtain rfl : i = m := by omega
      obtain ⟨f, rfl⟩ : ∃ k, f = k + 1 := ⟨f - 1, by omega⟩
      unfold F_18_count_4 B_18_count_4 F_16_size
      rw [sR_421_3 hs, sK_421 hs, sK_445 hs, h1]
      refine jT_g rfl (jT_g rfl (jT_b (jT_g rfl (jT_ret (jT_pos (by rw [jo_le (by omega) (by omega)]; omega) (jT_g (by rw [sK_421 hs]) (jT_g (by rw [sK_421 hs]) (jT_b (jT_imp hneed fun _ h hp => ?_)))))))))
      exact hP h hp
    | succ d ih =>
      intro i f hi hf
      obtain ⟨f, rfl⟩ : ∃ k, f = k + 1 := ⟨f - 1, by omega⟩
      unfold F_18_count_4 B_18_count_4 B_18_count_35
      have e_i : Int32.ofNat i + 1 = Int32.ofNat (i + 1) := jo_add (a := i) (b := 1)
      have esz : F_16_size 445 H = some (Int32.ofNat m, H) := by
        unfold F_16_size
        rw [sK_445 hs, jg_t rfl, h1]
      rw [sR_421_3 hs, sK_421 hs, sK_445 hs, esz, jb_ok]
      refine jT_g rfl (jT_g rfl (jT_neg (by rw [jo_le (by omega) (by omega)]; omega) (jT_g (by rw [sK_421 hs]) ?_)))
      rw [sR_421_3 hs, sK_445 hs]
      refine jT_g rfl (jT_b (z16_look hs hm (by omega) h1 (Or.inr (Or.inr (Or.inr (Or.inr rfl)))) ?_))
      have e : zlk H i 4 = if jI H 450 i = 0 then 0 else 1 := rfl
      rw [e, e_i]
      have := ih (i + 1) f (by omega) (by omega)
      unfold zcb at this
      by_cases h0 : jI H 450 i = 0
      · rw [if_pos h0] at this ⊢
        exact jT_pos (by decide) (jT_l (jT_l this))
      · rw [if_neg h0] at this ⊢
        exact jT_neg (by decide) (jT_l (jT_l this))
  exact loop m 0 jfuel (by omega) (by unfold jfuel; omega)
