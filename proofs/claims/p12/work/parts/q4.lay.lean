/-! Bytes are laid: numbers, names, transactions, heads. -/
/-- how laying goes on, whatever it goes to -/
def q_P (P : List UInt8 → jH → Prop) (T : Nat → Int64) : Prop :=
  (∀ l c H, P l H → l.length < 1000 → jT (F_L_put 32 31 421 c H) (fun r H' => r = 1 ∧ P (l ++ [jbu c]) H')) ∧ ∀ l H, P l H → jK H 421 = (103, 64) ∧ jL H 421 = T
/-- a number, low first -/
def q_lo (v : Int64) (n : Nat) : List UInt8 := (List.range n).map fun k => jbu (Int64.toInt32 (jshrL v (Int32.ofNat (8 * k))))
theorem q_lo_len {v : Int64} {n : Nat} : (q_lo v n).length = n := by
  unfold q_lo
  rw [List.length_map, List.length_range]
theorem q_lo_s {v : Int64} {n : Nat} : q_lo v (n + 1) = q_lo v n ++ [jbu (Int64.toInt32 (jshrL v (Int32.ofNat (8 * n))))] := by
  unfold q_lo
  rw [List.range_succ, List.map_append]
  rfl
/-- the bytes of a slot -/
def q_ls (b : Nat → UInt8) (n : Nat) : List UInt8 := (List.range n).map b
theorem q_ls_len {b : Nat → UInt8} {n : Nat} : (q_ls b n).length = n := by
  unfold q_ls
  rw [List.length_map, List.length_range]
theorem q_ls_s {b : Nat → UInt8} {n : Nat} : q_ls b (n + 1) = q_ls b n ++ [b n] := by
  unfold q_ls
  rw [List.range_succ, List.map_append]
  rfl
theorem jT_bi {α β : Type} {Q : α → jH → Prop} {o : Option (β × jH)} {k : β → jH → Option (α × jH)} {P : β → jH → Prop} (h : jT o P) (hk : ∀ x h, P x h → jT (k x h) Q) : jT (jb o k) Q := by
  obtain ⟨x, rfl, h2⟩ := h
  exact hk _ _ h2
section LAY
variable {P : List UInt8 → jH → Prop} {T : Nat → Int64} {Q : Int32 → jH → Prop} {l : List UInt8} {H : jH}
theorem q_put (hP : q_P P T) (h : P l H) (hl : l.length < 1000) {c : Int32} {u : UInt8} (e : jbu c = u) {k : Int32 → jH → Option (Int32 × jH)} (hk : ∀ H', P (l ++ [u]) H' → jT (k 1 H') Q) : jT (jb (F_L_put 32 31 421 c H) k) Q :=
  jT_bi (hP.1 l c H h hl) fun r H' q => by
    obtain ⟨rfl, q2⟩ := q
    exact hk H' (e ▸ q2)
theorem q_low0 (hP : q_P P T) {v : Int64} {n : Nat} (hn : n ≤ 8) (h : P l H) (hl : l.length + n < 1000) : jT (F_L_low 32 31 421 v (Int32.ofNat n) H) (fun r H' => r = 1 ∧ P (l ++ q_lo v n) H') := by
  have loop : ∀ (d k fu : Nat) (H1 : jH), k + d = n → d < fu → P (l ++ q_lo v k) H1 → jT (F_L_low_6 fu 32 31 421 v (Int32.ofNat n) 1 (Int32.ofNat k) H1) (fun r H' => r = 1 ∧ P (l ++ q_lo v n) H') := by
    intro d
    induction d with
    | zero =>
      intro k fu H1 hk hf h1
      obtain rfl : k = n := by omega
      obtain ⟨fu, rfl⟩ : ∃ k, fu = k + 1 := ⟨fu - 1, by omega⟩
      unfold F_L_low_6 B_L_low_6
      exact jT_pos (by rw [jo_le (by omega) (by omega)]; exact Nat.le_refl _) (jT_g (Or.inr rfl) (jT_ret ⟨rfl, h1⟩))
    | succ d ih =>
      intro k fu H1 hk hf h1
      obtain ⟨fu, rfl⟩ : ∃ k, fu = k + 1 := ⟨fu - 1, by omega⟩
      have e8 : (8 : Int32) * Int32.ofNat k = Int32.ofNat (8 * k) := jo_mul (a := 8) (b := k)
      have e1 : Int32.ofNat k + 1 = Int32.ofNat (k + 1) := jo_add (a := k) (b := 1)
      unfold F_L_low_6 B_L_low_6 B_L_low_40
      rw [e8, e1]
      refine jT_neg (by rw [jo_le (by omega) (by omega)]; omega) (jT_neg (by decide) (q_put hP h1 (by rw [List.length_append, q_lo_len]; omega) rfl fun H2 h2 => jT_neg (by decide) (jT_l (ih (k + 1) fu H2 (by omega) (by omega) ?_))))
      rw [q_lo_s, ← List.append_assoc]
      exact h2
  unfold F_L_low
  refine loop n 0 jfuel H (Nat.zero_add _) (by unfold jfuel; omega) ?_
  have : l ++ q_lo v 0 = l := List.append_nil l
  rw [this]
  exact h
theorem q_low (hP : q_P P T) {v : Int64} {n : Nat} (hn : n ≤ 8) (h : P l H) (hl : l.length + n < 1000) {k : Int32 → jH → Option (Int32 × jH)} (hk : ∀ H', P (l ++ q_lo v n) H' → jT (k 1 H') Q) : jT (jb (F_L_low 32 31 421 v (Int32.ofNat n) H) k) Q :=
  jT_bi (q_low0 hP hn h hl) fun r H' q => by
    obtain ⟨rfl, q2⟩ := q
    exact hk H' q2
/-- 32 bytes: those of a slot, or zeros -/
theorem q_lay0 (hP : q_P P T) {s : Int32} {b : Nat → UInt8} (hs : (s < 0 ∧ ∀ i, i < 32 → b i = 0) ∨ ∃ n, n < 8 ∧ s = Int32.ofNat n ∧ q_sl T n b) (h : P l H) (hl : l.length + 32 < 1000) : jT (F_L_lay 32 31 421 s H) (fun r H' => r = 1 ∧ P (l ++ q_ls b 32) H') := by
  have loop : ∀ (d k fu : Nat) (H1 : jH), k + d = 32 → d < fu → P (l ++ q_ls b k) H1 → jT (F_L_lay_6 fu 32 31 421 s 1 (Int32.ofNat k) H1) (fun r H' => r = 1 ∧ P (l ++ q_ls b 32) H') := by
    intro d
    induction d with
    | zero =>
      intro k fu H1 hk hf h1
      obtain rfl : k = 32 := by omega
      obtain ⟨fu, rfl⟩ : ∃ k, fu = k + 1 := ⟨fu - 1, by omega⟩
      unfold F_L_lay_6 B_L_lay_6
      exact jT_pos (by decide) (jT_g (Or.inr rfl) (jT_ret ⟨rfl, h1⟩))
    | succ d ih =>
      intro k fu H1 hk hf h1
      obtain ⟨fu, rfl⟩ : ∃ k, fu = k + 1 := ⟨fu - 1, by omega⟩
      have e1 : Int32.ofNat k + 1 = Int32.ofNat (k + 1) := jo_add (a := k) (b := 1)
      have go : ∀ c : Int32, jbu c = b k → jT (B_L_lay_56 (F_L_lay_6 fu) 32 31 421 s (Int32.ofNat k) 32 31 421 c H1) (fun r H' => r = 1 ∧ P (l ++ q_ls b 32) H') := fun c ec => by
        unfold B_L_lay_56 B_L_lay_67
        rw [e1]
        refine q_put hP h1 (by rw [List.length_append, q_ls_len]; omega) ec fun H2 h2 => jT_neg (by decide) (jT_l (ih (k + 1) fu H2 (by omega) (by omega) ?_))
        rw [q_ls_s, ← List.append_assoc]
        exact h2
      unfold F_L_lay_6 B_L_lay_6
      refine jT_neg (by show ¬ Int32.ofNat 32 ≤ _; rw [jo_le (by omega) (by omega)]; omega) (jT_neg (by decide) ?_)
      rcases hs with ⟨s1, s2⟩ | ⟨n, hn, rfl, hb⟩
      · exact jT_neg (fun w => by rw [Int32.le_iff_toInt_le] at w; rw [Int32.lt_iff_toInt_lt] at s1; omega) (go 0 (s2 k (by omega)).symm)
      · obtain ⟨kL, eT⟩ := hP.2 _ _ h1
        have e4 : (4 : Int32) * Int32.ofNat n = Int32.ofNat (4 * n) := jo_mul (a := 4) (b := n)
        have e5 : (32 : Int32) + Int32.ofNat (4 * n) = Int32.ofNat (32 + 4 * n) := jo_add (a := 32) (b := 4 * n)
        have e6 : Int32.ofNat k / 8 = Int32.ofNat (k / 8) := jo_div (a := k) (b := 8) (by omega) (by omega)
        have e7 : Int32.ofNat (32 + 4 * n) + Int32.ofNat (k / 8) = Int32.ofNat (32 + 4 * n + k / 8) := jo_add
        have e8 : jrem (Int32.ofNat k) 8 = Int32.ofNat (k % 8) := jo_rem (a := k) (b := 8) (by omega) (by omega)
        have e9 : (8 : Int32) * Int32.ofNat (k % 8) = Int32.ofNat (8 * (k % 8)) := jo_mul (a := 8) (b := k % 8)
        have e10 : (56 : Int32) - Int32.ofNat (8 * (k % 8)) = Int32.ofNat (56 - 8 * (k % 8)) := jo_sub (a := 56) (b := 8 * (k % 8)) (by omega)
        rw [e4, e5, e6, e7, e8, e9, e10, jo_nat (n := 32 + 4 * n + k / 8) (by omega), eT]
        refine jT_pos (by show Int32.ofNat 0 ≤ _; rw [jo_le (by decide) (by omega)]; omega) (jT_g (by decide) (jT_g (q_g3 kL (jo_in (by omega) (by omega))) (jT_g (by decide) (go _ ?_))))
        rw [q_byte (by omega)]
        exact hb k (by omega)
  unfold F_L_lay
  refine loop 32 0 jfuel H rfl (by unfold jfuel; omega) ?_
  have : l ++ q_ls b 0 = l := List.append_nil l
  rw [this]
  exact h
theorem q_lay (hP : q_P P T) {s : Int32} {b : Nat → UInt8} (hs : (s < 0 ∧ ∀ i, i < 32 → b i = 0) ∨ ∃ n, n < 8 ∧ s = Int32.ofNat n ∧ q_sl T n b) (h : P l H) (hl : l.length + 32 < 1000) {k : Int32 → jH → Option (Int32 × jH)} (hk : ∀ H', P (l ++ q_ls b 32) H' → jT (k 1 H') Q) : jT (jb (F_L_lay 32 31 421 s H) k) Q :=
  jT_bi (q_lay0 hP hs h hl) fun r H' q => by
    obtain ⟨rfl, q2⟩ := q
    exact hk H' q2
/-- a first transaction -/
def q_tb (tag : Nat) : List UInt8 := [1, 0, 0, 0, 1] ++ List.replicate 32 0 ++ [255, 255, 255, 255, 4, UInt8.ofNat tag, 0, 0, 0, 255, 255, 255, 255, 1, 0, 242, 5, 42, 1, 0, 0, 0, 1, 81, 0, 0, 0, 0]
theorem q_tb_len {tag : Nat} : (q_tb tag).length = 65 := rfl
theorem q_tb_eq : ∀ tag, tag < 28 → q_lo 1 4 ++ [jbu 1] ++ q_ls (fun _ => 0) 32 ++ q_lo (-1) 4 ++ [jbu 4] ++ q_lo (Int32.toInt64 (Int32.ofNat tag)) 4 ++ q_lo (-1) 4 ++ [jbu 1] ++ q_lo 5000000000 8 ++ [jbu 1] ++ [jbu 81] ++ q_lo 0 4 = q_tb tag := by decide +kernel
theorem q_tx (hP : q_P P T) {tag : Nat} (ht : tag < 28) (h : P l H) (hl : l.length < 500) (hk : ∀ H', P (l ++ q_tb tag) H' → Q 1 H') : jT (F_L_tx 32 31 421 (-1) 0 (Int32.ofNat tag) 5000000000 (-1) H) Q := by
  have e : ∀ l' : List UInt8, l ++ q_lo 1 4 ++ [jbu 1] ++ q_ls (fun _ => 0) 32 ++ q_lo (-1) 4 ++ [jbu 4] ++ q_lo (Int32.toInt64 (Int32.ofNat tag)) 4 ++ q_lo (-1) 4 ++ [jbu 1] ++ q_lo 5000000000 8 ++ [jbu 1] ++ [jbu 81] ++ q_lo 0 4 = l ++ q_tb tag := fun _ => by
    rw [← q_tb_eq tag ht]
    simp only [List.append_assoc]
  unfold F_L_tx
  refine q_low hP (n := 4) (by decide) h (by omega) fun H1 h1 => jT_neg (by decide) ?_
  refine q_put hP h1 (by simp only [List.length_append, q_lo_len]; omega) rfl fun H2 h2 => jT_neg (by decide) ?_
  refine q_lay hP (b := fun _ => 0) (Or.inl ⟨by decide, fun _ _ => rfl⟩) h2 (by simp only [List.length_append, q_lo_len, List.length_cons, List.length_nil]; omega) fun H3 h3 => jT_neg (by decide) (jT_neg (by decide) ?_)
  unfold B_L_tx_47
  refine q_low hP (n := 4) (by decide) h3 (by simp only [List.length_append, q_lo_len, q_ls_len, List.length_cons, List.length_nil]; omega) fun H4 h4 => jT_neg (by decide) (jT_neg (by decide) ?_)
  refine q_put hP h4 (by simp only [List.length_append, q_lo_len, q_ls_len, List.length_cons, List.length_nil]; omega) rfl fun H5 h5 => jT_neg (by decide) ?_
  refine q_low hP (n := 4) (by decide) h5 (by simp only [List.length_append, q_lo_len, q_ls_len, List.length_cons, List.length_nil]; omega) fun H6 h6 => jT_neg (by decide) ?_
  unfold B_L_tx_94
  refine q_low hP (n := 4) (by decide) h6 (by simp only [List.length_append, q_lo_len, q_ls_len, List.length_cons, List.length_nil]; omega) fun H7 h7 => jT_neg (by decide) (jT_neg (by decide) ?_)
  unfold B_L_tx_122
  refine q_put hP h7 (by simp only [List.length_append, q_lo_len, q_ls_len, List.length_cons, List.length_nil]; omega) rfl fun H8 h8 => jT_neg (by decide) ?_
  refine q_low hP (n := 8) (by decide) h8 (by simp only [List.length_append, q_lo_len, q_ls_len, List.length_cons, List.length_nil]; omega) fun H9 h9 => jT_neg (by decide) ?_
  refine q_put hP h9 (by simp only [List.length_append, q_lo_len, q_ls_len, List.length_cons, List.length_nil]; omega) rfl fun H10 h10 => jT_neg (by decide) ?_
  refine q_put hP h10 (by simp only [List.length_append, q_lo_len, q_ls_len, List.length_cons, List.length_nil]; omega) rfl fun H11 h11 => jT_neg (by decide) ?_
  unfold B_L_tx_167
  refine jT_neg (by decide) (jT_pos (by decide) ?_)
  unfold B_L_tx_215
  refine q_low hP (n := 4) (by decide) h11 (by simp only [List.length_append, q_lo_len, q_ls_len, List.length_cons, List.length_nil]; omega) fun H12 h12 => jT_neg (by decide) ?_
  unfold B_L_tx_231
  refine jT_g (Or.inr rfl) (jT_ret (hk H12 ?_))
  rw [e l] at h12
  exact h12
/-- a head -/
def q_hd (pb rb : Nat → UInt8) (t bi no : Int32) : List UInt8 := q_lo 1 4 ++ q_ls pb 32 ++ q_ls rb 32 ++ q_lo (Int32.toInt64 t) 4 ++ q_lo (Int32.toInt64 bi) 4 ++ q_lo (Int32.toInt64 no) 4
theorem q_hd_len {pb rb : Nat → UInt8} {t bi no : Int32} : (q_hd pb rb t bi no).length = 80 := by
  unfold q_hd
  simp only [List.length_append, q_lo_len, q_ls_len]
theorem q_head {α : Type} {R : α → jH → Prop} (hP : q_P P T) {ps rs t bi no : Int32} {pb rb : Nat → UInt8} (h1 : (ps < 0 ∧ ∀ i, i < 32 → pb i = 0) ∨ ∃ n, n < 8 ∧ ps = Int32.ofNat n ∧ q_sl T n pb) (h2 : (rs < 0 ∧ ∀ i, i < 32 → rb i = 0) ∨ ∃ n, n < 8 ∧ rs = Int32.ofNat n ∧ q_sl T n rb) (h : P l H) (hl : l.length < 500) {k : Int32 → jH → Option (α × jH)} (hk : ∀ H', P (l ++ q_hd pb rb t bi no) H' → jT (k 1 H') R) : jT (jb (F_L_head 32 31 421 ps rs t bi no H) k) R := by
  have e : l ++ q_lo 1 4 ++ q_ls pb 32 ++ q_ls rb 32 ++ q_lo (Int32.toInt64 t) 4 ++ q_lo (Int32.toInt64 bi) 4 ++ q_lo (Int32.toInt64 no) 4 = l ++ q_hd pb rb t bi no := by
    unfold q_hd
    simp only [List.append_assoc]
  refine jT_b ?_
  unfold F_L_head
  refine q_low hP (n := 4) (by decide) h (by omega) fun H1 k1 => jT_neg (by decide) ?_
  refine q_lay hP h1 k1 (by simp only [List.length_append, q_lo_len, q_ls_len]; omega) fun H2 k2 => jT_neg (by decide) ?_
  refine q_lay hP h2 k2 (by simp only [List.length_append, q_lo_len, q_ls_len]; omega) fun H3 k3 => jT_neg (by decide) ?_
  refine q_low hP (n := 4) (by decide) k3 (by simp only [List.length_append, q_lo_len, q_ls_len]; omega) fun H4 k4 => jT_neg (by decide) ?_
  refine q_low hP (n := 4) (by decide) k4 (by simp only [List.length_append, q_lo_len, q_ls_len]; omega) fun H5 k5 => jT_neg (by decide) ?_
  refine q_low hP (n := 4) (by decide) k5 (by simp only [List.length_append, q_lo_len, q_ls_len]; omega) fun H6 k6 => jT_neg (by decide) ?_
  unfold B_L_head_76
  refine jT_g (Or.inr rfl) (jT_ret (hk H6 ?_))
  rw [e] at k6
  exact k6
end LAY
/-! Laying for a digest. -/
def q_Pd (H0 : jH) (M0 : Nat → Int32) (T : Nat → Int64) (l : List UInt8) (H : jH) : Prop := ∃ M, H = q_h H0 M T ∧ q_E (b_fn l) l.length M ∧ M 49 = 0 ∧ ∀ j, 50 ≤ j → M j = M0 j
theorem b_fn_app {l r : List UInt8} {i : Nat} (h : i < l.length) : b_fn (l ++ r) i = b_fn l i := by
  unfold b_fn
  rw [List.getD_eq_getElem?_getD, List.getD_eq_getElem?_getD, List.getElem?_append_left h]
theorem b_fn_new {l : List UInt8} {u : UInt8} : b_fn (l ++ [u]) l.length = u := by
  unfold b_fn
  rw [List.getD_eq_getElem?_getD, List.getElem?_append_right (Nat.le_refl _), Nat.sub_self]
  rfl
theorem q_Pd_P {H0 : jH} {M0 : Nat → Int32} {T : Nat → Int64} (hK : jK H0 31 = (100, 64)) (hL : jK H0 421 = (103, 64)) : q_P (q_Pd H0 M0 T) T := by
  refine ⟨fun l c H h hl => ?_, fun l H h => ?_⟩
  · obtain ⟨M, rfl, hE, h49, ho⟩ := h
    unfold F_L_put
    rw [q_h_I, show (49 : Int32).toNatClampNeg = 49 from rfl, h49]
    refine jT_g (q_g1 hK (by decide)) (jT_neg (fun w => w rfl) (jT_b (q_add hK (by omega) (q_E_cg (g := b_fn (l ++ [jbu c])) hE fun i hi => (b_fn_app hi).symm) b_fn_new fun M' a b => jT_g (Or.inr rfl) (jT_ret ⟨rfl, M', rfl, ?_, (b 49 (by decide)).trans h49, fun j hj => (b j (by omega)).trans (ho j hj)⟩))))
    rw [List.length_append]
    exact a
  · obtain ⟨M, rfl, -, -, -⟩ := h
    exact ⟨hL, q_h_L⟩
