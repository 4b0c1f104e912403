/-! The median of times: both. -/
def b_ins (x : Nat) : Nat → (Nat → Nat) → Nat → Nat
  | 0, w => nup w 0 x
  | p + 1, w => if w p ≤ x then nup w (p + 1) x else b_ins x p (nup w (p + 1) (w p))
def b_med (bs : List b_k) : Nat → Nat → Nat → (Nat → Nat) → Nat
  | 0, _, n, w => w (n / 2)
  | d + 1, k, n, w => if k = 0 then b_ins (b_ti bs k) n w ((n + 1) / 2) else b_med bs d (b_pa bs k) (n + 1) (b_ins (b_ti bs k) n w)
def b_mdn (bs : List b_k) (k : Nat) : Nat := b_med bs 11 k 0 fun _ => 0
/-- a row of times -/
def r11 (H : jH) (a : Nat) (n : Nat) (w : Nat → Nat) : Prop := ∀ j, j < n → jL H a j = Int64.ofNat (w j) ∧ w j < 4294967296
def b_T406 : Nat → Nat → Prop := fun a _ => a = 406
section MED
variable {nb : Nat} {bs : List b_k} {os : List Nat} {Hs : jH} {Q : Int64 → jH → Prop}
/-- one time is put in: the class -/
theorem z1_med20 {k4 : Nat → Int32 → Nat → jH → Option (Int64 × jH)} {B pB t n : Nat} (ht : t < 4294967296) (hn : n < 11) (hB : B ≠ 406) (kB : (jK Hs B).1 = 0) (e3 : jL Hs B 3 = Int64.ofNat t) (e5 : jR Hs B 5 = pB) :
    ∀ (p fu : Nat) (w : Nat → Nat) (H : jH) (m : Nat), p < m → m ≤ 11 → p < fu → jsh H → jfr b_T406 Hs H → (∀ j, j < m → j ≠ p → jL H 406 j = Int64.ofNat (w j) ∧ w j < 4294967296) → (∀ H', jsh H' → jfr b_T406 Hs H' → r11 H' 406 m (b_ins t p w) → jT (k4 398 (Int32.ofNat (n + 1)) pB H') Q) → jT (F_1_median_20 k4 fu 398 (Int32.ofNat n) B (Int32.ofNat p) H) Q := by
  have fin : ∀ (p : Nat) (w : Nat → Nat) (H : jH) (m : Nat), p < m → m ≤ 11 → jsh H → jfr b_T406 Hs H → (∀ j, j < m → j ≠ p → jL H 406 j = Int64.ofNat (w j) ∧ w j < 4294967296) → (∀ H', jsh H' → jfr b_T406 Hs H' → r11 H' 406 m (nup w p t) → jT (k4 398 (Int32.ofNat (n + 1)) pB H') Q) → jT (B_1_median_64 k4 398 (Int32.ofNat n) B (Int32.ofNat p) H) Q := by
    intro p w H m hp hm hs hf hw hk
    have k1 : (jK H 398).1 = 1 := gT (sK_398 hs)
    have kB1 : (jK H B).1 = 0 := by rw [jfr_K hf]; exact kB
    have e3' : jL H B 3 = Int64.ofNat t := (jfr_L hf (by unfold b_T406; omega)).trans e3
    have e5' : jR H B 5 = pB := (jfr_R hf (by unfold b_T406; omega)).trans e5
    have e1 : Int32.ofNat n + 1 = Int32.ofNat (n + 1) := jo_add (a := n) (b := 1)
    unfold B_1_median_64
    rw [sR_398_14 hs, e3', e1, jo_nat (n := p) (by omega)]
    refine jT_g k1 (jT_g kB1 (jT_g (gA (sK_406 hs) (jo_in (by omega) (by show _ < 11; omega))) (jT_l (jT_l (jT_g kB1 (jT_l ?_))))))
    rw [show jR (jsL H 406 p (Int64.ofNat t)) B 5 = pB from e5']
    refine hk _ (jsh_sL hs) (jfr_sL hf rfl) fun j hj => ?_
    unfold nup
    by_cases c : j = p
    · rw [if_pos c, c]
      exact ⟨jL_sLe, ht⟩
    · rw [if_neg c]
      exact ⟨(jup_i c).trans (hw j hj c).1, (hw j hj c).2⟩
  intro p
  induction p with
  | zero =>
    intro fu w H m hp hm hfu hs hf hw hk
    obtain ⟨fu, rfl⟩ : ∃ k, fu = k + 1 := ⟨fu - 1, by omega⟩
    unfold F_1_median_20 B_1_median_20
    exact jT_pos (by decide) (fin 0 w H m hp hm hs hf hw hk)
  | succ p ih =>
    intro fu w H m hp hm hfu hs hf hw hk
    obtain ⟨fu, rfl⟩ : ∃ k, fu = k + 1 := ⟨fu - 1, by omega⟩
    have k1 : (jK H 398).1 = 1 := gT (sK_398 hs)
    have kB1 : (jK H B).1 = 0 := by rw [jfr_K hf]; exact kB
    have e3' : jL H B 3 = Int64.ofNat t := (jfr_L hf (by unfold b_T406; omega)).trans e3
    obtain ⟨v1, v2⟩ := hw p (by omega) (by omega)
    have es : Int32.ofNat (p + 1) - 1 = Int32.ofNat p := jo_sub (a := p + 1) (b := 1) (by omega)
    have es2 : Int32.ofNat (p + 1) + (-1) = Int32.ofNat p := by rw [← es]; exact (Int32.sub_eq_add_neg _ _).symm
    have g : jin (Int32.ofNat p) 11 := jo_in (by omega) (by omega)
    have g2 : jin (Int32.ofNat (p + 1)) 11 := jo_in (by omega) (by omega)
    unfold b_ins at hk
    unfold F_1_median_20 B_1_median_20
    rw [sR_398_14 hs, es, es2, jo_nat (n := p) (by omega), jo_nat (n := p + 1) (by omega), e3', v1]
    refine jT_neg (by show ¬ _ ≤ Int32.ofNat 0; rw [jo_le (by omega) (by decide)]; omega) (jT_g k1 (jT_g (gA (sK_406 hs) g) (jT_g kB1 ?_)))
    by_cases c : w p ≤ t
    · rw [if_pos c] at hk
      exact jT_pos (by rw [lo_le (by omega) (by omega)]; exact c) (fin (p + 1) w H m hp hm hs hf hw hk)
    · rw [if_neg c] at hk
      refine jT_neg (by rw [lo_le (by omega) (by omega)]; exact c) (jT_g k1 (jT_g k1 (jT_g (gA (sK_406 hs) g) (jT_g (gA (sK_406 hs) g2) (jT_l (jT_l (ih fu (nup w (p + 1) (w p)) _ m (by omega) hm (by omega) (jsh_sL hs) (jfr_sL hf rfl) (fun j hj hjp => ?_) hk)))))))
      unfold nup
      by_cases cj : j = p + 1
      · rw [if_pos cj, cj]
        exact ⟨jL_sLe, v2⟩
      · rw [if_neg cj]
        exact ⟨(jup_i cj).trans (hw j hj cj).1, (hw j hj cj).2⟩
theorem z1_median {α : Type} {R : α → jH → Prop} {k : Int64 → jH → Option (α × jH)} {x : Nat} (hw : b_wf bs) (hb : b_bok bs) (hs : jsh Hs) (hB : b_BC nb bs os Hs) (hx : x < bs.length) (hk : ∀ H', jsh H' → jfr b_T406 Hs H' → jT (k (Int64.ofNat (b_mdn bs x)) H') R) : jT (jb (F_1_median 398 (b_o os x) Hs) k) R := by
  have l300 := hw.2.1
  have k1 : ∀ {H}, jsh H → (jK H 398).1 = 1 := fun hs => gT (sK_398 hs)
  -- the end
  have fin : ∀ (n : Nat) (w : Nat → Nat) (H : jH), 1 ≤ n → n ≤ 11 → jsh H → jfr b_T406 Hs H → r11 H 406 n w → b_mdn bs x = w (n / 2) → jT (B_1_median_86 398 (Int32.ofNat n) H) (fun v h => jT (k v h) R) := by
    intro n w H h1 h11 hs1 hf hr he
    have e2 : Int32.ofNat n / 2 = Int32.ofNat (n / 2) := jo_div (a := n) (b := 2) (by omega) (by decide)
    unfold B_1_median_86 B_1_median_108
    rw [sR_398_14 hs1, sK_406 hs1, e2, jo_nat (n := n / 2) (by omega), (hr (n / 2) (by omega)).1, ← he]
    exact jT_g (k1 hs1) (jT_g (by decide) (jT_g (k1 hs1) (jT_g rfl (jT_neg (by show ¬ Int32.ofNat 11 ≤ _; rw [jo_le (by decide) (by omega)]; omega) (jT_g (by decide) (jT_g ⟨rfl, jo_in (by omega) (by show _ < 11; omega)⟩ (jT_ret (hk H hs1 hf))))))))
  have loop : ∀ (d y n fu : Nat) (w : Nat → Nat) (H : jH), n + d = 11 → d < fu → y < bs.length → jsh H → jfr b_T406 Hs H → r11 H 406 n w → b_mdn bs x = b_med bs d y n w → jT (F_1_median_4 fu 398 (Int32.ofNat n) (b_o os y) H) (fun v h => jT (k v h) R) := by
    intro d
    induction d with
    | zero =>
      intro y n fu w H hn hfu hy hs1 hf hr he
      obtain ⟨fu, rfl⟩ : ∃ k, fu = k + 1 := ⟨fu - 1, by omega⟩
      have hB1 : b_BC nb bs os H := b_BC_fr hB hf fun a j w => by unfold b_T406 at w; omega
      have := (b_o_pos hs1 hB1 hy).1
      unfold F_1_median_4 B_1_median_4
      rw [sR_398_14 hs1, sK_406 hs1]
      exact jT_neg (by omega) (jT_g (k1 hs1) (jT_g rfl (jT_pos (by show Int32.ofNat 11 ≤ _; rw [jo_le (by decide) (by omega)]; omega) (fin n w H (by omega) (by omega) hs1 hf hr he))))
    | succ d ih =>
      intro y n fu w H hn hfu hy hs1 hf hr he
      obtain ⟨fu, rfl⟩ : ∃ k, fu = k + 1 := ⟨fu - 1, by omega⟩
      have hB1 : b_BC nb bs os H := b_BC_fr hB hf fun a j w => by unfold b_T406 at w; omega
      have hpos := (b_o_pos hs1 hB1 hy).1
      obtain ⟨-, m2⟩ := hB1.2.2.2.2 _ hy
      have ht := (hb y hy).2.2.2
      unfold F_1_median_4 B_1_median_4
      rw [sR_398_14 hs1, sK_406 hs1]
      refine jT_neg (by omega) (jT_g (k1 hs1) (jT_g rfl (jT_neg (by show ¬ Int32.ofNat 11 ≤ _; rw [jo_le (by decide) (by omega)]; omega) ?_)))
      refine z1_med20 (Hs := H) (t := b_ti bs y) (n := n) ht (by omega) (by omega) m2.1.1 m2.1.2.2.2.2.2 m2.1.2.2.1 n jfuel w H (n + 1) (Nat.lt_succ_self n) (by omega) (by unfold jfuel; omega) hs1 jfr_refl (fun j hj hjn => hr j (by omega)) fun H2 s2 f2 r2 => ?_
      have f2' := jfr_trans hf f2
      unfold b_med at he
      unfold b_po
      by_cases c : y = 0
      · rw [if_pos c] at he ⊢
        obtain ⟨fu, rfl⟩ : ∃ k, fu = k + 1 := ⟨fu - 1, by omega⟩
        unfold F_1_median_4 B_1_median_4
        exact jT_pos rfl (fin (n + 1) _ H2 (by omega) (by omega) s2 f2' r2 he)
      · rw [if_neg c] at he ⊢
        obtain ⟨p1, -⟩ := hw.2.2.2.2 y (by omega) hy
        exact ih (b_pa bs y) (n + 1) fu _ H2 (by omega) (by omega) (by omega) s2 f2' r2 he
  unfold F_1_median
  exact jT_b (loop 11 x 0 jfuel (fun _ => 0) Hs rfl (by unfold jfuel; omega) hx hs jfr_refl (fun j hj => absurd hj (Nat.not_lt_zero j)) rfl)
end MED
