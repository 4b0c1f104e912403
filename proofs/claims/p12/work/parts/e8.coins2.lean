/-! Coins: both changes, both judgements, whole. -/
section E8
variable {o row s len h : Nat} {tb nm : List UInt8} {y : w_y} {cs : List w_cn} {Hs : jH} {α : Type}
/-- what is wrong over the coins: 31, 32, 33 or nothing -/
def w_jgd (ht : Int32) (cs : List w_cn) (tb : List UInt8) (y : w_y) (v : Int32) : Prop :=
  (v = 31 ∧ ∃ i, i < y.1.length ∧ w_cf cs tb y i = none) ∨
  ((∀ i, i < y.1.length → w_cf cs tb y i ≠ none) ∧ ((v = 32 ∧ ∃ i c, i < y.1.length ∧ w_cf cs tb y i = some c ∧ w_unr ht c) ∨
    ((∀ i c, i < y.1.length → w_cf cs tb y i = some c → ¬ w_unr ht c) ∧ ((v = 33 ∧ ¬ w_sum tb y ≤ w_tot cs tb y y.1.length) ∨ (v = 0 ∧ w_sum tb y ≤ w_tot cs tb y y.1.length)))))
theorem z2_take {Q : α → jH → Prop} {k : Int32 → jH → Option (α × jH)} {ht : Int32} (hs : jsh Hs) (hy : w_ty tb y) (hx : w_x o row s len tb y nm Hs) (hCA : w_CA cs Hs)
    (hk : ∀ v H', w_jgd ht cs tb y v → jsh H' → jfr w_T2 Hs H' → (v = 0 → jL H' 392 8 = w_tot cs tb y y.1.length ∧ ∀ j, j < y.1.length → w_mkr cs tb y H' j) → jT (k v H') Q) : jT (jb (F_2_take 392 o ht Hs) k) Q := by
  have l8 : y.1.length ≤ 8 := (ztx_spec hy.1).1
  have s1 : jsh (jsL Hs 392 8 0) := jsh_sL hs
  have f1 : jfr w_T2 Hs (jsL Hs 392 8 0) := jfr_sL jfr_refl (Or.inr (Or.inr ⟨rfl, rfl⟩))
  unfold F_2_take
  refine jT_b (jT_g (gT (sK_392 hs)) (jT_l ?_))
  refine z2_take10 (Hs := Hs) hs hy hx hCA (fun H' m g1 g2 => hk 31 H' (Or.inl ⟨rfl, m⟩) g1 g2 fun q => absurd q (by decide)) (fun H' a u g1 g2 => hk 32 H' (Or.inr ⟨a, Or.inl ⟨rfl, u⟩⟩) g1 g2 fun q => absurd q (by decide)) (fun H' a u q g1 g2 => hk 33 H' (Or.inr ⟨a, Or.inr ⟨u, Or.inl ⟨rfl, q⟩⟩⟩) g1 g2 fun q => absurd q (by decide)) (fun H' a u q g1 g2 g3 g4 => hk 0 H' (Or.inr ⟨a, Or.inr ⟨u, Or.inr ⟨rfl, q⟩⟩⟩) g1 g2 fun _ => ⟨g3, g4⟩) y.1.length 0 jfuel false (jsL Hs 392 8 0) (Nat.zero_add _) (by unfold jfuel; omega) s1 f1 (fun j hj => absurd hj (Nat.not_lt_zero j)) ⟨fun q => (by cases q), fun ⟨j, c, hj, _⟩ => absurd hj (Nat.not_lt_zero j)⟩ jL_sLe
/-- the makers of the coins that a transaction spends -/
def w_lks (cs : List w_cn) (tb : List UInt8) (y : w_y) (i : Nat) : List UInt8 := match w_cf cs tb y i with
  | some c => w_ck c
  | none => []
theorem w_J2_of {H : jH} (hs : jsh H) (hy : w_ty tb y) (hx : w_x o row s len tb y nm H) (hm : ∀ j, j < y.1.length → w_mkr cs tb y H j) : w_J2 o 396 397 tb y (w_lks cs tb y) H := by
  have l8 : y.1.length ≤ 8 := (ztx_spec hy.1).1
  refine ⟨⟨row, s, len, nm, hx⟩, hy, ⟨gT (sK_396 hs), by rw [sK_396 hs]; exact l8, by rw [sK_396 hs]; decide, gT (sK_397 hs), by rw [sK_397 hs]; exact l8, by rw [sK_397 hs]; decide, by decide, by decide⟩, fun i hi => ?_⟩
  obtain ⟨c, h1, h2, h3, r1, r2, r3, h4⟩ := hm i hi
  refine ⟨c.2.1, r1, r2, r3, c.2.2.1, c.2.2.2.1, c.1, h3, h4, h2.2.1, h2.2.2, ?_⟩
  unfold w_lks
  rw [h1]
  rfl
end E8
