/-! The reference: what is wrong with a transaction, whole. -/
section E9
variable {row s len : Nat} {tb : List UInt8} {y : w_y} {cs : List w_cn} {Hs : jH} {α : Type}
theorem z18_wrong {Q : α → jH → Prop} {k : Int32 → jH → Option (α × jH)} {ht : Int32} {lf : Nat} {fit : Nat → List UInt8 → List UInt8 → Bool} (hfit : ∀ i sg ky, fit i sg ky = true ↔ w_fit tb y i (w_lks cs tb y i) sg ky) (hs : jsh Hs) (hy : w_ty tb y) (hx : w_rx row s len tb y Hs) (hp : w_p13 Hs) (hCB : w_CB cs Hs) (h8 : jI Hs 437 8 = Int32.ofNat lf) (hlf : lf < 1000)
    (hk : ∀ v, v ≠ 0 → w_jgd ht cs tb y v → jT (k v Hs) Q)
    (hk34 : ∀ H', w_jgd ht cs tb y 0 → w_pas fit tb y (w_lks cs tb y) y.1.length 0 lf = none → jsh H' → w_p13 H' → w_CB cs H' → jfr w_FI Hs H' → jT (k 34 H') Q)
    (hk0 : ∀ lf' H', w_jgd ht cs tb y 0 → w_pas fit tb y (w_lks cs tb y) y.1.length 0 lf = some lf' → lf' < 1000 → jsh H' → w_rx row s len tb y H' → w_p13 H' → w_CB cs H' → jI H' 437 8 = Int32.ofNat lf' → jfr (fun a j => w_FI a j ∨ (a = 421 ∧ j = 19)) Hs H' → jL H' 421 19 = jL Hs 421 19 + (w_tot cs tb y y.1.length - w_sum tb y) → jT (k 0 H') Q) : jT (jb (F_18_wrong 421 ht Hs) k) Q := by
  have l8 : y.1.length ≤ 8 := (ztx_spec hy.1).1
  unfold F_18_wrong
  refine jT_b (z18_wr2 (Q := fun v H => jT (k v H) Q) hs hy hx hCB (fun m => hk 31 (by decide) (Or.inl ⟨rfl, m⟩)) (fun hall => ?_) y.1.length 0 jfuel (Nat.zero_add _) (by unfold jfuel; omega) fun j hj => absurd hj (Nat.not_lt_zero j))
  refine z18_wr59 (Q := fun v H => jT (k v H) Q) hs hy hx hCB hall (fun u => hk 32 (by decide) (Or.inr ⟨hall, Or.inl ⟨rfl, u⟩⟩)) (fun hu q => hk 33 (by decide) (Or.inr ⟨hall, Or.inr ⟨hu, Or.inl ⟨rfl, q⟩⟩⟩)) (fun hu q => ?_) y.1.length 0 jfuel (Nat.zero_add _) (by unfold jfuel; omega) fun j c hj => absurd hj (Nat.not_lt_zero j)
  have hj0 : w_jgd ht cs tb y 0 := Or.inr ⟨hall, Or.inr ⟨hu, Or.inr ⟨rfl, q⟩⟩⟩
  refine z18_165 (Q := fun v H => jT (k v H) Q) (lks := w_lks cs tb y) (Hs := Hs) hy hfit (fun i hi => ?_) (w_pas fit tb y (w_lks cs tb y) y.1.length 0 lf) (fun lf' fu H' ev hl' hs' hx' hp' hCB' h8' hf' => ?_) (fun H' ev hs' hp' hCB' hf' => hk34 H' hj0 ev hs' hp' hCB' hf') y.1.length 0 lf jfuel Hs (Nat.zero_add _) (by unfold jfuel; omega) hlf hs hx hp hCB h8 jfr_refl rfl
  · cases h : w_cf cs tb y i with
    | none => exact absurd h (hall i hi)
    | some c =>
      obtain ⟨k', h1, h2⟩ := w_cf_some.mp h
      refine ⟨k', c, h1, h2, ?_⟩
      unfold w_lks
      rw [h]
  · have k421 : ∀ {H}, jsh H → (jK H 421).1 = 18 := fun hs => gT (sK_421 hs)
    have e19 : jL H' 421 19 = jL Hs 421 19 := jfr_L hf' (by unfold w_FI w_FS w_F14 w_S15; omega)
    have s2 : jsh (jsL H' 421 19 (jL Hs 421 19 + (w_tot cs tb y y.1.length - w_sum tb y))) := jsh_sL hs'
    have f2 : jfr (fun a j => a = 421 ∧ j = 19) H' (jsL H' 421 19 (jL Hs 421 19 + (w_tot cs tb y y.1.length - w_sum tb y))) := jfr_sL jfr_refl ⟨rfl, rfl⟩
    unfold F_18_wrong_165 B_18_wrong_165
    rw [sR_421_4 hs', hx'.2.1.2.2.1, z17_sumx hs' hy hx', jb_ok, e19]
    refine jT_g (k421 hs') (jT_g (gT (sK_456 hs')) (jT_pos (by rw [jo_le (by omega) (by omega)]; exact Nat.le_refl _) (jT_g (k421 hs') (jT_g (k421 hs') (jT_g (gT (sK_456 hs')) (jT_g (k421 hs') (jT_l (jT_ret ?_))))))))
    exact hk0 lf' _ hj0 ev hl' s2 (w_rx_fr hx' f2 fun a j q w => by omega) (w_p13_T hp' f2 fun a j w => by omega) (w_CB_fr hCB' f2 fun a j w => by omega) h8' (jfr_trans (jfr_mono hf' fun _ _ w => Or.inl w) (jfr_mono f2 fun _ _ w => Or.inr w)) jL_sLe
end E9
