/-! The class's machine: opened, cleared, happy; a run that has its status already. -/
theorem jRs_170 : ∀ q ∈ jRs, ¬ (q.1 = 170 ∧ q.2.1 = 5) := by decide +kernel
section OPEN4
variable {r p len : Nat} {scr : List UInt8} {st sd : w_R} {H : jH} {α : Type} {Q : α → jH → Prop}
theorem w_M_T {T : Nat → Nat → Prop} {H' : jH} (h : w_M st sd H) (hs : jsh H') (hf : jfr T H H') (hT : ∀ a j, T a j → a ≤ 170) : w_M st sd H' := by
  obtain ⟨a1, a2, a3, sp, a4⟩ := h
  have hh : ∀ S, zS3 S → ∀ a j, T a j → ¬ (a = S ∧ j = 2) ∧ ¬ (S + 1 ≤ a ∧ a ≤ S + 72) := fun S hS a j q => by
    have := hT _ _ q
    unfold zS3 at hS
    omega
  exact ⟨hs, zStk_fr a2 hf (hh _ zS171), zStk_fr a3 hf (hh _ zS244), sp, zStk_fr a4 hf (hh _ zS317)⟩
/-- a stack is emptied -/
theorem zStk_nil {S : Nat} (h : zStk S st H) : zStk S [] (jsI H S 2 0) := by
  obtain ⟨h1, h2, h3, h4, h5⟩ := h
  exact ⟨Nat.zero_le _, jI_sIe, h3, h4, fun k it hk => absurd (show ([] : w_R)[k]? = some it from hk) (by simp)⟩
theorem w_M_B0 (h : w_M st sd H) : w_M st [] (jsI H 244 2 0) := by
  obtain ⟨a1, a2, a3, sp, a4⟩ := h
  have f : jfr (fun a j => a = 244 ∧ j = 2) H (jsI H 244 2 0) := jfr_sI jfr_refl ⟨rfl, rfl⟩
  exact ⟨jsh_sI a1 (by decide), zStk_fr a2 f (fun a j q => by omega), zStk_nil a3, sp, zStk_fr a4 f fun a j q => by omega⟩
theorem w_M_A0 (h : w_M st sd H) : w_M [] sd (jsI H 171 2 0) := by
  obtain ⟨a1, a2, a3, sp, a4⟩ := h
  have f : jfr (fun a j => a = 171 ∧ j = 2) H (jsI H 171 2 0) := jfr_sI jfr_refl ⟨rfl, rfl⟩
  exact ⟨jsh_sI a1 (by decide), zStk_nil a2, zStk_fr a3 f (fun a j q => by omega), sp, zStk_fr a4 f fun a j q => by omega⟩
theorem k170 {H : jH} (hs : jsh H) : (jK H 170).1 = 4 := gT (sK_170 hs)
/-- what opening writes -/
def w_To : Nat → Nat → Prop := fun a j => (a = 244 ∧ j = 2) ∨ (a = 170 ∧ (j = 10 ∨ j = 12 ∨ j = 13 ∨ j = 5 ∨ j = 6 ∨ j = 7 ∨ j = 9))
theorem z4_open {k : Unit → jH → Option (α × jH)} {p' n' : Int32} (ep : p' = Int32.ofNat p) (en : n' = Int32.ofNat scr.length) (h : w_M st sd H) (hk : jK H r = (101, len)) (hz : zRow H r p scr) (hp : p + scr.length ≤ len) (hlen : len < 2000000) (hr : 422 ≤ r) (hl : scr.length ≤ 200)
    (hq : ∀ H', jfr w_To H H' → w_G r p len scr 0 (st, [], 0, []) 0 H' H' → jT (k () H') Q) : jT (jb (F_4_open 170 r p' n' H) k) Q := by
  subst ep
  subst en
  have s0 := h.1
  have e1 : Int32.ofNat p + Int32.ofNat scr.length = Int32.ofNat (p + scr.length) := jo_add
  unfold F_4_open B_4_open_58 B_4_open_63
  rw [sR_170_2 s0, e1]
  have m1 := w_M_B0 h
  have f1 : jfr w_To H (jsI H 244 2 0) := jfr_sI jfr_refl (Or.inl ⟨rfl, rfl⟩)
  refine jT_b (jT_g (k170 s0) (jT_g (gT (sK_244 s0)) (jT_l ?_)))
  generalize jsI H 244 2 0 = H1 at *
  have m2 : w_M st [] (jsI H1 170 10 0) := w_M_f m1
  have f2 : jfr w_To H (jsI H1 170 10 0) := jfr_sI f1 (Or.inr ⟨rfl, by decide⟩)
  have v10 : jI (jsI H1 170 10 0) 170 10 = 0 := jI_sIe
  refine jT_g (k170 m1.1) (jT_l ?_)
  generalize jsI H1 170 10 0 = H2 at *
  have m3 : w_M st [] (jsI H2 170 12 0) := w_M_f m2
  have f3 : jfr w_To H (jsI H2 170 12 0) := jfr_sI f2 (Or.inr ⟨rfl, by decide⟩)
  have v12 : jI (jsI H2 170 12 0) 170 12 = 0 := jI_sIe
  have v10' : jI (jsI H2 170 12 0) 170 10 = 0 := (jI_sIn (by decide)).trans v10
  refine jT_g (k170 m2.1) (jT_l ?_)
  generalize jsI H2 170 12 0 = H3 at *
  have m4 : w_M st [] (jsI H3 170 13 0) := w_M_f m3
  have f4 : jfr w_To H (jsI H3 170 13 0) := jfr_sI f3 (Or.inr ⟨rfl, by decide⟩)
  have v13 : jI (jsI H3 170 13 0) 170 13 = 0 := jI_sIe
  have v12' : jI (jsI H3 170 13 0) 170 12 = 0 := (jI_sIn (by decide)).trans v12
  have v10'' : jI (jsI H3 170 13 0) 170 10 = 0 := (jI_sIn (by decide)).trans v10'
  refine jT_g (k170 m3.1) (jT_l ?_)
  clear v10 v10' v12 m1 m2 m3 f1 f2 f3
  generalize jsI H3 170 13 0 = H4 at *
  have s5 : jsh (jsR H4 170 5 r) := jsh_sRj m4.1 jRs_170
  have f5' : jfr (fun a j => a = 170 ∧ j = 5) H4 (jsR H4 170 5 r) := jfr_sR jfr_refl ⟨rfl, rfl⟩
  have m5 : w_M st [] (jsR H4 170 5 r) := w_M_T m4 s5 f5' fun a j q => by omega
  have f5 : jfr w_To H (jsR H4 170 5 r) := jfr_sR f4 (Or.inr ⟨rfl, by decide⟩)
  have w5 : jR (jsR H4 170 5 r) 170 5 = r := jR_sRe
  have a13 : jI (jsR H4 170 5 r) 170 13 = 0 := v13
  have a12 : jI (jsR H4 170 5 r) 170 12 = 0 := v12'
  have a10 : jI (jsR H4 170 5 r) 170 10 = 0 := v10''
  refine jT_g (k170 m4.1) (jT_l ?_)
  clear v10'' v12' v13 f4 f5'
  generalize jsR H4 170 5 r = H5 at *
  have m6 : w_M st [] (jsI H5 170 6 (Int32.ofNat p)) := w_M_f m5
  have f6 : jfr w_To H (jsI H5 170 6 (Int32.ofNat p)) := jfr_sI f5 (Or.inr ⟨rfl, by decide⟩)
  have g6 : jfr (fun a j => a = 170 ∧ (j = 6 ∨ j = 7 ∨ j = 9)) H5 (jsI H5 170 6 (Int32.ofNat p)) := jfr_sI jfr_refl ⟨rfl, by decide⟩
  have c6 : jI (jsI H5 170 6 (Int32.ofNat p)) 170 6 = Int32.ofNat p := jI_sIe
  refine jT_g (k170 m5.1) (jT_l ?_)
  generalize jsI H5 170 6 (Int32.ofNat p) = H6 at *
  have m7 : w_M st [] (jsI H6 170 7 (Int32.ofNat (p + scr.length))) := w_M_f m6
  have f7 : jfr w_To H (jsI H6 170 7 (Int32.ofNat (p + scr.length))) := jfr_sI f6 (Or.inr ⟨rfl, by decide⟩)
  have g7 : jfr (fun a j => a = 170 ∧ (j = 6 ∨ j = 7 ∨ j = 9)) H5 (jsI H6 170 7 (Int32.ofNat (p + scr.length))) := jfr_sI g6 ⟨rfl, by decide⟩
  have c7 : jI (jsI H6 170 7 (Int32.ofNat (p + scr.length))) 170 7 = Int32.ofNat (p + scr.length) := jI_sIe
  have c6' : jI (jsI H6 170 7 (Int32.ofNat (p + scr.length))) 170 6 = Int32.ofNat p := (jI_sIn (by decide)).trans c6
  refine jT_g (k170 m6.1) (jT_l ?_)
  generalize jsI H6 170 7 (Int32.ofNat (p + scr.length)) = H7 at *
  have k7 : jK H7 r = (101, len) := (jfr_K f7 r).trans hk
  have elen : Int32.ofNat (jK H7 r).2 = Int32.ofNat len := by rw [k7]
  rw [c7, elen]
  have lt0 : ∀ n, n < 2147483648 → ¬ (Int32.ofNat n < 0) := fun n hn q => absurd ((jo_lt (a := n) (b := 0) hn (by decide)).mp q) (Nat.not_lt_zero n)
  refine jT_neg (lt0 p (by omega)) (jT_neg (lt0 scr.length (by omega)) (jT_g (k170 m7.1) (jT_g (gT k7) (jT_pos (by rw [jo_le (by omega) (by omega)]; exact hp) (jT_g (k170 m7.1) (jT_l (jT_ret ?_)))))))
  have m8 : w_M st [] (jsI H7 170 9 0) := w_M_f m7
  have f8 : jfr w_To H (jsI H7 170 9 0) := jfr_sI f7 (Or.inr ⟨rfl, by decide⟩)
  have g8 : jfr (fun a j => a = 170 ∧ (j = 6 ∨ j = 7 ∨ j = 9)) H5 (jsI H7 170 9 0) := jfr_sI g7 ⟨rfl, by decide⟩
  exact hq _ f8 ⟨m8, jfr_refl, jI_sIe, ⟨(jfr_R g8 (by omega)).trans w5, (jfr_K f8 r).trans hk, zRow_eq hz fun i _ => jfr_B f8 (by unfold w_To; omega), hp, hlen, hr⟩, ⟨(jI_sIn (by decide)).trans c6', (jI_sIn (by decide)).trans c7, (jfr_I g8 (by omega)).trans a10, (jfr_I g8 (by omega)).trans a12, (jfr_I g8 (by omega)).trans a13⟩, fun k hk => absurd hk (Nat.not_lt_zero k), Nat.le_refl _, Nat.zero_le _, hl⟩
/-- a run whose status stands already -/
theorem z4_runS {k : Int32 → jH → Option (α × jH)} {v : Int32} (hs : jsh H) (h9 : jI H 170 9 = v) (hv : v ≠ 0) (hq : jT (k v H) Q) : jT (jb (F_4_run 170 H) k) Q := by
  obtain ⟨fu, efu⟩ : ∃ fu, jfuel = fu + 1 := ⟨jfuel - 1, by unfold jfuel; omega⟩
  have e : jT (B_4_run_339 170 H) (fun x h => jT (k x h) Q) := by
    unfold B_4_run_339 B_4_run_362
    rw [h9]
    exact jT_g (k170 hs) (jT_pos hv (jT_g (k170 hs) (jT_ret hq)))
  unfold F_4_run
  rw [efu]
  unfold F_4_run_2 B_4_run_2
  rw [h9]
  exact jT_b (jT_neg (by decide) (jT_g (k170 hs) (jT_pos hv e)))
theorem z4_happy {v g8 : Int32} (h : w_M st sd H) (h9 : jI H 170 9 = v) (h8 : jI H 170 8 = g8) : F_4_isHappy 170 H = some ((if v = 1 ∧ g8 ≠ 0 ∧ st.length ≠ 0 ∧ ztrue (w_tp st 1) = true then 1 else 0), H) := by
  unfold F_4_isHappy B_4_isHappy_30 B_4_isHappy_31
  rw [jg_t (k170 h.1), h9]
  by_cases c1 : v = 1
  · rw [if_neg (fun q => q c1), jg_t (k170 h.1), h8]
    by_cases c2 : g8 = 0
    · rw [if_pos c2, jg_t (Or.inl rfl), if_neg fun q => q.2.1 c2]
    · have e := z9_isTrue h.1 zS171 h.2.1 (n := 1) (by decide) (by decide)
      rw [if_neg c2, jg_t (k170 h.1), sR_170_1 h.1, jg_t (gT (sK_171 h.1))]
      show jb (F_9_isTrue 171 (Int32.ofNat 1) H) _ = _
      rw [e, jb_ok]
      by_cases t : 1 ≤ st.length ∧ ztrue (st.getD (st.length - 1) []) = true
      · rw [if_pos t, if_neg (by decide), jg_t (Or.inr rfl), if_pos ⟨c1, c2, by omega, t.2⟩]
      · rw [if_neg t, if_pos rfl, jg_t (Or.inl rfl), if_neg fun q => t ⟨by omega, q.2.2.2⟩]
  · rw [if_pos c1, jg_t (Or.inl rfl), if_neg fun q => c1 q.1]
end OPEN4
