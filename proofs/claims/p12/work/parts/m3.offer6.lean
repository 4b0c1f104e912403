/-! A transaction comes to the pool: as a function; the class. -/
def p_lks (cs : List w_cn) (ps : List p_e) (x : b_t) (i : Nat) : List UInt8 := match p_cf cs ps x i with
  | some q => w_ck q.1
  | none => []
noncomputable def p_scr (cs : List w_cn) (ps : List p_e) (x : b_t) : Option Nat := w_pas (b_fit x.2.1 x.2.2 (p_lks cs ps x)) x.2.1 x.2.2 (p_lks cs ps x) x.2.2.1.length 0 8
def p_flt (x : b_t) : Int32 := zfl (fun i => x.2.1.getD i 0) x.2.2.1 x.2.2.2.1
noncomputable def p_code (ht : Int32) (cs : List w_cn) (ps : List p_e) (x : b_t) (sent : Bool) : Int32 :=
  if p_flt x ≠ 0 then p_flt x else if w_rt x.2.1 x.2.2 ≠ 0 then 5 else if p_cls ps x ≠ 0 then p_cls ps x else if p_jd ht cs ps x ≠ 0 then p_jd ht cs ps x else if sent = true ∧ p_scr cs ps x = none then 10 else p_knt ps x
def p_new (cs : List w_cn) (ps : List p_e) (x : b_t) : p_e := (x, p_tt cs ps x x.2.2.1.length - w_sum x.2.1 x.2.2)
/-- the code, and those that wait then -/
noncomputable def p_off (ht : Int32) (cs : List w_cn) (ps : List p_e) (x : b_t) (sent : Bool) : Int32 × List p_e :=
  if p_code ht cs ps x sent ≠ 0 then (p_code ht cs ps x sent, ps) else if (ps ++ [p_new cs ps x]).length ≤ 40 then (0, ps ++ [p_new cs ps x]) else (if (p_evi (ps ++ [p_new cs ps x])).2 = true then 11 else 0, (p_evi (ps ++ [p_new cs ps x])).1)
theorem p_code_cls {ht : Int32} {cs : List w_cn} {ps : List p_e} {x : b_t} {sent : Bool} (h : p_code ht cs ps x sent = 0) : p_flt x = 0 ∧ p_cls ps x = 0 := by
  unfold p_code at h
  by_cases c1 : p_flt x = 0
  · rw [if_neg (fun w => w c1)] at h
    by_cases c2 : w_rt x.2.1 x.2.2 = 0
    · rw [if_neg (fun w => w c2)] at h
      by_cases c3 : p_cls ps x = 0
      · exact ⟨c1, c3⟩
      · rw [if_pos c3] at h
        exact absurd h c3
    · rw [if_pos c2] at h
      exact absurd h (by decide)
  · rw [if_pos c1] at h
    exact absurd h c1
theorem p_cls_0 {ps : List p_e} {x : b_t} (h : p_cls ps x = 0) : p_fi ps x.1 = none := by
  unfold p_cls at h
  by_cases c : p_fi ps x.1 ≠ none
  · rw [if_pos c] at h
    exact absurd h (by decide)
  · cases hf : p_fi ps x.1 with
    | none => rfl
    | some k => exact absurd (fun w => by rw [hf] at w; cases w) c
theorem p_ok_snoc {cs : List w_cn} {ps : List p_e} {x : b_t} (hok : p_ok ps) (h40 : ps.length ≤ 40) (hy : w_ty x.2.1 x.2.2) (h32 : x.1.length = 32) (hn : p_fi ps x.1 = none) : p_ok (ps ++ [p_new cs ps x]) := by
  have at_ : ∀ (k : Nat) (e : p_e), (ps ++ [p_new cs ps x])[k]? = some e → (k < ps.length ∧ ps[k]? = some e) ∨ (k = ps.length ∧ e = p_new cs ps x) := fun k e hk => by
    by_cases c : k < ps.length
    · rw [List.getElem?_append_left c] at hk
      exact Or.inl ⟨c, hk⟩
    · have hl := (List.getElem?_eq_some_iff.mp hk).1
      rw [List.length_append] at hl
      have hl2 : k < ps.length + 1 := hl
      obtain rfl : k = ps.length := by omega
      rw [List.getElem?_append_right (Nat.le_refl _), Nat.sub_self] at hk
      exact Or.inr ⟨rfl, (Option.some.inj hk).symm⟩
  refine ⟨by rw [List.length_append]; show ps.length + 1 ≤ 41; omega, fun k e hk => ?_, fun i j e f hi hj en => ?_⟩
  · rcases at_ k e hk with ⟨-, q⟩ | ⟨-, q⟩
    · exact hok.2.1 k e q
    · rw [q]
      exact ⟨hy, h32⟩
  · rcases at_ i e hi with ⟨-, q⟩ | ⟨q0, q⟩
    · rcases at_ j f hj with ⟨-, p⟩ | ⟨p0, p⟩
      · exact hok.2.2 i j e f q p en
      · rw [p] at en
        exact absurd en (p_fi_none hn q)
    · rcases at_ j f hj with ⟨-, p⟩ | ⟨p0, p⟩
      · rw [q] at en
        exact absurd en.symm (p_fi_none hn p)
      · omega
theorem p_evi_le {ps : List p_e} (hok : p_ok ps) (hn : 0 < ps.length) : (p_evi ps).1.length < ps.length := by
  have hL : p_lst ps ps.length < ps.length := by
    rcases p_lst_lt (ps := ps) (i := ps.length) with w | w
    · exact w
    · omega
  exact p_kp_lt (j := p_lst ps ps.length) hL (by
    rw [Nat.zero_add]
    exact Bool.or_eq_true_iff.mpr (Or.inl (decide_eq_true rfl)))
/-- what holds of those that wait stays so -/
theorem p_off_ok {ht : Int32} {cs : List w_cn} {ps : List p_e} {x : b_t} {sent : Bool} (hok : p_ok ps) (h40 : ps.length ≤ 40) (hv : p_okv ps) (hy : w_ty x.2.1 x.2.2) (h32 : x.1.length = 32) : p_ok (p_off ht cs ps x sent).2 ∧ (p_off ht cs ps x sent).2.length ≤ 40 ∧ p_okv (p_off ht cs ps x sent).2 := by
  unfold p_off
  by_cases c : p_code ht cs ps x sent ≠ 0
  · rw [if_pos c]
    exact ⟨hok, h40, hv⟩
  · rw [if_neg c]
    obtain ⟨cf, cc⟩ := p_code_cls (Classical.not_not.mp c)
    have hn := p_cls_0 cc
    have ok2 := p_ok_snoc (cs := cs) hok h40 hy h32 hn
    have hvx : p_vn x.2.1 x.2.2 := by
      refine p_vn_of ?_
      unfold p_flt zfl at cf
      by_cases z1 : x.2.2.1.length = 0 ∨ x.2.2.2.1.length = 0
      · rw [if_pos z1] at cf
        exact absurd cf (by decide)
      · rw [if_neg z1] at cf
        cases hz : ztm (zvs (fun i => x.2.1.getD i 0) x.2.2.2.1) 0 with
        | false => rfl
        | true =>
          rw [hz, if_pos rfl] at cf
          exact absurd cf (by decide)
    have hv2 : p_okv (ps ++ [p_new cs ps x]) := fun k e hk => by
      rcases List.mem_append.mp (List.mem_of_getElem? hk) with q | q
      · obtain ⟨j, hj⟩ := List.getElem?_of_mem q
        exact hv j e hj
      · rcases List.mem_singleton.mp q with rfl
        exact hvx
    have hl : (ps ++ [p_new cs ps x]).length = ps.length + 1 := by rw [List.length_append]; rfl
    by_cases c2 : (ps ++ [p_new cs ps x]).length ≤ 40
    · rw [if_pos c2]
      exact ⟨ok2, c2, hv2⟩
    · rw [if_neg c2]
      refine ⟨p_kp_ok ok2, ?_, fun k e hk => ?_⟩
      · have := p_evi_le ok2 (by omega)
        show (p_evi (ps ++ [p_new cs ps x])).1.length ≤ 40
        omega
      · obtain ⟨j, -, q, -⟩ := p_kp_at hk
        exact hv2 j e q
def p_TO : Nat → Nat → Prop := fun a j => (43 ≤ a ∧ a ≤ 391) ∨ (a = 414 ∧ (j = 4 ∨ j = 9)) ∨ a = 415 ∨ a = 416 ∨ a = 418 ∨ a = 419 ∨ a = 420
section OF6
variable {α : Type} {cs : List w_cn} {ps : List p_e} {x : b_t} {Hs : jH} {o row s len : Nat} {ht : Int32} {sent : Bool} {Q : α → jH → Prop}
theorem p_J2_of {H : jH} (hs : jsh H) (hy : w_ty x.2.1 x.2.2) (hx : w_x o row s len x.2.1 x.2.2 x.1 H) (hm : ∀ j, j < x.2.2.1.length → p_mkr cs ps x H j) : w_J2 o 419 420 x.2.1 x.2.2 (p_lks cs ps x) H := by
  have l8 : x.2.2.1.length ≤ 8 := (ztx_spec hy.1).1
  refine ⟨⟨row, s, len, _, hx⟩, hy, ⟨gT (sK_419 hs), by rw [sK_419 hs]; exact l8, by rw [sK_419 hs]; decide, gT (sK_420 hs), by rw [sK_420 hs]; exact l8, by rw [sK_420 hs]; decide, by decide, by decide⟩, fun i hi => ?_⟩
  obtain ⟨c, h1, h2, h3, r1, r2, r3, h4⟩ := hm i hi
  refine ⟨c.1.2.1, r1, r2, r3, c.1.2.2.1, c.1.2.2.2.1, c.1.1, h3, h4, h2.2.1, h2.2.2, ?_⟩
  unfold p_lks
  rw [h1]
  rfl
/-- it comes in -/
theorem z6_store {H : jH} {k : Int32 → jH → Option (α × jH)} (hs : jsh H) (hok : p_ok ps) (h40 : ps.length ≤ 40) (hy : w_ty x.2.1 x.2.2) (hx : w_x o row s len x.2.1 x.2.2 x.1 H) (hA : p_PA ps H) (hn : p_fi ps x.1 = none) (h9 : jL H 414 9 = p_tt cs ps x x.2.2.1.length) {Q : α → jH → Prop}
    (hk : ∀ v H', jsh H' → jfr p_TD H H' → (if (ps ++ [p_new cs ps x]).length ≤ 40 then v = 0 ∧ p_PA (ps ++ [p_new cs ps x]) H' else (v = if (p_evi (ps ++ [p_new cs ps x])).2 = true then 11 else 0) ∧ p_PA (p_evi (ps ++ [p_new cs ps x])).1 H') → jT (k v H') Q) : jT (B_6_offer_99 414 o 0 H) (fun v h => jT (k v h) Q) := by
  have k6 : ∀ {H}, jsh H → (jK H 414).1 = 6 := fun hs => gT (sK_414 hs)
  have n5 : ∀ T : Nat → Nat → Prop, (∀ a j, T a j → a < 422) → ∀ a j, 422 ≤ a → ¬ T a j := fun T hT a j q w => by have := hT a j w; omega
  have h32 : x.1.length = 32 := hx.2.2.2.2.2.2.2.1
  have e6 := hx.2.2.2.2.2.2.2.2.1
  have ok2 := p_ok_snoc (cs := cs) hok h40 hy h32 hn
  have l2 : (ps ++ [p_new cs ps x]).length = ps.length + 1 := by rw [List.length_append]; rfl
  unfold B_6_offer_99
  rw [hA.1, sR_414_2 hs, jo_nat (n := ps.length) (by omega)]
  refine jT_neg (fun w => w rfl) (jT_g (k6 hs) (jT_pos (by rw [show (40 : Int32) = Int32.ofNat 40 from rfl, jo_le (by omega) (by decide)]; exact h40) (jT_g (k6 hs) (jT_g (k6 hs) (jT_g ⟨gT (sK_415 hs), by rw [sK_415 hs]; exact jo_in (by omega) (by show _ < 41; omega), Or.inr hx.1.1⟩ (jT_l ?_))))))
  have s1 : jsh (jsR H 415 ps.length o) := jsh_sRn hs jRs_415
  have f1 : jfr p_TD H (jsR H 415 ps.length o) := jfr_sR jfr_refl (Or.inl rfl)
  have r1 : jR (jsR H 415 ps.length o) 415 ps.length = o := jR_sRe
  have r1n : ∀ j, j ≠ ps.length → jR (jsR H 415 ps.length o) 415 j = jR H 415 j := fun j hj => jR_sRn hj
  have v4 : jI (jsR H 415 ps.length o) 414 4 = Int32.ofNat ps.length := hA.1
  have v9 : jL (jsR H 415 ps.length o) 414 9 = p_tt cs ps x x.2.2.1.length := h9
  have v6 : jL (jsR H 415 ps.length o) o 6 = w_sum x.2.1 x.2.2 := e6
  have l16 : ∀ j, jL (jsR H 415 ps.length o) 416 j = jL H 416 j := fun j => rfl
  have kx1 : (jK (jsR H 415 ps.length o) o).1 = 10 := hx.1.1
  generalize jsR H 415 ps.length o = H1 at *
  rw [sR_414_3 s1, v4, v9, v6, jo_nat (n := ps.length) (by omega)]
  refine jT_g (k6 s1) (jT_g (k6 s1) (jT_g (k6 s1) (jT_g kx1 (jT_g (gA (sK_416 s1) (jo_in (by omega) (by omega))) (jT_l ?_)))))
  have s2 : jsh (jsL H1 416 ps.length (p_tt cs ps x x.2.2.1.length - w_sum x.2.1 x.2.2)) := jsh_sL s1
  have f2 : jfr p_TD H (jsL H1 416 ps.length (p_tt cs ps x x.2.2.1.length - w_sum x.2.1 x.2.2)) := jfr_sL f1 (Or.inr (Or.inl rfl))
  have r2 : ∀ j, jR (jsL H1 416 ps.length (p_tt cs ps x x.2.2.1.length - w_sum x.2.1 x.2.2)) 415 j = jR H1 415 j := fun j => rfl
  have w4 : jI (jsL H1 416 ps.length (p_tt cs ps x x.2.2.1.length - w_sum x.2.1 x.2.2)) 414 4 = Int32.ofNat ps.length := v4
  have m2 : jL (jsL H1 416 ps.length (p_tt cs ps x x.2.2.1.length - w_sum x.2.1 x.2.2)) 416 ps.length = p_tt cs ps x x.2.2.1.length - w_sum x.2.1 x.2.2 := jL_sLe
  have m2n : ∀ j, j ≠ ps.length → jL (jsL H1 416 ps.length (p_tt cs ps x x.2.2.1.length - w_sum x.2.1 x.2.2)) 416 j = jL H 416 j := fun j hj => (jL_sLn hj).trans (l16 j)
  generalize jsL H1 416 ps.length (p_tt cs ps x x.2.2.1.length - w_sum x.2.1 x.2.2) = H2 at *
  rw [w4, show Int32.ofNat ps.length + 1 = Int32.ofNat (ps.length + 1) from jo_add (a := ps.length) (b := 1)]
  refine jT_g (k6 s2) (jT_g (k6 s2) (jT_l ?_))
  have s3 : jsh (jsI H2 414 4 (Int32.ofNat (ps.length + 1))) := jsh_sI s2 (by decide)
  have f3 : jfr p_TD H (jsI H2 414 4 (Int32.ofNat (ps.length + 1))) := jfr_sI f2 (Or.inr (Or.inr (Or.inr ⟨rfl, rfl⟩)))
  have u4 : jI (jsI H2 414 4 (Int32.ofNat (ps.length + 1))) 414 4 = Int32.ofNat (ps.length + 1) := jI_sIe
  have uR : ∀ j, jR (jsI H2 414 4 (Int32.ofNat (ps.length + 1))) 415 j = jR H1 415 j := fun j => r2 j
  have uL : ∀ j, jL (jsI H2 414 4 (Int32.ofNat (ps.length + 1))) 416 j = jL H2 416 j := fun j => rfl
  generalize jsI H2 414 4 (Int32.ofNat (ps.length + 1)) = H3 at *
  have nT : ∀ a j, 422 ≤ a → ¬ p_TD a j := fun a j q w => by unfold p_TD at w; omega
  have hA3 : p_PA (ps ++ [p_new cs ps x]) H3 := by
    refine ⟨by rw [l2]; exact u4, fun k e hk => ?_⟩
    by_cases c : k < ps.length
    · rw [List.getElem?_append_left c] at hk
      obtain ⟨⟨rw', s', len', q1⟩, q2⟩ := hA.2 k e hk
      rw [(uR k).trans (r1n k (by omega)), (uL k).trans (m2n k (by omega))]
      exact ⟨⟨rw', s', len', w_x_jfr q1 f3 nT⟩, q2⟩
    · have hl := (List.getElem?_eq_some_iff.mp hk).1
      obtain rfl : k = ps.length := by omega
      rw [List.getElem?_append_right (Nat.le_refl _), Nat.sub_self] at hk
      rw [← Option.some.inj hk, (uR _).trans r1, (uL _).trans m2]
      exact ⟨⟨row, s, len, w_x_jfr hx f3 nT⟩, rfl⟩
  rw [u4]
  refine jT_g (k6 s3) ?_
  by_cases c : ps.length + 1 ≤ 40
  · unfold B_6_offer_176 B_6_offer_177
    refine jT_pos (by rw [show (40 : Int32) = Int32.ofNat 40 from rfl, jo_le (by omega) (by decide)]; exact c) (jT_ret (hk 0 H3 s3 f3 ?_))
    rw [if_pos (by omega)]
    exact ⟨rfl, hA3⟩
  · refine jT_neg (by rw [show (40 : Int32) = Int32.ofNat 40 from rfl, jo_le (by omega) (by decide)]; exact c) (jT_g (k6 s3) ?_)
    refine z6_dropLeast s3 ok2 hA3 (by omega) (by rw [l2, Nat.add_sub_cancel]; exact (uR _).trans r1) fun H4 s4 f4 A4 => ?_
    have f4' := jfr_trans f3 f4
    unfold B_6_offer_176 B_6_offer_177
    cases hb : (p_evi (ps ++ [p_new cs ps x])).2 with
    | false =>
      refine jT_pos rfl (jT_ret (hk 0 H4 s4 f4' ?_))
      rw [if_neg (by omega), hb]
      exact ⟨rfl, A4⟩
    | true =>
      refine jT_neg (by decide) (jT_ret (hk 11 H4 s4 f4' ?_))
      rw [if_neg (by omega), hb]
      exact ⟨rfl, A4⟩
theorem z6_offer {k : Int32 → jH → Option (α × jH)} (hs : jsh Hs) (hok : p_ok ps) (h40 : ps.length ≤ 40) (hy : w_ty x.2.1 x.2.2) (hx : w_x o row s len x.2.1 x.2.2 x.1 Hs) (hC : w_CA cs Hs) (hA : p_PA ps Hs) (hM : b_MZ Hs)
    (hk : ∀ H', jsh H' → jfr p_TO Hs H' → b_MZ H' → p_PA (p_off ht cs ps x sent).2 H' → jT (k (p_off ht cs ps x sent).1 H') Q) : jT (jb (F_6_offer 414 o ht (p_ib sent) Hs) k) Q := by
  have k6 : ∀ {H}, jsh H → (jK H 414).1 = 6 := fun hs => gT (sK_414 hs)
  have h32 : x.1.length = 32 := hx.2.2.2.2.2.2.2.1
  have e7 := hx.2.2.2.2.2.2.2.2.2.1
  have bad : ∀ v H', v = p_code ht cs ps x sent → v ≠ 0 → jsh H' → jfr p_TO Hs H' → b_MZ H' → p_PA ps H' → jT (k v H') Q := fun v H' e h0 hs' hf' hM' hA' => by
    have := hk H' hs' hf' hM'
    unfold p_off at this
    rw [e] at h0
    rw [if_pos h0] at this
    rw [e]
    exact this hA'
  have out : ∀ v H', v = p_code ht cs ps x sent → v ≠ 0 → jsh H' → jfr p_TO Hs H' → b_MZ H' → p_PA ps H' → jT (B_6_offer_99 414 o v H') (fun v h => jT (k v h) Q) := fun v H' e h0 hs' hf' hM' hA' => by
    unfold B_6_offer_99 B_6_offer_113
    exact jT_pos h0 (jT_ret (bad v H' e h0 hs' hf' hM' hA'))
  unfold F_6_offer
  rw [w_x_fault hs hx hy]
  refine jT_b (jT_g hx.1.1 ?_)
  rw [jb_ok]
  by_cases c1 : p_flt x = 0
  · refine jT_neg (fun w => w c1) (jT_g hx.1.1 ?_)
    rw [e7]
    by_cases c2 : w_rt x.2.1 x.2.2 = 0
    · rw [z6_clash hs hA hok hy hx]
      refine jT_pos c2 (jT_g (k6 hs) ?_)
      rw [jb_ok]
      unfold B_6_offer_27 B_6_offer_29
      by_cases c3 : p_cls ps x = 0
      · refine jT_neg (fun w => w c3) (jT_g (k6 hs) ?_)
        refine z6_take (ht := ht) hs hok hy hx hC hA fun v H1 ev s1 f1 r1 => ?_
        have f1' : jfr p_TO Hs H1 := jfr_mono f1 fun a j w => by unfold p_T6 at w; unfold p_TO; omega
        have A1 := p_PA_6 hA f1
        have x1 := w_x_jfr hx f1 fun a j q w => by unfold p_T6 at w; omega
        have M1 : b_MZ H1 := b_MZ_fr hM s1 f1 fun a j w => by unfold p_T6 at w; omega
        unfold B_6_offer_42
        by_cases c4 : v = 0
        · obtain ⟨v9, vm⟩ := r1 c4
          have cj : p_jd ht cs ps x = 0 := ev ▸ c4
          -- behind the scripts
          have knot : ∀ H2, (sent = true → p_scr cs ps x ≠ none) → jsh H2 → jfr p_TO Hs H2 → b_MZ H2 → p_PA ps H2 → jL H2 414 9 = p_tt cs ps x x.2.2.1.length → jT (B_6_offer_87 414 o 0 H2) (fun v h => jT (k v h) Q) := fun H2 hsc s2 f2 M2 A2 v92 => by
            have x2 := w_x_jfr hx f2 fun a j q w => by unfold p_TO at w; omega
            have ec : p_code ht cs ps x sent = p_knt ps x := by
              unfold p_code
              rw [if_neg (fun w => w c1), if_neg (fun w => w c2), if_neg (fun w => w c3), if_neg (fun w => w cj), if_neg (fun w => hsc w.1 w.2)]
            unfold B_6_offer_87
            refine jT_neg (fun w => w rfl) (jT_g (k6 s2) ?_)
            refine z6_knot s2 hok A2 hy x2 (p_cls_0 c3) fun H3 s3 f3 => ?_
            have f3' : jfr p_TO Hs H3 := jfr_trans f2 (jfr_mono f3 fun a j w => by unfold p_T418 at w; unfold p_TO; omega)
            have A3 := p_PA_418 A2 f3
            have M3 : b_MZ H3 := b_MZ_fr M2 s3 f3 fun a j w => by unfold p_T418 at w; omega
            by_cases c5 : p_knt ps x = 0
            · have x3 := w_x_jfr hx f3' fun a j q w => by unfold p_TO at w; omega
              have v93 : jL H3 414 9 = p_tt cs ps x x.2.2.1.length := (jfr_L f3 (by unfold p_T418; decide)).trans v92
              rw [c5]
              refine z6_store (cs := cs) s3 hok h40 hy x3 A3 (p_cls_0 c3) v93 fun v H4 s4 f4 r4 => ?_
              have f4' : jfr p_TO Hs H4 := jfr_trans f3' (jfr_mono f4 fun a j w => by unfold p_TD at w; unfold p_TO; omega)
              have M4 : b_MZ H4 := b_MZ_fr M3 s4 f4 fun a j w => by unfold p_TD at w; omega
              have fin := hk H4 s4 f4' M4
              unfold p_off at fin
              rw [ec, c5, if_neg (fun w => w rfl)] at fin
              by_cases c6 : (ps ++ [p_new cs ps x]).length ≤ 40
              · rw [if_pos c6] at fin r4
                rw [r4.1]
                exact fin r4.2
              · rw [if_neg c6] at fin r4
                rw [r4.1]
                exact fin r4.2
            · exact out _ H3 ec.symm c5 s3 f3' M3 A3
          rw [c4]
          cases hsn : sent with
          | false => exact jT_neg (fun w => w rfl) (jT_pos rfl (knot H1 (fun w => by rw [hsn] at w; cases w) s1 f1' M1 A1 v9))
          | true =>
            rw [sR_414_1 s1]
            refine jT_neg (fun w => w rfl) (jT_neg (by decide) (jT_g (k6 s1) (jT_g (gT (sK_49 s1)) (jT_b ?_))))
            unfold F_7_begin
            refine jT_g (gT (sK_49 s1)) (jT_l ?_)
            have s2 : jsh (jsI H1 49 7 8) := jsh_sI s1 (by decide)
            refine jT_g (gT (sK_49 s2)) (jT_l (jT_ret ?_))
            have s3 : jsh (jsI (jsI H1 49 7 8) 49 6 0) := jsh_sI s2 (by decide)
            have g3 : jfr (fun a j => a = 49 ∧ (j = 6 ∨ j = 7)) H1 (jsI (jsI H1 49 7 8) 49 6 0) := jfr_sI (jfr_sI jfr_refl ⟨rfl, Or.inr rfl⟩) ⟨rfl, Or.inl rfl⟩
            have w6 : jI (jsI (jsI H1 49 7 8) 49 6 0) 49 6 = Int32.ofNat 0 := jI_sIe
            have w7 : jI (jsI (jsI H1 49 7 8) 49 6 0) 49 7 = Int32.ofNat 8 := (jI_sIn (by decide)).trans jI_sIe
            generalize jsI (jsI H1 49 7 8) 49 6 0 = H3 at *
            have x3 := w_x_jfr x1 g3 fun a j q w => by omega
            have M3 : b_MZ H3 := b_MZ_fr M1 s3 g3 fun a j w => by omega
            have f3 : jfr p_TO Hs H3 := jfr_trans f1' (jfr_mono g3 fun a j w => by unfold p_TO; omega)
            have A3 : p_PA ps H3 := p_PA_fr A1 g3 fun a j w => by omega
            have m3 : ∀ j, j < x.2.2.1.length → p_mkr cs ps x H3 j := fun j hj => by
              obtain ⟨q, q1, q2, q3, r', s', l', q4⟩ := vm j hj
              refine ⟨q, q1, q2, (jfr_I g3 (by omega)).trans q3, r', s', l', ?_⟩
              rw [jfr_R g3 (by omega)]
              exact w_x_jfr q4 g3 fun a j q w => by omega
            rw [sR_414_1 s3, sR_414_7 s3, sR_414_8 s3]
            refine jT_g (k6 s3) (jT_g (k6 s3) (jT_g (k6 s3) (jT_g (gT (sK_49 s3)) ?_)))
            have hJ : w_J o 419 420 x.2.1 x.2.2 (p_lks cs ps x) 8 0 H3 := ⟨M3.1, M3.2, w6, w7, p_J2_of s3 hy x3 m3⟩
            have v93 : jL H3 414 9 = p_tt cs ps x x.2.2.1.length := (jfr_L g3 (by omega)).trans v9
            unfold B_6_offer_85
            refine z7_pass (fit := b_fit x.2.1 x.2.2 (p_lks cs ps x)) (fun i sg ky => b_fit_ok i sg ky) (by decide) hJ (Nat.zero_le _) (fun tn' H4 _ ew J4 f4 => ?_) fun H4 ew hM4 hz4 f4 => ?_
            · have s4 : jsh H4 := J4.1.choose_spec.choose_spec.1
              have f4' : jfr p_TO Hs H4 := jfr_trans f3 (jfr_mono f4 fun a j w => by unfold w_FC at w; unfold p_TO; omega)
              exact jT_neg (by decide) (knot H4 (fun _ w => by unfold p_scr at w; rw [Nat.sub_zero, w] at ew; cases ew) s4 f4' ⟨J4.1, J4.2.1⟩ (p_PA_fr A3 f4 fun a j w => by unfold w_FC at w; omega) ((jfr_L f4 (by unfold w_FC; omega)).trans v93))
            · have s4 : jsh H4 := hM4.choose_spec.choose_spec.1
              have f4' : jfr p_TO Hs H4 := jfr_trans f3 (jfr_mono f4 fun a j w => by unfold w_FC at w; unfold p_TO; omega)
              have ec : (10 : Int32) = p_code ht cs ps x sent := by
                unfold p_code
                rw [if_neg (fun w => w c1), if_neg (fun w => w c2), if_neg (fun w => w c3), if_neg (fun w => w cj), if_pos ⟨hsn, ew⟩]
              unfold B_6_offer_87
              exact jT_pos rfl (jT_pos (by decide) (out 10 H4 ec (by decide) s4 f4' ⟨hM4, hz4⟩ (p_PA_fr A3 f4 fun a j w => by unfold w_FC at w; omega)))
        · have ec : v = p_code ht cs ps x sent := by
            unfold p_code
            rw [if_neg (fun w => w c1), if_neg (fun w => w c2), if_neg (fun w => w c3), ← ev, if_pos c4]
          unfold B_6_offer_87
          exact jT_pos c4 (jT_pos c4 (out v H1 ec c4 s1 f1' M1 A1))
      · have ec : p_cls ps x = p_code ht cs ps x sent := by
          unfold p_code
          rw [if_neg (fun w => w c1), if_neg (fun w => w c2), if_pos c3]
        unfold B_6_offer_42 B_6_offer_87
        exact jT_pos c3 (jT_pos c3 (jT_pos c3 (out _ Hs ec c3 hs jfr_refl hM hA)))
    · have ec : (5 : Int32) = p_code ht cs ps x sent := by
        unfold p_code
        rw [if_neg (fun w => w c1), if_pos c2]
      unfold B_6_offer_27 B_6_offer_29 B_6_offer_42 B_6_offer_87
      exact jT_neg c2 (jT_pos (by decide) (jT_pos (by decide) (jT_pos (by decide) (out 5 Hs ec (by decide) hs jfr_refl hM hA))))
  · have ec : p_flt x = p_code ht cs ps x sent := by
      unfold p_code
      rw [if_pos c1]
    unfold B_6_offer_29 B_6_offer_42 B_6_offer_87
    exact jT_pos c1 (jT_pos c1 (jT_pos c1 (jT_pos c1 (out _ Hs ec c1 hs jfr_refl hM hA))))
end OF6
