/-! The pool is made anew: as a function; the class. -/
/-- transactions come, one behind the other -/
noncomputable def p_ren (ht : Int32) (cs : List w_cn) : List b_t → List p_e → List p_e
  | [], ps => ps
  | x :: r, ps => p_ren ht cs r (p_off ht cs ps x false).2
/-- those of the blocks that were left -/
def p_lf (bs : List b_k) (old : Nat) : Nat → Nat → List b_t
  | _, 0 => []
  | h, d + 1 => (b_tx bs (b_at bs old h)).drop 1 ++ p_lf bs old (h + 1) d
noncomputable def p_anew (ht : Int32) (cs : List w_cn) (bs : List b_k) (old f : Nat) (ps : List p_e) : List p_e := p_ren ht cs (p_lf bs old (f + 1) (b_ht bs old - f) ++ ps.map fun e => e.1) []
theorem p_ren_app {ht : Int32} {cs : List w_cn} : ∀ {l r : List b_t} {ps : List p_e}, p_ren ht cs (l ++ r) ps = p_ren ht cs r (p_ren ht cs l ps)
  | [], r, ps => rfl
  | x :: l, r, ps => p_ren_app (l := l) (r := r)
def p_okh (ps : List p_e) : Prop := ∀ (k : Nat) (e : p_e), ps[k]? = some e → e.1.1 = b_hs e.1.2.1 ∧ e.1.2.1.length ≤ 1999
/-- all that holds of those that wait -/
def p_all (ps : List p_e) : Prop := p_ok ps ∧ ps.length ≤ 40 ∧ p_okv ps ∧ p_okh ps
def p_tok (x : b_t) : Prop := w_ty x.2.1 x.2.2 ∧ x.1 = b_hs x.2.1 ∧ x.2.1.length ≤ 1999
theorem p_all_nil : p_all [] := ⟨⟨by decide, fun k e h => (by cases h), fun i j e f h => (by cases h)⟩, by decide, fun k e h => (by cases h), fun k e h => (by cases h)⟩
theorem p_off_all {ht : Int32} {cs : List w_cn} {ps : List p_e} {x : b_t} {sent : Bool} (h : p_all ps) (hx : p_tok x) : p_all (p_off ht cs ps x sent).2 := by
  obtain ⟨h1, h2, h3, h4⟩ := h
  have h32 : x.1.length = 32 := by rw [hx.2.1]; exact b_hs_len
  obtain ⟨q1, q2, q3⟩ := p_off_ok (ht := ht) (cs := cs) (sent := sent) h1 h2 h3 hx.1 h32
  refine ⟨q1, q2, q3, ?_⟩
  have ok2 : p_okh (ps ++ [p_new cs ps x]) := fun k e hk => by
    rcases List.mem_append.mp (List.mem_of_getElem? hk) with q | q
    · obtain ⟨j, hj⟩ := List.getElem?_of_mem q
      exact h4 j e hj
    · rcases List.mem_singleton.mp q with rfl
      exact hx.2
  unfold p_off
  split
  · exact h4
  · split
    · exact ok2
    · intro k e hk
      obtain ⟨j, -, q, -⟩ := p_kp_at hk
      exact ok2 j e q
theorem p_ren_all {ht : Int32} {cs : List w_cn} : ∀ {l : List b_t} {ps : List p_e}, p_all ps → (∀ x ∈ l, p_tok x) → p_all (p_ren ht cs l ps)
  | [], _, h, _ => h
  | x :: l, ps, h, hl => p_ren_all (l := l) (p_off_all h (hl x (List.mem_cons_self ..))) fun z hz => hl z (List.mem_cons_of_mem _ hz)
/-- of known blocks -/
def p_bok (bs : List b_k) : Prop := ∀ k, k < bs.length → ∀ x ∈ b_tx bs k, p_tok x
theorem p_lf_tok {bs : List b_k} {old : Nat} (hw : b_wf bs) (hb : p_bok bs) (ho : old < bs.length) : ∀ {d h : Nat}, ∀ x ∈ p_lf bs old h d, p_tok x
  | 0, _, x, hx => by cases hx
  | d + 1, h, x, hx => by
    unfold p_lf at hx
    rcases List.mem_append.mp hx with q | q
    · exact hb _ (b_at_lt hw ho) x (List.mem_of_mem_drop q)
    · exact p_lf_tok hw hb ho x q
theorem p_map_tok {ps : List p_e} (h : p_all ps) : ∀ x ∈ ps.map (fun e => e.1), p_tok x := fun x hx => by
  obtain ⟨e, he, rfl⟩ := List.mem_map.mp hx
  obtain ⟨k, hk⟩ := List.getElem?_of_mem he
  exact ⟨(h.1.2.1 k e hk).1, h.2.2.2 k e hk⟩
def p_TN : Nat → Nat → Prop := fun a j => p_TO a j ∨ a = 417
theorem jRs_417 : ∀ q ∈ jRs, q.1 ≠ 417 := by decide +kernel
theorem jsh_cpR {H : jH} {a sp b dp n : Nat} (h : jsh H) (hb : ∀ q ∈ jRs, q.1 ≠ b) : jsh (jcpR H a sp b dp n) := ⟨h.1, h.2.1, h.2.2.1, fun q hq hN => (jcpf_ne fun w => hb q hq w.1).trans (h.2.2.2.1 q hq hN), h.2.2.2.2⟩
section AN6
variable {α : Type} {bs : List b_k} {os : List Nat} {nb old f : Nat} {cs : List w_cn} {ps0 : List p_e} {Hs : jH} {ht : Int32} {Q : α → jH → Prop}
/-- what stays while they come -/
def p_an6 (nb : Nat) (bs : List b_k) (os : List Nat) (old f : Nat) (cs : List w_cn) (ps0 : List p_e) (H : jH) : Prop :=
  jsh H ∧ b_BC nb bs os H ∧ b_LF bs os old f H ∧ w_CA cs H ∧ b_MZ H ∧ ∀ (k : Nat) (e : p_e), ps0[k]? = some e → ∃ row s len, w_x (jR H 417 k) row s len e.1.2.1 e.1.2.2 e.1.1 H
theorem p_an6_fr {H H' : jH} (h : p_an6 nb bs os old f cs ps0 H) (hs : jsh H') (hf : jfr p_TO H H') (hM : b_MZ H') : p_an6 nb bs os old f cs ps0 H' := by
  obtain ⟨-, h1, h2, h3, -, h5⟩ := h
  refine ⟨hs, b_BC_fr h1 hf fun a j w => by unfold p_TO at w; omega, ⟨(jfr_I hf (by unfold p_TO; omega)).trans h2.1, fun i hi => (jfr_R hf (by unfold p_TO; omega)).trans (h2.2 i hi)⟩, w_CA_fr h3 hf fun a j w => by unfold p_TO at w; omega, hM, fun k e hk => ?_⟩
  obtain ⟨row, s, len, hx⟩ := h5 k e hk
  rw [jfr_R hf (by unfold p_TO; omega)]
  exact ⟨row, s, len, w_x_jfr hx hf fun a j q w => by unfold p_TO at w; omega⟩
theorem z6_anew90 {R : Unit → jH → Prop} {P : List p_e} (h0 : p_all ps0) (hk : ∀ H', jsh H' → jfr p_TO Hs H' → b_MZ H' → p_PA P H' → R () H') :
    ∀ (d i fu : Nat) (ps : List p_e) (H : jH), i + d = ps0.length → d < fu → p_an6 nb bs os old f cs ps0 H → jfr p_TO Hs H → p_all ps → p_PA ps H → p_ren ht cs ((ps0.drop i).map fun e => e.1) ps = P → jT (F_6_makeAnew_90 fu 414 ht (Int32.ofNat ps0.length) (Int32.ofNat i) H) R := by
  have l40 := h0.2.1
  have k6 : ∀ {H}, jsh H → (jK H 414).1 = 6 := fun hs => gT (sK_414 hs)
  intro d
  induction d with
  | zero =>
    intro i fu ps H hl hfu hN hf hp hA hP
    obtain ⟨fu, rfl⟩ : ∃ k, fu = k + 1 := ⟨fu - 1, by omega⟩
    rw [List.drop_eq_nil_of_le (by omega)] at hP
    have hP' : ps = P := hP
    unfold F_6_makeAnew_90 B_6_makeAnew_90
    exact jT_pos (by rw [jo_le (by omega) (by omega)]; omega) (jT_ret (hk H hN.1 hf hN.2.2.2.2.1 (hP' ▸ hA)))
  | succ d ih =>
    intro i fu ps H hl hfu hN hf hp hA hP
    obtain ⟨fu, rfl⟩ : ∃ k, fu = k + 1 := ⟨fu - 1, by omega⟩
    have hi : i < ps0.length := by omega
    have hg := List.getElem?_eq_getElem hi
    have hs := hN.1
    obtain ⟨row, s, len, hx⟩ := hN.2.2.2.2.2 i _ hg
    have hty := (h0.1.2.1 i _ hg).1
    have e1 : Int32.ofNat i + 1 = Int32.ofNat (i + 1) := jo_add (a := i) (b := 1)
    rw [List.drop_eq_getElem_cons hi, List.map_cons, p_ren] at hP
    unfold F_6_makeAnew_90 B_6_makeAnew_90
    rw [sR_414_5 hs, jo_nat (n := i) (by omega), e1]
    refine jT_neg (by rw [jo_le (by omega) (by omega)]; omega) (jT_g (k6 hs) (jT_g (gA (sK_417 hs) (jo_in (by omega) (by omega))) (jT_g (k6 hs) ?_)))
    refine z6_offer (x := (ps0[i]).1) (ht := ht) (sent := false) hs hp.1 hp.2.1 hty hx hN.2.2.2.1 hA hN.2.2.2.2.1 fun H1 s1 f1 M1 A1 => ?_
    exact jT_l (ih (i + 1) fu _ H1 (by omega) (by omega) (p_an6_fr hN s1 f1 M1) (jfr_trans hf f1) (p_off_all hp ⟨hty, h0.2.2.2 i _ hg⟩) A1 hP)
theorem z6_anew45 {R : Unit → jH → Prop} {k29 : Nat → Nat → Int32 → Int32 → Int32 → Int32 → jH → Option (Unit × jH)} {P : List p_e} {w : Int32} {i : Nat} (hw : b_wf bs) (hb : p_bok bs) (ho : old < bs.length) (hof : f ≤ b_ht bs old) (hi : i < b_ht bs old - f)
    (hk : ∀ H' ps', p_an6 nb bs os old f cs ps0 H' → jfr p_TO Hs H' → p_all ps' → p_PA ps' H' → ps' = P → jT (k29 414 402 (Int32.ofNat (b_ht bs old - f)) ht w (Int32.ofNat (i + 1)) H') R) :
    ∀ (d j fu : Nat) (ps : List p_e) (H : jH), j + d = (b_tx bs (b_at bs old (f + 1 + i))).length → d < fu → p_an6 nb bs os old f cs ps0 H → jfr p_TO Hs H → p_all ps → p_PA ps H → p_ren ht cs ((b_tx bs (b_at bs old (f + 1 + i))).drop j) ps = P → jT (F_6_makeAnew_45 k29 fu 414 402 (Int32.ofNat (b_ht bs old - f)) ht w (Int32.ofNat i) (Int32.ofNat j) H) R := by
  have k6 : ∀ {H}, jsh H → (jK H 414).1 = 6 := fun hs => gT (sK_414 hs)
  have lt := b_at_lt (h := f + 1 + i) hw ho
  have l3 := b_ht_300 hw ho
  have l12 : (b_tx bs (b_at bs old (f + 1 + i))).length ≤ 12 := by
    have hat := b_at_ok hw ho (show f + 1 + i ≤ b_ht bs old by omega)
    have h1 := b_ht_pos hw lt (by rw [hat.2.1]; omega)
    exact (hw.2.2.2.2 _ h1 lt).2.2.1.2.2.1
  intro d
  induction d with
  | zero =>
    intro j fu ps H hl hfu hN hf hp hA hP
    obtain ⟨fu, rfl⟩ : ∃ k, fu = k + 1 := ⟨fu - 1, by omega⟩
    have hs := hN.1
    obtain ⟨-, hbx⟩ := hN.2.1.2.2.2.2 _ lt
    have eL := hN.2.2.1.2 i hi
    have ka : jK H (jR H (b_o os (b_at bs old (f + 1 + i))) 4) = (113, (b_tx bs (b_at bs old (f + 1 + i))).length) := hbx.2.1.1
    have e1 : Int32.ofNat i + 1 = Int32.ofNat (i + 1) := jo_add (a := i) (b := 1)
    rw [List.drop_eq_nil_of_le (by omega)] at hP
    unfold F_6_makeAnew_45 B_6_makeAnew_45
    rw [jo_nat (n := i) (by omega), eL, ka, e1]
    exact jT_g (gA (sK_402 hs) (jo_in (by omega) (by omega))) (jT_g hbx.1.1 (jT_g rfl (jT_pos (by show Int32.ofNat _ ≤ Int32.ofNat _; rw [jo_le (by omega) (by omega)]; omega) (jT_l (hk H ps hN hf hp hA hP)))))
  | succ d ih =>
    intro j fu ps H hl hfu hN hf hp hA hP
    obtain ⟨fu, rfl⟩ : ∃ k, fu = k + 1 := ⟨fu - 1, by omega⟩
    have hs := hN.1
    have hj : j < (b_tx bs (b_at bs old (f + 1 + i))).length := by omega
    have hg := List.getElem?_eq_getElem hj
    obtain ⟨-, hbx⟩ := hN.2.1.2.2.2.2 _ lt
    have eL := hN.2.2.1.2 i hi
    have ka : jK H (jR H (b_o os (b_at bs old (f + 1 + i))) 4) = (113, (b_tx bs (b_at bs old (f + 1 + i))).length) := hbx.2.1.1
    obtain ⟨row, s, len, hx, -⟩ := hbx.2.1.2.2 j _ hg
    have htk := hb _ lt _ (List.getElem_mem hj)
    have e1 : Int32.ofNat j + 1 = Int32.ofNat (j + 1) := jo_add (a := j) (b := 1)
    rw [List.drop_eq_getElem_cons hj, p_ren] at hP
    unfold F_6_makeAnew_45 B_6_makeAnew_45
    rw [jo_nat (n := i) (by omega), eL, ka, jo_nat (n := j) (by omega), e1]
    refine jT_g (gA (sK_402 hs) (jo_in (by omega) (by omega))) (jT_g hbx.1.1 (jT_g rfl (jT_neg (by show ¬ Int32.ofNat _ ≤ Int32.ofNat _; rw [jo_le (by omega) (by omega)]; omega) (jT_g (gA (sK_402 hs) (jo_in (by omega) (by omega))) (jT_g hbx.1.1 (jT_g ⟨rfl, jo_in (by omega) hj⟩ (jT_g (k6 hs) ?_)))))))
    refine z6_offer (x := (b_tx bs (b_at bs old (f + 1 + i)))[j]) (ht := ht) (sent := false) hs hp.1 hp.2.1 htk.1 hx hN.2.2.2.1 hA hN.2.2.2.2.1 fun H1 s1 f1 M1 A1 => ?_
    exact jT_l (ih (j + 1) fu _ H1 (by omega) (by omega) (p_an6_fr hN s1 f1 M1) (jfr_trans hf f1) (p_off_all hp htk) A1 hP)
theorem z6_anew29 {R : Unit → jH → Prop} {P : List p_e} (h0 : p_all ps0) (hw : b_wf bs) (hb : p_bok bs) (ho : old < bs.length) (hof : f ≤ b_ht bs old) (hk : ∀ H', jsh H' → jfr p_TO Hs H' → b_MZ H' → p_PA P H' → R () H') :
    ∀ (d i fu : Nat) (ps : List p_e) (H : jH), i + d = b_ht bs old - f → d < fu → p_an6 nb bs os old f cs ps0 H → jfr p_TO Hs H → p_all ps → p_PA ps H → p_ren ht cs (p_lf bs old (f + 1 + i) d ++ ps0.map fun e => e.1) ps = P → jT (F_6_makeAnew_29 fu 414 402 (Int32.ofNat (b_ht bs old - f)) ht (Int32.ofNat ps0.length) (Int32.ofNat i) H) R := by
  have l40 := h0.2.1
  have l3 := b_ht_300 hw ho
  intro d
  induction d with
  | zero =>
    intro i fu ps H hl hfu hN hf hp hA hP
    obtain ⟨fu, rfl⟩ : ∃ k, fu = k + 1 := ⟨fu - 1, by omega⟩
    unfold F_6_makeAnew_29 B_6_makeAnew_29 B_6_makeAnew_87
    refine jT_pos (by rw [jo_le (by omega) (by omega)]; omega) ?_
    exact z6_anew90 (Hs := Hs) (nb := nb) (bs := bs) (os := os) (old := old) (f := f) h0 hk ps0.length 0 jfuel ps H (Nat.zero_add _) (by unfold jfuel; omega) hN hf hp hA hP
  | succ d ih =>
    intro i fu ps H hl hfu hN hf hp hA hP
    obtain ⟨fu, rfl⟩ : ∃ k, fu = k + 1 := ⟨fu - 1, by omega⟩
    have hi : i < b_ht bs old - f := by omega
    have hs := hN.1
    have lt := b_at_lt (h := f + 1 + i) hw ho
    have hat := b_at_ok hw ho (show f + 1 + i ≤ b_ht bs old by omega)
    have h1 := b_ht_pos hw lt (by rw [hat.2.1]; omega)
    have hwk := hw.2.2.2.2 _ h1 lt
    have l12 := hwk.2.2.1.2.2.1
    have ne := hwk.2.2.2.2
    have lpos : 1 ≤ (b_tx bs (b_at bs old (f + 1 + i))).length := by
      cases hq : b_tx bs (b_at bs old (f + 1 + i)) with
      | nil => exact absurd hq ne
      | cons a b => exact Nat.succ_le_succ (Nat.zero_le _)
    rw [p_lf, List.append_assoc, p_ren_app] at hP
    unfold F_6_makeAnew_29 B_6_makeAnew_29
    rw [sK_402 hs]
    refine jT_neg (by rw [jo_le (by omega) (by omega)]; omega) (jT_g rfl (jT_neg (by show ¬ Int32.ofNat 300 ≤ Int32.ofNat i; rw [jo_le (by decide) (by omega)]; omega) ?_))
    refine z6_anew45 (Hs := Hs) (nb := nb) (bs := bs) (os := os) (old := old) (f := f) (cs := cs) (ps0 := ps0) (ht := ht) (w := Int32.ofNat ps0.length) hw hb ho hof hi (fun H' ps' hN' hf' hp' hA' hP' => ?_) ((b_tx bs (b_at bs old (f + 1 + i))).length - 1) 1 jfuel ps H (by omega) (by unfold jfuel; omega) hN hf hp hA rfl
    refine ih (i + 1) fu ps' H' (by omega) (by omega) hN' hf' hp' hA' ?_
    rw [hP']
    exact hP
theorem z6_makeAnew {k : Unit → jH → Option (α × jH)} (h0 : p_all ps0) (hw : b_wf bs) (hb : p_bok bs) (ho : old < bs.length) (hof : f ≤ b_ht bs old) (hs : jsh Hs) (hB : b_BC nb bs os Hs) (hLF : b_LF bs os old f Hs) (hC : w_CA cs Hs) (hM : b_MZ Hs) (hA : p_PA ps0 Hs)
    (hk : ∀ H', jsh H' → jfr p_TN Hs H' → b_MZ H' → p_PA (p_anew ht cs bs old f ps0) H' → jT (k () H') Q) : jT (jb (F_6_makeAnew 414 402 (Int32.ofNat (b_ht bs old - f)) ht Hs) k) Q := by
  have l40 := h0.2.1
  have l3 := b_ht_300 hw ho
  have k6 : ∀ {H}, jsh H → (jK H 414).1 = 6 := fun hs => gT (sK_414 hs)
  unfold F_6_makeAnew
  rw [hA.1, sR_414_2 hs, sR_414_5 hs]
  refine jT_b (jT_g (k6 hs) (jT_l (jT_g (k6 hs) (jT_g (k6 hs) (jT_g ?_ (jT_l ?_))))))
  · have z0 : (0 : Int32).toInt = 0 := rfl
    refine ⟨⟨gT (sK_415 hs), gT (sK_417 hs), (show 31 ≤ 417 by decide), by decide, by decide, ?_, ?_, ?_⟩, fun k hk => ?_⟩
    · rw [jo_int (by omega)]
      omega
    · rw [jo_int (by omega), sK_415 hs, z0]
      show (0 : Int) + ps0.length ≤ ((41 : Nat) : Int)
      omega
    · rw [jo_int (by omega), sK_417 hs, z0]
      show (0 : Int) + ps0.length ≤ ((41 : Nat) : Int)
      omega
    · rw [jo_nat (by omega)] at hk
      obtain ⟨⟨row, s, len, hx⟩, -⟩ := hA.2 k _ (p_g_at hk)
      have e0 : (0 : Int32).toNatClampNeg + k = k := Nat.zero_add k
      rw [e0]
      exact Or.inr hx.1.1
  · rw [jo_nat (n := ps0.length) (by omega), show (0 : Int32).toNatClampNeg = 0 from rfl]
    have s1 : jsh (jcpR Hs 415 0 417 0 ps0.length) := jsh_cpR hs jRs_417
    have f1 : jfr (fun a _ => a = 417) Hs (jcpR Hs 415 0 417 0 ps0.length) := jfr_cpR jfr_refl fun j _ _ => rfl
    have r1 : ∀ k, k < ps0.length → jR (jcpR Hs 415 0 417 0 ps0.length) 417 k = jR Hs 415 k := fun k hk => by
      have : jR (jcpR Hs 415 0 417 0 ps0.length) 417 k = jR Hs 415 (0 + (k - 0)) := jcpf_in (Nat.zero_le k) (by omega)
      rw [this, Nat.sub_zero, Nat.zero_add]
    generalize jcpR Hs 415 0 417 0 ps0.length = H1 at *
    refine jT_g (k6 s1) (jT_l ?_)
    have s2 : jsh (jsI H1 414 4 0) := jsh_sI s1 (by decide)
    have f2 : jfr (fun a j => a = 417 ∨ (a = 414 ∧ j = 4)) Hs (jsI H1 414 4 0) := jfr_sI (jfr_mono f1 fun a j w => Or.inl w) (Or.inr ⟨rfl, rfl⟩)
    have r2 : ∀ k, k < ps0.length → jR (jsI H1 414 4 0) 417 k = jR Hs 415 k := r1
    have v4 : jI (jsI H1 414 4 0) 414 4 = 0 := jI_sIe
    generalize jsI H1 414 4 0 = H2 at *
    have N2 : p_an6 nb bs os old f cs ps0 H2 := by
      refine ⟨s2, b_BC_fr hB f2 fun a j w => by omega, ⟨(jfr_I f2 (by omega)).trans hLF.1, fun i hi => (jfr_R f2 (by omega)).trans (hLF.2 i hi)⟩, w_CA_fr hC f2 fun a j w => by omega, b_MZ_fr hM s2 f2 fun a j w => by omega, fun k e hk => ?_⟩
      obtain ⟨⟨row, s, len, hx⟩, -⟩ := hA.2 k e hk
      rw [r2 k (List.getElem?_eq_some_iff.mp hk).1]
      exact ⟨row, s, len, w_x_jfr hx f2 fun a j q w => by omega⟩
    exact z6_anew29 (R := fun v h => jT (k v h) Q) (Hs := H2) (P := p_anew ht cs bs old f ps0) h0 hw hb ho hof (fun H' s' f' M' A' => hk H' s' (jfr_trans (jfr_mono f2 fun a j w => by unfold p_TN p_TO; omega) (jfr_mono f' fun a j w => Or.inl w)) M' A') (b_ht bs old - f) 0 jfuel [] H2 (Nat.zero_add _) (by unfold jfuel; omega) N2 jfr_refl p_all_nil ⟨v4, fun k e hk => by cases hk⟩ rfl
end AN6
