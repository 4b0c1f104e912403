/-! What there is not is asked for; both. -/
def p_lac (bs : List b_k) (ps : List p_e) (m : List UInt8) (k : Nat) : Prop := if (m.getD (2 + 33 * k) 0).toNat = 1 then p_fi ps (p_nm33 m k) = none else b_kn bs (p_nm33 m k) = none
noncomputable def p_wtl (bs : List b_k) (ps : List p_e) (m : List UInt8) : Nat → Nat → List UInt8
  | 0, _ => []
  | d + 1, i => b_if (p_lac bs ps m i) (w_sl m (2 + 33 * i) 33) [] ++ p_wtl bs ps m d (i + 1)
noncomputable def p_wtn (bs : List b_k) (ps : List p_e) (m : List UInt8) : Nat → Nat → Nat
  | 0, _ => 0
  | d + 1, i => b_if (p_lac bs ps m i) 1 0 + p_wtn bs ps m d (i + 1)
noncomputable def p_wtm (bs : List b_k) (ps : List p_e) (m : List UInt8) : List UInt8 := [jbu (ji2b 4)] ++ [jbu (ji2b (Int32.ofNat (p_wtn bs ps m (m.getD 1 0).toNat 0)))] ++ p_wtl bs ps m (m.getD 1 0).toNat 0
noncomputable def p_wtb (bs : List b_k) (ps : List p_e) (m : List UInt8) (p : Nat) (bxs : Nat → List UInt8) : Nat → List UInt8 := if p_wtn bs ps m (m.getD 1 0).toNat 0 = 0 then bxs else p_bx1 bxs p (p_wtm bs ps m)
section WANT
variable {α : Type} {R : α → jH → Prop} {k : Unit → jH → Option (α × jH)} {bs : List b_k} {os : List Nat} {ps : List p_e} {nb p r : Nat} {H0 : jH} {m : List UInt8} {bxs : Nat → List UInt8}
theorem z11_want30 {Q : Unit → jH → Prop} (hw : b_wf bs) (hps : p_all ps) (hB0 : b_BC nb bs os H0) (hA0 : p_PA ps H0) (hp : p < 4) (hb0 : p_b11 bxs H0) (hr : jK H0 r = (101, m.length)) (hr5 : 422 ≤ r) (hz0 : zRow H0 r 0 m) (hisl : p_isl m 1 8 33)
    (hk : ∀ H', jsh H' → p_b11 (p_wtb bs ps m p bxs) H' → jfr zTS11 H0 H' → Q () H') :
    ∀ (d i fu c : Nat) (ns : List UInt8) (H : jH), i + d = (m.getD 1 0).toNat → d < fu → jsh H → jfr zS11 H0 H → zM11 ([jbu (ji2b 4)] ++ [jbu (ji2b 0)] ++ ns) H → ns.length = 33 * c → c ≤ i → c + p_wtn bs ps m d i = p_wtn bs ps m (m.getD 1 0).toNat 0 → ns ++ p_wtl bs ps m d i = p_wtl bs ps m (m.getD 1 0).toNat 0 → jT (F_11_answerIHave_30 fu 32 (Int32.ofNat p) r (Int32.ofNat c) (Int32.ofNat (2 + 33 * i)) H) Q := by
  have k11 : ∀ {H}, jsh H → (jK H 32).1 = 11 := fun hs => gT (sK_32 hs)
  have lm : m.length = 2 + 33 * (m.getD 1 0).toNat := hisl.2.2.2.1
  have l8 : (m.getD 1 0).toNat ≤ 8 := hisl.2.2.1
  have l300 := hw.2.1
  have e32 : ∀ i : Nat, Int32.ofNat (2 + 33 * i) + 32 = Int32.ofNat (34 + 33 * i) := fun i => by
    rw [show (32 : Int32) = Int32.ofNat 32 from rfl, jo_add]
    congr 1
    omega
  intro d
  induction d with
  | zero =>
    intro i fu c ns H hl hfu hs hf hm hn hc en es
    obtain ⟨fu, rfl⟩ : ∃ k, fu = k + 1 := ⟨fu - 1, by omega⟩
    have kr : jK H r = (101, m.length) := by rw [jfr_K hf]; exact hr
    have en' : c = p_wtn bs ps m (m.getD 1 0).toNat 0 := en
    have es' : ns = p_wtl bs ps m (m.getD 1 0).toNat 0 := by rw [← es]; exact (List.append_nil _).symm
    unfold F_11_answerIHave_30 B_11_answerIHave_30 B_11_answerIHave_133
    rw [kr, e32, sR_32_7 hs]
    refine jT_g rfl (jT_pos (by show Int32.ofNat m.length ≤ _; rw [jo_le (by omega) (by omega)]; omega) (jT_g (k11 hs) (jT_g (gA (sK_42 hs) (jo_in (n := 1) (by decide) (by decide))) (jT_l ?_))))
    rw [show (1 : Int32).toNatClampNeg = 1 from rfl]
    have s1 : jsh (jsB H 42 1 (jbu (ji2b (Int32.ofNat c)))) := jsh_sB hs
    have m1 := p_set11 (w := jbu (ji2b (Int32.ofNat c))) hm
    have f1 : jfr zS11 H0 (jsB H 42 1 (jbu (ji2b (Int32.ofNat c)))) := jfr_sB hf (Or.inr rfl)
    generalize jsB H 42 1 (jbu (ji2b (Int32.ofNat c))) = H1 at *
    have b1 : p_b11 bxs H1 := p_b11_fr hb0 f1 fun a j w => by unfold zS11 at w; omega
    by_cases c0 : c = 0
    · refine jT_pos (by rw [c0]; decide) (jT_ret (hk H1 s1 ?_ (jfr_mono f1 fun a j w => Or.inl w)))
      unfold p_wtb
      rw [← en', if_pos c0]
      exact b1
    · refine jT_neg (by rw [show (0 : Int32) = Int32.ofNat 0 from rfl, jo_le (by omega) (by decide)]; omega) (jT_g (k11 s1) ?_)
      have em : [jbu (ji2b 4)] ++ [jbu (ji2b (Int32.ofNat c))] ++ ns = p_wtm bs ps m := by
        unfold p_wtm
        rw [en', es']
      rw [em] at m1
      have elen : (p_wtm bs ps m).length ≤ 2000 := by
        rw [← em, List.length_append, List.length_append, hn]
        show 1 + 1 + 33 * c ≤ 2000
        omega
      refine p_post11 s1 hp m1 elen b1 fun H2 s2 b2 f2 => jT_ret (hk H2 s2 ?_ (jfr_trans (jfr_mono f1 fun a j w => Or.inl w) f2))
      unfold p_wtb
      rw [← en', if_neg c0]
      exact b2
  | succ d ih =>
    intro i fu c ns H hl hfu hs hf hm hn hc en es
    obtain ⟨fu, rfl⟩ : ∃ k, fu = k + 1 := ⟨fu - 1, by omega⟩
    have kr : jK H r = (101, m.length) := by rw [jfr_K hf]; exact hr
    have hz : zRow H r 0 m := zRow_eq hz0 fun j _ => jfr_B hf fun w => by unfold zS11 at w; omega
    have hB := b_BC_fr hB0 hf fun a j w => by unfold zS11 at w; omega
    have hA := p_PA_fr hA0 hf fun a j w => by unfold zS11 at w; omega
    obtain ⟨-, -, h12⟩ := p_isl33 hisl (show i < (m.getD 1 0).toNat by omega)
    have eb : jB H r (2 + 33 * i) = m.getD (2 + 33 * i) 0 := by
      have := hz (2 + 33 * i) _ (getD_of (by omega))
      rwa [Nat.zero_add] at this
    have zn : zRow H r (3 + 33 * i) (p_nm33 m i) := w_sl_row hz (Nat.zero_add _).symm
    have ln : (p_nm33 m i).length = 32 := w_sl_len (by omega)
    have z33 : zRow H r (2 + 33 * i) (w_sl m (2 + 33 * i) 33) := w_sl_row hz (Nat.zero_add _).symm
    have l33 : (w_sl m (2 + 33 * i) 33).length = 33 := w_sl_len (by omega)
    have e1 : Int32.ofNat (2 + 33 * i) + 1 = Int32.ofNat (3 + 33 * i) := by
      rw [show (1 : Int32) = Int32.ofNat 1 from rfl, jo_add]
      congr 1
      omega
    have e33 : Int32.ofNat (2 + 33 * i) + 33 = Int32.ofNat (2 + 33 * (i + 1)) := by
      rw [show (33 : Int32) = Int32.ofNat 33 from rfl, jo_add]
      congr 1
    have e1c : Int32.ofNat c + 1 = Int32.ofNat (c + 1) := jo_add (a := c) (b := 1)
    rw [p_wtn] at en
    rw [p_wtl] at es
    have here : ¬ p_lac bs ps m i → jT (B_11_answerIHave_91 (F_11_answerIHave_30 fu) 32 (Int32.ofNat p) r (Int32.ofNat c) (Int32.ofNat (2 + 33 * i)) 1 H) Q := fun hn2 => by
      rw [b_neg hn2] at en es
      rw [Nat.zero_add] at en
      rw [List.nil_append] at es
      unfold B_11_answerIHave_91 B_11_answerIHave_110
      rw [e33]
      exact jT_pos (by decide) (jT_l (ih (i + 1) fu c ns H (by omega) (by omega) hs hf hm hn (by omega) en es))
    have lac : p_lac bs ps m i → jT (B_11_answerIHave_91 (F_11_answerIHave_30 fu) 32 (Int32.ofNat p) r (Int32.ofNat c) (Int32.ofNat (2 + 33 * i)) 0 H) Q := fun hn2 => by
      rw [b_pos hn2] at en es
      rw [← List.append_assoc] at es
      rw [← Nat.add_assoc] at en
      unfold B_11_answerIHave_91 B_11_answerIHave_110
      refine jT_neg (fun w => w rfl) (jT_g (k11 hs) ?_)
      refine p_puts11 (m := w_sl m (2 + 33 * i) 33) (n' := 33) hs hm kr (by omega) (by omega) ?_ z33 (by rw [l33]; rfl) fun H1 s1 m1 f1 => ?_
      · rw [List.length_append, List.length_append, hn, l33]
        show 1 + 1 + 33 * c + 33 ≤ 2000
        omega
      · rw [List.append_assoc] at m1
        rw [e1c, e33]
        refine jT_l (jT_l (ih (i + 1) fu (c + 1) _ H1 (by omega) (by omega) s1 (jfr_trans hf f1) m1 ?_ (by omega) en es))
        rw [List.length_append, hn, l33]
        omega
    unfold F_11_answerIHave_30 B_11_answerIHave_30
    rw [kr, e32, jo_nat (n := 2 + 33 * i) (by omega), eb, e1]
    refine jT_g rfl (jT_neg (by show ¬ Int32.ofNat m.length ≤ _; rw [jo_le (by omega) (by omega)]; omega) (jT_g ⟨rfl, jo_in (by omega) (by show _ < m.length; omega)⟩ ?_))
    by_cases c1 : (m.getD (2 + 33 * i) 0).toNat = 1
    · have ej := (jbs_12 (m.getD (2 + 33 * i) 0)).1.mpr c1
      rw [ej, sR_32_13 hs, z6_find hs hA hps.1 kr (by omega) (by omega) zn ln]
      refine jT_neg (fun w => w rfl) (jT_g (k11 hs) (jT_g (gT (sK_414 hs)) ?_))
      rw [jb_ok]
      cases hfi : p_fi ps (p_nm33 m i) with
      | none => exact jT_pos rfl (lac (by unfold p_lac; rw [if_pos c1]; exact hfi))
      | some q =>
        obtain ⟨hql, e, he, en2⟩ := p_fi_some hfi
        obtain ⟨⟨row, s, len, hx⟩, -⟩ := hA.2 q e he
        have h513 : 422 ≤ jR H 415 q := hx.2.2.2.2.2.2.2.2.2.2.1
        exact jT_neg (show ¬ p_oo H (some q) = 0 from fun w => by have w2 : jR H 415 q = 0 := w; omega) (here fun w => by unfold p_lac at w; rw [if_pos c1, hfi] at w; cases w)
    · have c2 : (m.getD (2 + 33 * i) 0).toNat = 2 := by omega
      have ej := (jbs_12 (m.getD (2 + 33 * i) 0)).2.mpr c2
      rw [ej, sR_32_12 hs, b_find1 hw hs hB kr (by omega) (by omega) zn ln]
      refine jT_pos (by decide) (jT_g (k11 hs) (jT_g (gT (sK_398 hs)) ?_))
      rw [jb_ok]
      cases hkn : b_kn bs (p_nm33 m i) with
      | none => exact jT_pos rfl (lac (by unfold p_lac; rw [if_neg c1]; exact hkn))
      | some q =>
        have hq := (b_kn_some hkn).1
        have pos := (b_o_pos hs hB hq).1
        exact jT_neg (show ¬ b_oo os (some q) = 0 from fun w => by have w2 : b_o os q = 0 := w; omega) (here fun w => by unfold p_lac at w; rw [if_neg c1, hkn] at w; cases w)
/-- the class asks for what there is not -/
theorem z11_want (hs : jsh H0) (hw : b_wf bs) (hps : p_all ps) (hB : b_BC nb bs os H0) (hA : p_PA ps H0) (hp : p < 4) (hb : p_b11 bxs H0) (hr : jK H0 r = (101, m.length)) (hr5 : 422 ≤ r) (hz : zRow H0 r 0 m) (hlen : m.length ≤ 2000)
    (hk1 : p_isl m 1 8 33 → ∀ H', jsh H' → p_b11 (p_wtb bs ps m p bxs) H' → jfr zTS11 H0 H' → jT (k () H') R)
    (hk0 : ¬ p_isl m 1 8 33 → ∀ H', jsh H' → p_b11 (p_bx1 bxs p (p_vd 1 p_z32)) H' → jfr zTS11 H0 H' → jT (k () H') R) : jT (jb (F_11_answerIHave 32 (Int32.ofNat p) r H0) k) R := by
  have k11 : ∀ {H}, jsh H → (jK H 32).1 = 11 := fun hs => gT (sK_32 hs)
  unfold F_11_answerIHave
  refine jT_b (jT_b ?_)
  have hd : ∀ v : Int32, ∀ h2, h2 = H0 → ((v = 1 ∧ p_isl m 1 8 33) ∨ (v = 0 ∧ ¬ p_isl m 1 8 33)) → jT (if ¬ (v : Int32) = 0 then jg ((jK h2 32).1 = 11) (jb (F_11_begin 32 4 h2) fun _ h15 => jg ((jK h15 32).1 = 11) (jb (F_11_put 32 0 h15) fun _ h17 => F_11_answerIHave_30 jfuel 32 (Int32.ofNat p) r 0 2 h17)) else jg ((jK h2 32).1 = 11) (jb (F_11_answerVerdict 32 (Int32.ofNat p) 1 0 h2) fun _ h19 => some ((), h19))) (fun x h => jT (k x h) R) := fun v h2 e hv => by
    subst e
    rcases hv with ⟨rfl, hi⟩ | ⟨rfl, hi⟩
    · refine jT_pos (by decide) (jT_g (k11 hs) ?_)
      refine p_begin11 hs fun H1 s1 m1 f1 => jT_g (k11 s1) ?_
      refine p_put11 s1 m1 (by decide) fun H2 s2 m2 f2 => ?_
      exact z11_want30 (Q := fun x h => jT (k x h) R) hw hps hB hA hp hb hr hr5 hz hi (fun H' s' b' f' => hk1 hi H' s' b' f') (m.getD 1 0).toNat 0 jfuel 0 [] H2 (Nat.zero_add _) (by have : (m.getD 1 0).toNat ≤ 8 := hi.2.2.1; unfold jfuel; omega) s2 (jfr_trans f1 f2) (by rw [List.append_nil]; exact m2) rfl (Nat.le_refl _) (Nat.zero_add _) (List.nil_append _)
    · refine jT_neg (fun w => w rfl) (jT_g (k11 hs) ?_)
      exact p_verd11 (k := fun _ h2 => some ((), h2)) hs hp hb (Or.inl ⟨rfl, rfl⟩) fun H' s' b' f' => jT_ret (hk0 hi H' s' b' f')
  exact jT_imp (z11_isList (Q := fun v h2 => h2 = H0 ∧ ((v = 1 ∧ p_isl m 1 8 33) ∨ (v = 0 ∧ ¬ p_isl m 1 8 33))) hr (by omega) (fun h => ⟨rfl, Or.inl ⟨rfl, (p_isl_row hz).mp h⟩⟩) fun h => ⟨rfl, Or.inr ⟨rfl, fun w => h ((p_isl_row hz).mpr w)⟩⟩) fun v h2 q => hd v h2 q.1 q.2
end WANT
