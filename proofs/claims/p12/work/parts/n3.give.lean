/-! What is asked for is given; both. -/
def p_nm33 (m : List UInt8) (k : Nat) : List UInt8 := w_sl m (3 + 33 * k) 32
/-- the answer for one name -/
def p_gvm (bs : List b_k) (ps : List p_e) (m : List UInt8) (k : Nat) : List UInt8 :=
  if (m.getD (2 + 33 * k) 0).toNat = 1 then
    match p_fi ps (p_nm33 m k) with
    | some q => [jbu (ji2b 1)] ++ (p_g ps q).1.2.1
    | none => [jbu (ji2b 7)] ++ w_sl m (2 + 33 * k) 33
  else
    match b_kn bs (p_nm33 m k) with
    | some q => if q = 0 then [jbu (ji2b 7)] ++ w_sl m (2 + 33 * k) 33 else [jbu (ji2b 2)] ++ b_by bs q
    | none => [jbu (ji2b 7)] ++ w_sl m (2 + 33 * k) 33
def p_gvb (bs : List b_k) (ps : List p_e) (m : List UInt8) (p : Nat) : Nat → Nat → (Nat → List UInt8) → Nat → List UInt8
  | 0, _, b => b
  | d + 1, i, b => p_gvb bs ps m p d (i + 1) (p_bx1 b p (p_gvm bs ps m i))
theorem p_isl33 {m : List UInt8} {k : Nat} (h : p_isl m 1 8 33) (hk : k < (m.getD 1 0).toNat) : m.length = 2 + 33 * (m.getD 1 0).toNat ∧ (m.getD 1 0).toNat ≤ 8 ∧ ((m.getD (2 + 33 * k) 0).toNat = 1 ∨ (m.getD (2 + 33 * k) 0).toNat = 2) := ⟨h.2.2.2.1, h.2.2.1, h.2.2.2.2 rfl k hk⟩
section GIVE
variable {α : Type} {R : α → jH → Prop} {k : Unit → jH → Option (α × jH)} {bs : List b_k} {os : List Nat} {ps : List p_e} {nb p r : Nat} {H0 : jH} {m : List UInt8}
theorem z11_give17 {Q : Unit → jH → Prop} {P : Nat → List UInt8} (hw : b_wf bs) (hps : p_all ps) (hB0 : b_BC nb bs os H0) (hA0 : p_PA ps H0) (hp : p < 4) (hr : jK H0 r = (101, m.length)) (hr5 : 422 ≤ r) (hz0 : zRow H0 r 0 m) (hisl : p_isl m 1 8 33)
    (hk : ∀ H', jsh H' → p_b11 P H' → jfr zTS11 H0 H' → Q () H') :
    ∀ (d i fu : Nat) (bxs : Nat → List UInt8) (H : jH), i + d = (m.getD 1 0).toNat → d < fu → jsh H → jfr zTS11 H0 H → p_b11 bxs H → p_gvb bs ps m p d i bxs = P → jT (F_11_answerGive_17 fu 32 (Int32.ofNat p) r (Int32.ofNat (2 + 33 * i)) H) Q := by
  have k11 : ∀ {H}, jsh H → (jK H 32).1 = 11 := fun hs => gT (sK_32 hs)
  have lm : m.length = 2 + 33 * (m.getD 1 0).toNat := hisl.2.2.2.1
  have l8 : (m.getD 1 0).toNat ≤ 8 := hisl.2.2.1
  have l300 := hw.2.1
  have e32 : ∀ i : Nat, Int32.ofNat (2 + 33 * i) + 32 = Int32.ofNat (34 + 33 * i) := fun i => by
    rw [show (32 : Int32) = Int32.ofNat 32 from rfl, jo_add]
    congr 1
    omega
  intro d
  induction d with
  | zero =>
    intro i fu bxs H hl hfu hs hf hb hP
    obtain ⟨fu, rfl⟩ : ∃ k, fu = k + 1 := ⟨fu - 1, by omega⟩
    have kr : jK H r = (101, m.length) := by rw [jfr_K hf]; exact hr
    unfold F_11_answerGive_17 B_11_answerGive_17
    rw [kr, e32]
    have hP' : bxs = P := hP
    exact jT_g rfl (jT_pos (by show Int32.ofNat m.length ≤ _; rw [jo_le (by omega) (by omega)]; omega) (jT_ret (hk H hs (hP' ▸ hb) hf)))
  | succ d ih =>
    intro i fu bxs H hl hfu hs hf hb hP
    obtain ⟨fu, rfl⟩ : ∃ k, fu = k + 1 := ⟨fu - 1, by omega⟩
    have kr : jK H r = (101, m.length) := by rw [jfr_K hf]; exact hr
    have hz : zRow H r 0 m := zRow_eq hz0 fun j _ => jfr_B hf fun w => by unfold zTS11 zS11 at w; omega
    have hB := b_BC_fr hB0 hf fun a j w => by unfold zTS11 zS11 at w; omega
    have hA := p_PA_fr hA0 hf fun a j w => by unfold zTS11 zS11 at w; omega
    obtain ⟨-, -, h12⟩ := p_isl33 hisl (show i < (m.getD 1 0).toNat by omega)
    have eb : jB H r (2 + 33 * i) = m.getD (2 + 33 * i) 0 := by
      have := hz (2 + 33 * i) _ (getD_of (by omega))
      rwa [Nat.zero_add] at this
    have zn : zRow H r (3 + 33 * i) (p_nm33 m i) := w_sl_row hz (Nat.zero_add _).symm
    have ln : (p_nm33 m i).length = 32 := w_sl_len (by omega)
    have z33 : zRow H r (2 + 33 * i) (w_sl m (2 + 33 * i) 33) := w_sl_row hz (Nat.zero_add _).symm
    have l33 : (w_sl m (2 + 33 * i) 33).length = 33 := w_sl_len (by omega)
    have e1 : Int32.ofNat (2 + 33 * i) + 1 = Int32.ofNat (3 + 33 * i) := by
      rw [show (1 : Int32) = Int32.ofNat 1 from rfl, jo_add]
      congr 1
      omega
    rw [p_gvb] at hP
    -- the frame goes
    have post : ∀ (H1 : jH) (l : List UInt8), jsh H1 → jfr zS11 H H1 → zM11 l H1 → l.length ≤ 2000 → l = p_gvm bs ps m i → jT (B_11_answerGive_159 (F_11_answerGive_17 fu) 32 (Int32.ofNat p) r (Int32.ofNat (2 + 33 * i)) H1) Q := fun H1 l s1 f1 m1 hl1 el => by
      unfold B_11_answerGive_159
      refine jT_g (k11 s1) ?_
      refine p_post11 s1 hp m1 hl1 (p_b11_fr hb f1 fun a j w => by unfold zS11 at w; omega) fun H2 s2 b2 f2 => ?_
      have e33 : Int32.ofNat (2 + 33 * i) + 33 = Int32.ofNat (2 + 33 * (i + 1)) := by
        rw [show (33 : Int32) = Int32.ofNat 33 from rfl, jo_add]
        congr 1
      rw [e33]
      rw [el] at b2
      exact jT_l (ih (i + 1) fu _ H2 (by omega) (by omega) s2 (jfr_trans hf (jfr_trans (jfr_mono f1 fun a j w => Or.inl w) f2)) b2 hP)
    have none7 : [jbu (ji2b 7)] ++ w_sl m (2 + 33 * i) 33 = p_gvm bs ps m i → jT (B_11_answerGive_145 (F_11_answerGive_17 fu) 32 (Int32.ofNat p) r (Int32.ofNat (2 + 33 * i)) H) Q := fun el => by
      unfold B_11_answerGive_145
      refine jT_g (k11 hs) ?_
      refine p_begin11 hs fun H1 s1 m1 f1 => jT_g (k11 s1) ?_
      refine p_puts11 (m := w_sl m (2 + 33 * i) 33) (n' := 33) s1 m1 (by rw [jfr_K f1]; exact kr) (by omega) (by omega) (by rw [l33]; decide) (zRow_eq z33 fun j _ => jfr_B f1 (by unfold zS11; omega)) (by rw [l33]; rfl) fun H2 s2 m2 f2 => ?_
      exact post H2 _ s2 (jfr_trans f1 f2) m2 (by rw [List.length_append, l33]; decide) el
    unfold F_11_answerGive_17 B_11_answerGive_17
    rw [kr, e32, jo_nat (n := 2 + 33 * i) (by omega), eb, e1]
    refine jT_g rfl (jT_neg (by show ¬ Int32.ofNat m.length ≤ _; rw [jo_le (by omega) (by omega)]; omega) (jT_g ⟨rfl, jo_in (by omega) (by show _ < m.length; omega)⟩ ?_))
    by_cases c1 : (m.getD (2 + 33 * i) 0).toNat = 1
    · have ej := (jbs_12 (m.getD (2 + 33 * i) 0)).1.mpr c1
      rw [ej, sR_32_13 hs, z6_find hs hA hps.1 kr (by omega) (by omega) zn ln]
      refine jT_neg (fun w => w rfl) (jT_g (k11 hs) (jT_g (gT (sK_414 hs)) ?_))
      rw [jb_ok]
      unfold B_11_answerGive_48 B_11_answerGive_72
      rw [kr, jo_nat (n := 2 + 33 * i) (by omega), eb, ej]
      refine jT_g ⟨rfl, jo_in (by omega) (by show _ < m.length; omega)⟩ (jT_pos (by decide) ?_)
      cases hfi : p_fi ps (p_nm33 m i) with
      | none =>
        refine jT_pos rfl (jT_pos rfl (none7 ?_))
        unfold p_gvm
        rw [if_pos c1, hfi]
      | some q =>
        obtain ⟨hql, e, he, en⟩ := p_fi_some hfi
        obtain ⟨⟨row, s, len, hx⟩, -⟩ := hA.2 q e he
        have h513 : 422 ≤ jR H 415 q := hx.2.2.2.2.2.2.2.2.2.2.1
        have hrow5 : 422 ≤ row := hx.2.2.2.2.2.2.2.2.2.2.2
        have l1999 := (hps.2.2.2 q e he).2
        refine jT_neg (show ¬ p_oo H (some q) = 0 from fun w => by have w2 : jR H 415 q = 0 := w; omega) (jT_g (k11 hs) ?_)
        refine p_begin11 hs fun H1 s1 m1 f1 => ?_
        have eR : p_oo H (some q) = jR H1 415 q := (jfr_R f1 (by unfold zS11; omega)).symm
        have x1 := w_x_jfr hx f1 fun a j q w => by unfold zS11 at w; omega
        have x1' : w_x (p_oo H (some q)) row s len e.1.2.1 e.1.2.2 e.1.1 H1 := x1
        obtain ⟨⟨a1, a2, a3, a4, a5, a6⟩, ⟨b1, b2, -⟩, -⟩ := x1'
        rw [a2, b1, b2]
        refine jT_g a1 (jT_g a1 (jT_g a1 (jT_g (k11 s1) ?_)))
        refine p_puts11 (m := e.1.2.1) s1 m1 a3 (by omega) a4 (by show 1 + _ ≤ 2000; omega) a6 rfl fun H2 s2 m2 f2 => ?_
        refine post H2 _ s2 (jfr_trans f1 f2) m2 (by rw [List.length_append]; show 1 + _ ≤ 2000; omega) ?_
        unfold p_gvm
        rw [if_pos c1, hfi]
        show _ = [jbu (ji2b 1)] ++ (p_g ps q).1.2.1
        rw [p_g_of he]
    · have c2 : (m.getD (2 + 33 * i) 0).toNat = 2 := by omega
      have ej := (jbs_12 (m.getD (2 + 33 * i) 0)).2.mpr c2
      unfold B_11_answerGive_48
      rw [kr, jo_nat (n := 2 + 33 * i) (by omega), eb, ej, sR_32_12 hs, e1, b_find1 hw hs hB kr (by omega) (by omega) zn ln]
      refine jT_pos (by decide) (jT_g ⟨rfl, jo_in (by omega) (by show _ < m.length; omega)⟩ (jT_neg (fun w => w rfl) (jT_g (k11 hs) (jT_g (gT (sK_398 hs)) ?_))))
      rw [jb_ok]
      unfold B_11_answerGive_72
      refine jT_pos rfl ?_
      cases hkn : b_kn bs (p_nm33 m i) with
      | none =>
        refine jT_pos rfl (none7 ?_)
        unfold p_gvm
        rw [if_neg c1, hkn]
      | some q =>
        have hq := (b_kn_some hkn).1
        have pos := (b_o_pos hs hB hq).1
        obtain ⟨-, hbx⟩ := hB.2.2.2.2 _ hq
        have hq3 := b_ht_300 hw hq
        have e6 : jI H (b_o os q) 6 = Int32.ofNat (b_ht bs q) := hbx.1.2.2.2.1
        rw [show b_oo os (some q) = b_o os q from rfl, e6]
        refine jT_neg (show ¬ b_o os q = 0 by omega) (jT_g hbx.1.1 ?_)
        by_cases c0 : q = 0
        · refine jT_pos (by rw [c0, hw.2.2.1]; decide) (none7 ?_)
          unfold p_gvm
          rw [if_neg c1, hkn]
          exact (if_pos c0).symm
        · have hh : b_ht bs q ≠ 0 := fun w => c0 (b_ht_0 hw hq w)
          have hl := (hw.2.2.2.2 q (by omega) hq).2.2.1
          have l1999 := hl.2.1
          refine jT_neg (by rw [show (0 : Int32) = Int32.ofNat 0 from rfl, jo_le (by omega) (by decide)]; omega) (jT_g (k11 hs) ?_)
          refine p_begin11 hs fun H1 s1 m1 f1 => ?_
          have hB1 := b_BC_fr hB f1 fun a j w => by unfold zS11 at w; omega
          obtain ⟨-, hbx1⟩ := hB1.2.2.2.2 _ hq
          obtain ⟨⟨len, q1, q2, q3, q4⟩, -, q5⟩ := hbx1.2.2.2.1
          have q4' : len = (b_by bs q).length + 1 := q4 (show 0 < b_ht bs q by omega)
          have esz : Int32.ofNat (jK H1 (jR H1 (b_o os q) 0)).2 - 1 = Int32.ofNat (b_by bs q).length := by
            rw [q1, q4']
            exact jo_sub (a := (b_by bs q).length + 1) (b := 1) (by omega)
          rw [esz]
          refine jT_g hbx1.1.1 (jT_g hbx1.1.1 (jT_g (by rw [q1]) (jT_g (k11 s1) ?_)))
          show jT (jb (F_11_put_2 32 _ (Int32.ofNat 1) _ H1) _) Q
          refine p_puts11 (m := b_by bs q) s1 m1 q1 (by omega) (by omega) (by show 1 + _ ≤ 2000; omega) q5 rfl fun H2 s2 m2 f2 => ?_
          refine post H2 _ s2 (jfr_trans f1 f2) m2 (by rw [List.length_append]; show 1 + _ ≤ 2000; omega) ?_
          unfold p_gvm
          rw [if_neg c1, hkn]
          exact (if_neg c0).symm
/-- the class gives -/
theorem z11_give {bxs : Nat → List UInt8} (hs : jsh H0) (hw : b_wf bs) (hps : p_all ps) (hB : b_BC nb bs os H0) (hA : p_PA ps H0) (hp : p < 4) (hb : p_b11 bxs H0) (hr : jK H0 r = (101, m.length)) (hr5 : 422 ≤ r) (hz : zRow H0 r 0 m) (hlen : m.length ≤ 2000)
    (hk1 : p_isl m 1 8 33 → ∀ H', jsh H' → p_b11 (p_gvb bs ps m p (m.getD 1 0).toNat 0 bxs) H' → jfr zTS11 H0 H' → jT (k () H') R)
    (hk0 : ¬ p_isl m 1 8 33 → ∀ H', jsh H' → p_b11 (p_bx1 bxs p (p_vd 1 p_z32)) H' → jfr zTS11 H0 H' → jT (k () H') R) : jT (jb (F_11_answerGive 32 (Int32.ofNat p) r H0) k) R := by
  have k11 : (jK H0 32).1 = 11 := gT (sK_32 hs)
  unfold F_11_answerGive
  refine jT_b (jT_b ?_)
  have hd : ∀ v : Int32, ∀ h2, h2 = H0 → ((v = 1 ∧ p_isl m 1 8 33) ∨ (v = 0 ∧ ¬ p_isl m 1 8 33)) → jT (if ¬ (v : Int32) = 0 then F_11_answerGive_17 jfuel 32 (Int32.ofNat p) r 2 h2 else jg ((jK h2 32).1 = 11) (jb (F_11_answerVerdict 32 (Int32.ofNat p) 1 0 h2) fun _ h23 => some ((), h23))) (fun x h => jT (k x h) R) := fun v h2 e hv => by
    subst e
    rcases hv with ⟨rfl, hi⟩ | ⟨rfl, hi⟩
    · refine jT_pos (by decide) ?_
      exact z11_give17 (Q := fun x h => jT (k x h) R) hw hps hB hA hp hr hr5 hz hi (fun H' s' b' f' => hk1 hi H' s' b' f') (m.getD 1 0).toNat 0 jfuel bxs h2 (Nat.zero_add _) (by have : (m.getD 1 0).toNat ≤ 8 := hi.2.2.1; unfold jfuel; omega) hs jfr_refl hb rfl
    · refine jT_neg (fun w => w rfl) (jT_g k11 ?_)
      exact p_verd11 (k := fun _ h2 => some ((), h2)) hs hp hb (Or.inl ⟨rfl, rfl⟩) fun H' s' b' f' => jT_ret (hk0 hi H' s' b' f')
  exact jT_imp (z11_isList (Q := fun v h2 => h2 = H0 ∧ ((v = 1 ∧ p_isl m 1 8 33) ∨ (v = 0 ∧ ¬ p_isl m 1 8 33))) hr (by omega) (fun h => ⟨rfl, Or.inl ⟨rfl, (p_isl_row hz).mp h⟩⟩) fun h => ⟨rfl, Or.inr ⟨rfl, fun w => h ((p_isl_row hz).mpr w)⟩⟩) fun v h2 q => hd v h2 q.1 q.2
end GIVE
