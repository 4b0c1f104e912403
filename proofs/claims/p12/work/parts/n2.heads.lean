/-! What is behind is answered: heads; both. -/
def p_isl (m : List UInt8) (lo hi wd : Nat) : Prop := w_isl (fun i => m.getD i 0) m.length lo hi wd
theorem p_isl_c {b c : Nat → UInt8} {n lo hi wd : Nat} (e : ∀ i, i < n → b i = c i) (h : w_isl b n lo hi wd) : w_isl c n lo hi wd := by
  obtain ⟨h1, h2, h3, h4, h5⟩ := h
  have e1 := e 1 (by omega)
  rw [e1] at h2 h3 h4 h5
  exact ⟨h1, h2, h3, h4, fun hw k hk => by rw [← e (2 + 33 * k) (by rw [hw] at h4; omega)]; exact h5 hw k hk⟩
theorem p_isl_row {H : jH} {r lo hi wd : Nat} {m : List UInt8} (hz : zRow H r 0 m) : w_isl (jB H r) m.length lo hi wd ↔ p_isl m lo hi wd := by
  have e : ∀ i, i < m.length → jB H r i = (fun i => m.getD i 0) i := fun i hi => by
    have := hz i _ (getD_of hi)
    rwa [Nat.zero_add] at this
  exact ⟨fun h => p_isl_c e h, fun h => p_isl_c (fun i hi => (e i hi).symm) h⟩
/-- the height of a name in the chain of the tip -/
def p_inch (bs : List b_k) (tip : Nat) (nm : List UInt8) : Option Nat := match b_kn bs nm with
  | some k => if b_ht bs k ≤ b_ht bs tip ∧ b_at bs tip (b_ht bs k) = k then some (b_ht bs k) else none
  | none => none
/-- from which height on -/
def p_fr (bs : List b_k) (tip : Nat) (m : List UInt8) : Nat → Nat → Nat
  | 0, _ => 0
  | d + 1, i => match p_inch bs tip (w_sl m (2 + 32 * i) 32) with
    | some h => h
    | none => p_fr bs tip m d (i + 1)
def p_cn (h f : Nat) : Nat := if h - f < 16 then h - f else 16
def p_hds (bs : List b_k) (tip f : Nat) : Nat → Nat → List UInt8
  | 0, _ => []
  | d + 1, i => (b_by bs (b_at bs tip (f + i))).take 80 ++ p_hds bs tip f d (i + 1)
def p_hdm (bs : List b_k) (tip : Nat) (m : List UInt8) : List UInt8 := [jbu (ji2b 5)] ++ [jbu (ji2b (Int32.ofNat (p_cn (b_ht bs tip) (p_fr bs tip m (m.getD 1 0).toNat 0))))] ++ p_hds bs tip (p_fr bs tip m (m.getD 1 0).toNat 0) (p_cn (b_ht bs tip) (p_fr bs tip m (m.getD 1 0).toNat 0)) 1
theorem zRow_take {H : jH} {r p n : Nat} {l : List UInt8} (h : zRow H r p l) : zRow H r p (l.take n) := fun i u hi => by
  rw [List.getElem?_take] at hi
  split at hi
  · exact h i u hi
  · cases hi
theorem p_by80 {bs : List b_k} {tip h : Nat} (hw : b_wf bs) (htl : tip < bs.length) (h1 : 1 ≤ h) (h2 : h ≤ b_ht bs tip) : 81 ≤ (b_by bs (b_at bs tip h)).length ∧ (b_by bs (b_at bs tip h)).length ≤ 1999 ∧ ((b_by bs (b_at bs tip h)).take 80).length = 80 := by
  have hat := b_at_ok hw htl h2
  have hp := b_ht_pos hw hat.2.2 (by rw [hat.2.1]; omega)
  have hl := (hw.2.2.2.2 _ hp hat.2.2).2.2.1
  refine ⟨hl.1, hl.2.1, ?_⟩
  rw [List.length_take]
  have := hl.1
  omega
section HDS
variable {α : Type} {R : α → jH → Prop} {k : Unit → jH → Option (α × jH)} {bs : List b_k} {os : List Nat} {tip nb p r : Nat} {bxs : Nat → List UInt8} {H0 : jH} {m : List UInt8}
theorem z11_144 {Q : Unit → jH → Prop} {f c : Nat} (hw : b_wf bs) (hB0 : b_BC nb bs os H0) (hL0 : b_LN bs os tip H0) (hp : p < 4) (hb0 : p_b11 bxs H0) (hfc : f + c ≤ b_ht bs tip) (hc16 : c ≤ 16) (P : List UInt8) (hPl : P.length = 2)
    (hk : ∀ H', jsh H' → p_b11 (p_bx1 bxs p (P ++ p_hds bs tip f c 1)) H' → jfr zTS11 H0 H' → Q () H') :
    ∀ (d i fu : Nat) (ns : List UInt8) (H : jH), i + d = c + 1 → 1 ≤ i → d < fu → jsh H → jfr zS11 H0 H → zM11 (P ++ ns) H → ns.length = 80 * (i - 1) → ns ++ p_hds bs tip f d i = p_hds bs tip f c 1 → jT (F_11_answerWhatIsBehind_144 fu 32 (Int32.ofNat p) (Int32.ofNat f) (Int32.ofNat c) (Int32.ofNat i) H) Q := by
  have tl := hL0.1
  have h3 := b_ht_300 hw tl
  have k11 : ∀ {H}, jsh H → (jK H 32).1 = 11 := fun hs => gT (sK_32 hs)
  have k1 : ∀ {H}, jsh H → (jK H 398).1 = 1 := fun hs => gT (sK_398 hs)
  intro d
  induction d with
  | zero =>
    intro i fu ns H hl hi1 hfu hs hf hm hn e1
    obtain ⟨fu, rfl⟩ : ∃ k, fu = k + 1 := ⟨fu - 1, by omega⟩
    have e1' : ns = p_hds bs tip f c 1 := by
      rw [← e1]
      exact (List.append_nil _).symm
    unfold F_11_answerWhatIsBehind_144 B_11_answerWhatIsBehind_144
    refine jT_pos (by rw [jo_lt (by omega) (by omega)]; omega) (jT_g (k11 hs) ?_)
    refine p_post11 hs hp hm ?_ (p_b11_fr hb0 hf fun a j w => by unfold zS11 at w; omega) fun H2 s2 b2 f2 => jT_ret (hk H2 s2 (e1' ▸ b2) (jfr_trans (jfr_mono hf fun a j w => Or.inl w) f2))
    rw [List.length_append, hn, hPl]
    omega
  | succ d ih =>
    intro i fu ns H hl hi1 hfu hs hf hm hn e1
    obtain ⟨fu, rfl⟩ : ∃ k, fu = k + 1 := ⟨fu - 1, by omega⟩
    have hB := b_BC_fr hB0 hf fun a j w => by unfold zS11 at w; omega
    have hL := b_LN_fr hL0 hf fun a j w => by unfold zS11 at w; omega
    have hle : f + i ≤ b_ht bs tip := by omega
    have lt := (b_at_ok hw tl hle).2.2
    obtain ⟨-, hbx⟩ := hB.2.2.2.2 _ lt
    have pos := (b_o_pos hs hB lt).1
    obtain ⟨y1, y2, y3⟩ := p_by80 hw tl (show 1 ≤ f + i by omega) hle
    obtain ⟨⟨len, q1, q2, q3, -⟩, -, q4⟩ := hbx.2.2.2.1
    have e1i : Int32.ofNat i + 1 = Int32.ofNat (i + 1) := jo_add (a := i) (b := 1)
    unfold F_11_answerWhatIsBehind_144 B_11_answerWhatIsBehind_144
    rw [sR_32_12 hs, show Int32.ofNat f + Int32.ofNat i = Int32.ofNat (f + i) from jo_add, b_at1 hw hs hB hL hle]
    refine jT_neg (by rw [jo_lt (by omega) (by omega)]; omega) (jT_g (k11 hs) (jT_g (k1 hs) ?_))
    rw [jb_ok]
    refine jT_neg (show ¬ b_o os _ = 0 by omega) (jT_g hbx.1.1 (jT_g (k11 hs) ?_))
    have q2' : (b_by bs (b_at bs tip (f + i))).length + 1 ≤ len := q2
    show jT (jb (F_11_put_2 32 (jR H (b_o os (b_at bs tip (f + i))) 0) (Int32.ofNat 1) (Int32.ofNat 80) H) _) Q
    refine p_puts11 (m := (b_by bs (b_at bs tip (f + i))).take 80) hs hm q1 (by omega) (by omega) ?_ (zRow_take q4) (by rw [y3]) fun H1 s1 m1 f1 => ?_
    · rw [List.length_append, hn, hPl, y3]
      omega
    · rw [p_hds, ← List.append_assoc] at e1
      rw [List.append_assoc] at m1
      unfold B_11_answerWhatIsBehind_182
      rw [e1i]
      refine jT_l (ih (i + 1) fu _ H1 (by omega) (by omega) (by omega) s1 (jfr_trans hf f1) m1 ?_ e1)
      rw [List.length_append, hn, y3]
      omega
/-- from the height on -/
theorem z11_110 {Q : Unit → jH → Prop} {f : Nat} {H : jH} (hs : jsh H) (hw : b_wf bs) (hB : b_BC nb bs os H) (hL : b_LN bs os tip H) (hp : p < 4) (hb : p_b11 bxs H) (hf : f ≤ b_ht bs tip)
    (hk : ∀ H', jsh H' → p_b11 (p_bx1 bxs p ([jbu (ji2b 5)] ++ [jbu (ji2b (Int32.ofNat (p_cn (b_ht bs tip) f)))] ++ p_hds bs tip f (p_cn (b_ht bs tip) f) 1)) H' → jfr zTS11 H H' → Q () H') : jT (B_11_answerWhatIsBehind_110 32 (Int32.ofNat p) (Int32.ofNat f) H) Q := by
  have tl := hL.1
  have h3 := b_ht_300 hw tl
  have k11 : ∀ {H}, jsh H → (jK H 32).1 = 11 := fun hs => gT (sK_32 hs)
  obtain ⟨-, hbx⟩ := hB.2.2.2.2 _ tl
  have e6 : jI H (b_o os tip) 6 = Int32.ofNat (b_ht bs tip) := hbx.1.2.2.2.1
  have ec : jminI 16 (Int32.ofNat (b_ht bs tip) - Int32.ofNat f) = Int32.ofNat (p_cn (b_ht bs tip) f) := by
    unfold jminI p_cn
    rw [jo_sub hf]
    by_cases c : b_ht bs tip - f < 16
    · rw [if_pos (by rw [show (16 : Int32) = Int32.ofNat 16 from rfl, jo_lt (by omega) (by decide)]; exact c), if_pos c]
    · rw [if_neg (by rw [show (16 : Int32) = Int32.ofNat 16 from rfl, jo_lt (by omega) (by decide)]; exact c), if_neg c]
      rfl
  have hc : p_cn (b_ht bs tip) f ≤ 16 ∧ f + p_cn (b_ht bs tip) f ≤ b_ht bs tip := by
    unfold p_cn
    split <;> omega
  unfold B_11_answerWhatIsBehind_110
  rw [sR_32_12 hs, hL.2.1, e6, ec]
  refine jT_g (k11 hs) (jT_g (gT (sK_398 hs)) (jT_g hbx.1.1 (jT_l (jT_g (k11 hs) ?_))))
  refine p_begin11 hs fun H1 s1 m1 f1 => jT_g (k11 s1) ?_
  refine p_put11 s1 m1 (by decide) fun H2 s2 m2 f2 => ?_
  exact z11_144 hw hB hL hp hb hc.2 hc.1 _ rfl hk (p_cn (b_ht bs tip) f) 1 jfuel [] H2 (by omega) (Nat.le_refl _) (by unfold jfuel; omega) s2 (jfr_trans f1 f2) (by rw [List.append_nil]; exact m2) rfl (List.nil_append _)
/-- the class answers what is behind -/
theorem z11_heads (hs : jsh H0) (hw : b_wf bs) (hB : b_BC nb bs os H0) (hL : b_LN bs os tip H0) (hp : p < 4) (hb : p_b11 bxs H0) (hr : jK H0 r = (101, m.length)) (hz : zRow H0 r 0 m) (hlen : m.length ≤ 2000)
    (hk1 : p_isl m 0 20 32 → ∀ H', jsh H' → p_b11 (p_bx1 bxs p (p_hdm bs tip m)) H' → jfr zTS11 H0 H' → jT (k () H') R)
    (hk0 : ¬ p_isl m 0 20 32 → ∀ H', jsh H' → p_b11 (p_bx1 bxs p (p_vd 1 p_z32)) H' → jfr zTS11 H0 H' → jT (k () H') R) : jT (jb (F_11_answerWhatIsBehind 32 (Int32.ofNat p) r H0) k) R := by
  have tl := hL.1
  have h3 := b_ht_300 hw tl
  have k11 : (jK H0 32).1 = 11 := gT (sK_32 hs)
  have k1 : (jK H0 398).1 = 1 := gT (sK_398 hs)
  have no : ¬ p_isl m 0 20 32 → jT (B_11_answerWhatIsBehind_35 32 (Int32.ofNat p) H0) (fun x h => jT (k x h) R) := fun hn => by
    unfold B_11_answerWhatIsBehind_35
    refine jT_g k11 ?_
    exact p_verd11 (k := fun _ h2 => some ((), h2)) hs hp hb (Or.inl ⟨rfl, rfl⟩) fun H' s' b' f' => jT_ret (hk0 hn H' s' b' f')
  unfold F_11_answerWhatIsBehind
  refine jT_b (jT_g (by rw [hr]) ?_)
  rw [hr]
  by_cases c2 : 2 ≤ m.length
  · have e1 : jB H0 r 1 = m.getD 1 0 := by
      have := hz 1 _ (getD_of (by omega))
      rwa [Nat.zero_add] at this
    refine jT_pos (by show (2 : Int32) ≤ Int32.ofNat m.length; rw [show (2 : Int32) = Int32.ofNat 2 from rfl, jo_le (by decide) (by omega)]; exact c2) (jT_g ⟨rfl, jo_in (n := 1) (by decide) (by show 1 < m.length; omega)⟩ ?_)
    rw [show (1 : Int32).toNatClampNeg = 1 from rfl, e1]
    unfold B_11_answerWhatIsBehind_13
    rw [hr]
    rcases jbs_small (m.getD 1 0) with ⟨q1, q2⟩ | ⟨q1, q2⟩
    · rw [q2]
      refine jT_neg (by rw [show (0 : Int32) = Int32.ofNat 0 from rfl, jo_lt (by omega) (by decide)]; omega) ?_
      by_cases c20 : 20 < (m.getD 1 0).toNat
      · exact jT_pos (by rw [show (20 : Int32) = Int32.ofNat 20 from rfl, jo_lt (by decide) (by omega)]; exact c20) (no fun w => by have : (m.getD 1 0).toNat ≤ 20 := w.2.2.1; omega)
      · refine jT_neg (by rw [show (20 : Int32) = Int32.ofNat 20 from rfl, jo_lt (by decide) (by omega)]; exact c20) (jT_g rfl ?_)
        have e2 : (2 : Int32) + (32 : Int32) * Int32.ofNat (m.getD 1 0).toNat = Int32.ofNat (2 + 32 * (m.getD 1 0).toNat) := by
          rw [p_e32]
          exact jo_add (a := 2)
        rw [e2]
        by_cases cl : m.length = 2 + 32 * (m.getD 1 0).toNat
        · have hisl : p_isl m 0 20 32 := ⟨c2, Nat.zero_le _, Nat.le_of_not_lt c20, cl, fun w => absurd w (by decide)⟩
          refine jT_pos (by show Int32.ofNat m.length = _; rw [jo_eq (by omega) (by omega)]; exact cl) ?_
          have fin : ∀ f : Nat, f = p_fr bs tip m (m.getD 1 0).toNat 0 → f ≤ b_ht bs tip → jT (B_11_answerWhatIsBehind_110 32 (Int32.ofNat p) (Int32.ofNat f) H0) (fun x h => jT (k x h) R) := fun f ef hf => z11_110 (Q := fun x h => jT (k x h) R) hs hw hB hL hp hb hf fun H' s' b' f' => hk1 hisl H' s' (by
            rw [ef] at b'
            exact b') f'
          have loop : ∀ (d i fu : Nat), i + d = (m.getD 1 0).toNat → d < fu → p_fr bs tip m d i = p_fr bs tip m (m.getD 1 0).toNat 0 → jT (F_11_answerWhatIsBehind_49 fu 32 (Int32.ofNat p) r (Int32.ofNat (m.getD 1 0).toNat) 0 (Int32.ofNat i) H0) (fun x h => jT (k x h) R) := by
            intro d
            induction d with
            | zero =>
              intro i fu hl hfu e
              obtain ⟨fu, rfl⟩ : ∃ k, fu = k + 1 := ⟨fu - 1, by omega⟩
              unfold F_11_answerWhatIsBehind_49 B_11_answerWhatIsBehind_49
              exact jT_pos (by rw [jo_le (by omega) (by omega)]; omega) (fin 0 e (Nat.zero_le _))
            | succ d ih =>
              intro i fu hl hfu e
              obtain ⟨fu, rfl⟩ : ∃ k, fu = k + 1 := ⟨fu - 1, by omega⟩
              have e2i : (2 : Int32) + (32 : Int32) * Int32.ofNat i = Int32.ofNat (2 + 32 * i) := by
                rw [p_e32]
                exact jo_add (a := 2)
              have e1i : Int32.ofNat i + 1 = Int32.ofNat (i + 1) := jo_add (a := i) (b := 1)
              have zn : zRow H0 r (2 + 32 * i) (w_sl m (2 + 32 * i) 32) := w_sl_row hz (Nat.zero_add _).symm
              have ln : (w_sl m (2 + 32 * i) 32).length = 32 := w_sl_len (by omega)
              have hf := b_find1 hw hs hB hr (by omega) (by omega) zn ln
              rw [p_fr] at e
              have nxt : p_inch bs tip (w_sl m (2 + 32 * i) 32) = none → jT (B_11_answerWhatIsBehind_104 (F_11_answerWhatIsBehind_49 fu) 32 (Int32.ofNat p) r (Int32.ofNat (m.getD 1 0).toNat) 0 (Int32.ofNat i) H0) (fun x h => jT (k x h) R) := fun hn => by
                rw [hn] at e
                unfold B_11_answerWhatIsBehind_104
                rw [e1i]
                exact jT_l (ih (i + 1) fu (by omega) (by omega) e)
              unfold F_11_answerWhatIsBehind_49 B_11_answerWhatIsBehind_49
              rw [sR_32_12 hs, e2i, hf]
              refine jT_neg (by rw [jo_le (by omega) (by omega)]; omega) (jT_g k11 (jT_g k1 ?_))
              rw [jb_ok]
              cases hkn : b_kn bs (w_sl m (2 + 32 * i) 32) with
              | none => exact jT_pos rfl (nxt (by unfold p_inch; rw [hkn]))
              | some q =>
                have hq := (b_kn_some hkn).1
                have pos := (b_o_pos hs hB hq).1
                obtain ⟨-, hbx⟩ := hB.2.2.2.2 _ hq
                have e6 : jI H0 (b_o os q) 6 = Int32.ofNat (b_ht bs q) := hbx.1.2.2.2.1
                have hq3 := b_ht_300 hw hq
                rw [show b_oo os (some q) = b_o os q from rfl, sR_32_12 hs, e6]
                refine jT_neg (show ¬ b_o os q = 0 by omega) (jT_g k11 (jT_g hbx.1.1 (jT_g k1 ?_)))
                by_cases ch : b_ht bs q ≤ b_ht bs tip
                · have lt := (b_at_ok hw tl ch).2.2
                  have pos2 := (b_o_pos hs hB lt).1
                  rw [b_at1 hw hs hB hL ch, jb_ok]
                  refine jT_g ⟨Or.inr (show 31 ≤ _ by omega), Or.inr (show 31 ≤ _ by omega)⟩ ?_
                  by_cases ca : b_at bs tip (b_ht bs q) = q
                  · have hin : p_inch bs tip (w_sl m (2 + 32 * i) 32) = some (b_ht bs q) := by
                      unfold p_inch
                      rw [hkn]
                      exact if_pos ⟨ch, ca⟩
                    rw [hin] at e
                    rw [ca, e6]
                    exact jT_neg (fun w => w rfl) (jT_g hbx.1.1 (jT_l (fin _ e ch)))
                  · refine jT_pos (fun w => ca (b_o_inj hB lt hq w)) (nxt ?_)
                    unfold p_inch
                    rw [hkn]
                    exact if_neg fun w => ca w.2
                · rw [b_at1_no hw hs hB hL (Or.inr (by rw [jo_lt (by omega) (by omega)]; omega)), jb_ok]
                  refine jT_g ⟨Or.inl rfl, Or.inr (show 31 ≤ _ by omega)⟩ (jT_pos (show ¬ 0 = b_o os q by omega) (nxt ?_))
                  unfold p_inch
                  rw [hkn]
                  exact if_neg fun w => ch w.1
          exact loop _ 0 jfuel (Nat.zero_add _) (by unfold jfuel; omega) rfl
        · exact jT_neg (by show ¬ Int32.ofNat m.length = _; rw [jo_eq (by omega) (by omega)]; exact cl) (no fun w => cl w.2.2.2.1)
    · exact jT_pos q2 (no fun w => by have : (m.getD 1 0).toNat ≤ 20 := w.2.2.1; omega)
  · unfold B_11_answerWhatIsBehind_13
    exact jT_neg (by show ¬ (2 : Int32) ≤ Int32.ofNat m.length; rw [show (2 : Int32) = Int32.ofNat 2 from rfl, jo_le (by decide) (by omega)]; exact c2) (jT_pos (by decide) (no fun w => c2 w.1))
end HDS
