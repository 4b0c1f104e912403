/-! Behind a block: the answer, the account, the others. -/
theorem r_St_T {L : Nat} {xs : Nat → Int32} {k : Nat} {S : s_S} {l : List Nat} {H : jH} {T : Nat → Int64} (h : r_St L xs k S l H) (hk : k ≤ 28) (e : ∀ j, j < 32 → T j = jL H 421 j) : r_St L xs k S l (q_h H (jI H 31) T) := by
  obtain ⟨⟨nb, os, kn, ki, hC⟩, h2, ⟨h3, h4⟩, ⟨h5, h6⟩, h7, h8⟩ := h
  refine ⟨⟨nb, os, kn, ki, q_cls_h hC⟩, h2, ⟨?_, h4⟩, ⟨h5, q_h_I18.trans h6⟩, h7, h8⟩
  rw [q_h_I, q_h_L]
  exact q_LS_eq h3 (by omega) rfl rfl e
/-- a block behind a known one has come: what is known then -/
def r_NF (n h : Nat) (a4 : Int64) (a7 a20 : Int32) (S : s_S) (l : List Nat) (T : Nat → Int64) (bn tb : Nat → UInt8) : Prop :=
  (r_I l S ∧ S.1.length = n + 1) ∧ (∀ j, n ≤ j + 6 → j < n → q_sl T (j % 6) (b_fn (b_nm S.1 j)) ∧ jshrL a4 (Int32.ofNat (8 * (j % 6))) &&& 255 = Int64.ofNat (b_ht S.1 j)) ∧ (b_nm S.1 n = q_ls bn 32 ∧ q_sl T 6 bn ∧ b_ht S.1 n = h ∧ h < 256) ∧ q_sl T 7 tb ∧
  ((a20 = 0 ∧ a7 = Int32.ofNat (b_ht S.1 S.2.2.2.1) ∧ q_val S (q_ls tb 32) 0 = -1) ∨ (a20 = 1 ∧ S.2.2.2.1 = n ∧ q_val S (q_ls tb 32) 0 = 5000000000))
section ANSW
variable {L : Nat} {xs : Nat → Int32} {k n p0 h : Nat} {S : s_S} {l : List Nat} {H : jH} {a4 : Int64} {a7 a8 a15 a20 s0 : Int32} {k48 : Nat → Nat → Nat → Nat → Int64 → Int32 → Int32 → Int32 → Int32 → jH → Option (Int32 × jH)}
/-- the next round comes through -/
def r_nx (L : Nat) (xs : Nat → Int32) (k : Nat) (a8 : Int32) (k48 : Nat → Nat → Nat → Nat → Int64 → Int32 → Int32 → Int32 → Int32 → jH → Option (Int32 × jH)) : Prop :=
  ∀ a4 a6 a7 H', r_RH L xs (k + 1) a4 a6 a7 H' → jT (k48 18 31 32 421 a4 a6 a7 a8 (Int32.ofNat k + 1) H') jF12
theorem r_457 (hk : k ≤ 27) (hn : 1 ≤ n ∧ n ≤ k + 2) (hp0 : p0 < 4) (next : r_nx L xs k a8 k48) (hS : r_St L xs (k + 1) S l H) (hs0 : s0 = 0 ∨ s0 = 1) (hs : jI H 31 59 = 1 ∨ (s0 = 1 ∧ (∃ bn, (a20 ≠ 0 → q_sl (jL H 421) 6 bn) ∧ r_bx p0 a20 bn 0 S.2.2.2.2.2) ∧ r_SF n a4 a7 a15 a20 S l (jL H 421))) :
    jT (B_L_holds_457 k48 18 31 32 421 a4 (Int32.ofNat n) a7 a8 (Int32.ofNat k) (Int32.ofNat p0) a15 s0 a20 H) jF12 := by
  unfold B_L_holds_457
  exact r_460 hk hn hp0 (fun H' h' => next _ _ _ H' h') 4 0 jfuel S H s0 rfl (by unfold jfuel; omega) hS hs0 hs
/-- the account goes on -/
theorem r_399 (hk : k ≤ 27) (hn : 1 ≤ n ∧ n ≤ k + 1) (hp0 : p0 < 4) (next : r_nx L xs k a8 k48) (hS : r_St L xs (k + 1) S l H) (hs0 : s0 = 0 ∨ s0 = 1) (hs : jI H 31 59 = 1 ∨ (s0 = 1 ∧ ∃ bn tb, r_bx p0 a20 bn 0 S.2.2.2.2.2 ∧ r_NF n h a4 a7 a20 S l (jL H 421) bn tb)) :
    jT (B_L_holds_399 k48 18 31 32 421 a4 (Int32.ofNat n) a7 a8 (Int32.ofNat k) (Int32.ofNat p0) (Int32.ofNat (n % 6)) (Int32.ofNat h) a20 s0 H) jF12 := by
  have h0 := hS
  obtain ⟨⟨nb, os, kn, ki, hC⟩, hP, -⟩ := h0
  have hL : jK H 421 = (103, 64) := sK_421 hC.1
  obtain ⟨T, hT⟩ : ∃ T, T = jL H 421 := ⟨_, rfl⟩
  have eH : H = q_h H (jI H 31) T := q_h_of rfl hT.symm
  have e8 : (8 : Int32) * Int32.ofNat (n % 6) = Int32.ofNat (8 * (n % 6)) := jo_mul (a := 8) (b := n % 6)
  have e1 : Int32.ofNat n + 1 = Int32.ofNat (n + 1) := jo_add (a := n) (b := 1)
  obtain ⟨b6, hb6, hbn⟩ : ∃ b6, q_sl T 6 b6 ∧ (jI H 31 59 = 1 ∨ (s0 = 1 ∧ ∃ tb, r_bx p0 a20 b6 0 S.2.2.2.2.2 ∧ r_NF n h a4 a7 a20 S l T b6 tb)) := by
    rw [← hT] at hs
    rcases hs with w | ⟨w1, bn, tb, w2, w3⟩
    · exact ⟨_, q_sl_any, Or.inl w⟩
    · exact ⟨bn, w3.2.2.1.2.1, Or.inr ⟨w1, tb, w2, w3⟩⟩
  have go : jT (B_L_holds_399 k48 18 31 32 421 a4 (Int32.ofNat n) a7 a8 (Int32.ofNat k) (Int32.ofNat p0) (Int32.ofNat (n % 6)) (Int32.ofNat h) a20 s0 (q_h H (jI H 31) T)) jF12 := by
    unfold B_L_holds_399
    rw [e8, e1]
    refine jT_b (q_copy hL (by omega) hb6 fun T' t1 t2 => jT_l (jT_l ?_))
    have hS' : r_St L xs (k + 1) S l (q_h H (jI H 31) T') := r_St_T hS (by omega) fun j hj => by rw [t2 j (Or.inl (by omega)), hT]
    obtain ⟨a4', ha4'⟩ : ∃ a4', a4' = (a4 &&& (jshlL 255 (Int32.ofNat (8 * (n % 6))) ^^^ (-1))) ||| jshlL (Int32.toInt64 (Int32.ofNat h)) (Int32.ofNat (8 * (n % 6))) := ⟨_, rfl⟩
    rw [← ha4']
    have keep : ∀ v : Int32, (∀ tb, r_NF n h a4 a7 a20 S l T b6 tb → v = Int32.ofNat (b_ht S.1 S.2.2.2.1)) → jT (B_L_holds_455 k48 18 31 32 421 a4' (Int32.ofNat (n + 1)) a8 (Int32.ofNat k) (Int32.ofNat p0) (Int32.ofNat h) s0 a20 v (q_h H (jI H 31) T')) jF12 := fun v hv => by
      unfold B_L_holds_455
      refine r_457 hk (by omega) hp0 next hS' hs0 ?_
      rw [q_h_I, q_h_L]
      rcases hbn with w | ⟨w1, tb, w2, w3⟩
      · exact Or.inl w
      have hv' := hv tb w3
      obtain ⟨⟨n1, n2⟩, n3, ⟨n4, n5, n6, n7⟩, n8, n9⟩ := w3
      have sl6 : q_sl T' 6 b6 := q_sl_eq n5 fun i hi => t2 _ (by omega)
      have sl7 : q_sl T' 7 tb := q_sl_eq n8 fun i hi => t2 _ (by omega)
      refine Or.inr ⟨w1, ⟨b6, fun _ => sl6, w2⟩, ⟨n1, n2, hv', fun j j1 j2 => ?_, fun j j1 j2 => ?_⟩, ⟨tb, sl7, ?_⟩, fun c => ⟨h, b6, rfl, ?_, sl6, fun i hi => ?_⟩⟩
      · by_cases c : j = n
        · rw [c, n4]
          intro i hi
          rw [q_ls_at hi]
          exact t1 i hi
        · exact q_sl_eq (n3 j (by omega) (by omega)).1 fun i hi => t2 _ (by omega)
      · rw [ha4', q_h8 (by omega) (by omega) n7]
        by_cases c : j = n
        · rw [c, if_pos rfl, n6]
        · rw [if_neg (by omega)]
          exact (n3 j (by omega) (by omega)).2
      · rcases n9 with ⟨x, -, y⟩ | ⟨x, -, y⟩
        · rw [if_pos x]
          exact y
        · rw [if_neg (by rw [x]; decide)]
          exact y
      · rcases n9 with ⟨x, -⟩ | ⟨-, x, -⟩
        · exact absurd x c
        · rw [x, n6]
          exact Nat.le_refl _
      · rcases n9 with ⟨x, -⟩ | ⟨-, x, -⟩
        · exact absurd x c
        · rw [x, ← n6, b_at_self, n4]
          exact q_ls_at hi
    refine jT_if (fun c => keep a7 fun tb w => ?_) fun c => keep (Int32.ofNat h) fun tb w => ?_
    · rcases w.2.2.2.2 with ⟨-, x, -⟩ | ⟨x, -⟩
      · exact x
      · rw [x] at c
        exact absurd c (by decide)
    · rcases w.2.2.2.2 with ⟨x, -⟩ | ⟨-, x, -⟩
      · exact absurd x c
      · rw [x, w.2.2.1.2.2.1]
  rw [← eH] at go
  exact go
/-- behind a name that nobody has -/
theorem r_360 (hk : k ≤ 27) (hn : 1 ≤ n ∧ n ≤ k + 1) (hp0 : p0 < 4) (next : r_nx L xs k a8 k48) (hS : r_St L xs (k + 1) S l H) (hs0 : s0 = 0 ∨ s0 = 1) (hs : jI H 31 59 = 1 ∨ (s0 = 1 ∧ (∀ q, q < 4 → q ≠ p0 → S.2.2.2.2.2 q = []) ∧ r_AC n a4 a7 S l (jL H 421) ∧ ∃ tb, q_sl (jL H 421) 7 tb ∧ q_val S (q_ls tb 32) 0 = -1)) :
    jT (B_L_holds_360 k48 18 31 32 421 a4 (Int32.ofNat n) a7 a8 (Int32.ofNat k) (Int32.ofNat p0) a15 0 s0 H) jF12 := by
  have h0 := hS
  obtain ⟨⟨nb, os, kn, ki, hC⟩, hP, -⟩ := h0
  unfold B_L_holds_360
  refine jT_b (q_answer hC hp0 fun H2 C2 f2 => ?_)
  have h2 : r_St L xs (k + 1) (s_bx S (q_b0 S.2.2.2.2.2 p0)) l H2 := r_St_fr hS C2 hP f2
  refine r_457 hk (by omega) hp0 next h2 hs0 ?_
  rw [f2.2.1, f2.2.2.1]
  rcases hs with w | ⟨w1, w2, w3, tb, w4, w5⟩
  · exact Or.inl w
  refine Or.inr ⟨w1, ⟨fun _ => 0, fun c => absurd rfl c, fun q hq => ?_⟩, w3, ⟨tb, w4, w5.trans (if_pos rfl).symm⟩, fun c => absurd rfl c⟩
  show q_b0 S.2.2.2.2.2 p0 q = _
  unfold q_b0
  by_cases c : q = p0
  · rw [if_pos c, if_pos (Or.inr c)]
  · rw [if_neg c, w2 q hq c, if_neg (by omega), if_pos rfl]
/-- a block behind a known one: its verdict -/
theorem r_289a (hk : k ≤ 27) (hn : 1 ≤ n ∧ n ≤ k + 1) (hp0 : p0 < 4) (next : r_nx L xs k a8 k48) (hS : r_St L xs (k + 1) S l H) (hs : jI H 31 59 = 1 ∨ (∃ bn tb, (∀ q, q < 4 → S.2.2.2.2.2 q = if q = p0 then [0, 34, 8, 0] ++ q_ls bn 32 else if a20 = 0 then [] else [0, 35, 6, 1, 2] ++ q_ls bn 32) ∧ r_NF n h a4 a7 a20 S l (jL H 421) bn tb)) :
    jT (B_L_holds_289 k48 18 31 32 421 a4 (Int32.ofNat n) a7 a8 (Int32.ofNat k) (Int32.ofNat p0) (Int32.ofNat (n % 6)) (Int32.ofNat h) 0 1 a20 H) jF12 := by
  have h0 := hS
  obtain ⟨⟨nb, os, kn, ki, hC⟩, hP, -⟩ := h0
  unfold B_L_holds_289
  refine jT_pos rfl (jT_neg (by decide) (jT_b (q_answer hC hp0 fun H2 C2 f2 => ?_)))
  have h2 : r_St L xs (k + 1) (s_bx S (q_b0 S.2.2.2.2.2 p0)) l H2 := r_St_fr hS C2 hP f2
  have hL2 : jK H2 421 = (103, 64) := sK_421 C2.1
  have e59 : jI H2 31 59 = jI H 31 59 := by rw [f2.2.1]
  have eT : jL H2 421 = jL H 421 := f2.2.2.1
  rcases hs with w | ⟨bn, tb, w1, w2⟩
  · refine jT_b (jT_eq (q_verdict (s := 6) hL2 rfl (by decide) q_sl_any) (jT_ret ?_))
    unfold B_L_holds_398
    exact jT_if (fun _ => r_399 hk hn hp0 next h2 (Or.inl rfl) (Or.inl (e59.trans w))) fun _ => r_399 hk hn hp0 next h2 (Or.inr rfl) (Or.inl (e59.trans w))
  · refine jT_b (jT_eq (q_verdict (s := 6) hL2 eT (by decide) w2.2.2.1.2.1) (jT_ret ?_))
    refine jT_neg (fun c => c (by rw [w1 p0 hp0, if_pos rfl])) (r_399 hk hn hp0 next h2 (Or.inr rfl) (Or.inr ⟨rfl, bn, tb, fun q hq => ?_, ?_⟩))
    · show q_b0 S.2.2.2.2.2 p0 q = _
      unfold q_b0
      by_cases c : q = p0
      · rw [if_pos c, if_pos (Or.inr c)]
      · rw [if_neg c, w1 q hq, if_neg c]
        exact (if_neg (by omega)).symm
    · rw [eT]
      exact w2
end ANSW
/-! What is asked behind a name that nobody has. -/
theorem p_nms_le {bs : List b_k} {tip h : Nat} (hl : ∀ j, (b_nm bs (b_at bs tip j)).length = 32) : ∀ {d i : Nat}, (p_nms bs tip h d i).length ≤ 32 * d
  | 0, _ => Nat.le_refl _
  | d + 1, i => by
    unfold p_nms
    rw [List.length_append, hl]
    split
    · show 32 + 0 ≤ _
      omega
    · have := p_nms_le (bs := bs) (tip := tip) (h := h) hl (d := d) (i := i + 1)
      omega
theorem r_askv {bs : List b_k} {tip : Nat} (hw : b_wf bs) (ht : tip < bs.length) : jshrL (zfv (zpo [] (p_askm bs tip))) 32 &&& 255 = 3 ∧ zfv (zpo [] (p_askm bs tip)) &&& 16777215 = jushrL (zeb (fun i => (b_nm bs tip).getD (8 * 0 + i) 0) 8) 40 := by
  have ln : ∀ j, (b_nm bs (b_at bs tip j)).length = 32 := fun j => hw.2.2.2.1 _ (b_at_lt hw ht)
  have ll : (p_askm bs tip).length ≤ 600 := by
    unfold p_askm
    rw [List.length_append]
    have := p_nms_le (bs := bs) (tip := tip) (h := b_ht bs tip) ln (d := 18) (i := 0)
    show 2 + (p_nms bs tip (b_ht bs tip) 18 0).length ≤ 600
    omega
  have e0 : p_hh (b_ht bs tip) 0 = b_ht bs tip := by
    have : p_sm 0 = 0 := by decide
    unfold p_hh
    rw [this]
    exact Nat.sub_zero _
  obtain ⟨r, hr⟩ : ∃ r, p_nms bs tip (b_ht bs tip) 18 0 = b_nm bs tip ++ r := by
    refine ⟨if p_hh (b_ht bs tip) 0 = 0 then [] else p_nms bs tip (b_ht bs tip) 17 (0 + 1), ?_⟩
    show b_nm bs (b_at bs tip (p_hh (b_ht bs tip) 0)) ++ _ = _
    rw [show b_at bs tip (p_hh (b_ht bs tip) 0) = tip by rw [e0, b_at_self]]
  rw [r_zpo ll]
  obtain ⟨m, hm⟩ : ∃ m, m = zhd (p_askm bs tip).length ++ p_askm bs tip := ⟨_, rfl⟩
  rw [← hm]
  have g2 : m.getD 2 0 = 3 := by rw [hm]; rfl
  have g4 : ∀ i, i < 32 → m.getD (4 + i) 0 = (b_nm bs tip).getD i 0 := fun i hi => by
    have e4 : (zhd (p_askm bs tip).length ++ ([jbu (ji2b 3)] ++ [jbu (ji2b (Int32.ofNat (p_nmn (b_ht bs tip) 18 0)))])).length = 4 := rfl
    have em : m = (zhd (p_askm bs tip).length ++ ([jbu (ji2b 3)] ++ [jbu (ji2b (Int32.ofNat (p_nmn (b_ht bs tip) 18 0)))])) ++ (b_nm bs tip ++ r) := by
      rw [hm, ← hr, List.append_assoc]
      rfl
    rw [em]
    have := b_fn_r (l := zhd (p_askm bs tip).length ++ ([jbu (ji2b 3)] ++ [jbu (ji2b (Int32.ofNat (p_nmn (b_ht bs tip) 18 0)))])) (r := b_nm bs tip ++ r) (n := 4) (i := i) e4
    refine this.trans (b_fn_app ?_)
    rw [hw.2.2.2.1 _ ht]
    exact hi
  have lm : 36 ≤ m.length := by
    rw [hm, List.length_append]
    unfold p_askm
    rw [hr, List.length_append, List.length_append (as := b_nm bs tip), hw.2.2.2.1 _ ht]
    show 36 ≤ 2 + (2 + (32 + r.length))
    omega
  have m7 : min 7 m.length = 7 := by omega
  refine ⟨?_, ?_⟩
  · have := (q_zfv (l := m)).2.2 2 (by omega)
    rw [g2] at this
    exact this
  · have ez : zfv m = Int64.ofNat (q_ft (fun i => m.getD i 0) 7 7) := by
      have := q_ft_zft (b := fun i => m.getD i 0) (n := min 7 m.length) (by omega) 7
      rw [m7] at this
      have e : zfv m = zft (fun i => m.getD i 0) (min 7 m.length) 7 := rfl
      rw [e, m7]
      exact this
    rw [ez, q_eb_zeb, show (16777215 : Int64) = Int64.ofNat (2 ^ 24 - 1) from rfl, lo_mask (by decide)]
    have hl := q_eb_lt (g := fun i => (b_nm bs tip).getD (8 * 0 + i) 0) 8
    have e8 : (256 : Nat) ^ 8 = 18446744073709551616 := rfl
    have e40 : (2 : Nat) ^ 40 = 256 ^ 5 := rfl
    have d := q_eb_div (g := fun i => (b_nm bs tip).getD (8 * 0 + i) 0) (i := 3) 5
    rw [show (40 : Int32) = Int32.ofNat 40 from rfl, lw_ushr (by omega) (by decide), e40, d]
    congr 1
    have t : q_ft (fun i => m.getD i 0) 7 7 = ((q_ft (fun i => m.getD i 0) 7 4 * 256 + (m.getD (4 + 0) 0).toNat) * 256 + (m.getD (4 + 1) 0).toNat) * 256 + (m.getD (4 + 2) 0).toNat := rfl
    have u : q_eb (fun i => (b_nm bs tip).getD (8 * 0 + i) 0) 3 = ((0 * 256 + ((b_nm bs tip).getD (8 * 0 + 0) 0).toNat) * 256 + ((b_nm bs tip).getD (8 * 0 + 1) 0).toNat) * 256 + ((b_nm bs tip).getD (8 * 0 + 2) 0).toNat := rfl
    rw [t, u, g4 0 (by decide), g4 1 (by decide), g4 2 (by decide), show 8 * 0 + 0 = 0 from rfl, show 8 * 0 + 1 = 1 from rfl, show 8 * 0 + 2 = 2 from rfl]
    have h0 := UInt8.toNat_lt ((b_nm bs tip).getD 0 0)
    have h1 := UInt8.toNat_lt ((b_nm bs tip).getD 1 0)
    have h2 := UInt8.toNat_lt ((b_nm bs tip).getD 2 0)
    have e24 : (2 : Nat) ^ 24 = 16777216 := rfl
    rw [e24]
    omega
section ORPH
variable {L : Nat} {xs : Nat → Int32} {k n p0 : Nat} {S : s_S} {l : List Nat} {H : jH} {a4 : Int64} {a7 a8 a14 a15 : Int32} {k48 : Nat → Nat → Nat → Nat → Int64 → Int32 → Int32 → Int32 → Int32 → jH → Option (Int32 × jH)}
theorem r_289b (hk : k ≤ 27) (hn : 1 ≤ n ∧ n ≤ k + 1) (hp0 : p0 < 4) (next : r_nx L xs k a8 k48) (hS : r_St L xs (k + 1) S l H) (hs : jI H 31 59 = 1 ∨ ((∀ q, q < 4 → S.2.2.2.2.2 q = if q = p0 then zpo [] (p_askm S.1 S.2.2.2.1) else []) ∧ r_AC n a4 a7 S l (jL H 421) ∧ ∃ tb, q_sl (jL H 421) 7 tb ∧ q_val S (q_ls tb 32) 0 = -1)) :
    jT (B_L_holds_289 k48 18 31 32 421 a4 (Int32.ofNat n) a7 a8 (Int32.ofNat k) (Int32.ofNat p0) a14 a15 1 1 0 H) jF12 := by
  have h0 := hS
  obtain ⟨⟨nb, os, kn, ki, hC⟩, hP, -⟩ := h0
  unfold B_L_holds_289 B_L_holds_359
  refine jT_neg (by decide) (jT_g (gT (sK_32 hC.1)) (jT_b (q_fetch hC hp0 fun H2 C2 f2 => jT_neg (by decide) ?_)))
  have h2 : r_St L xs (k + 1) (s_bx S (s_bd S.2.2.2.2.2 p0)) l H2 := r_St_fr hS C2 hP f2
  have k11 : (jK H2 32).1 = 11 := gT (sK_32 C2.1)
  have e59 : jI H2 31 59 = jI H 31 59 := by rw [f2.2.1]
  have eT : jL H2 421 = jL H 421 := f2.2.2.1
  have go : ∀ r : Int32, (r = 0 ∨ r = 1) → (jI H 31 59 = 1 ∨ r = 1) → jT (B_L_holds_360 k48 18 31 32 421 a4 (Int32.ofNat n) a7 a8 (Int32.ofNat k) (Int32.ofNat p0) a15 0 r H2) jF12 := fun r hr h1 => by
    refine r_360 hk hn hp0 next h2 hr ?_
    rw [e59, eT]
    rcases hs with w | ⟨w1, w2, w3⟩
    · exact Or.inl w
    · rcases h1 with w | w
      · exact Or.inl w
      · refine Or.inr ⟨w, fun q hq c => ?_, w2, w3⟩
        show s_bd S.2.2.2.2.2 p0 q = []
        unfold s_bd
        rw [if_neg c, w1 q hq, if_neg c]
  have bad : ∀ {c : Prop}, c → (jI H 31 59 = 1 ∨ ¬ c) → jI H 31 59 = 1 ∨ (0 : Int32) = 1 := fun c1 c2 => by
    rcases c2 with w | w
    · exact Or.inl w
    · exact absurd c1 w
  have st : jI H 31 59 = 1 ∨ (jshrL (zfv (S.2.2.2.2.2 p0)) 32 &&& 255 = 3 ∧ zfv (S.2.2.2.2.2 p0) &&& 16777215 = jushrL (zeb (fun i => (b_nm S.1 S.2.2.2.1).getD (8 * 0 + i) 0) 8) 40 ∧ a7 = Int32.ofNat (b_ht S.1 S.2.2.2.1) ∧ S.1.length = n) := by
    rcases hs with w | ⟨w1, w2, -⟩
    · exact Or.inl w
    · rw [w1 p0 hp0, if_pos rfl]
      obtain ⟨x, y⟩ := r_askv (r_I_wf w2.1) (r_I_tip w2.1)
      exact Or.inr ⟨x, y, w2.2.2.1, w2.2.1⟩
  refine jT_if (fun c => go 0 (Or.inl rfl) (bad c ?_)) fun _ => jT_g k11 ?_
  · rcases st with w | w
    · exact Or.inl w
    · exact Or.inr fun q => q w.1
  have fin : ∀ v : Int64, F_11_block 32 a7 0 H2 = some (v, H2) → (jI H 31 59 = 1 ∨ v = zeb (fun i => (b_nm S.1 S.2.2.2.1).getD (8 * 0 + i) 0) 8) → jT (jb (F_11_block 32 a7 0 H2) fun x35 h36 => if ¬ (zfv (S.2.2.2.2.2 p0) &&& 16777215) = jushrL x35 40 then B_L_holds_360 k48 18 31 32 421 a4 (Int32.ofNat n) a7 a8 (Int32.ofNat k) (Int32.ofNat p0) a15 0 0 h36 else jg ((jK h36 32).1 = 11) (jb (F_11_count 32 0 h36) fun x37 h38 => if ¬ x37 = Int32.ofNat n then B_L_holds_360 k48 18 31 32 421 a4 (Int32.ofNat n) a7 a8 (Int32.ofNat k) (Int32.ofNat p0) a15 0 0 h38 else B_L_holds_360 k48 18 31 32 421 a4 (Int32.ofNat n) a7 a8 (Int32.ofNat k) (Int32.ofNat p0) a15 0 1 h38)) jF12 := fun v ev hv => by
    refine jT_b (jT_eq ev (jT_ret (jT_if (fun c => go 0 (Or.inl rfl) (bad c ?_)) fun _ => jT_g k11 (jT_b (jT_eq (q_cnt0 C2) (jT_ret (jT_if (fun c => go 0 (Or.inl rfl) (bad c ?_)) fun _ => go 1 (Or.inr rfl) (Or.inr rfl))))))))
    · rcases st with w | w
      · exact Or.inl w
      · rcases hv with q | q
        · exact Or.inl q
        · exact Or.inr fun z => z (by rw [q]; exact w.2.1)
    · rcases st with w | w
      · exact Or.inl w
      · exact Or.inr fun z => z (congrArg Int32.ofNat w.2.2.2)
  rcases st with w | w
  · obtain ⟨v, ev⟩ := q_blkE (q := 0) C2 a7 (by decide)
    exact fin v ev (Or.inl w)
  · have ev := q_blk (g := b_ht S.1 S.2.2.2.1) (q := 0) C2 (Nat.le_refl _) (by decide)
    rw [← w.2.2.1] at ev
    refine fin _ ev (Or.inr ?_)
    show zeb (fun i => (b_nm S.1 (b_at S.1 S.2.2.2.1 (b_ht S.1 S.2.2.2.1))).getD (8 * 0 + i) 0) 8 = _
    rw [b_at_self]
end ORPH
