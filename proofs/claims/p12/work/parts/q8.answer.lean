/-! What waits for a peer, folded. -/
def q_f1 (h : Int64) (u : Nat) : Int64 := 1000003 * h + Int64.ofNat u + 1
def q_fo (h : Int64) (l : List UInt8) : Int64 := l.foldl (fun h u => q_f1 h u.toNat) h
theorem q_fo_app {h : Int64} {l r : List UInt8} : q_fo h (l ++ r) = q_fo (q_fo h l) r := List.foldl_append
/-- seven bytes and how many, as a number -/
def q_ft (b : Nat → UInt8) (n : Nat) : Nat → Nat
  | 0 => n
  | i + 1 => q_ft b n i * 256 + (if i < n then (b i).toNat else 0)
theorem q_ft_lt {b : Nat → UInt8} {n : Nat} (hn : n < 128) : ∀ i, q_ft b n i < 128 * 256 ^ i
  | 0 => by show n < _; omega
  | i + 1 => by
    have h := q_ft_lt (b := b) hn i
    have hb := UInt8.toNat_lt (b i)
    show q_ft b n i * 256 + _ < _
    rw [Nat.pow_succ, ← Nat.mul_assoc]
    split <;> omega
theorem q_ft_zft {b : Nat → UInt8} {n : Nat} (hn : n < 128) : ∀ i, zft b n i = Int64.ofNat (q_ft b n i)
  | 0 => lo_of (by omega)
  | i + 1 => by
    show jshlL (zft b n i) 8 ||| Int32.toInt64 (if i < n then jbs (b i) &&& 255 else 0) = Int64.ofNat (q_ft b n i * 256 + (if i < n then (b i).toNat else 0))
    have hb := UInt8.toNat_lt (b i)
    have e : Int32.toInt64 (if i < n then jbs (b i) &&& 255 else 0) = Int64.ofNat (if i < n then (b i).toNat else 0) := by
      by_cases c : i < n
      · rw [if_pos c, if_pos c, jb_and, lo_of (by omega)]
      · rw [if_neg c, if_neg c]
        rfl
    have s8 : jshlL (Int64.ofNat (q_ft b n i)) 8 = Int64.ofNat (q_ft b n i * 2 ^ 8) := lo_shl (m := q_ft b n i) (c := 8) (by decide)
    rw [q_ft_zft hn i, e, s8, lo_orK (by split <;> omega)]
theorem q_ft_div {b : Nat → UInt8} {n i : Nat} : ∀ j, q_ft b n (i + j) / 256 ^ j = q_ft b n i
  | 0 => by rw [Nat.pow_zero, Nat.div_one]; rfl
  | j + 1 => by
    have hb := UInt8.toNat_lt (b (i + j))
    have e : (q_ft b n (i + j) * 256 + (if i + j < n then (b (i + j)).toNat else 0)) / 256 = q_ft b n (i + j) := by split <;> omega
    show (q_ft b n (i + j) * 256 + (if i + j < n then (b (i + j)).toNat else 0)) / 256 ^ (j + 1) = _
    rw [Nat.pow_succ, Nat.mul_comm (256 ^ j) 256, ← Nat.div_div_eq_div_mul, e]
    exact q_ft_div j
theorem q_255L {m : Nat} : Int64.ofNat m &&& 255 = Int64.ofNat (m % 256) := lo_mask (k := 8) (by decide)
/-- what the fetched long says -/
theorem q_zfv {l : List UInt8} : Int64.toInt32 (jshrL (zfv l) 56) = Int32.ofNat (min 7 l.length) ∧ (zfv l = 0 ↔ l = []) ∧ ∀ k, k < min 7 l.length → jshrL (zfv l) (Int32.ofNat (48 - 8 * k)) &&& 255 = Int64.ofNat (l.getD k 0).toNat := by
  have hn : min 7 l.length < 128 := by omega
  have hn7 : min 7 l.length ≤ 7 := by omega
  have hl := q_ft_lt (b := fun i => l.getD i 0) hn 7
  have e7 : 128 * 256 ^ 7 = 9223372036854775808 := rfl
  have ez : zfv l = Int64.ofNat (q_ft (fun i => l.getD i 0) (min 7 l.length) 7) := q_ft_zft hn 7
  rw [ez]
  have d56 : q_ft (fun i => l.getD i 0) (min 7 l.length) 7 / 2 ^ 56 = min 7 l.length := q_ft_div (i := 0) 7
  refine ⟨?_, ?_, fun k hk => ?_⟩
  · rw [show (56 : Int32) = Int32.ofNat 56 from rfl, lo_shr (by omega) (by decide), d56, lo_to32 (by omega)]
  · rw [show (0 : Int64) = Int64.ofNat 0 from rfl, lo_inj (by omega) (by decide)]
    constructor
    · intro h
      rw [h] at d56
      have : l.length = 0 := by omega
      exact List.length_eq_zero_iff.mp this
    · intro h
      subst h
      rfl
  · have e : (2 : Nat) ^ (48 - 8 * k) = 256 ^ (6 - k) := by
      rcases (show k = 0 ∨ k = 1 ∨ k = 2 ∨ k = 3 ∨ k = 4 ∨ k = 5 ∨ k = 6 by omega) with rfl | rfl | rfl | rfl | rfl | rfl | rfl <;> rfl
    have d := q_ft_div (b := fun i => l.getD i 0) (n := min 7 l.length) (i := k + 1) (6 - k)
    rw [show k + 1 + (6 - k) = 7 by omega] at d
    rw [lo_shr (by omega) (by omega), q_255L, e, d]
    show Int64.ofNat ((q_ft _ _ k * 256 + (if k < min 7 l.length then (l.getD k 0).toNat else 0)) % 256) = _
    have hb := UInt8.toNat_lt (l.getD k 0)
    rw [if_pos hk]
    congr 1
    omega
def q_b0 (b : Nat → List UInt8) (p : Nat) : Nat → List UInt8 := fun k => if k = p then [] else b k
section ANS
variable {nb : Nat} {os : List Nat} {S : s_S} {tp kn : List UInt8} {ki : Int32} {H : jH} {p : Nat}
theorem q_fetch {Q : Int64 → jH → Prop} (hC : s_cls nb os S tp kn ki H) (hp : p < 4) (hk : ∀ H', s_cls nb os (s_bx S (s_bd S.2.2.2.2.2 p)) tp kn ki H' → q_fr 0 0 H H' → Q (zfv (S.2.2.2.2.2 p)) H') : jT (F_11_fetch 32 (Int32.ofNat p) H) Q := by
  have hs := hC.1
  refine z11_fetchB hs hp (hC.2.2.2.1 p hp) fun H1 s1 b1 f1 => ?_
  have B1 : p_b11 (s_bd S.2.2.2.2.2 p) H1 := fun k hk => by
    unfold s_bd
    by_cases c : k = p
    · rw [c, if_pos rfl]
      exact b1
    · rw [if_neg c]
      exact zBx11_fr (hC.2.2.2.1 k hk) f1 fun a j w => by omega
  have C1 : s_cls nb os (s_bx S (s_bd S.2.2.2.2.2 p)) tp kn ki H1 := s_cls_sm hC s1 f1 (fun a j w => by omega) B1 ⟨(jfr_I f1 (by omega)).trans hC.2.2.2.2.2.1.1, hC.2.2.2.2.2.1.2.1, zRow_eq hC.2.2.2.2.2.1.2.2 fun i hi => jfr_B f1 (by omega)⟩ ⟨zRow_eq hC.2.2.2.2.2.2.1 fun i _ => jfr_B f1 (by omega), hC.2.2.2.2.2.2.2.1, (jfr_I f1 (by omega)).trans hC.2.2.2.2.2.2.2.2⟩
  exact hk H1 C1 (q_fr_gx hs (jgx_sm f1 fun a j w => Or.inl (by omega)))
theorem q_fold {a b : Int64} : F_L_fold a b H = some (1000003 * a + b + 1, H) := rfl
/-- the bytes of one fetch are folded -/
theorem q_a40 {Q : Int64 → jH → Prop} {k14 : Nat → Int32 → Int64 → Int64 → Int32 → jH → Option (Int64 × jH)} {l : List UInt8} {h0 : Int64} {a6 : Int32} (k11 : (jK H 32).1 = 11) (hk : jT (jb (F_11_fetch 32 (Int32.ofNat p) H) fun x1 h2 => k14 32 (Int32.ofNat p) (q_fo h0 (l.take 7)) x1 (a6 + 1) h2) Q) :
    ∀ (d k fu : Nat), k + d = min 7 l.length → d < fu → jT (F_L_answer_40 k14 fu 32 (Int32.ofNat p) (q_fo h0 (l.take k)) (zfv l) a6 (Int32.ofNat (min 7 l.length)) (Int32.ofNat k) H) Q := by
  intro d
  induction d with
  | zero =>
    intro k fu hkd hf
    obtain ⟨fu, rfl⟩ : ∃ k, fu = k + 1 := ⟨fu - 1, by omega⟩
    unfold F_L_answer_40 B_L_answer_40
    refine jT_pos (by rw [jo_le (by omega) (by omega)]; omega) (jT_g k11 ?_)
    have e : l.take k = l.take 7 := by
      by_cases c : 7 ≤ l.length
      · rw [show k = 7 by omega]
      · rw [List.take_of_length_le (show l.length ≤ k by omega), List.take_of_length_le (show l.length ≤ 7 by omega)]
    rw [e]
    exact hk
  | succ d ih =>
    intro k fu hkd hf
    obtain ⟨fu, rfl⟩ : ∃ k, fu = k + 1 := ⟨fu - 1, by omega⟩
    have e8 : (8 : Int32) * Int32.ofNat k = Int32.ofNat (8 * k) := jo_mul (a := 8) (b := k)
    have e48 : (48 : Int32) - Int32.ofNat (8 * k) = Int32.ofNat (48 - 8 * k) := jo_sub (a := 48) (b := 8 * k) (by omega)
    have e1 : Int32.ofNat k + 1 = Int32.ofNat (k + 1) := jo_add (a := k) (b := 1)
    unfold F_L_answer_40 B_L_answer_40
    rw [e8, e48, e1, q_zfv.2.2 k (by omega)]
    refine jT_neg (by rw [jo_le (by omega) (by omega)]; omega) (jT_b (jT_eq q_fold (jT_ret (jT_l ?_))))
    have := ih (k + 1) fu (by omega) (by omega)
    have ek : l.take (k + 1) = l.take k ++ [l.getD k 0] := by
      rw [List.take_add_one, List.getD_eq_getElem?_getD, List.getElem?_eq_getElem (show k < l.length by omega)]
      rfl
    rw [ek, q_fo_app] at this
    exact this
theorem q_answer {Q : Int64 → jH → Prop} (hC : s_cls nb os S tp kn ki H) (hp : p < 4) (hk : ∀ H', s_cls nb os (s_bx S (q_b0 S.2.2.2.2.2 p)) tp kn ki H' → q_fr 0 0 H H' → Q (q_fo 7 (S.2.2.2.2.2 p)) H') : jT (F_L_answer 32 (Int32.ofNat p) H) Q := by
  have hb8 : (S.2.2.2.2.2 p).length ≤ 8000 := (hC.2.2.2.1 p hp).1
  have loop : ∀ (d turn fu : Nat) (l : List UInt8) (h : Int64) (b : Nat → List UInt8) (H1 : jH), l.length ≤ d → d < fu → turn + (l.length + 6) / 7 ≤ 1143 → q_fo h l = q_fo 7 (S.2.2.2.2.2 p) → b p = l.drop 7 → (∀ k, k ≠ p → b k = S.2.2.2.2.2 k) → s_cls nb os (s_bx S b) tp kn ki H1 → q_fr 0 0 H H1 → jT (F_L_answer_14 fu 32 (Int32.ofNat p) h (zfv l) (Int32.ofNat turn) H1) Q := by
    intro d
    induction d with
    | zero =>
      intro turn fu l h b H1 hl hf ht he hbp hbo C1 f1
      obtain ⟨fu, rfl⟩ : ∃ k, fu = k + 1 := ⟨fu - 1, by omega⟩
      have l0 : l = [] := List.length_eq_zero_iff.mp (by omega)
      have eb : b = q_b0 S.2.2.2.2.2 p := funext fun k => by
        unfold q_b0
        by_cases c : k = p
        · rw [c, if_pos rfl, hbp, l0]
          rfl
        · rw [if_neg c]
          exact hbo k c
      rw [eb] at C1
      have fin := hk H1 C1 f1
      rw [← he, l0] at fin
      unfold F_L_answer_14 B_L_answer_14 B_L_answer_86
      refine jT_if (fun _ => jT_ret fin) fun _ => jT_pos (q_zfv.2.1.mpr l0) (jT_ret fin)
    | succ d ih =>
      intro turn fu l h b H1 hl hf ht he hbp hbo C1 f1
      obtain ⟨fu, rfl⟩ : ∃ k, fu = k + 1 := ⟨fu - 1, by omega⟩
      by_cases l0 : l = []
      · have eb : b = q_b0 S.2.2.2.2.2 p := funext fun k => by
          unfold q_b0
          by_cases c : k = p
          · rw [c, if_pos rfl, hbp, l0]
            rfl
          · rw [if_neg c]
            exact hbo k c
        rw [eb] at C1
        have fin := hk H1 C1 f1
        rw [← he, l0] at fin
        unfold F_L_answer_14 B_L_answer_14 B_L_answer_86
        refine jT_if (fun _ => jT_ret fin) fun _ => jT_pos (q_zfv.2.1.mpr l0) (jT_ret fin)
      · have lp : 0 < l.length := List.length_pos_iff.mpr l0
        unfold F_L_answer_14 B_L_answer_14
        refine jT_neg (by show ¬ Int32.ofNat 2000 ≤ _; rw [jo_le (by omega) (by omega)]; omega) (jT_neg (fun w => l0 (q_zfv.2.1.mp w)) (jT_l ?_))
        rw [q_zfv.1]
        refine q_a40 (h0 := h) (gT (sK_32 C1.1)) ?_ (min 7 l.length) 0 jfuel (Nat.zero_add _) (by unfold jfuel; omega)
        have e1 : Int32.ofNat turn + 1 = Int32.ofNat (turn + 1) := jo_add (a := turn) (b := 1)
        rw [e1]
        refine jT_b (q_fetch C1 hp fun H2 C2 f2 => ?_)
        have hb2 : (s_bx S b).2.2.2.2.2 p = l.drop 7 := hbp
        rw [hb2]
        refine ih (turn + 1) fu (l.drop 7) _ (s_bd b p) H2 (by rw [List.length_drop]; omega) (by omega) (by rw [List.length_drop]; omega) ?_ ?_ (fun k c => ?_) C2 (q_fr_trans f1 f2)
        · rw [← he, ← q_fo_app, List.take_append_drop]
        · unfold s_bd
          rw [if_pos rfl, hbp]
        · unfold s_bd
          rw [if_neg c]
          exact hbo k c
  unfold F_L_answer
  refine jT_g (gT (sK_32 hC.1)) (jT_b (q_fetch hC hp fun H1 C1 f1 => ?_))
  exact loop 8000 0 jfuel _ 7 _ H1 hb8 (by unfold jfuel; omega) (by omega) rfl (if_pos rfl) (fun k c => if_neg c) C1 f1
end ANS
/-! Names are folded. -/
theorem q_byteL {w : Int64} {i : Nat} (hi : i < 8) : jshrL w (Int32.ofNat (56 - 8 * i)) &&& 255 = Int64.ofNat (zlb w i).toNat := by
  have hc : ∀ i, i < 8 → ∀ x : BitVec 64, (jshrL ⟨⟨x⟩⟩ (Int32.ofNat (56 - 8 * i))).toBitVec = x.sshiftRight (56 - 8 * i) := by
    intro i hi x
    rcases (show i = 0 ∨ i = 1 ∨ i = 2 ∨ i = 3 ∨ i = 4 ∨ i = 5 ∨ i = 6 ∨ i = 7 by omega) with rfl | rfl | rfl | rfl | rfl | rfl | rfl | rfl <;> rfl
  have e : (⟨⟨w.toBitVec⟩⟩ : Int64) = w := rfl
  have q := hc i hi w.toBitVec
  rw [e] at q
  have m255 : ∀ t, (Int64.toBitVec 255).getLsbD t = decide (t < 8) := fun t => by
    show (BitVec.ofNat 64 255).getLsbD t = _
    rw [BitVec.getLsbD_ofNat, show (255 : Nat) = 2 ^ 8 - 1 from rfl, Nat.testBit_two_pow_sub_one]
    by_cases c : t < 8
    · rw [decide_eq_true c, decide_eq_true (show t < 64 by omega)]
      rfl
    · rw [decide_eq_false c, Bool.and_false]
  have zb : ∀ t, (zlb w i).toNat.testBit t = (decide (t < 8) && w.toBitVec.getLsbD (56 - 8 * i + t)) := fun t => by
    obtain ⟨m, hm, rfl⟩ := q_natL w
    rw [zlb_n hm hi, show (256 : Nat) = 2 ^ 8 from rfl, Nat.testBit_mod_two_pow, ← Nat.shiftRight_eq_div_pow, Nat.testBit_shiftRight, Int64.toBitVec_ofNat', BitVec.getLsbD_ofNat]
    by_cases c : t < 8
    · rw [decide_eq_true c, decide_eq_true (show 56 - 8 * i + t < 64 by omega)]
      simp
    · rw [decide_eq_false c]
      simp
  refine Int64.toBitVec_inj.mp ?_
  rw [Int64.toBitVec_and, Int64.toBitVec_ofNat', q]
  refine BitVec.eq_of_getLsbD_eq fun t ht => ?_
  rw [BitVec.getLsbD_and, BitVec.getLsbD_sshiftRight, m255, BitVec.getLsbD_ofNat, zb]
  by_cases c : t < 8
  · rw [decide_eq_true c, if_pos (by omega), decide_eq_true ht, decide_eq_false (show ¬ 64 ≤ t by omega)]
    simp
  · rw [decide_eq_false c]
    simp
section NMD
variable {H : jH} {T : Nat → Int64} {s : Nat} {b : Nat → UInt8}
theorem q_named {h0 : Int64} (hL : jK H 421 = (103, 64)) (eT : jL H 421 = T) (hs : s < 8) (hb : q_sl T s b) : F_L_named h0 421 (Int32.ofNat s) H = some (q_fo h0 (q_ls b 32), H) := jT_det (by
  have loop : ∀ (d k fu : Nat), k + d = 32 → d < fu → jT (F_L_named_3 fu (q_fo h0 (q_ls b k)) 421 (Int32.ofNat s) (Int32.ofNat k) H) (fun r h => r = q_fo h0 (q_ls b 32) ∧ h = H) := by
    intro d
    induction d with
    | zero =>
      intro k fu hk hf
      obtain rfl : k = 32 := by omega
      obtain ⟨fu, rfl⟩ : ∃ k, fu = k + 1 := ⟨fu - 1, by omega⟩
      unfold F_L_named_3 B_L_named_3
      exact jT_pos (by decide) (jT_ret ⟨rfl, rfl⟩)
    | succ d ih =>
      intro k fu hk hf
      obtain ⟨fu, rfl⟩ : ∃ k, fu = k + 1 := ⟨fu - 1, by omega⟩
      have e1 : Int32.ofNat k + 1 = Int32.ofNat (k + 1) := jo_add (a := k) (b := 1)
      have e4 : (4 : Int32) * Int32.ofNat s = Int32.ofNat (4 * s) := jo_mul (a := 4) (b := s)
      have e5 : (32 : Int32) + Int32.ofNat (4 * s) = Int32.ofNat (32 + 4 * s) := jo_add (a := 32) (b := 4 * s)
      have e6 : Int32.ofNat k / 8 = Int32.ofNat (k / 8) := jo_div (a := k) (b := 8) (by omega) (by omega)
      have e7 : Int32.ofNat (32 + 4 * s) + Int32.ofNat (k / 8) = Int32.ofNat (32 + 4 * s + k / 8) := jo_add
      have e8 : jrem (Int32.ofNat k) 8 = Int32.ofNat (k % 8) := jo_rem (a := k) (b := 8) (by omega) (by omega)
      have e9 : (8 : Int32) * Int32.ofNat (k % 8) = Int32.ofNat (8 * (k % 8)) := jo_mul (a := 8) (b := k % 8)
      have e10 : (56 : Int32) - Int32.ofNat (8 * (k % 8)) = Int32.ofNat (56 - 8 * (k % 8)) := jo_sub (a := 56) (b := 8 * (k % 8)) (by omega)
      unfold F_L_named_3 B_L_named_3 B_L_named_49
      rw [e1, e4, e5, e6, e7, e8, e9, e10, jo_nat (n := 32 + 4 * s + k / 8) (by omega), eT, q_byteL (by omega), hb k (by omega)]
      refine jT_neg (by show ¬ Int32.ofNat 32 ≤ _; rw [jo_le (by omega) (by omega)]; omega) (jT_pos (by show Int32.ofNat 0 ≤ _; rw [jo_le (by decide) (by omega)]; omega) (jT_g (by decide) (jT_g (q_g3 hL (jo_in (by omega) (by omega))) (jT_g (by decide) (jT_b (jT_eq q_fold (jT_ret (jT_l ?_))))))))
      have := ih (k + 1) fu (by omega) (by omega)
      rw [q_ls_s, q_fo_app] at this
      exact this
  unfold F_L_named
  exact loop 32 0 jfuel rfl (by unfold jfuel; omega))
theorem q_verdict (hL : jK H 421 = (103, 64)) (eT : jL H 421 = T) (hs : s < 8) (hb : q_sl T s b) : F_L_verdict 0 421 (Int32.ofNat s) H = some (q_fo 7 ([0, 34, 8, 0] ++ q_ls b 32), H) := jT_det (by
  unfold F_L_verdict
  refine jT_b (jT_eq q_fold (jT_ret (jT_b (jT_eq q_fold (jT_ret (jT_b (jT_eq q_fold (jT_ret (jT_b (jT_eq q_fold (jT_ret (jT_b (jT_eq (q_named hL eT hs hb) (jT_ret (jT_ret ⟨?_, rfl⟩)))))))))))))))
  rw [q_fo_app]
  rfl)
theorem q_have (hL : jK H 421 = (103, 64)) (eT : jL H 421 = T) (hs : s < 8) (hb : q_sl T s b) : F_L_have 2 421 (Int32.ofNat s) H = some (q_fo 7 ([0, 35, 6, 1, 2] ++ q_ls b 32), H) := jT_det (by
  unfold F_L_have
  refine jT_b (jT_eq q_fold (jT_ret (jT_b (jT_eq q_fold (jT_ret (jT_b (jT_eq q_fold (jT_ret (jT_b (jT_eq q_fold (jT_ret (jT_b (jT_eq q_fold (jT_ret (jT_b (jT_eq (q_named hL eT hs hb) (jT_ret (jT_ret ⟨?_, rfl⟩))))))))))))))))))
  rw [q_fo_app]
  rfl)
/-- the slot holds some bytes -/
theorem q_sl_any : q_sl T s (fun i => zlb (T (32 + 4 * s + i / 8)) (i % 8)) := fun _ _ => rfl
end NMD
