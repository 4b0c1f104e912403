/-! A round of the law. -/
theorem q_sL' {H : jH} {i : Nat} {v : Int64} : jsL H 421 i v = q_h H (jI H 31) (q_uL (jL H 421) i v) := (congrArg (fun X => jsL X 421 i v) q_h_self.symm).trans q_sL
theorem q_sI' {H : jH} {i : Nat} {v : Int32} : jsI H 31 i v = q_h H (q_up (jI H 31) i v) (jL H 421) := (congrArg (fun X => jsI X 31 i v) q_h_self.symm).trans q_sI
theorem r_jn {x y k c d : Nat} (h1 : x ≤ y + d) (h2 : y ≤ c + d * k) : x ≤ c + d * (k + 1) := by
  rw [Nat.mul_succ]
  omega
section RND
variable {L : Nat} {xs : Nat → Int32} {k n p0 q hh : Nat} {S : s_S} {l : List Nat} {H : jH} {T0 T1 : Nat → Int64} {a4 a16 : Int64} {a7 a8 a10 a18 s2 : Int32} {k48 : Nat → Nat → Nat → Nat → Int64 → Int32 → Int32 → Int32 → Int32 → jH → Option (Int32 × jH)}
theorem r_224 (hk : k ≤ 27) (hn : 1 ≤ n ∧ n ≤ k + 1) (hq : q < n ∧ n ≤ q + 6) (hp0 : p0 < 4) (next : r_nx L xs k a8 k48) (hS : r_St L xs k S l H) (hT1 : jL H 421 = T1) (hh8 : hh < 256) (hhq : jshrL a4 (Int32.ofNat (8 * (q % 6))) &&& 255 = Int64.ofNat hh) (h18 : a18 = 0 ∨ a18 = 1)
    (hs : s2 = 1 ∨ ((∀ p, p < 4 → S.2.2.2.2.2 p = []) ∧ r_AC n a4 a7 S l T0 ∧ (∀ j, 32 ≤ j → j < 56 → q_uL T1 (32 + 4 * (q % 6)) a16 j = T0 j) ∧ (a18 = 0 → T1 (32 + 4 * (q % 6)) = a16) ∧ (a18 = 1 → q_v (T1 (32 + 4 * (q % 6))) 0 ∉ l))) :
    jT (B_L_holds_224 k48 18 31 32 421 a4 (Int32.ofNat n) a7 a8 (Int32.ofNat k) a10 (Int32.ofNat p0) (Int32.ofNat (q % 6)) (Int32.ofNat (n % 6)) (Int32.ofNat (hh + 1)) a16 a18 31 59 s2 H) jF12 := by
  have hS0 := hS
  obtain ⟨⟨nb, os, kn, ki, hC⟩, hP, ⟨hls, hll⟩, ⟨h181, h182⟩, hjn, hjs⟩ := hS0
  have hK : jK H 31 = (100, 64) := sK_31 hC.1
  have e4 : (4 : Int32) * Int32.ofNat (q % 6) = Int32.ofNat (4 * (q % 6)) := jo_mul (a := 4) (b := q % 6)
  have e5 : (32 : Int32) + Int32.ofNat (4 * (q % 6)) = Int32.ofNat (32 + 4 * (q % 6)) := jo_add (a := 32) (b := 4 * (q % 6))
  obtain ⟨m, -, em⟩ := q_nat (jshr a10 14)
  have e1 : Int32.ofNat m &&& 1 = Int32.ofNat (m % 2) := jo_mask (m := m) (k := 1) (by decide)
  have e690 : (690 : Int32) * Int32.ofNat (hh + 1) = Int32.ofNat (690 * (hh + 1)) := jo_mul (a := 690) (b := hh + 1)
  have e1000 : (1000000 : Int32) + Int32.ofNat (690 * (hh + 1)) = Int32.ofNat (1000000 + 690 * (hh + 1)) := jo_add (a := 1000000) (b := 690 * (hh + 1))
  have etm : Int32.ofNat (1000000 + 690 * (hh + 1)) + Int32.ofNat (m % 2) = Int32.ofNat (1000000 + 690 * (hh + 1) + m % 2) := jo_add
  obtain ⟨tm, htm⟩ : ∃ tm, tm = 1000000 + 690 * (hh + 1) + m % 2 := ⟨_, rfl⟩
  unfold B_L_holds_224
  rw [em, e1, e690, e1000, etm, ← htm, e4, e5, jo_nat (n := 32 + 4 * (q % 6)) (by omega), q_sI', show (59 : Int32).toNatClampNeg = 59 from rfl, hT1]
  refine jT_g (q_g2 hK (by decide)) (jT_l ?_)
  have C1 : s_cls nb os S [] kn ki (q_h H (q_up (jI H 31) 59 s2) T1) := q_cls_h hC
  have ls1 : q_LS l (q_up (jI H 31) 59 s2) T1 := q_LS_eq hls (by omega) (q_up_n (by decide)) (q_up_n (by decide)) fun j _ => by rw [hT1]
  refine jT_b (q_block (t := Int32.ofNat tm) C1 hP q_h_I q_h_L hp0 (show q % 6 < 6 by omega) q_sl_any (by omega) ls1 (show k < 28 by omega) fun nb' os' S' H' no st C' f' t' t7 cs => ?_)
  rw [q_up_e] at cs
  obtain ⟨pb, hpb⟩ : ∃ pb : Nat → UInt8, pb = fun i => zlb (T1 (32 + 4 * (q % 6) + i / 8)) (i % 8) := ⟨_, rfl⟩
  rw [← hpb] at st cs
  have spb : q_sl T1 (q % 6) pb := by rw [hpb]; exact q_sl_any
  have hP' : s_pur S' := s_step_pur hP (by rw [List.length_append, q_bb_len]; decide) (by rw [List.length_append, q_bb_len]; decide) st
  have hL' : jK H' 421 = (103, 64) := sK_421 C'.1
  -- what is noted behind it
  obtain ⟨l', hl', ls', hcs⟩ : ∃ l' : List Nat, l'.length ≤ l.length + 2 ∧ q_LS l' (jI H' 31) (jL H' 421) ∧ (jI H' 31 59 = 1 ∨ (jI H' 31 59 = s2 ∧ l' = l ++ [q_nv (q_tn k)] ++ [q_nv (q_bn pb k (Int32.ofNat tm) no)] ∧ q_nv (q_tn k) ∉ l ∧ q_nv (q_bn pb k (Int32.ofNat tm) no) ∉ l ∧ q_sl (jL H' 421) 6 (q_bn pb k (Int32.ofNat tm) no) ∧ q_hit (q_bn pb k (Int32.ofNat tm) no))) := by
    rcases cs with ⟨w, l', x, y⟩ | ⟨w, x, y, z, u, v⟩
    · exact ⟨l', x, y, Or.inl w⟩
    · have v60 : q_v (jL H' 421 60) 0 = q_nv (q_tn k) := q_v_nv t7
      have v56 : q_v (jL H' 421 56) 0 = q_nv (q_bn pb k (Int32.ofNat tm) no) := q_v_nv u
      rw [v60, v56] at x z
      rw [v60] at y
      exact ⟨_, by rw [List.length_append, List.length_append]; exact Nat.le_refl _, x, Or.inr ⟨w, rfl, y, fun c => z (List.mem_append_left _ c), u, v⟩⟩
  have hS' : r_St L xs (k + 1) S' l' H' := ⟨⟨nb', os', kn, ki, C'⟩, hP', ⟨ls', by omega⟩, ⟨f'.1.1.trans h181, (f'.1.2.trans q_h_I18).trans h182⟩, r_jn f'.2.1 hjn, r_jn f'.2.2 hjs⟩
  rw [q_sL']
  obtain ⟨T2, hT2⟩ : ∃ T2, T2 = q_uL (jL H' 421) (32 + 4 * (q % 6)) a16 := ⟨_, rfl⟩
  rw [← hT2]
  have oT2 : ∀ j, j ≠ 32 + 4 * (q % 6) → T2 j = jL H' 421 j := fun j hj => by rw [hT2]; exact q_uL_n hj
  have hS2 : r_St L xs (k + 1) S' l' (q_h H' (jI H' 31) T2) := r_St_T hS' (by omega) fun j hj => oT2 j (by omega)
  have t72 : q_sl T2 7 (q_tn k) := q_sl_eq t7 fun i hi => oT2 _ (by omega)
  refine jT_g (q_g3 hL' (jo_in (by omega) (by omega))) (jT_l ?_)
  -- what holds if nothing was passed over
  have strong : jI H' 31 59 = 1 ∨ (((∀ p, p < 4 → S.2.2.2.2.2 p = []) ∧ r_AC n a4 a7 S l T0 ∧ (a18 = 0 → T1 (32 + 4 * (q % 6)) = a16) ∧ (a18 = 1 → q_v (T1 (32 + 4 * (q % 6))) 0 ∉ l)) ∧ (∀ j, 32 ≤ j → j < 56 → T2 j = T0 j) ∧ hh = b_ht S.1 q ∧ l' = l ++ [q_nv (q_tn k)] ++ [q_nv (q_bn pb k (Int32.ofNat tm) no)] ∧ q_nv (q_tn k) ∉ l ∧ q_nv (q_bn pb k (Int32.ofNat tm) no) ∉ l ∧ q_sl T2 6 (q_bn pb k (Int32.ofNat tm) no) ∧ q_hit (q_bn pb k (Int32.ofNat tm) no)) := by
    rcases hcs with w | ⟨w, x, y, z, u, v⟩
    · exact Or.inl w
    · rcases hs with w2 | ⟨c1, c2, c3, c4, c5⟩
      · exact Or.inl (w.trans w2)
      · refine Or.inr ⟨⟨c1, c2, c4, c5⟩, fun j a b => ?_, ?_, x, y, z, q_sl_eq u fun i hi => oT2 _ (by omega), v⟩
        · rw [← c3 j a b]
          by_cases c : j = 32 + 4 * (q % 6)
          · rw [hT2, c, q_uL_e, q_uL_e]
          · rw [oT2 j c, q_uL_n c]
            exact t' j a b
        · have g := c2.2.2.2.2 q hq.2 hq.1
          rw [hhq] at g
          have b300 := b_ht_300 (r_I_wf c2.1) (k := q) (by rw [c2.2.1]; exact hq.1)
          exact (lo_eq (by omega) (by omega)).mp g
  have e59 : jI (q_h H' (jI H' 31) T2) 31 59 = jI H' 31 59 := by rw [q_h_I]
  have eT2 : jL (q_h H' (jI H' 31) T2) 421 = T2 := q_h_L
  have lt : ∀ {l' : List Nat}, l' = l ++ [q_nv (q_tn k)] ++ [q_nv (q_bn pb k (Int32.ofNat tm) no)] → (∀ x, x ∈ l → x ∈ l') ∧ q_nv (q_tn k) ∈ l' ∧ q_nv (q_bn pb k (Int32.ofNat tm) no) ∈ l' := fun {l'} e => by
    rw [e]
    exact ⟨fun x hx => List.mem_append_left _ (List.mem_append_left _ hx), List.mem_append_left _ (List.mem_append_right _ (List.mem_singleton.mpr rfl)), List.mem_append_right _ (List.mem_singleton.mpr rfl)⟩
  rcases h18 with rfl | rfl
  · -- behind a known block
    have known : jI H' 31 59 = 1 ∨ (∀ a20 : Int32, ((a20 = 0 ∧ hh + 1 ≤ b_ht S.1 S.2.2.2.1) ∨ (a20 = 1 ∧ b_ht S.1 S.2.2.2.1 < hh + 1)) → ∃ bn tb, (∀ q, q < 4 → S'.2.2.2.2.2 q = if q = p0 then [0, 34, 8, 0] ++ q_ls bn 32 else if a20 = 0 then [] else [0, 35, 6, 1, 2] ++ q_ls bn 32) ∧ r_NF n (hh + 1) a4 a7 a20 S' l' T2 bn tb) ∧ a7 = Int32.ofNat (b_ht S.1 S.2.2.2.1) ∧ b_ht S.1 S.2.2.2.1 < 300 ∧ hh < 300 := by
      rcases strong with w | ⟨⟨c1, ⟨i1, i2, i3, i4, i5⟩, c4, -⟩, oT, eh, x, y, z, u, v⟩
      · exact Or.inl w
      refine Or.inr ⟨fun a20 ha => ?_, i3, b_ht_300 (r_I_wf i1) (r_I_tip i1), by have := b_ht_300 (r_I_wf i1) (k := q) (by rw [i2]; exact hq.1); omega⟩
      obtain ⟨m1, m2, m3⟩ := lt x
      have qn : q < S.1.length := by rw [i2]; exact hq.1
      have nmq : q_ls pb 32 = b_nm S.1 q := by
        have s0 := i4 q hq.2 hq.1
        have ln := (r_I_wf i1).2.2.2.1 q qn
        rw [← q_ls_fn ln]
        unfold q_ls
        refine List.map_congr_left fun i hi => ?_
        have hi' : i < 32 := List.mem_range.mp hi
        rw [← s0 i hi', ← spb i hi']
        have : T1 (32 + 4 * (q % 6) + i / 8) = T0 (32 + 4 * (q % 6) + i / 8) := by
          rw [← oT _ (by omega) (by omega), hT2]
          by_cases c : i / 8 = 0
          · rw [c, Nat.add_zero, q_uL_e, c4 rfl]
          · rw [q_uL_n (by omega)]
            exact (t' _ (by omega) (by omega)).symm
        rw [this]
      obtain ⟨j1, j2, j3, j4, j5, j6⟩ := r_blk (tm := tm) (no := no) i1 c1 hp0 (by omega) qn nmq (show k < 28 by omega) (by omega) (by omega) v y z (r_step (show k < 28 by omega) st) m1 m2 m3
      refine ⟨q_bn pb k (Int32.ofNat tm) no, q_tn k, ?_, ⟨j1, by rw [j2, i2]⟩, fun j ja jb => ?_, ⟨by rw [← i2]; exact j4, u, by rw [← i2, j5, eh], by have := b_ht_le (r_I_wf i1) qn; omega⟩, t72, ?_⟩
      · rcases j6 with ⟨o1, -, -, o4⟩ | ⟨o1, -, -, o4⟩
        · have a1 : a20 = 1 := by
            rcases ha with ⟨-, w⟩ | ⟨w, -⟩
            · omega
            · exact w
          intro r hr
          rw [o4 r hr]
          by_cases c : r = p0
          · rw [if_pos c, if_pos c]
          · rw [if_neg c, if_neg c, if_neg (by rw [a1]; decide)]
        · have a0 : a20 = 0 := by
            rcases ha with ⟨w, -⟩ | ⟨-, w⟩
            · exact w
            · omega
          intro r hr
          rw [o4 r hr]
          by_cases c : r = p0
          · rw [if_pos c, if_pos c]
          · rw [if_neg c, if_neg c, if_pos a0]
      · obtain ⟨k1, k2⟩ := j3 j (by rw [i2]; exact jb)
        rw [k1, k2]
        exact ⟨q_sl_eq (i4 j ja jb) fun i hi => oT _ (by omega) (by omega), i5 j ja jb⟩
      · rcases j6 with ⟨o1, o2, o3, -⟩ | ⟨o1, o2, o3, -⟩
        · refine Or.inr ⟨?_, by rw [o2, i2], o3⟩
          rcases ha with ⟨-, w⟩ | ⟨w, -⟩
          · omega
          · exact w
        · refine Or.inl ⟨?_, ?_, o3⟩
          · rcases ha with ⟨w, -⟩ | ⟨-, w⟩
            · exact w
            · omega
          · rw [o2, (j3 _ (r_I_tip i1)).2]
            exact i3
    refine jT_neg (fun w => w rfl) ?_
    have go : ∀ a20 : Int32, (jI H' 31 59 = 1 ∨ ((a20 = 0 ∧ hh + 1 ≤ b_ht S.1 S.2.2.2.1) ∨ (a20 = 1 ∧ b_ht S.1 S.2.2.2.1 < hh + 1))) → jT (B_L_holds_289 k48 18 31 32 421 a4 (Int32.ofNat n) a7 a8 (Int32.ofNat k) (Int32.ofNat p0) (Int32.ofNat (n % 6)) (Int32.ofNat (hh + 1)) 0 1 a20 (q_h H' (jI H' 31) T2)) jF12 := fun a20 ha => by
      refine r_289a hk hn hp0 next hS2 ?_
      rw [e59, eT2]
      rcases ha with w | w
      · exact Or.inl w
      · rcases known with w2 | ⟨w2, -⟩
        · exact Or.inl w2
        · exact Or.inr (w2 a20 w)
    unfold B_L_holds_288
    refine jT_if (fun c => go 0 ?_) fun c => go 1 ?_
    · rcases known with w | ⟨-, w1, w2, w3⟩
      · exact Or.inl w
      · rw [w1, jo_le (by omega) (by omega)] at c
        exact Or.inr (Or.inl ⟨rfl, c⟩)
    · rcases known with w | ⟨-, w1, w2, w3⟩
      · exact Or.inl w
      · rw [w1, jo_le (by omega) (by omega)] at c
        exact Or.inr (Or.inr ⟨rfl, by omega⟩)
  · -- behind a name that nobody has
    refine jT_pos (by decide) ?_
    unfold B_L_holds_288
    refine r_289b hk hn hp0 next hS2 ?_
    rw [e59, eT2]
    rcases strong with w | ⟨⟨c1, ⟨i1, i2, i3, i4, i5⟩, -, c5⟩, oT, eh, x, y, z, u, v⟩
    · exact Or.inl w
    have vp : q_nv pb ∉ l := by
      have := c5 rfl
      rw [q_v_nv spb] at this
      exact this
    have eS := r_orph i1 vp z (r_step (show k < 28 by omega) st)
    obtain ⟨m1, -, -⟩ := lt x
    rw [eS]
    refine Or.inr ⟨fun r hr => ?_, ⟨r_I_mono (r_I_bx i1) m1, i2, i3, fun j ja jb => q_sl_eq (i4 j ja jb) fun i hi => oT _ (by omega) (by omega), i5⟩, q_tn k, t72, r_val_none (r_I_bx i1) y⟩
    show p_bx1 S.2.2.2.2.2 p0 (p_askm S.1 S.2.2.2.1) r = _
    unfold p_bx1
    by_cases c : r = p0
    · rw [if_pos c, if_pos c, c1 r hr]
      rfl
    · rw [if_neg c, if_neg c]
      exact c1 r hr
end RND
