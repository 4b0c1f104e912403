/-! The reference's RIPEMD-160: words, parts, the whole. -/
def zpl (b : Nat → UInt8) (n i : Nat) : Int32 :=
  if i < n then Int32.ofNat (b i).toNat else if i = n then 128 else if i < 64 * ((n + 72) / 64) - 8 then 0 else if i - (64 * ((n + 72) / 64) - 8) ≤ 2 then Int32.ofNat (8 * n / 2 ^ (8 * (i - (64 * ((n + 72) / 64) - 8))) % 256) else 0
theorem z12_padded0 {a1 len at_ n i : Nat} {b : Nat → UInt8} {H : jH} (hl : at_ + n ≤ len) (hlen : len < 2147483648) (hn : n < 2000000) (hi : i < 64 * ((n + 72) / 64)) (hk : jK H a1 = (101, len)) (hb : ∀ i, i < n → jB H a1 (at_ + i) = b i) :
    F_12_padded a1 (Int32.ofNat at_) (Int32.ofNat n) (Int32.ofNat i) 0 H = some (zpl b n i, H) := by
  unfold F_12_padded zpl
  rw [jg_t (by decide)]
  have e1 : Int32.ofNat n + 72 = Int32.ofNat (n + 72) := jo_add (a := n) (b := 72)
  have e2 : Int32.ofNat (n + 72) / 64 = Int32.ofNat ((n + 72) / 64) := jo_div (a := n + 72) (b := 64) (by omega) (by omega)
  have e3 : Int32.ofNat ((n + 72) / 64) * 64 = Int32.ofNat (64 * ((n + 72) / 64)) := by rw [Nat.mul_comm]; exact jo_mul (a := (n + 72) / 64) (b := 64)
  have e4 : Int32.ofNat at_ + Int32.ofNat i = Int32.ofNat (at_ + i) := jo_add
  dsimp only [jl]
  rw [e1, e2, e3, e4]
  generalize hE : 64 * ((n + 72) / 64) = E at *
  have hE2 : E < 2147483648 := by omega
  have hE3 : n + 9 ≤ E := by omega
  by_cases h1 : i < n
  · rw [if_pos h1, if_neg (by rw [jo_le (by omega) (by omega)]; omega), hk, jg_t ⟨rfl, jo_in (by omega) (by omega)⟩, jo_nat (n := at_ + i) (by omega), hb i h1, jb_and]
  · rw [if_neg h1, if_pos (by rw [jo_le (by omega) (by omega)]; omega)]
    by_cases h2 : i = n
    · rw [if_pos h2, if_neg (by rw [jo_eq (by omega) (by omega)]; exact fun h => h h2)]
    · rw [if_neg h2, if_pos (by rw [jo_eq (by omega) (by omega)]; exact h2), if_pos rfl]
      have e5 : Int32.ofNat E - 8 = Int32.ofNat (E - 8) := jo_sub (a := E) (b := 8) (by omega)
      rw [e5]
      unfold B_12_padded_57 B_12_padded_88 B_12_padded_70 B_12_padded_88
      by_cases h3 : i < E - 8
      · rw [if_pos h3, if_pos (jo_subneg h3 (by omega))]
      · have e6 : Int32.ofNat i - Int32.ofNat (E - 8) = Int32.ofNat (i - (E - 8)) := jo_sub (by omega)
        rw [if_neg h3, e6]
        generalize hk2 : i - (E - 8) = k at *
        rw [if_neg (by rw [show (0 : Int32) = Int32.ofNat 0 from rfl, jo_lt (by omega) (by omega)]; omega)]
        by_cases h4 : k ≤ 2
        · rw [if_pos h4, if_pos (by rw [show (2 : Int32) = Int32.ofNat 2 from rfl, jo_le (by omega) (by omega)]; exact h4)]
          have e8 : (8 : Int32) * Int32.ofNat n = Int32.ofNat (8 * n) := jo_mul (a := 8)
          have e9 : (8 : Int32) * Int32.ofNat k = Int32.ofNat (8 * k) := jo_mul (a := 8)
          have e10 := jo_mask (m := 8 * n / 2 ^ (8 * k)) (k := 8) (by omega)
          rw [e8, e9, jo_shr (by omega) (by omega)]
          exact congrArg (fun x => some (x, H)) e10
        · rw [if_neg h4, if_neg (by rw [show (2 : Int32) = Int32.ofNat 2 from rfl, jo_le (by omega) (by omega)]; exact h4)]
/-- a word of four bytes, the highest byte last -/
def zwl (b : Nat → UInt8) (n o : Nat) : Nat → Int32
  | 0 => 0
  | m + 1 => jshl (zwl b n o m) 8 ||| zpl b n (o + (3 - m))
theorem zpl_zpad {b : Nat → UInt8} {n i : Nat} (h : i < 64 * ((n + 72) / 64) - 8 ∨ 64 * ((n + 72) / 64) - 5 ≤ i) (hn : n < 2000000) : zpl b n i = Int32.ofNat (zpad b n i).toNat := by
  unfold zpl zpad
  by_cases h1 : i < n
  · rw [if_pos h1, if_pos h1]
  · rw [if_neg h1, if_neg h1]
    by_cases h2 : i = n
    · rw [if_pos h2, if_pos h2]
      rfl
    · rw [if_neg h2, if_neg h2]
      by_cases h3 : i < 64 * ((n + 72) / 64) - 8
      · rw [if_pos h3]
        rfl
      · rw [if_neg h3, if_neg (by omega)]
        rfl
theorem zwl_zMr {b : Nat → UInt8} {n p j : Nat} (hp : p < (n + 72) / 64) (hj : j < 16) (hn : n < 2000000) : zwl b n (64 * p + 4 * j) 4 = zMr (zpad b n) n ((n + 8) / 64 + 1) p j := by
  have hE : (n + 72) / 64 = (n + 8) / 64 + 1 := by omega
  have hE3 : 64 * ((n + 72) / 64) ≥ n + 9 := by omega
  unfold zMr
  by_cases h : j = 14 ∧ p + 1 = (n + 8) / 64 + 1
  · rw [if_pos h]
    have ho : 64 * p + 4 * j = 64 * ((n + 72) / 64) - 8 := by omega
    rw [ho]
    have q : ∀ k, k < 4 → zpl b n (64 * ((n + 72) / 64) - 8 + k) = if k ≤ 2 then Int32.ofNat (8 * n / 2 ^ (8 * k) % 256) else 0 := by
      intro k hk
      unfold zpl
      rw [if_neg (by omega), if_neg (by omega), if_neg (by omega)]
      have : 64 * ((n + 72) / 64) - 8 + k - (64 * ((n + 72) / 64) - 8) = k := by omega
      rw [this]
    unfold zwl zwl zwl zwl zwl
    rw [q (3 - 0) (by omega), q (3 - 1) (by omega), q (3 - 2) (by omega), q (3 - 3) (by omega), if_neg (by omega), if_pos (by omega), if_pos (by omega), if_pos (by omega)]
    have h8 : (8 : Int32) * Int32.ofNat n = Int32.ofNat (8 * n) := jo_mul (a := 8)
    rw [h8]
    generalize hm : 8 * n = m
    have hm2 : m < 16777216 := by omega
    have h0 : jshl (jshl (0 : Int32) 8 ||| 0) 8 = 0 := by decide
    have s8 : ∀ x : Nat, jshl (Int32.ofNat x) 8 = Int32.ofNat (x * 2 ^ 8) := fun x => jo_shl (m := x) (c := 8) (by omega)
    rw [h0, Int32.zero_or, s8, jo_or (Nat.mod_lt _ (by omega)), s8, jo_or (Nat.mod_lt _ (by omega))]
    congr 1
    show (m / 65536 % 256 * 256 + m / 256 % 256) * 256 + m / 1 % 256 = m
    omega
  · rw [if_neg h]
    have q : ∀ k, k < 4 → zpl b n (64 * p + 4 * j + k) = Int32.ofNat (zpad b n (64 * p + 4 * j + k)).toNat := fun k hk => zpl_zpad (by omega) hn
    unfold zwl zwl zwl zwl zwl
    rw [q (3 - 0) (by omega), q (3 - 1) (by omega), q (3 - 2) (by omega), q (3 - 3) (by omega), jb_z4]
    rfl
theorem z12_76 {Q : Unit → jH → Prop} {k58 : Nat → Nat → Int32 → Int32 → Nat → Int32 → Int32 → Int32 → jH → Option (Unit × jH)} {a1 len at_ n p i a4 : Nat} {a5 : Int32} {b : Nat → UInt8} {H0 : jH} (hl : at_ + n ≤ len) (hlen : len < 2147483648) (hn : n < 2000000) (hp : p < (n + 72) / 64) (hi : i < 16) (hk1 : jK H0 a1 = (101, len)) (ha1 : a1 ≠ 423) (hb : ∀ i, i < n → jB H0 a1 (at_ + i) = b i)
    (hk : ∀ H', jsh H' → jfr (fun a j => a = 423 ∧ j = i) H0 H' → jI H' 423 i = zwl b n (64 * p + 4 * i) 4 → jT (k58 422 a1 (Int32.ofNat at_) (Int32.ofNat n) a4 a5 (Int32.ofNat p) (Int32.ofNat (i + 1)) H') Q) :
    ∀ (d m f : Nat) (H : jH), m + d = 4 → d < f → jsh H → jfr (fun a j => a = 423 ∧ j = i) H0 H → jI H 423 i = zwl b n (64 * p + 4 * i) m → jT (F_12_small_76 k58 f 422 a1 (Int32.ofNat at_) (Int32.ofNat n) a4 a5 (Int32.ofNat p) (Int32.ofNat i) (Int32.ofNat (4 - m) - 1) H) Q := by
  intro d
  induction d with
  | zero =>
    intro m f H hm hf hs hfr hw
    obtain rfl : m = 4 := by omega
    obtain ⟨f, rfl⟩ : ∃ k, f = k + 1 := ⟨f - 1, by omega⟩
    unfold F_12_small_76 B_12_small_76
    have e_i : Int32.ofNat i + 1 = Int32.ofNat (i + 1) := jo_add (a := i) (b := 1)
    refine jT_pos (by decide) (jT_l ?_)
    rw [e_i]
    exact hk H hs hfr hw
  | succ d ih =>
    intro m f H hm hf hs hfr hw
    obtain ⟨f, rfl⟩ : ∃ k, f = k + 1 := ⟨f - 1, by omega⟩
    unfold F_12_small_76 B_12_small_76
    have ea : 64 * Int32.ofNat p + 4 * Int32.ofNat i = Int32.ofNat (64 * p + 4 * i) := by
      rw [show (64 : Int32) = Int32.ofNat 64 from rfl, show (4 : Int32) = Int32.ofNat 4 from rfl, jo_mul, jo_mul, jo_add]
    have e1 : Int32.ofNat (4 - m) - 1 = Int32.ofNat (3 - m) := by
      rw [show 3 - m = 4 - m - 1 by omega]
      exact jo_sub (a := 4 - m) (b := 1) (by omega)
    have e2 : Int32.ofNat (3 - m) + (-1) = Int32.ofNat (4 - (m + 1)) - 1 := by
      rw [show 4 - (m + 1) = 3 - m by omega, Int32.sub_eq_add_neg]
    have e3 : Int32.ofNat (64 * p + 4 * i) + Int32.ofNat (3 - m) = Int32.ofNat (64 * p + 4 * i + (3 - m)) := jo_add
    rw [e1, ea, e3, e2]
    have hpd := z12_padded0 (i := 64 * p + 4 * i + (3 - m)) (b := b) hl hlen hn (by omega) ((jfr_K hfr a1).trans hk1) (fun k hk => (jfr_B hfr (fun h => ha1 h.1)).trans (hb k hk))
    refine jT_neg (by rw [show (0 : Int32) = Int32.ofNat 0 from rfl, jo_lt (by omega) (by omega)]; omega) ?_
    rw [hpd, jb_ok, sR_422_0 hs, sK_422 hs, sK_423 hs, jo_nat (n := i) (by omega), hw]
    refine jT_g rfl (jT_g rfl (jT_g ⟨rfl, jo_in (by omega) (by omega)⟩ (jT_g ⟨rfl, by decide, jo_in (by omega) (by omega)⟩ (jT_l (jT_l ?_)))))
    exact ih (m + 1) f _ (by omega) (by omega) (jsh_sI hs (by decide)) (jfr_sI hfr ⟨rfl, rfl⟩) jI_sIe
/-- both lines come to the state -/
theorem z12_comb {Q : Unit → jH → Prop} {k43 : Nat → Nat → Int32 → Int32 → Nat → Int32 → Int32 → jH → Option (Unit × jH)} {k166 : Nat → Nat → Int32 → Int32 → Nat → Int32 → Int32 → Int32 → jH → Option (Unit × jH)} {a1 : Nat} {a2 a3 : Int32} {a4 : Nat} {a5 a6 : Int32} {s l r : z5} {H : jH} (hs : jsh H) (h0 : ∀ j, j < 5 → jI H 424 j = zget5 s j) (hl : ∀ j, j < 5 → jI H 425 (0 + j) = zget5 l j) (hr : ∀ j, j < 5 → jI H 425 (5 + j) = zget5 r j)
    (hk : ∀ H', jsh H' → jfr (fun a _ => a = 424) H H' → (∀ j, j < 5 → jI H' 424 j = zget5 (s.2.1 + l.2.2.1 + r.2.2.2.1, s.2.2.1 + l.2.2.2.1 + r.2.2.2.2, s.2.2.2.1 + l.2.2.2.2 + r.1, s.2.2.2.2 + l.1 + r.2.1, s.1 + l.2.1 + r.2.2.1) j) → jT (k43 422 a1 a2 a3 a4 a5 (a6 + 1) H') Q) :
    jT (B_12_small_166 k43 k166 422 a1 a2 a3 a4 a5 a6 (Int32.ofNat 80) H) Q := by
  unfold B_12_small_166
  have e0 : (0 : Int32).toNatClampNeg = 0 := rfl
  have e1 : (1 : Int32).toNatClampNeg = 1 := rfl
  have e2 : (2 : Int32).toNatClampNeg = 2 := rfl
  have e3 : (3 : Int32).toNatClampNeg = 3 := rfl
  have e4 : (4 : Int32).toNatClampNeg = 4 := rfl
  have e5 : (5 : Int32).toNatClampNeg = 5 := rfl
  have e6 : (6 : Int32).toNatClampNeg = 6 := rfl
  have e7 : (7 : Int32).toNatClampNeg = 7 := rfl
  have e8 : (8 : Int32).toNatClampNeg = 8 := rfl
  have e9 : (9 : Int32).toNatClampNeg = 9 := rfl
  refine jT_pos (by decide) ?_
  simp only [e0, e1, e2, e3, e4, e5, e6, e7, e8, e9, sR_422_1 hs, sR_422_2 hs, sK_422 hs, sK_424 hs, sK_425 hs]
  iterate 6 refine jT_g (by first | exact rfl | exact trivial | exact ⟨trivial, jo_in (by omega) (by omega)⟩ | exact ⟨trivial, by unfold jF0; omega, jo_in (by omega) (by omega)⟩ | exact ⟨rfl, jo_in (by omega) (by omega)⟩ | exact ⟨rfl, by unfold jF0; omega, jo_in (by omega) (by omega)⟩ | decide) ?_
  refine jT_l ?_
  iterate 7 refine jT_g (by first | exact rfl | exact trivial | exact ⟨trivial, jo_in (by omega) (by omega)⟩ | exact ⟨trivial, by unfold jF0; omega, jo_in (by omega) (by omega)⟩ | exact ⟨rfl, jo_in (by omega) (by omega)⟩ | exact ⟨rfl, by unfold jF0; omega, jo_in (by omega) (by omega)⟩ | decide) ?_
  refine jset (S := fun a _ => a = 424) hs jfr_refl 424 1 (by first | exact rfl | exact trivial | exact ⟨trivial, jo_in (by omega) (by omega)⟩ | exact ⟨trivial, by unfold jF0; omega, jo_in (by omega) (by omega)⟩ | exact ⟨rfl, jo_in (by omega) (by omega)⟩ | exact ⟨rfl, by unfold jF0; omega, jo_in (by omega) (by omega)⟩ | decide) rfl rfl (by decide) rfl fun H0 hs0 f0 v0 o0 => ?_
  simp only [e0, e1, e2, e3, e4, e5, e6, e7, e8, e9, sR_422_1 hs0, sR_422_2 hs0, sK_422 hs0, sK_424 hs0, sK_425 hs0]
  iterate 7 refine jT_g (by first | exact rfl | exact trivial | exact ⟨trivial, jo_in (by omega) (by omega)⟩ | exact ⟨trivial, by unfold jF0; omega, jo_in (by omega) (by omega)⟩ | exact ⟨rfl, jo_in (by omega) (by omega)⟩ | exact ⟨rfl, by unfold jF0; omega, jo_in (by omega) (by omega)⟩ | decide) ?_
  refine jset (S := fun a _ => a = 424) hs0 f0 424 2 (by first | exact rfl | exact trivial | exact ⟨trivial, jo_in (by omega) (by omega)⟩ | exact ⟨trivial, by unfold jF0; omega, jo_in (by omega) (by omega)⟩ | exact ⟨rfl, jo_in (by omega) (by omega)⟩ | exact ⟨rfl, by unfold jF0; omega, jo_in (by omega) (by omega)⟩ | decide) rfl rfl (by decide) rfl fun H1 hs1 f1 v1 o1 => ?_
  simp only [e0, e1, e2, e3, e4, e5, e6, e7, e8, e9, sR_422_1 hs1, sR_422_2 hs1, sK_422 hs1, sK_424 hs1, sK_425 hs1]
  iterate 7 refine jT_g (by first | exact rfl | exact trivial | exact ⟨trivial, jo_in (by omega) (by omega)⟩ | exact ⟨trivial, by unfold jF0; omega, jo_in (by omega) (by omega)⟩ | exact ⟨rfl, jo_in (by omega) (by omega)⟩ | exact ⟨rfl, by unfold jF0; omega, jo_in (by omega) (by omega)⟩ | decide) ?_
  refine jset (S := fun a _ => a = 424) hs1 f1 424 3 (by first | exact rfl | exact trivial | exact ⟨trivial, jo_in (by omega) (by omega)⟩ | exact ⟨trivial, by unfold jF0; omega, jo_in (by omega) (by omega)⟩ | exact ⟨rfl, jo_in (by omega) (by omega)⟩ | exact ⟨rfl, by unfold jF0; omega, jo_in (by omega) (by omega)⟩ | decide) rfl rfl (by decide) rfl fun H2 hs2 f2 v2 o2 => ?_
  simp only [e0, e1, e2, e3, e4, e5, e6, e7, e8, e9, sR_422_1 hs2, sR_422_2 hs2, sK_422 hs2, sK_424 hs2, sK_425 hs2]
  iterate 7 refine jT_g (by first | exact rfl | exact trivial | exact ⟨trivial, jo_in (by omega) (by omega)⟩ | exact ⟨trivial, by unfold jF0; omega, jo_in (by omega) (by omega)⟩ | exact ⟨rfl, jo_in (by omega) (by omega)⟩ | exact ⟨rfl, by unfold jF0; omega, jo_in (by omega) (by omega)⟩ | decide) ?_
  refine jset (S := fun a _ => a = 424) hs2 f2 424 4 (by first | exact rfl | exact trivial | exact ⟨trivial, jo_in (by omega) (by omega)⟩ | exact ⟨trivial, by unfold jF0; omega, jo_in (by omega) (by omega)⟩ | exact ⟨rfl, jo_in (by omega) (by omega)⟩ | exact ⟨rfl, by unfold jF0; omega, jo_in (by omega) (by omega)⟩ | decide) rfl rfl (by decide) rfl fun H3 hs3 f3 v3 o3 => ?_
  simp only [e0, e1, e2, e3, e4, e5, e6, e7, e8, e9, sR_422_1 hs3, sR_422_2 hs3, sK_422 hs3, sK_424 hs3, sK_425 hs3]
  iterate 1 refine jT_g (by first | exact rfl | exact trivial | exact ⟨trivial, jo_in (by omega) (by omega)⟩ | exact ⟨trivial, by unfold jF0; omega, jo_in (by omega) (by omega)⟩ | exact ⟨rfl, jo_in (by omega) (by omega)⟩ | exact ⟨rfl, by unfold jF0; omega, jo_in (by omega) (by omega)⟩ | decide) ?_
  refine jset (S := fun a _ => a = 424) hs3 f3 424 0 (by first | exact rfl | exact trivial | exact ⟨trivial, jo_in (by omega) (by omega)⟩ | exact ⟨trivial, by unfold jF0; omega, jo_in (by omega) (by omega)⟩ | exact ⟨rfl, jo_in (by omega) (by omega)⟩ | exact ⟨rfl, by unfold jF0; omega, jo_in (by omega) (by omega)⟩ | decide) rfl rfl (by decide) rfl fun H4 hs4 f4 v4 o4 => ?_
  refine jT_l (hk H4 hs4 f4 fun j hj => ?_)
  rcases (show j = 0 ∨ j = 1 ∨ j = 2 ∨ j = 3 ∨ j = 4 by omega) with rfl | rfl | rfl | rfl | rfl
  · rw [v4, h0 1 (by omega), show jI H 425 2 = zget5 l 2 from hl 2 (by omega), show jI H 425 8 = zget5 r 3 from hr 3 (by omega)]; rfl
  · rw [o4 424 1 (by decide), o3 424 1 (by decide), o2 424 1 (by decide), o1 424 1 (by decide), v0, h0 2 (by omega), show jI H 425 3 = zget5 l 3 from hl 3 (by omega), show jI H 425 9 = zget5 r 4 from hr 4 (by omega)]; rfl
  · rw [o4 424 2 (by decide), o3 424 2 (by decide), o2 424 2 (by decide), v1, o0 424 3 (by decide), o0 425 4 (by decide), o0 425 5 (by decide), h0 3 (by omega), show jI H 425 4 = zget5 l 4 from hl 4 (by omega), show jI H 425 5 = zget5 r 0 from hr 0 (by omega)]; rfl
  · rw [o4 424 3 (by decide), o3 424 3 (by decide), v2, o1 424 4 (by decide), o0 424 4 (by decide), o1 425 0 (by decide), o0 425 0 (by decide), o1 425 6 (by decide), o0 425 6 (by decide), h0 4 (by omega), show jI H 425 0 = zget5 l 0 from hl 0 (by omega), show jI H 425 6 = zget5 r 1 from hr 1 (by omega)]; rfl
  · rw [o4 424 4 (by decide), v3, o2 424 0 (by decide), o1 424 0 (by decide), o0 424 0 (by decide), o2 425 1 (by decide), o1 425 1 (by decide), o0 425 1 (by decide), o2 425 7 (by decide), o1 425 7 (by decide), o0 425 7 (by decide), h0 0 (by omega), show jI H 425 1 = zget5 l 1 from hl 1 (by omega), show jI H 425 7 = zget5 r 2 from hr 2 (by omega)]; rfl
/-- the lines begin as the state is -/
theorem z12_134 {Q : Unit → jH → Prop} {k43 : Nat → Nat → Int32 → Int32 → Nat → Int32 → Int32 → jH → Option (Unit × jH)} {a1 : Nat} {a2 a3 : Int32} {a4 : Nat} {a5 a6 : Int32} {M : Nat → Int32} {s : z5} {H0 : jH} (hM : ∀ i, i < 16 → jI H0 423 i = M i) (h0 : ∀ j, j < 5 → jI H0 424 j = zget5 s j)
    (hk : ∀ H', jsh H' → jfr (fun a _ => a = 424 ∨ a = 425) H0 H' → (∀ j, j < 5 → jI H' 424 j = zget5 (zrp M s) j) → jT (k43 422 a1 a2 a3 a4 a5 (a6 + 1) H') Q) :
    ∀ (d i f : Nat) (H : jH), i + d = 10 → d < f → jsh H → jfr (fun a _ => a = 425) H0 H → (∀ j, j < i → jI H 425 j = zget5 s (j % 5)) → jT (F_12_small_134 k43 f 422 a1 a2 a3 a4 a5 a6 (Int32.ofNat i) H) Q := by
  intro d
  induction d with
  | zero =>
    intro i f H hi hf hs hfr hv
    obtain rfl : i = 10 := by omega
    obtain ⟨f, rfl⟩ : ∃ k, f = k + 1 := ⟨f - 1, by omega⟩
    unfold F_12_small_134 B_12_small_134
    refine jT_pos (by decide) ?_
    refine z12_166 (M := M) (s := s) hM (fun H1 k166 hs1 f1 l1 r1 => ?_) 80 0 jfuel H rfl (by unfold jfuel; omega) hs hfr (fun j hj => ?_) (fun j hj => ?_)
    · have n424 : ¬ (fun (a : Nat) (_ : Nat) => a = 425) 424 0 := fun h => absurd (show (424 : Nat) = 425 from h) (by decide)
      refine z12_comb (s := s) hs1 (fun j hj => (jfr_I f1 n424).trans (h0 j hj)) l1 r1 fun H2 hs2 f2 g2 => hk H2 hs2 ?_ g2
      exact jfr_trans (jfr_mono f1 fun a j h => Or.inr h) (jfr_mono f2 fun a j h => Or.inl h)
    · rw [Nat.zero_add, hv j (by omega), Nat.mod_eq_of_lt hj]
      rfl
    · rw [hv (5 + j) (by omega), show (5 + j) % 5 = j by omega]
      rfl
  | succ d ih =>
    intro i f H hi hf hs hfr hv
    obtain ⟨f, rfl⟩ : ∃ k, f = k + 1 := ⟨f - 1, by omega⟩
    unfold F_12_small_134 B_12_small_134
    have er : jrem (Int32.ofNat i) 5 = Int32.ofNat (i % 5) := jo_rem (a := i) (b := 5) (by omega) (by omega)
    have e_i : Int32.ofNat i + 1 = Int32.ofNat (i + 1) := jo_add (a := i) (b := 1)
    have n424 : ¬ (fun (a : Nat) (_ : Nat) => a = 425) 424 0 := fun h => absurd (show (424 : Nat) = 425 from h) (by decide)
    have h4 : jI H 424 (i % 5) = zget5 s (i % 5) := (jfr_I hfr n424).trans (h0 _ (by omega))
    refine jT_neg (by rw [show (10 : Int32) = Int32.ofNat 10 from rfl, jo_le (by omega) (by omega)]; omega) ?_
    rw [er, e_i, sR_422_1 hs, sR_422_2 hs, sK_422 hs, sK_424 hs, sK_425 hs, jo_nat (n := i) (by omega), jo_nat (n := i % 5) (by omega), h4]
    refine jT_g rfl (jT_g rfl (jT_g (by decide) (jT_g ⟨rfl, jo_in (by omega) (by show i % 5 < 8; omega)⟩ (jT_g ⟨rfl, by decide, jo_in (by omega) (by show i < 10; omega)⟩ (jT_l (jT_l ?_))))))
    refine ih (i + 1) f _ (by omega) (by omega) (jsh_sI hs (by decide)) (jfr_sI hfr rfl) fun j hj => ?_
    by_cases h : j = i
    · subst h
      rw [jI_sIe]
    · rw [jI_sIn h]
      exact hv j (by omega)
theorem z12_58 {Q : Unit → jH → Prop} {k43 : Nat → Nat → Int32 → Int32 → Nat → Int32 → Int32 → jH → Option (Unit × jH)} {a1 len at_ n p a4 : Nat} {a5 : Int32} {b : Nat → UInt8} {s : z5} {H0 : jH} (hl : at_ + n ≤ len) (hlen : len < 2147483648) (hn : n < 2000000) (hp : p < (n + 72) / 64) (hk1 : jK H0 a1 = (101, len)) (ha1 : a1 ≠ 423) (hb : ∀ i, i < n → jB H0 a1 (at_ + i) = b i) (h0 : ∀ j, j < 5 → jI H0 424 j = zget5 s j)
    (hk : ∀ H', jsh H' → jfr (fun a _ => a = 423 ∨ a = 424 ∨ a = 425) H0 H' → (∀ j, j < 5 → jI H' 424 j = zget5 (zrp (zMr (zpad b n) n ((n + 8) / 64 + 1) p) s) j) → jT (k43 422 a1 (Int32.ofNat at_) (Int32.ofNat n) a4 a5 (Int32.ofNat (p + 1)) H') Q) :
    ∀ (d i f : Nat) (H : jH), i + d = 16 → d < f → jsh H → jfr (fun a _ => a = 423) H0 H → (∀ j, j < i → jI H 423 j = zMr (zpad b n) n ((n + 8) / 64 + 1) p j) → jT (F_12_small_58 k43 f 422 a1 (Int32.ofNat at_) (Int32.ofNat n) a4 a5 (Int32.ofNat p) (Int32.ofNat i) H) Q := by
  have n424 : ¬ (fun (a : Nat) (_ : Nat) => a = 423) 424 0 := fun h => absurd (show (424 : Nat) = 423 from h) (by decide)
  have e_p : Int32.ofNat p + 1 = Int32.ofNat (p + 1) := jo_add (a := p) (b := 1)
  intro d
  induction d with
  | zero =>
    intro i f H hi hf hs hfr hw
    obtain rfl : i = 16 := by omega
    obtain ⟨f, rfl⟩ : ∃ k, f = k + 1 := ⟨f - 1, by omega⟩
    unfold F_12_small_58 B_12_small_58
    refine jT_pos (by decide) ?_
    refine z12_134 (M := zMr (zpad b n) n ((n + 8) / 64 + 1) p) (s := s) (H0 := H) (fun j hj => hw j hj) (fun j hj => (jfr_I hfr n424).trans (h0 j hj)) (fun H1 hs1 f1 g1 => ?_) 10 0 jfuel H rfl (by unfold jfuel; omega) hs jfr_refl (fun j hj => absurd hj (Nat.not_lt_zero j))
    rw [e_p]
    exact hk H1 hs1 (jfr_trans (jfr_mono hfr fun a j h => Or.inl h) (jfr_mono f1 fun a j h => Or.inr h)) g1
  | succ d ih =>
    intro i f H hi hf hs hfr hw
    obtain ⟨f, rfl⟩ : ∃ k, f = k + 1 := ⟨f - 1, by omega⟩
    unfold F_12_small_58 B_12_small_58
    refine jT_neg (by rw [show (16 : Int32) = Int32.ofNat 16 from rfl, jo_le (by omega) (by omega)]; omega) ?_
    rw [sR_422_0 hs, sK_422 hs, sK_423 hs, jo_nat (n := i) (by omega)]
    refine jT_g rfl (jT_g ⟨rfl, by decide, jo_in (by omega) (by show i < 64; omega)⟩ (jT_l ?_))
    have hs1 : jsh (jsI H 423 i 0) := jsh_sI hs (by decide)
    have hf1 : jfr (fun a _ => a = 423) H0 (jsI H 423 i 0) := jfr_sI hfr rfl
    have hw1 : ∀ j, j < i → jI (jsI H 423 i 0) 423 j = zMr (zpad b n) n ((n + 8) / 64 + 1) p j := fun j hj => (jI_sIn (by omega)).trans (hw j hj)
    refine z12_76 (b := b) hl hlen hn hp (by omega) ((jfr_K hf1 a1).trans hk1) ha1 (fun k hk => (jfr_B hf1 ha1).trans (hb k hk)) (fun H1 hs1 f1 g1 => ?_) 4 0 jfuel _ rfl (by unfold jfuel; omega) hs1 jfr_refl jI_sIe
    refine ih (i + 1) f H1 (by omega) (by omega) hs1 (jfr_trans hf1 (jfr_mono f1 fun a j h => h.1)) fun j hj => ?_
    by_cases h : j = i
    · subst h
      rw [g1, zwl_zMr hp (by omega) hn]
    · rw [jfr_I f1 (fun q => h q.2)]
      exact hw1 j (by omega)
theorem z12_528 {Q : Unit → jH → Prop} {a4 pl len : Nat} (hl : pl + 20 ≤ len) (hlen : len < 2147483648) (h4 : a4 ≠ 424) {s : z5} {H0 : jH} (hk4 : jK H0 a4 = (101, len)) (hs0 : ∀ j, j < 5 → jI H0 424 j = zget5 s j)
    (hk : ∀ H', jsh H' → jfr (fun a j => a = a4 ∧ pl ≤ j ∧ j < pl + 20) H0 H' → (∀ i, i < 20 → jB H' a4 (pl + i) = zrout s i) → Q () H') :
    ∀ (d i m : Nat) (H : jH), i + d = 20 → d < m → jsh H → jfr (fun a j => a = a4 ∧ pl ≤ j ∧ j < pl + 20) H0 H → (∀ j, j < i → jB H a4 (pl + j) = zrout s j) → jT (F_12_small_528 m 422 a4 (Int32.ofNat pl) (Int32.ofNat i) H) Q := by
  intro d
  induction d with
  | zero =>
    intro i m H hi hm hs hf hw
    obtain rfl : i = 20 := by omega
    obtain ⟨m, rfl⟩ : ∃ k, m = k + 1 := ⟨m - 1, by omega⟩
    unfold F_12_small_528 B_12_small_528
    exact jT_pos (by decide) (jT_ret (hk H hs hf hw))
  | succ d ih =>
    intro i m H hi hm hs hf hw
    obtain ⟨m, rfl⟩ : ∃ k, m = k + 1 := ⟨m - 1, by omega⟩
    unfold F_12_small_528 B_12_small_528
    refine jT_neg (by rw [show (20 : Int32) = Int32.ofNat 20 from rfl, jo_le (by omega) (by omega)]; omega) ?_
    have e4 : Int32.ofNat i / 4 = Int32.ofNat (i / 4) := jo_div (a := i) (b := 4) (by omega) (by omega)
    have er : jrem (Int32.ofNat i) 4 = Int32.ofNat (i % 4) := jo_rem (a := i) (b := 4) (by omega) (by omega)
    have e8 : (8 : Int32) * Int32.ofNat (i % 4) = Int32.ofNat (8 * (i % 4)) := jo_mul (a := 8)
    have ep : Int32.ofNat pl + Int32.ofNat i = Int32.ofNat (pl + i) := jo_add
    have hI : jI H 424 (i / 4) = zget5 s (i / 4) := (jfr_I hf (fun h => h4 h.1.symm)).trans (hs0 _ (by omega))
    have e_i : Int32.ofNat i + 1 = Int32.ofNat (i + 1) := jo_add (a := i) (b := 1)
    rw [e4, er, e8, e_i, ep, (jfr_K hf a4).trans hk4, sR_422_1 hs, sK_422 hs, sK_424 hs, jo_nat (n := pl + i) (by omega), jo_nat (n := i / 4) (by omega), hI]
    repeat (first | (with_reducible refine jT_g ?_ ?_; · first | exact rfl | exact trivial | exact ⟨trivial, jo_in (by omega) (by omega)⟩ | exact ⟨trivial, by unfold jF0; omega, jo_in (by omega) (by omega)⟩ | exact ⟨rfl, jo_in (by omega) (by omega)⟩ | exact ⟨rfl, by unfold jF0; omega, jo_in (by omega) (by omega)⟩ | decide) | with_reducible refine jT_l ?_)
    refine ih (i + 1) m _ (by omega) (by omega) (jsh_sB hs) (jfr_sB hf ⟨rfl, by omega, by omega⟩) fun j hj => ?_
    by_cases h : j = i
    · subst h
      rw [jB_sBe]
      rfl
    · rw [jB_sBn (by omega)]
      exact hw j (by omega)
theorem z12_43 {Q : Unit → jH → Prop} {a1 len at_ n a4 pl len4 : Nat} {b : Nat → UInt8} {H0 : jH} (hl : at_ + n ≤ len) (hlen : len < 2147483648) (hn : n < 2000000) (hk1 : jK H0 a1 = (101, len)) (ha1 : a1 ≠ 423 ∧ a1 ≠ 424 ∧ a1 ≠ 425)
    (hb : ∀ i, i < n → jB H0 a1 (at_ + i) = b i) (hl4 : pl + 20 ≤ len4) (hlen4 : len4 < 2147483648) (h4 : a4 ≠ 424) (hk4 : jK H0 a4 = (101, len4))
    (hk : ∀ H', jsh H' → jfr (fun a j => a = 423 ∨ a = 424 ∨ a = 425 ∨ (a = a4 ∧ pl ≤ j ∧ j < pl + 20)) H0 H' → (∀ i, i < 20 → jB H' a4 (pl + i) = zrip b n i) → Q () H') :
    ∀ (d p m : Nat) (H : jH), p + d = (n + 72) / 64 → d < m → jsh H → jfr (fun a _ => a = 423 ∨ a = 424 ∨ a = 425) H0 H → (∀ j, j < 5 → jI H 424 j = zget5 (zrH (zpad b n) n ((n + 8) / 64 + 1) p) j) → jT (F_12_small_43 m 422 a1 (Int32.ofNat at_) (Int32.ofNat n) a4 (Int32.ofNat pl) (Int32.ofNat p) H) Q := by
  intro d
  have e1 : Int32.ofNat n + 72 = Int32.ofNat (n + 72) := jo_add (a := n) (b := 72)
  have e2 : Int32.ofNat (n + 72) / 64 = Int32.ofNat ((n + 72) / 64) := jo_div (a := n + 72) (b := 64) (by omega) (by omega)
  have hE : (n + 72) / 64 = (n + 8) / 64 + 1 := by omega
  induction d with
  | zero =>
    intro p m H hi hm hs hf hw
    obtain ⟨m, rfl⟩ : ∃ k, m = k + 1 := ⟨m - 1, by omega⟩
    unfold F_12_small_43 B_12_small_43
    refine jT_g (by decide) ?_
    rw [e1, e2]
    refine jT_pos (by rw [jo_le (by omega) (by omega)]; omega) ?_
    refine z12_528 hl4 hlen4 h4 ((jfr_K hf a4).trans hk4) hw (fun H1 hs1 hf1 hb1 => hk H1 hs1 ?_ fun i hi => ?_) 20 0 jfuel H rfl (by unfold jfuel; omega) hs jfr_refl (fun j hj => absurd hj (Nat.not_lt_zero j))
    · refine jfr_trans (jfr_mono hf fun a j h => ?_) (jfr_mono hf1 fun a j h => Or.inr (Or.inr (Or.inr h)))
      rcases h with h | h | h
      · exact Or.inl h
      · exact Or.inr (Or.inl h)
      · exact Or.inr (Or.inr (Or.inl h))
    · rw [hb1 i hi]
      obtain rfl : p = (n + 8) / 64 + 1 := by omega
      rfl
  | succ d ih =>
    intro p m H hi hm hs hf hw
    obtain ⟨m, rfl⟩ : ∃ k, m = k + 1 := ⟨m - 1, by omega⟩
    unfold F_12_small_43 B_12_small_43
    refine jT_g (by decide) ?_
    rw [e1, e2]
    refine jT_neg (by rw [jo_le (by omega) (by omega)]; omega) ?_
    refine z12_58 (b := b) (s := zrH (zpad b n) n ((n + 8) / 64 + 1) p) (H0 := H) hl hlen hn (by omega) ((jfr_K hf a1).trans hk1) ha1.1 (fun i hi => (jfr_B hf ?_).trans (hb i hi)) hw (fun H1 hs1 hf1 hv1 => ?_) 16 0 jfuel H rfl (by unfold jfuel; omega) hs jfr_refl (fun j hj => absurd hj (Nat.not_lt_zero j))
    · intro h
      rcases h with h | h | h
      · exact ha1.1 h
      · exact ha1.2.1 h
      · exact ha1.2.2 h
    · exact ih (p + 1) m H1 (by omega) (by omega) hs1 (jfr_trans hf hf1) hv1
/-- the reference's RIPEMD-160 -/
theorem z12_small {Q : Unit → jH → Prop} {a1 len at_ n a4 pl len4 : Nat} {H : jH} (hl : at_ + n ≤ len) (hlen : len < 2147483648) (hn : n < 2000000) (hk1 : jK H a1 = (101, len)) (hl4 : pl + 20 ≤ len4) (hlen4 : len4 < 2147483648) (hk4 : jK H a4 = (101, len4)) (hs : jsh H)
    (hk : ∀ H', jsh H' → jfr (fun a j => a = 423 ∨ a = 424 ∨ a = 425 ∨ (a = a4 ∧ pl ≤ j ∧ j < pl + 20)) H H' → (∀ i, i < 20 → jB H' a4 (pl + i) = zrip (fun i => jB H a1 (at_ + i)) n i) → Q () H') :
    jT (F_12_small 422 a1 (Int32.ofNat at_) (Int32.ofNat n) a4 (Int32.ofNat pl) H) Q := by
  have q1 : ∀ a t : Nat, jK H a = (101, t) → a ≠ 423 ∧ a ≠ 424 ∧ a ≠ 425 := by
    intro a t h
    refine ⟨?_, ?_, ?_⟩
    · rintro rfl
      rw [sK_423 hs] at h
      exact absurd (show (100 : Nat) = 101 from congrArg Prod.fst h) (by decide)
    · rintro rfl
      rw [sK_424 hs] at h
      exact absurd (show (100 : Nat) = 101 from congrArg Prod.fst h) (by decide)
    · rintro rfl
      rw [sK_425 hs] at h
      exact absurd (show (100 : Nat) = 101 from congrArg Prod.fst h) (by decide)
  unfold F_12_small
  refine z12_set hs jfr_refl 0 0 (by decide) fun H0 hs0 f0 g0 o0 => ?_
  refine z12_set hs0 f0 1 1 (by decide) fun H1 hs1 f1 g1 o1 => ?_
  refine z12_set hs1 f1 2 2 (by decide) fun H2 hs2 f2 g2 o2 => ?_
  refine z12_set hs2 f2 3 3 (by decide) fun H3 hs3 f3 g3 o3 => ?_
  refine z12_set hs3 f3 4 4 (by decide) fun H4 hs4 f4 g4 o4 => ?_
  refine z12_43 (b := fun i => jB H a1 (at_ + i)) (H0 := H) hl hlen hn hk1 (q1 a1 len hk1) (fun _ _ => rfl) hl4 hlen4 (q1 a4 len4 hk4).2.1 hk4 hk ((n + 72) / 64) 0 jfuel H4 (by omega) (by unfold jfuel; omega) hs4 (jfr_mono f4 fun a j h => Or.inr (Or.inl h)) fun j hj => ?_
  rcases (show j = 0 ∨ j = 1 ∨ j = 2 ∨ j = 3 ∨ j = 4 by omega) with rfl | rfl | rfl | rfl | rfl
  · rw [o4 0 (by decide), o3 0 (by decide), o2 0 (by decide), o1 0 (by decide), g0]; rfl
  · rw [o4 1 (by decide), o3 1 (by decide), o2 1 (by decide), g1]; rfl
  · rw [o4 2 (by decide), o3 2 (by decide), g2]; rfl
  · rw [o4 3 (by decide), g3]; rfl
  · rw [g4]; rfl
