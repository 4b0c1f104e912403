/-! The reference finds where the transactions of a block begin. -/
def b_tot (txs : List b_t) : Nat := (txs.map fun x => x.2.1.length).sum
def b_fl (txs : List b_t) : List UInt8 := (txs.map fun x => x.2.1).flatten
theorem b_tot_nil : b_tot [] = 0 := rfl
theorem b_tot_cons {x : b_t} {r : List b_t} : b_tot (x :: r) = x.2.1.length + b_tot r := by
  unfold b_tot
  rw [List.map_cons, List.sum_cons]
theorem b_fl_cons {x : b_t} {r : List b_t} : b_fl (x :: r) = x.2.1 ++ b_fl r := by
  unfold b_fl
  rw [List.map_cons, List.flatten_cons]
theorem b_fl_len {txs : List b_t} : (b_fl txs).length = b_tot txs := by
  induction txs with
  | nil => rfl
  | cons x r ih => rw [b_fl_cons, b_tot_cons, List.length_append, ih]
theorem b_tot_take {txs : List b_t} {i : Nat} {x : b_t} (h : txs[i]? = some x) : b_tot (txs.take (i + 1)) = b_tot (txs.take i) + x.2.1.length := by
  rw [List.take_add_one, h]
  unfold b_tot
  rw [List.map_append, List.sum_append]
  rfl
def b_prs (b : Nat → UInt8) (e : Nat) : Nat → Nat → Option (List (Nat × w_y) × Nat)
  | 0, p => some ([], p)
  | d + 1, p => (ztx b p e).bind fun x => (b_prs b e d x.2.2).map fun q => ((p, x) :: q.1, q.2)
def b_pl : Nat → List b_t → List (Nat × w_y)
  | _, [] => []
  | s, x :: r => (s, zshx s x.2.2) :: b_pl (s + x.2.1.length) r
theorem b_pl_len {txs : List b_t} : ∀ {s : Nat}, (b_pl s txs).length = txs.length := by
  induction txs with
  | nil => intro s; rfl
  | cons x r ih =>
    intro s
    rw [b_pl, List.length_cons, ih, List.length_cons]
theorem b_pl_at {txs : List b_t} : ∀ {s i : Nat} {x : b_t}, txs[i]? = some x → (b_pl s txs)[i]? = some (s + b_tot (txs.take i), zshx (s + b_tot (txs.take i)) x.2.2) := by
  induction txs with
  | nil => intro s i x h; cases h
  | cons x0 r ih =>
    intro s i x h
    cases i with
    | zero =>
      have e : x0 = x := Option.some.inj h
      subst e
      rfl
    | succ i =>
      have h' : r[i]? = some x := h
      have := ih (s := s + x0.2.1.length) h'
      rw [b_pl, List.getElem?_cons_succ, this, List.take_succ_cons, b_tot_cons, Nat.add_assoc]
theorem ztx_ty {b : Nat → UInt8} {s e : Nat} {tb : List UInt8} {y : w_y} (hy : w_ty tb y) (h : ∀ i u, tb[i]? = some u → b (s + i) = u) (he : s + tb.length ≤ e) : ztx b s e = some (zshx s y) := by
  obtain ⟨h1, h2, h3⟩ := hy
  obtain ⟨z, e1, -, e3⟩ := ztx_move (Nat.zero_le _) h1
  have ez : y = z := by
    rw [e1]
    unfold zshx
    rw [zsh1_0, zsh1_0, Nat.zero_add]
  rw [ez]
  refine e3 b s e (fun i hi => ?_) (by rw [← ez, h2]; exact he)
  rw [← ez, h2] at hi
  rw [Nat.zero_add]
  exact h i _ (getD_of hi)
theorem b_prs_of {b : Nat → UInt8} {e : Nat} : ∀ {txs : List b_t} {s : Nat}, (∀ x ∈ txs, w_ty x.2.1 x.2.2) → (∀ i u, (b_fl txs)[i]? = some u → b (s + i) = u) → s + b_tot txs ≤ e → b_prs b e txs.length s = some (b_pl s txs, s + b_tot txs)
  | [], s, _, _, _ => rfl
  | x :: r, s, hy, h, he => by
    rw [b_tot_cons] at he
    have hx := hy x List.mem_cons_self
    have ex := ztx_ty (b := b) (s := s) (e := e) hx (fun i u hi => h i u (by rw [b_fl_cons, List.getElem?_append_left ((List.getElem?_eq_some_iff.mp hi).1)]; exact hi)) (by omega)
    have er := b_prs_of (b := b) (e := e) (txs := r) (s := s + x.2.1.length) (fun z hz => hy z (List.mem_cons_of_mem _ hz)) (fun i u hi => by
      rw [Nat.add_assoc]
      refine h _ u ?_
      rw [b_fl_cons, List.getElem?_append_right (Nat.le_add_right _ _), Nat.add_sub_cancel_left]
      exact hi) (by omega)
    have e2 : (zshx s x.2.2).2.2 = s + x.2.1.length := by
      show s + x.2.2.2.2 = _
      rw [hx.2.1]
    show (ztx b s e).bind _ = _
    rw [ex]
    show (b_prs b e r.length (zshx s x.2.2).2.2).map _ = _
    rw [e2, er]
    show some _ = some _
    rw [b_tot_cons, Nat.add_assoc]
    rfl
/-- what finding the beginnings writes -/
def b_S18 : Nat → Nat → Prop := fun a j => (456 ≤ a ∧ a ≤ 464) ∨ a = 481 ∨ (a = 421 ∧ j = 14)
section OP18
variable {α : Type} {Q : α → jH → Prop} {k : Int32 → jH → Option (α × jH)} {row len : Nat}
theorem b_read18 {tb : List UInt8} {y : w_y} {s e : Nat} {H : jH} (hs : jsh H) (hrow : 464 < row) (hkr : jK H row = (101, len)) (hlen : len < 2000000) (hel : e ≤ len) (hz : zRow H row s tb) (hy : w_ty tb y) (he : s + tb.length ≤ e)
    (hk : ∀ H', jsh H' → jfr (zS17 456) H H' → w_rx row s len tb y H' → jT (k (Int32.ofNat (s + tb.length)) H') Q) : jT (jb (F_17_read 456 row (Int32.ofNat s) (Int32.ofNat e) H) k) Q := by
  refine jT_b (jT_imp (z17_read (t := 456) (s := s) (e := e) (row := row) (len := len) (b := jB H row) (by unfold zT; decide) hs (Or.inr (by omega)) hkr (by omega) hel hlen rfl) fun r h hr => ?_)
  obtain ⟨h1, h2, h3⟩ := hr
  have ex := ztx_ty (b := jB H row) (s := s) (e := e) hy hz he
  rcases h3 with ⟨x, e1, e2, e3⟩ | ⟨e1, -⟩
  · rw [ex] at e1
    have e1' := (Option.some.inj e1).symm
    subst e1'
    have eB : jB h row = jB H row := funext fun j => jfr_B h2 fun w => by unfold zS17 at w; omega
    have e4 : (zshx s y).2.2 = s + tb.length := by
      show s + y.2.2 = _
      rw [hy.2.1]
    rw [e2, e4]
    rw [← eB] at e3
    have hw := w_rx_of e3 (by omega) (by rw [hy.2.1]; omega)
    have ec : zcut (jB h row) s y.2.2 = tb := by
      rw [eB, hy.2.1]
      refine List.ext_getElem? fun i => ?_
      by_cases hi : i < tb.length
      · have hc : i < (zcut (jB H row) s tb.length).length := by rw [zcut_len]; exact hi
        have := zcut_gd (b := jB H row) (p := s) hi
        rw [List.getD_eq_getElem?_getD, List.getElem?_eq_getElem hc] at this
        rw [List.getElem?_eq_getElem hc, show (zcut (jB H row) s tb.length)[i] = jB H row (s + i) from this, hz i _ (List.getElem?_eq_getElem hi), List.getElem?_eq_getElem hi]
      · rw [List.getElem?_eq_none (by rw [zcut_len]; omega), List.getElem?_eq_none (by omega)]
    rw [ec] at hw
    exact hk h h1 h2 hw
  · rw [ex] at e1
    cases e1
theorem b_open43 {Q : Int32 → jH → Prop} {at_ n cnt : Nat} {Hs : jH} (hc : cnt ≤ 12) (hrow : row ≠ 481) (hr : 464 < row) (hkr : jK Hs row = (101, len)) (hlen : len < 2000000) (hel : at_ + n ≤ len)
    (hk1 : ∀ l H', b_prs (jB Hs row) (at_ + n) cnt (at_ + 81) = some (l, at_ + n) → l.length = cnt → jsh H' → jfr b_S18 Hs H' → jI H' 421 14 = Int32.ofNat cnt → (∀ t w, l[t]? = some w → jI H' 481 t = Int32.ofNat w.1) → jI H' 481 cnt = Int32.ofNat (at_ + n) → Q 1 H')
    (hk0 : ∀ H', (∀ l, b_prs (jB Hs row) (at_ + n) cnt (at_ + 81) ≠ some (l, at_ + n)) → jsh H' → jfr b_S18 Hs H' → Q 0 H') :
    ∀ (d i fu p : Nat) (dn : List (Nat × w_y)) (H : jH), i + d = cnt → d < fu → p ≤ at_ + n → dn.length = i → (∀ t w, dn[t]? = some w → jI H 481 t = Int32.ofNat w.1) → jsh H → jfr b_S18 Hs H → b_prs (jB Hs row) (at_ + n) cnt (at_ + 81) = (b_prs (jB Hs row) (at_ + n) d p).map (fun q => (dn ++ q.1, q.2)) →
    jT (F_18_open_43 fu 421 row (Int32.ofNat at_) (Int32.ofNat n) (Int32.ofNat p) (Int32.ofNat cnt) (Int32.ofNat i) H) Q := by
  intro d
  induction d with
  | zero =>
    intro i fu p dn H hi hfu hp hdn hb hs hfr he
    obtain ⟨fu, rfl⟩ : ∃ k, fu = k + 1 := ⟨fu - 1, by omega⟩
    obtain rfl : i = cnt := by omega
    have k18 : (jK H 421).1 = 18 := gT (sK_421 hs)
    have ean : Int32.ofNat at_ + Int32.ofNat n = Int32.ofNat (at_ + n) := jo_add
    unfold F_18_open_43 B_18_open_43 B_18_open_115
    rw [sR_421_15 hs, jo_nat (n := i) (by omega), ean]
    refine jT_pos (by rw [jo_le (by omega) (by omega)]; exact Nat.le_refl _) (jT_g k18 (jT_g (by rw [sK_481 hs]; exact ⟨rfl, by decide, jo_in (by omega) (by show i < 13; omega)⟩) (jT_l (jT_g k18 (jT_l ?_)))))
    have s2 : jsh (jsI (jsI H 481 i (Int32.ofNat p)) 421 14 (Int32.ofNat i)) := jsh_sI (jsh_sI hs (by decide)) (by decide)
    have f2 : jfr b_S18 Hs (jsI (jsI H 481 i (Int32.ofNat p)) 421 14 (Int32.ofNat i)) := jfr_sI (jfr_sI hfr (Or.inr (Or.inl rfl))) (Or.inr (Or.inr ⟨rfl, rfl⟩))
    have v1 : jI (jsI (jsI H 481 i (Int32.ofNat p)) 421 14 (Int32.ofNat i)) 421 14 = Int32.ofNat i := jI_sIe
    have v2 : jI (jsI (jsI H 481 i (Int32.ofNat p)) 421 14 (Int32.ofNat i)) 481 i = Int32.ofNat p := (jI_sIa (by decide)).trans jI_sIe
    have v3 : ∀ t w, dn[t]? = some w → jI (jsI (jsI H 481 i (Int32.ofNat p)) 421 14 (Int32.ofNat i)) 481 t = Int32.ofNat w.1 := fun t w ht => by
      have := (List.getElem?_eq_some_iff.mp ht).1
      exact ((jI_sIa (by decide)).trans (jI_sIn (by omega))).trans (hb t w ht)
    generalize jsI (jsI H 481 i (Int32.ofNat p)) 421 14 (Int32.ofNat i) = H2 at s2 f2 v1 v2 v3
    have he' : b_prs (jB Hs row) (at_ + n) i (at_ + 81) = some (dn, p) := by
      rw [he]
      show some (dn ++ [], p) = _
      rw [List.append_nil]
    by_cases c : p = at_ + n
    · subst c
      exact jT_neg (fun w => w rfl) (jT_g (Or.inr rfl) (jT_ret (hk1 dn H2 he' hdn s2 f2 v1 v3 v2)))
    · refine jT_pos (fun w => c ((jo_eq (by omega) (by omega)).mp w)) (jT_g (Or.inl rfl) (jT_ret (hk0 H2 (fun l hl => ?_) s2 f2)))
      rw [he'] at hl
      exact c (congrArg Prod.snd (Option.some.inj hl))
  | succ d ih =>
    intro i fu p dn H hi hfu hp hdn hb hs hfr he
    obtain ⟨fu, rfl⟩ : ∃ k, fu = k + 1 := ⟨fu - 1, by omega⟩
    have k18 : (jK H 421).1 = 18 := gT (sK_421 hs)
    have ean : Int32.ofNat at_ + Int32.ofNat n = Int32.ofNat (at_ + n) := jo_add
    have e1 : Int32.ofNat i + 1 = Int32.ofNat (i + 1) := jo_add (a := i) (b := 1)
    have eB : jB H row = jB Hs row := funext fun j => jfr_B hfr fun w => by unfold b_S18 at w; omega
    unfold F_18_open_43 B_18_open_43
    rw [sR_421_15 hs, jo_nat (n := i) (by omega), ean, e1]
    have s2 : jsh (jsI H 481 i (Int32.ofNat p)) := jsh_sI hs (by decide)
    have f2 : jfr b_S18 Hs (jsI H 481 i (Int32.ofNat p)) := jfr_sI hfr (Or.inr (Or.inl rfl))
    have v2 : jI (jsI H 481 i (Int32.ofNat p)) 481 i = Int32.ofNat p := jI_sIe
    have v3 : ∀ t w, dn[t]? = some w → jI (jsI H 481 i (Int32.ofNat p)) 481 t = Int32.ofNat w.1 := fun t w ht => by
      have := (List.getElem?_eq_some_iff.mp ht).1
      exact (jI_sIn (by omega)).trans (hb t w ht)
    have eB2 : jB (jsI H 481 i (Int32.ofNat p)) row = jB Hs row := eB
    refine jT_neg (by rw [jo_le (by omega) (by omega)]; omega) (jT_g k18 (jT_g (by rw [sK_481 hs]; exact ⟨rfl, by decide, jo_in (by omega) (by show i < 13; omega)⟩) (jT_l ?_)))
    generalize jsI H 481 i (Int32.ofNat p) = H2 at s2 f2 v2 v3 eB2
    rw [sR_421_4 s2]
    refine jT_g (gT (sK_421 s2)) (jT_g (gT (sK_456 s2)) (jT_b (jT_imp (z17_read (t := 456) (s := p) (e := at_ + n) (row := row) (len := len) (b := jB Hs row) (by unfold zT; decide) s2 (Or.inr (by omega)) (by rw [jfr_K f2]; exact hkr) hp hel hlen eB2) fun r h hr => ?_)))
    obtain ⟨h1, h2, h3⟩ := hr
    have f3 : jfr b_S18 Hs h := jfr_trans f2 (jfr_mono h2 fun a j w => Or.inl w)
    rcases h3 with ⟨x, g1, g2, g3⟩ | ⟨g1, g2⟩
    · have sp := ztx_spec g1
      subst g2
      refine jT_pos (by show Int32.ofNat 0 ≤ _; rw [jo_le (by decide) (by omega)]; exact Nat.zero_le _) (jT_l (ih (i + 1) fu x.2.2 (dn ++ [(p, x)]) h (by omega) (by omega) sp.2.2.2.1 (by rw [List.length_append, hdn]; rfl) (fun t w ht => ?_) h1 f3 ?_))
      · rw [jfr_I h2 fun w => by unfold zS17 at w; omega]
        by_cases c : t < dn.length
        · rw [List.getElem?_append_left c] at ht
          exact v3 t w ht
        · rw [List.getElem?_append_right (Nat.not_lt.mp c)] at ht
          obtain ⟨q, -⟩ := List.getElem?_eq_some_iff.mp ht
          have e0 : t - dn.length = 0 := by
            have : t - dn.length < 1 := q
            omega
          rw [e0] at ht
          have ew : (p, x) = w := Option.some.inj ht
          rw [← ew, show t = i by omega]
          exact v2
      · rw [he]
        show ((ztx (jB Hs row) p (at_ + n)).bind _).map _ = _
        rw [g1]
        show ((b_prs (jB Hs row) (at_ + n) d x.2.2).map _).map _ = _
        rw [Option.map_map]
        refine congrArg (fun f => Option.map f _) (funext fun q => ?_)
        show (dn ++ ((p, x) :: q.1), q.2) = ((dn ++ [(p, x)]) ++ q.1, q.2)
        rw [List.append_assoc]
        rfl
    · subst g2
      refine jT_neg (by decide) (jT_g (Or.inl rfl) (jT_ret (hk0 h (fun l hl => ?_) h1 f3)))
      rw [he] at hl
      have : b_prs (jB Hs row) (at_ + n) (d + 1) p = none := by
        show (ztx (jB Hs row) p (at_ + n)).bind _ = _
        rw [g1]
        rfl
      rw [this] at hl
      cases hl
/-- a block as it is read -/
def b_blk (b : Nat → UInt8) (at_ n : Nat) (l : List (Nat × w_y)) : Prop := 81 ≤ n ∧ (b (at_ + 80)).toNat ≤ 12 ∧ l.length = (b (at_ + 80)).toNat ∧ b_prs b (at_ + n) (b (at_ + 80)).toNat (at_ + 81) = some (l, at_ + n)
theorem b_open18 {at_ n : Nat} {H : jH} (hs : jsh H) (hrow : row ≠ 481) (hr : 464 < row) (hkr : jK H row = (101, len)) (hlen : len < 2000000) (hel : at_ + n ≤ len)
    (hk1 : ∀ l H', b_blk (jB H row) at_ n l → jsh H' → jfr b_S18 H H' → jI H' 421 14 = Int32.ofNat l.length → (∀ t w, l[t]? = some w → jI H' 481 t = Int32.ofNat w.1) → jI H' 481 l.length = Int32.ofNat (at_ + n) → jT (k 1 H') Q)
    (hk0 : ∀ H', (∀ l, ¬ b_blk (jB H row) at_ n l) → jsh H' → jfr b_S18 H H' → jT (k 0 H') Q) : jT (jb (F_18_open 421 row (Int32.ofNat at_) (Int32.ofNat n) H) k) Q := by
  have k18 : (jK H 421).1 = 18 := gT (sK_421 hs)
  have e80 : Int32.ofNat at_ + 80 = Int32.ofNat (at_ + 80) := jo_add (a := at_) (b := 80)
  have e81 : Int32.ofNat at_ + 81 = Int32.ofNat (at_ + 81) := jo_add (a := at_) (b := 81)
  have s1 : jsh (jsI H 421 14 0) := jsh_sI hs (by decide)
  have f1 : jfr b_S18 H (jsI H 421 14 0) := jfr_sI jfr_refl (Or.inr (Or.inr ⟨rfl, rfl⟩))
  unfold F_18_open
  refine jT_b (jT_g k18 (jT_l ?_))
  by_cases c : 81 ≤ n
  · refine jT_pos (by show Int32.ofNat 81 ≤ _; rw [jo_le (by decide) (by omega)]; exact c) (jT_l ?_)
    rw [e80, e81, jo_nat (n := at_ + 80) (by omega)]
    refine jT_g (by show (jK H row).1 = 101 ∧ jin _ (jK H row).2; rw [hkr]; exact ⟨rfl, jo_in (by omega) (by show at_ + 80 < len; omega)⟩) (jT_l ?_)
    have eb : jbs (jB (jsI H 421 14 0) row (at_ + 80)) &&& 255 = Int32.ofNat (jB H row (at_ + 80)).toNat := jb_and _
    rw [eb]
    have l255 : (jB H row (at_ + 80)).toNat < 256 := UInt8.toNat_lt _
    by_cases c2 : (jB H row (at_ + 80)).toNat ≤ 12
    · refine jT_pos (by show _ ≤ Int32.ofNat 12; rw [jo_le (by omega) (by decide)]; exact c2) ?_
      refine b_open43 (Q := fun v h => jT (k v h) Q) (Hs := H) (cnt := (jB H row (at_ + 80)).toNat) c2 hrow hr hkr hlen hel (fun l H' g0 g1 g2 g3 g4 g5 g6 => hk1 l H' ⟨c, c2, g1, g0⟩ g2 g3 (by rw [g1]; exact g4) g5 (by rw [g1]; exact g6)) (fun H' g0 g1 g2 => hk0 H' (fun l hl => g0 l hl.2.2.2) g1 g2) _ 0 jfuel (at_ + 81) [] _ (Nat.zero_add _) (by unfold jfuel; omega) (by omega) rfl (fun t w ht => absurd ht (by simp)) s1 f1 ?_
      cases b_prs (jB H row) (at_ + n) (jB H row (at_ + 80)).toNat (at_ + 81) with
      | none => rfl
      | some q => rfl
    · exact jT_neg (by show ¬ _ ≤ Int32.ofNat 12; rw [jo_le (by omega) (by decide)]; exact c2) (jT_g (Or.inl rfl) (jT_ret (hk0 _ (fun l hl => c2 hl.2.1) s1 f1)))
  · exact jT_neg (by show ¬ Int32.ofNat 81 ≤ _; rw [jo_le (by decide) (by omega)]; exact c) (jT_g (Or.inl rfl) (jT_ret (hk0 _ (fun l hl => c hl.1) s1 f1)))
/-- the bytes of a block with these transactions -/
def b_lay (by_ : List UInt8) (txs : List b_t) : Prop := 81 ≤ by_.length ∧ by_.length ≤ 1999 ∧ txs.length ≤ 12 ∧ (by_.getD 80 0).toNat = txs.length ∧ by_.drop 81 = b_fl txs
theorem b_lay_len {by_ : List UInt8} {txs : List b_t} (h : b_lay by_ txs) : by_.length = 81 + b_tot txs := by
  have := congrArg List.length h.2.2.2.2
  rw [List.length_drop, b_fl_len] at this
  have := h.1
  omega
theorem b_lay_row {H : jH} {by_ : List UInt8} {txs : List b_t} {r p i : Nat} {x : b_t} (h : b_lay by_ txs) (hz : zRow H r p by_) (hx : txs[i]? = some x) : zRow H r (p + 81 + b_tot (txs.take i)) x.2.1 := fun j u hj => by
  have hg : ∀ (l : List b_t) (i : Nat), l[i]? = some x → (b_fl l)[b_tot (l.take i) + j]? = some u := by
    intro l
    induction l with
    | nil => intro i h; cases h
    | cons x0 r ih =>
      intro i hi
      cases i with
      | zero =>
        have e : x0 = x := Option.some.inj hi
        subst e
        rw [List.take_zero, b_tot_nil, Nat.zero_add, b_fl_cons, List.getElem?_append_left ((List.getElem?_eq_some_iff.mp hj).1)]
        exact hj
      | succ i =>
        rw [List.take_succ_cons, b_tot_cons, b_fl_cons, List.getElem?_append_right (by omega)]
        have := ih i hi
        rwa [show x0.2.1.length + b_tot (r.take i) + j - x0.2.1.length = b_tot (r.take i) + j by omega]
  have h1 := hg txs i hx
  rw [← h.2.2.2.2, List.getElem?_drop] at h1
  have := hz _ u h1
  rwa [show p + (81 + (b_tot (txs.take i) + j)) = p + 81 + b_tot (txs.take i) + j by omega] at this
theorem b_lay_blk {H : jH} {by_ : List UInt8} {txs : List b_t} {r p : Nat} (h : b_lay by_ txs) (hy : ∀ x ∈ txs, w_ty x.2.1 x.2.2) (hz : zRow H r p by_) : b_blk (jB H r) p by_.length (b_pl (p + 81) txs) := by
  have hl := b_lay_len h
  have e80 : (jB H r (p + 80)).toNat = txs.length := by
    have : by_[80]? = some (by_.getD 80 0) := getD_of (by have := h.1; omega)
    rw [hz 80 _ this]
    exact h.2.2.2.1
  refine ⟨h.1, by rw [e80]; exact h.2.2.1, by rw [e80, b_pl_len], ?_⟩
  rw [e80, b_prs_of hy (fun i u hi => ?_) (by omega)]
  · rw [hl]
    exact congrArg some (Prod.ext rfl (by show p + 81 + b_tot txs = p + (81 + b_tot txs); omega))
  · rw [← h.2.2.2.2, List.getElem?_drop] at hi
    have := hz _ u hi
    rwa [← Nat.add_assoc] at this
theorem b_blk_det {b : Nat → UInt8} {p n : Nat} {l l' : List (Nat × w_y)} (h : b_blk b p n l) (h' : b_blk b p n l') : l = l' := by
  have := h.2.2.2.symm.trans h'.2.2.2
  exact congrArg Prod.fst (Option.some.inj this)
/-- a block that is known is opened -/
theorem b_openBlock {k : Unit → jH → Option (α × jH)} {by_ : List UInt8} {txs : List b_t} {b : Nat} {H : jH} (hs : jsh H) (h : b_lay by_ txs) (hy : ∀ x ∈ txs, w_ty x.2.1 x.2.2) (hz : zRow H 474 (2000 * b) by_) (hb0 : 0 < b) (hb : b < 300) (h475 : jI H 475 b = Int32.ofNat by_.length)
    (hk : ∀ H', jsh H' → jfr b_S18 H H' → jI H' 421 14 = Int32.ofNat txs.length → (∀ t, t ≤ txs.length → jI H' 481 t = Int32.ofNat (2000 * b + 81 + b_tot (txs.take t))) → jT (k () H') Q) : jT (jb (F_18_openBlock 421 (Int32.ofNat b) H) k) Q := by
  have k18 : (jK H 421).1 = 18 := gT (sK_421 hs)
  have hl := b_lay_len h
  have l1999 := h.2.1
  have s1 : jsh (jsI H 421 14 0) := jsh_sI hs (by decide)
  have f1 : jfr b_S18 H (jsI H 421 14 0) := jfr_sI jfr_refl (Or.inr (Or.inr ⟨rfl, rfl⟩))
  have v475 : jI (jsI H 421 14 0) 475 b = Int32.ofNat by_.length := (jI_sIa (by decide)).trans h475
  have z1 : zRow (jsI H 421 14 0) 474 (2000 * b) by_ := hz
  have e2 : (2000 : Int32) * Int32.ofNat b = Int32.ofNat (2000 * b) := jo_mul (a := 2000) (b := b)
  unfold F_18_openBlock B_18_openBlock_29
  refine jT_b (jT_g k18 (jT_l (jT_neg (by show ¬ Int32.ofNat b ≤ Int32.ofNat 0; rw [jo_le (by omega) (by decide)]; omega) ?_)))
  generalize jsI H 421 14 0 = H1 at s1 f1 v475 z1
  have k1 : (jK H1 421).1 = 18 := gT (sK_421 s1)
  rw [sR_421_7 s1, sR_421_6 s1, jo_nat (n := b) (by omega), v475, e2]
  have hB := b_lay_blk h hy z1
  refine jT_g k1 (jT_g k1 (jT_g (by rw [sK_475 s1]; exact ⟨rfl, jo_in (by omega) (by show b < 300; omega)⟩) (jT_g k1 (b_open18 s1 (by decide) (by decide) (sK_474 s1) (by decide) (by omega) (fun l H' g1 g2 g3 g4 g5 g6 => ?_) fun H' g1 => absurd hB (g1 _)))))
  have el := b_blk_det g1 hB
  subst el
  rw [b_pl_len] at g4 g6
  refine jT_ret (hk H' g2 (jfr_trans f1 g3) g4 fun t ht => ?_)
  by_cases c : t = txs.length
  · rw [c, g6, List.take_length, hl]
    congr 1
    omega
  · obtain ⟨x, hx⟩ : ∃ x, txs[t]? = some x := ⟨_, List.getElem?_eq_getElem (by omega)⟩
    exact g5 t _ (b_pl_at hx)
end OP18
