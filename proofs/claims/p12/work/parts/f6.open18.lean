/-! The reference finds where the transactions of a block begin. -/
def b_tot (txs : List b_t) : Nat := (txs.map fun x => x.2.1.length).sum
def b_fl (txs : List b_t) : List UInt8 := (txs.map fun x => x.2.1).flatten
theorem b_tot_nil : b_tot [] = 0 := rfl
theorem b_tot_cons {x : b_t} {r : List b_t} : b_tot (x :: r) = x.2.1.length + b_tot r := by
  unfold b_tot
  rw [List.map_cons, List.sum_cons]
theorem b_fl_cons {x : b_t} {r : List b_t} : b_fl (x :: r) = x.2.1 ++ b_fl r := by
  unfold b_fl
  rw [List.map_cons, List.flatten_cons]
theorem b_fl_len {txs : List b_t} : (b_fl txs).length = b_tot txs := by
  induction txs with
  | nil => rfl
  | cons x r ih => rw [b_fl_cons, b_tot_cons, List.length_append, ih]
def b_prs (b : Nat → UInt8) (e : Nat) : Nat → Nat → Option (List (Nat × w_y) × Nat)
  | 0, p => some ([], p)
  | d + 1, p => (ztx b p e).bind fun x => (b_prs b e d x.2.2).map fun q => ((p, x) :: q.1, q.2)
def b_pl : Nat → List b_t → List (Nat × w_y)
  | _, [] => []
  | s, x :: r => (s, zshx s x.2.2) :: b_pl (s + x.2.1.length) r
theorem ztx_ty {b : Nat → UInt8} {s e : Nat} {tb : List UInt8} {y : w_y} (hy : w_ty tb y) (h : ∀ i u, tb[i]? = some u → b (s + i) = u) (he : s + tb.length ≤ e) : ztx b s e = some (zshx s y) := by
  obtain ⟨h1, h2, h3⟩ := hy
  obtain ⟨z, e1, -, e3⟩ := ztx_move (Nat.zero_le _) h1
  have ez : y = z := by
    rw [e1]
    unfold zshx
    rw [zsh1_0, zsh1_0, Nat.zero_add]
  rw [ez]
  refine e3 b s e (fun i hi => ?_) (by rw [← ez, h2]; exact he)
  rw [← ez, h2] at hi
  rw [Nat.zero_add]
  exact h i _ (getD_of hi)
theorem b_prs_of {b : Nat → UInt8} {e : Nat} : ∀ {txs : List b_t} {s : Nat}, (∀ x ∈ txs, w_ty x.2.1 x.2.2) → (∀ i u, (b_fl txs)[i]? = some u → b (s + i) = u) → s + b_tot txs ≤ e → b_prs b e txs.length s = some (b_pl s txs, s + b_tot txs)
  | [], s, _, _, _ => rfl
  | x :: r, s, hy, h, he => by
    rw [b_tot_cons] at he
    have hx := hy x List.mem_cons_self
    have ex := ztx_ty (b := b) (s := s) (e := e) hx (fun i u hi => h i u (by rw [b_fl_cons, List.getElem?_append_left ((List.getElem?_eq_some_iff.mp hi).1)]; exact hi)) (by omega)
    have er := b_prs_of (b := b) (e := e) (txs := r) (s := s + x.2.1.length) (fun z hz => hy z (List.mem_cons_of_mem _ hz)) (fun i u hi => by
      rw [Nat.add_assoc]
      refine h _ u ?_
      rw [b_fl_cons, List.getElem?_append_right (Nat.le_add_right _ _), Nat.add_sub_cancel_left]
      exact hi) (by omega)
    have e2 : (zshx s x.2.2).2.2 = s + x.2.1.length := by
      show s + x.2.2.2.2 = _
      rw [hx.2.1]
    show (ztx b s e).bind _ = _
    rw [ex]
    show (b_prs b e r.length (zshx s x.2.2).2.2).map _ = _
    rw [e2, er]
    show some _ = some _
    rw [b_tot_cons, Nat.add_assoc]
    rfl
section OP18
variable {α : Type} {Q : α → jH → Prop} {k : Int32 → jH → Option (α × jH)} {row len : Nat}
/-- the bytes of a block with these transactions -/
def b_lay (by_ : List UInt8) (txs : List b_t) : Prop := 81 ≤ by_.length ∧ by_.length ≤ 1999 ∧ txs.length ≤ 12 ∧ (by_.getD 80 0).toNat = txs.length ∧ by_.drop 81 = b_fl txs
theorem b_lay_len {by_ : List UInt8} {txs : List b_t} (h : b_lay by_ txs) : by_.length = 81 + b_tot txs := by
  have := congrArg List.length h.2.2.2.2
  rw [List.length_drop, b_fl_len] at this
  have := h.1
  omega
end OP18
