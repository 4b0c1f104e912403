/-! Inputs that are all different. -/
theorem w_hne {tb : List UInt8} {y : w_y} (hy : w_ty tb y) (h : ztw (fun i => tb.getD i 0) y.1 = false) : ∀ i j, i < j → j < y.1.length → ¬ (w_in1 tb y i = w_in1 tb y j ∧ w_in2 tb y i = w_in2 tb y j) := by
  intro i j hij hj ⟨h1, h2⟩
  obtain ⟨m1, m2, m3, m4⟩ := w_in y tb hy (i := i) (by omega)
  obtain ⟨n1, n2, n3, n4⟩ := w_in y tb hy hj
  have hw : ztw (fun i => tb.getD i 0) y.1 = true := by
    rw [ztw_t]
    refine ⟨j, hj, i, hij, ?_⟩
    unfold zpr
    rw [Bool.and_eq_true, decide_eq_true_eq, zeq_t]
    refine ⟨h2.symm, fun k hk => ?_⟩
    have e : (w_in1 tb y i)[k]? = (w_in1 tb y j)[k]? := by rw [h1]
    unfold w_in1 w_sl at e
    rw [List.getElem?_take, if_pos hk, List.getElem?_take, if_pos hk, List.getElem?_drop, List.getElem?_drop] at e
    show tb.getD (zP y.1 j + k) 0 = tb.getD (zP y.1 i + k) 0
    unfold zP
    rw [List.getD_eq_getElem?_getD (l := tb), List.getD_eq_getElem?_getD (l := tb), e]
  rw [h] at hw
  cases hw
