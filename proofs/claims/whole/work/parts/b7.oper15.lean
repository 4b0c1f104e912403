/-! The reference's scripts: an operation; conditions. -/
section OP15
variable {scr : List UInt8} {S : w_S4} {lf : Nat} {H0 H : jH} {α : Type} {Q : α → jH → Prop} {c : Nat}
theorem w_opr0 {k : Unit → jH → Option (α × jH)} (hc : c = 97 ∨ c = 98 ∨ c = 99 ∨ c = 100 ∨ c = 101 ∨ c = 102 ∨ c = 103 ∨ c = 104 ∨ c = 105 ∨ c = 106 ∨ c = 126 ∨ c = 127 ∨ c = 128 ∨ c = 129) (h : w_Z scr S lf H0 H) (hb : S.1.length + S.2.1.length ≤ 60) (hk1 : ∀ st' sd' H', w_op c S.1 S.2.1 = some (st', sd') → w_Z scr (st', sd', S.2.2) lf H0 H' → jT (k () H') Q) (hk0 : ∀ H', w_op c S.1 S.2.1 = none → w_Yf H0 H' → jT (k () H') Q) : jT (jb (F_14_operation 437 (Int32.ofNat c) H) k) Q := by
  refine jT_b ?_
  rcases hc with rfl | rfl | rfl | rfl | rfl | rfl | rfl | rfl | rfl | rfl | rfl | rfl | rfl | rfl
  · unfold F_14_operation
    refine jT_pos (by decide) ?_
    unfold B_14_operation_12
    refine jT_pos (by decide) (jT_neg (by decide) (jT_pos (by decide) (jT_neg (by decide) (jT_neg (by decide) (jT_pos (by decide) ?_)))))
    unfold B_14_operation_96
    refine jT_neg (by decide) (jT_neg (by decide) (jT_pos (by decide) ?_))
    unfold B_14_operation_132
    refine jT_neg (by decide) (jT_pos (by decide) ?_)
    unfold B_14_operation_161
    refine jT_neg (by decide) (jT_pos (by decide) (jT_neg (by decide) (jT_pos (by decide) (jT_pos (by decide) (jT_pos (by decide) (jT_pos (by decide) ?_))))))
    unfold B_14_operation_266
    exact jT_ret (hk1 _ _ H rfl h)
  · unfold F_14_operation
    refine jT_pos (by decide) ?_
    unfold B_14_operation_12
    refine jT_pos (by decide) (jT_neg (by decide) (jT_pos (by decide) (jT_neg (by decide) (jT_neg (by decide) (jT_pos (by decide) ?_)))))
    unfold B_14_operation_96
    refine jT_neg (by decide) (jT_neg (by decide) (jT_pos (by decide) ?_))
    unfold B_14_operation_132
    refine jT_neg (by decide) (jT_pos (by decide) ?_)
    unfold B_14_operation_161
    refine jT_neg (by decide) (jT_pos (by decide) (jT_neg (by decide) (jT_pos (by decide) (jT_pos (by decide) (jT_pos (by decide) (jT_neg (by decide) ?_))))))
    unfold B_14_operation_266
    exact jT_g (w_Zk h) (w_fails (n := 4) h rfl (by decide) (by decide) fun H' hy => jT_ret (hk0 H' rfl hy))
  · unfold F_14_operation
    refine jT_pos (by decide) ?_
    unfold B_14_operation_12
    refine jT_pos (by decide) (jT_neg (by decide) (jT_pos (by decide) (jT_neg (by decide) (jT_neg (by decide) (jT_pos (by decide) ?_)))))
    unfold B_14_operation_96
    refine jT_neg (by decide) (jT_neg (by decide) (jT_pos (by decide) ?_))
    unfold B_14_operation_132
    refine jT_neg (by decide) (jT_pos (by decide) ?_)
    unfold B_14_operation_161
    refine jT_neg (by decide) (jT_pos (by decide) (jT_neg (by decide) (jT_pos (by decide) (jT_pos (by decide) (jT_pos (by decide) (jT_neg (by decide) ?_))))))
    unfold B_14_operation_266
    exact jT_g (w_Zk h) (w_fails (n := 4) h rfl (by decide) (by decide) fun H' hy => jT_ret (hk0 H' rfl hy))
  · unfold F_14_operation
    refine jT_pos (by decide) ?_
    unfold B_14_operation_12
    refine jT_pos (by decide) (jT_neg (by decide) (jT_pos (by decide) (jT_neg (by decide) (jT_neg (by decide) (jT_pos (by decide) ?_)))))
    unfold B_14_operation_96
    refine jT_neg (by decide) (jT_neg (by decide) (jT_pos (by decide) ?_))
    unfold B_14_operation_132
    refine jT_neg (by decide) (jT_pos (by decide) ?_)
    unfold B_14_operation_161
    refine jT_neg (by decide) (jT_pos (by decide) (jT_neg (by decide) (jT_pos (by decide) (jT_pos (by decide) (jT_pos (by decide) (jT_neg (by decide) ?_))))))
    unfold B_14_operation_266
    exact jT_g (w_Zk h) (w_fails (n := 4) h rfl (by decide) (by decide) fun H' hy => jT_ret (hk0 H' rfl hy))
  · unfold F_14_operation
    refine jT_pos (by decide) ?_
    unfold B_14_operation_12
    refine jT_pos (by decide) (jT_neg (by decide) (jT_pos (by decide) (jT_neg (by decide) (jT_neg (by decide) (jT_pos (by decide) ?_)))))
    unfold B_14_operation_96
    refine jT_neg (by decide) (jT_neg (by decide) (jT_pos (by decide) ?_))
    unfold B_14_operation_132
    refine jT_neg (by decide) (jT_pos (by decide) ?_)
    unfold B_14_operation_161
    refine jT_neg (by decide) (jT_pos (by decide) (jT_neg (by decide) (jT_pos (by decide) (jT_pos (by decide) (jT_pos (by decide) (jT_neg (by decide) ?_))))))
    unfold B_14_operation_266
    exact jT_g (w_Zk h) (w_fails (n := 4) h rfl (by decide) (by decide) fun H' hy => jT_ret (hk0 H' rfl hy))
  · unfold F_14_operation
    refine jT_pos (by decide) ?_
    unfold B_14_operation_12
    refine jT_pos (by decide) (jT_neg (by decide) (jT_pos (by decide) (jT_neg (by decide) (jT_neg (by decide) (jT_pos (by decide) ?_)))))
    unfold B_14_operation_96
    refine jT_neg (by decide) (jT_neg (by decide) (jT_pos (by decide) ?_))
    unfold B_14_operation_132
    refine jT_neg (by decide) (jT_pos (by decide) ?_)
    unfold B_14_operation_161
    refine jT_neg (by decide) (jT_pos (by decide) (jT_neg (by decide) (jT_pos (by decide) (jT_pos (by decide) (jT_pos (by decide) (jT_neg (by decide) ?_))))))
    unfold B_14_operation_266
    exact jT_g (w_Zk h) (w_fails (n := 4) h rfl (by decide) (by decide) fun H' hy => jT_ret (hk0 H' rfl hy))
  · unfold F_14_operation
    refine jT_pos (by decide) ?_
    unfold B_14_operation_12
    refine jT_pos (by decide) (jT_neg (by decide) (jT_pos (by decide) (jT_neg (by decide) (jT_neg (by decide) (jT_pos (by decide) ?_)))))
    unfold B_14_operation_96
    refine jT_neg (by decide) (jT_neg (by decide) (jT_pos (by decide) ?_))
    unfold B_14_operation_132
    refine jT_neg (by decide) (jT_pos (by decide) ?_)
    unfold B_14_operation_161
    refine jT_neg (by decide) (jT_pos (by decide) (jT_neg (by decide) (jT_pos (by decide) (jT_pos (by decide) (jT_pos (by decide) (jT_neg (by decide) ?_))))))
    unfold B_14_operation_266
    exact jT_g (w_Zk h) (w_fails (n := 4) h rfl (by decide) (by decide) fun H' hy => jT_ret (hk0 H' rfl hy))
  · unfold F_14_operation
    refine jT_pos (by decide) ?_
    unfold B_14_operation_12
    refine jT_pos (by decide) (jT_neg (by decide) (jT_pos (by decide) (jT_neg (by decide) (jT_neg (by decide) (jT_pos (by decide) ?_)))))
    unfold B_14_operation_96
    refine jT_neg (by decide) (jT_neg (by decide) (jT_pos (by decide) ?_))
    unfold B_14_operation_132
    refine jT_neg (by decide) (jT_pos (by decide) ?_)
    unfold B_14_operation_161
    refine jT_neg (by decide) (jT_pos (by decide) (jT_neg (by decide) (jT_pos (by decide) (jT_pos (by decide) (jT_pos (by decide) (jT_neg (by decide) ?_))))))
    unfold B_14_operation_266
    exact jT_g (w_Zk h) (w_fails (n := 4) h rfl (by decide) (by decide) fun H' hy => jT_ret (hk0 H' rfl hy))
  · unfold F_14_operation
    refine jT_pos (by decide) ?_
    unfold B_14_operation_12
    refine jT_pos (by decide) (jT_neg (by decide) (jT_pos (by decide) (jT_neg (by decide) (jT_neg (by decide) (jT_pos (by decide) ?_)))))
    unfold B_14_operation_96
    refine jT_neg (by decide) (jT_neg (by decide) (jT_pos (by decide) ?_))
    unfold B_14_operation_132
    refine jT_neg (by decide) (jT_pos (by decide) ?_)
    unfold B_14_operation_161
    refine jT_neg (by decide) (jT_pos (by decide) (jT_neg (by decide) (jT_pos (by decide) (jT_neg (by decide) ?_))))
    unfold B_14_operation_266
    have eo : w_op 105 S.1 S.2.1 = if 1 ≤ S.1.length ∧ ztrue (w_tp S.1 1) = true then some (w_dr S.1 1, S.2.1) else none := by
      rw [w_op_pass (by decide) (by decide)]
      unfold w_pass
      by_cases q : 1 ≤ S.1.length
      · rw [if_pos ⟨rfl, q⟩]
        by_cases t : ztrue (w_tp S.1 1) = true
        · rw [if_pos t, if_pos ⟨q, t⟩]
        · rw [if_neg t, if_neg fun w => t w.2]
      · rw [if_neg (fun w => q w.2), if_neg (by omega), if_neg (by omega), if_neg fun w => q w.1]
    exact jT_g (w_Zk h) (w_must14 h (fun q t H' h' => jT_ret (hk1 _ _ H' (by rw [eo, if_pos ⟨q, t⟩]) h')) fun q H' hy => jT_ret (hk0 H' (by rw [eo, if_neg q]) hy))
  · unfold F_14_operation
    refine jT_pos (by decide) ?_
    unfold B_14_operation_12
    refine jT_pos (by decide) (jT_neg (by decide) (jT_pos (by decide) (jT_neg (by decide) (jT_neg (by decide) (jT_pos (by decide) ?_)))))
    unfold B_14_operation_96
    refine jT_neg (by decide) (jT_neg (by decide) (jT_pos (by decide) ?_))
    unfold B_14_operation_132
    refine jT_neg (by decide) (jT_pos (by decide) ?_)
    unfold B_14_operation_161
    refine jT_neg (by decide) (jT_pos (by decide) (jT_neg (by decide) (jT_pos (by decide) (jT_pos (by decide) (jT_neg (by decide) ?_)))))
    unfold B_14_operation_266
    exact jT_g (w_Zk h) (w_fails (n := 9) h rfl (by decide) (by decide) fun H' hy => jT_ret (hk0 H' rfl hy))
  · unfold F_14_operation
    refine jT_neg (by decide) (jT_neg (by decide) ?_)
    unfold B_14_operation_12
    refine jT_pos (by decide) (jT_neg (by decide) (jT_pos (by decide) (jT_neg (by decide) (jT_neg (by decide) (jT_pos (by decide) ?_)))))
    unfold B_14_operation_96
    refine jT_neg (by decide) (jT_neg (by decide) (jT_pos (by decide) ?_))
    unfold B_14_operation_132
    refine jT_neg (by decide) (jT_pos (by decide) ?_)
    unfold B_14_operation_161
    refine jT_neg (by decide) (jT_pos (by decide) (jT_neg (by decide) (jT_pos (by decide) (jT_pos (by decide) (jT_pos (by decide) (jT_neg (by decide) ?_))))))
    unfold B_14_operation_266
    exact jT_g (w_Zk h) (w_fails (n := 4) h rfl (by decide) (by decide) fun H' hy => jT_ret (hk0 H' rfl hy))
  · unfold F_14_operation
    refine jT_neg (by decide) (jT_neg (by decide) ?_)
    unfold B_14_operation_12
    refine jT_pos (by decide) (jT_neg (by decide) (jT_pos (by decide) (jT_neg (by decide) (jT_neg (by decide) (jT_pos (by decide) ?_)))))
    unfold B_14_operation_96
    refine jT_neg (by decide) (jT_neg (by decide) (jT_pos (by decide) ?_))
    unfold B_14_operation_132
    refine jT_neg (by decide) (jT_pos (by decide) ?_)
    unfold B_14_operation_161
    refine jT_neg (by decide) (jT_pos (by decide) (jT_neg (by decide) (jT_pos (by decide) (jT_pos (by decide) (jT_pos (by decide) (jT_neg (by decide) ?_))))))
    unfold B_14_operation_266
    exact jT_g (w_Zk h) (w_fails (n := 4) h rfl (by decide) (by decide) fun H' hy => jT_ret (hk0 H' rfl hy))
  · unfold F_14_operation
    refine jT_neg (by decide) (jT_neg (by decide) ?_)
    unfold B_14_operation_12
    refine jT_pos (by decide) (jT_neg (by decide) (jT_pos (by decide) (jT_neg (by decide) (jT_neg (by decide) (jT_pos (by decide) ?_)))))
    unfold B_14_operation_96
    refine jT_neg (by decide) (jT_neg (by decide) (jT_pos (by decide) ?_))
    unfold B_14_operation_132
    refine jT_neg (by decide) (jT_pos (by decide) ?_)
    unfold B_14_operation_161
    refine jT_neg (by decide) (jT_pos (by decide) (jT_neg (by decide) (jT_pos (by decide) (jT_pos (by decide) (jT_pos (by decide) (jT_neg (by decide) ?_))))))
    unfold B_14_operation_266
    exact jT_g (w_Zk h) (w_fails (n := 4) h rfl (by decide) (by decide) fun H' hy => jT_ret (hk0 H' rfl hy))
  · unfold F_14_operation
    refine jT_neg (by decide) (jT_neg (by decide) ?_)
    unfold B_14_operation_12
    refine jT_pos (by decide) (jT_neg (by decide) (jT_pos (by decide) (jT_neg (by decide) (jT_neg (by decide) (jT_pos (by decide) ?_)))))
    unfold B_14_operation_96
    refine jT_neg (by decide) (jT_neg (by decide) (jT_pos (by decide) ?_))
    unfold B_14_operation_132
    refine jT_neg (by decide) (jT_pos (by decide) ?_)
    unfold B_14_operation_161
    refine jT_neg (by decide) (jT_pos (by decide) (jT_neg (by decide) (jT_pos (by decide) (jT_pos (by decide) (jT_pos (by decide) (jT_neg (by decide) ?_))))))
    unfold B_14_operation_266
    exact jT_g (w_Zk h) (w_fails (n := 4) h rfl (by decide) (by decide) fun H' hy => jT_ret (hk0 H' rfl hy))
theorem w_opr1 {k : Unit → jH → Option (α × jH)} (hc : c = 130 ∨ c = 131 ∨ c = 132 ∨ c = 133 ∨ c = 134 ∨ c = 135 ∨ c = 136 ∨ c = 137 ∨ c = 138 ∨ c = 139 ∨ c = 140 ∨ c = 141 ∨ c = 142 ∨ c = 143) (h : w_Z scr S lf H0 H) (hb : S.1.length + S.2.1.length ≤ 60) (hk1 : ∀ st' sd' H', w_op c S.1 S.2.1 = some (st', sd') → w_Z scr (st', sd', S.2.2) lf H0 H' → jT (k () H') Q) (hk0 : ∀ H', w_op c S.1 S.2.1 = none → w_Yf H0 H' → jT (k () H') Q) : jT (jb (F_14_operation 437 (Int32.ofNat c) H) k) Q := by
  refine jT_b ?_
  rcases hc with rfl | rfl | rfl | rfl | rfl | rfl | rfl | rfl | rfl | rfl | rfl | rfl | rfl | rfl
  · unfold F_14_operation
    refine jT_neg (by decide) (jT_neg (by decide) ?_)
    unfold B_14_operation_12
    refine jT_neg (by decide) ?_
    unfold B_14_operation_19
    unfold B_14_operation_266
    exact jT_g (w_Zk h) (w_moves14 (c := 130) (by decide) h hb (fun st' sd' H' e h' => jT_ret (hk1 _ _ H' e h')) fun H' e hy => jT_ret (hk0 H' e hy))
  · unfold F_14_operation
    refine jT_neg (by decide) (jT_neg (by decide) ?_)
    unfold B_14_operation_12
    refine jT_pos (by decide) (jT_neg (by decide) (jT_pos (by decide) (jT_neg (by decide) (jT_neg (by decide) (jT_pos (by decide) ?_)))))
    unfold B_14_operation_96
    refine jT_neg (by decide) (jT_neg (by decide) (jT_pos (by decide) ?_))
    unfold B_14_operation_132
    refine jT_neg (by decide) (jT_pos (by decide) ?_)
    unfold B_14_operation_161
    refine jT_neg (by decide) (jT_pos (by decide) (jT_neg (by decide) (jT_pos (by decide) (jT_pos (by decide) (jT_pos (by decide) (jT_neg (by decide) ?_))))))
    unfold B_14_operation_266
    exact jT_g (w_Zk h) (w_fails (n := 4) h rfl (by decide) (by decide) fun H' hy => jT_ret (hk0 H' rfl hy))
  · unfold F_14_operation
    refine jT_neg (by decide) (jT_neg (by decide) ?_)
    unfold B_14_operation_12
    refine jT_pos (by decide) (jT_neg (by decide) (jT_pos (by decide) (jT_neg (by decide) (jT_neg (by decide) (jT_pos (by decide) ?_)))))
    unfold B_14_operation_96
    refine jT_neg (by decide) (jT_neg (by decide) (jT_pos (by decide) ?_))
    unfold B_14_operation_132
    refine jT_neg (by decide) (jT_pos (by decide) ?_)
    unfold B_14_operation_161
    refine jT_neg (by decide) (jT_pos (by decide) (jT_neg (by decide) (jT_pos (by decide) (jT_pos (by decide) (jT_pos (by decide) (jT_neg (by decide) ?_))))))
    unfold B_14_operation_266
    exact jT_g (w_Zk h) (w_fails (n := 4) h rfl (by decide) (by decide) fun H' hy => jT_ret (hk0 H' rfl hy))
  · unfold F_14_operation
    refine jT_neg (by decide) (jT_neg (by decide) ?_)
    unfold B_14_operation_12
    refine jT_pos (by decide) (jT_neg (by decide) (jT_pos (by decide) (jT_neg (by decide) (jT_neg (by decide) (jT_pos (by decide) ?_)))))
    unfold B_14_operation_96
    refine jT_neg (by decide) (jT_neg (by decide) (jT_pos (by decide) ?_))
    unfold B_14_operation_132
    refine jT_neg (by decide) (jT_pos (by decide) ?_)
    unfold B_14_operation_161
    refine jT_neg (by decide) (jT_pos (by decide) (jT_neg (by decide) (jT_pos (by decide) (jT_pos (by decide) (jT_pos (by decide) (jT_neg (by decide) ?_))))))
    unfold B_14_operation_266
    exact jT_g (w_Zk h) (w_fails (n := 4) h rfl (by decide) (by decide) fun H' hy => jT_ret (hk0 H' rfl hy))
  · unfold F_14_operation
    refine jT_neg (by decide) (jT_neg (by decide) ?_)
    unfold B_14_operation_12
    refine jT_pos (by decide) (jT_neg (by decide) (jT_pos (by decide) (jT_neg (by decide) (jT_neg (by decide) (jT_pos (by decide) ?_)))))
    unfold B_14_operation_96
    refine jT_neg (by decide) (jT_neg (by decide) (jT_pos (by decide) ?_))
    unfold B_14_operation_132
    refine jT_neg (by decide) (jT_pos (by decide) ?_)
    unfold B_14_operation_161
    refine jT_neg (by decide) (jT_pos (by decide) (jT_neg (by decide) (jT_pos (by decide) (jT_pos (by decide) (jT_pos (by decide) (jT_neg (by decide) ?_))))))
    unfold B_14_operation_266
    exact jT_g (w_Zk h) (w_fails (n := 4) h rfl (by decide) (by decide) fun H' hy => jT_ret (hk0 H' rfl hy))
  · unfold F_14_operation
    refine jT_neg (by decide) (jT_neg (by decide) ?_)
    unfold B_14_operation_12
    refine jT_pos (by decide) (jT_pos (by decide) ?_)
    unfold B_14_operation_41
    refine jT_pos (by decide) ?_
    unfold B_14_operation_54
    unfold B_14_operation_266
    have eo : w_op 135 S.1 S.2.1 = w_cmp 135 S.1 S.2.1 := w_op_cmp (by decide) (by decide)
    exact jT_g (w_Zk h) (w_cmp14 (c := 135) (by decide) rfl h (by omega) (fun st' sd' H' e h' => jT_ret (hk1 _ _ H' (eo.trans e) h')) fun H' e hy => jT_ret (hk0 H' (eo.trans e) hy))
  · unfold F_14_operation
    refine jT_neg (by decide) (jT_neg (by decide) ?_)
    unfold B_14_operation_12
    refine jT_pos (by decide) (jT_neg (by decide) (jT_neg (by decide) ?_))
    unfold B_14_operation_41
    refine jT_neg (by decide) ?_
    unfold B_14_operation_54
    unfold B_14_operation_266
    have eo : w_op 136 S.1 S.2.1 = w_cmp 136 S.1 S.2.1 := w_op_cmp (by decide) (by decide)
    exact jT_g (w_Zk h) (w_cmp14 (c := 136) (by decide) rfl h (by omega) (fun st' sd' H' e h' => jT_ret (hk1 _ _ H' (eo.trans e) h')) fun H' e hy => jT_ret (hk0 H' (eo.trans e) hy))
  · unfold F_14_operation
    refine jT_neg (by decide) (jT_neg (by decide) ?_)
    unfold B_14_operation_12
    refine jT_pos (by decide) (jT_neg (by decide) (jT_pos (by decide) (jT_neg (by decide) (jT_neg (by decide) (jT_pos (by decide) ?_)))))
    unfold B_14_operation_96
    refine jT_neg (by decide) (jT_neg (by decide) (jT_pos (by decide) ?_))
    unfold B_14_operation_132
    refine jT_neg (by decide) (jT_pos (by decide) ?_)
    unfold B_14_operation_161
    refine jT_neg (by decide) (jT_pos (by decide) (jT_neg (by decide) (jT_pos (by decide) (jT_pos (by decide) (jT_pos (by decide) (jT_neg (by decide) ?_))))))
    unfold B_14_operation_266
    exact jT_g (w_Zk h) (w_fails (n := 4) h rfl (by decide) (by decide) fun H' hy => jT_ret (hk0 H' rfl hy))
  · unfold F_14_operation
    refine jT_neg (by decide) (jT_neg (by decide) ?_)
    unfold B_14_operation_12
    refine jT_pos (by decide) (jT_neg (by decide) (jT_pos (by decide) (jT_neg (by decide) (jT_neg (by decide) (jT_pos (by decide) ?_)))))
    unfold B_14_operation_96
    refine jT_neg (by decide) (jT_neg (by decide) (jT_pos (by decide) ?_))
    unfold B_14_operation_132
    refine jT_neg (by decide) (jT_pos (by decide) ?_)
    unfold B_14_operation_161
    refine jT_neg (by decide) (jT_pos (by decide) (jT_neg (by decide) (jT_pos (by decide) (jT_pos (by decide) (jT_pos (by decide) (jT_neg (by decide) ?_))))))
    unfold B_14_operation_266
    exact jT_g (w_Zk h) (w_fails (n := 4) h rfl (by decide) (by decide) fun H' hy => jT_ret (hk0 H' rfl hy))
  · unfold F_14_operation
    refine jT_neg (by decide) (jT_neg (by decide) ?_)
    unfold B_14_operation_12
    refine jT_pos (by decide) (jT_neg (by decide) (jT_pos (by decide) (jT_pos (by decide) ?_)))
    unfold B_14_operation_88
    unfold B_14_operation_266
    have eo : w_op 139 S.1 S.2.1 = w_cal 139 S.1 S.2.1 := w_op_cal (by decide) (by decide)
    exact jT_g (w_Zk h) (w_one14 (c := 139) (by decide) h (by omega) (fun st' sd' H' e h' => jT_ret (hk1 _ _ H' (eo.trans e) h')) fun H' e hy => jT_ret (hk0 H' (eo.trans e) hy))
  · unfold F_14_operation
    refine jT_neg (by decide) (jT_neg (by decide) ?_)
    unfold B_14_operation_12
    refine jT_pos (by decide) (jT_neg (by decide) (jT_pos (by decide) (jT_neg (by decide) (jT_pos (by decide) ?_))))
    unfold B_14_operation_88
    unfold B_14_operation_266
    have eo : w_op 140 S.1 S.2.1 = w_cal 140 S.1 S.2.1 := w_op_cal (by decide) (by decide)
    exact jT_g (w_Zk h) (w_one14 (c := 140) (by decide) h (by omega) (fun st' sd' H' e h' => jT_ret (hk1 _ _ H' (eo.trans e) h')) fun H' e hy => jT_ret (hk0 H' (eo.trans e) hy))
  · unfold F_14_operation
    refine jT_neg (by decide) (jT_neg (by decide) ?_)
    unfold B_14_operation_12
    refine jT_pos (by decide) (jT_neg (by decide) (jT_pos (by decide) (jT_neg (by decide) (jT_neg (by decide) (jT_pos (by decide) ?_)))))
    unfold B_14_operation_96
    refine jT_neg (by decide) (jT_neg (by decide) (jT_pos (by decide) ?_))
    unfold B_14_operation_132
    refine jT_neg (by decide) (jT_pos (by decide) ?_)
    unfold B_14_operation_161
    refine jT_neg (by decide) (jT_pos (by decide) (jT_neg (by decide) (jT_pos (by decide) (jT_pos (by decide) (jT_pos (by decide) (jT_neg (by decide) ?_))))))
    unfold B_14_operation_266
    exact jT_g (w_Zk h) (w_fails (n := 4) h rfl (by decide) (by decide) fun H' hy => jT_ret (hk0 H' rfl hy))
  · unfold F_14_operation
    refine jT_neg (by decide) (jT_neg (by decide) ?_)
    unfold B_14_operation_12
    refine jT_pos (by decide) (jT_neg (by decide) (jT_pos (by decide) (jT_neg (by decide) (jT_neg (by decide) (jT_pos (by decide) ?_)))))
    unfold B_14_operation_96
    refine jT_neg (by decide) (jT_neg (by decide) (jT_pos (by decide) ?_))
    unfold B_14_operation_132
    refine jT_neg (by decide) (jT_pos (by decide) ?_)
    unfold B_14_operation_161
    refine jT_neg (by decide) (jT_pos (by decide) (jT_neg (by decide) (jT_pos (by decide) (jT_pos (by decide) (jT_pos (by decide) (jT_neg (by decide) ?_))))))
    unfold B_14_operation_266
    exact jT_g (w_Zk h) (w_fails (n := 4) h rfl (by decide) (by decide) fun H' hy => jT_ret (hk0 H' rfl hy))
  · unfold F_14_operation
    refine jT_neg (by decide) (jT_neg (by decide) ?_)
    unfold B_14_operation_12
    refine jT_pos (by decide) (jT_neg (by decide) (jT_pos (by decide) (jT_neg (by decide) (jT_neg (by decide) (jT_neg (by decide) (jT_neg (by decide) ?_))))))
    unfold B_14_operation_88
    unfold B_14_operation_266
    have eo : w_op 143 S.1 S.2.1 = w_cal 143 S.1 S.2.1 := w_op_cal (by decide) (by decide)
    exact jT_g (w_Zk h) (w_one14 (c := 143) (by decide) h (by omega) (fun st' sd' H' e h' => jT_ret (hk1 _ _ H' (eo.trans e) h')) fun H' e hy => jT_ret (hk0 H' (eo.trans e) hy))
theorem w_opr2 {k : Unit → jH → Option (α × jH)} (hc : c = 144 ∨ c = 145 ∨ c = 146 ∨ c = 147 ∨ c = 148 ∨ c = 149 ∨ c = 150 ∨ c = 151 ∨ c = 152 ∨ c = 153 ∨ c = 154 ∨ c = 155 ∨ c = 156 ∨ c = 157) (h : w_Z scr S lf H0 H) (hb : S.1.length + S.2.1.length ≤ 60) (hk1 : ∀ st' sd' H', w_op c S.1 S.2.1 = some (st', sd') → w_Z scr (st', sd', S.2.2) lf H0 H' → jT (k () H') Q) (hk0 : ∀ H', w_op c S.1 S.2.1 = none → w_Yf H0 H' → jT (k () H') Q) : jT (jb (F_14_operation 437 (Int32.ofNat c) H) k) Q := by
  refine jT_b ?_
  rcases hc with rfl | rfl | rfl | rfl | rfl | rfl | rfl | rfl | rfl | rfl | rfl | rfl | rfl | rfl
  · unfold F_14_operation
    refine jT_neg (by decide) (jT_neg (by decide) ?_)
    unfold B_14_operation_12
    refine jT_pos (by decide) (jT_neg (by decide) (jT_pos (by decide) (jT_neg (by decide) (jT_neg (by decide) (jT_neg (by decide) (jT_neg (by decide) ?_))))))
    unfold B_14_operation_88
    unfold B_14_operation_266
    have eo : w_op 144 S.1 S.2.1 = w_cal 144 S.1 S.2.1 := w_op_cal (by decide) (by decide)
    exact jT_g (w_Zk h) (w_one14 (c := 144) (by decide) h (by omega) (fun st' sd' H' e h' => jT_ret (hk1 _ _ H' (eo.trans e) h')) fun H' e hy => jT_ret (hk0 H' (eo.trans e) hy))
  · unfold F_14_operation
    refine jT_neg (by decide) (jT_neg (by decide) ?_)
    unfold B_14_operation_12
    refine jT_pos (by decide) (jT_neg (by decide) (jT_pos (by decide) (jT_neg (by decide) (jT_neg (by decide) (jT_neg (by decide) (jT_neg (by decide) ?_))))))
    unfold B_14_operation_88
    unfold B_14_operation_266
    have eo : w_op 145 S.1 S.2.1 = w_cal 145 S.1 S.2.1 := w_op_cal (by decide) (by decide)
    exact jT_g (w_Zk h) (w_one14 (c := 145) (by decide) h (by omega) (fun st' sd' H' e h' => jT_ret (hk1 _ _ H' (eo.trans e) h')) fun H' e hy => jT_ret (hk0 H' (eo.trans e) hy))
  · unfold F_14_operation
    refine jT_neg (by decide) (jT_neg (by decide) ?_)
    unfold B_14_operation_12
    refine jT_pos (by decide) (jT_neg (by decide) (jT_pos (by decide) (jT_neg (by decide) (jT_neg (by decide) (jT_neg (by decide) (jT_neg (by decide) ?_))))))
    unfold B_14_operation_88
    unfold B_14_operation_266
    have eo : w_op 146 S.1 S.2.1 = w_cal 146 S.1 S.2.1 := w_op_cal (by decide) (by decide)
    exact jT_g (w_Zk h) (w_one14 (c := 146) (by decide) h (by omega) (fun st' sd' H' e h' => jT_ret (hk1 _ _ H' (eo.trans e) h')) fun H' e hy => jT_ret (hk0 H' (eo.trans e) hy))
  · unfold F_14_operation
    refine jT_neg (by decide) (jT_neg (by decide) ?_)
    unfold B_14_operation_12
    refine jT_pos (by decide) (jT_neg (by decide) (jT_pos (by decide) (jT_neg (by decide) (jT_neg (by decide) (jT_neg (by decide) (jT_pos (by decide) ?_))))))
    unfold B_14_operation_96
    refine jT_pos (by decide) ?_
    unfold B_14_operation_124
    unfold B_14_operation_266
    have eo : w_op 147 S.1 S.2.1 = w_cal 147 S.1 S.2.1 := w_op_cal (by decide) (by decide)
    exact jT_g (w_Zk h) (w_two14 (c := 147) (by decide) h (by omega) (fun st' sd' H' e h' => jT_ret (hk1 _ _ H' (eo.trans e) h')) fun H' e hy => jT_ret (hk0 H' (eo.trans e) hy))
  · unfold F_14_operation
    refine jT_neg (by decide) (jT_neg (by decide) ?_)
    unfold B_14_operation_12
    refine jT_pos (by decide) (jT_neg (by decide) (jT_pos (by decide) (jT_neg (by decide) (jT_neg (by decide) (jT_neg (by decide) (jT_pos (by decide) ?_))))))
    unfold B_14_operation_96
    refine jT_neg (by decide) (jT_pos (by decide) ?_)
    unfold B_14_operation_124
    unfold B_14_operation_266
    have eo : w_op 148 S.1 S.2.1 = w_cal 148 S.1 S.2.1 := w_op_cal (by decide) (by decide)
    exact jT_g (w_Zk h) (w_two14 (c := 148) (by decide) h (by omega) (fun st' sd' H' e h' => jT_ret (hk1 _ _ H' (eo.trans e) h')) fun H' e hy => jT_ret (hk0 H' (eo.trans e) hy))
  · unfold F_14_operation
    refine jT_neg (by decide) (jT_neg (by decide) ?_)
    unfold B_14_operation_12
    refine jT_pos (by decide) (jT_neg (by decide) (jT_pos (by decide) (jT_neg (by decide) (jT_neg (by decide) (jT_neg (by decide) (jT_pos (by decide) ?_))))))
    unfold B_14_operation_96
    refine jT_neg (by decide) (jT_neg (by decide) (jT_pos (by decide) ?_))
    unfold B_14_operation_132
    refine jT_neg (by decide) (jT_pos (by decide) ?_)
    unfold B_14_operation_161
    refine jT_neg (by decide) (jT_pos (by decide) (jT_neg (by decide) (jT_pos (by decide) (jT_pos (by decide) (jT_pos (by decide) (jT_neg (by decide) ?_))))))
    unfold B_14_operation_266
    exact jT_g (w_Zk h) (w_fails (n := 4) h rfl (by decide) (by decide) fun H' hy => jT_ret (hk0 H' rfl hy))
  · unfold F_14_operation
    refine jT_neg (by decide) (jT_neg (by decide) ?_)
    unfold B_14_operation_12
    refine jT_pos (by decide) (jT_neg (by decide) (jT_pos (by decide) (jT_neg (by decide) (jT_neg (by decide) (jT_neg (by decide) (jT_pos (by decide) ?_))))))
    unfold B_14_operation_96
    refine jT_neg (by decide) (jT_neg (by decide) (jT_pos (by decide) ?_))
    unfold B_14_operation_132
    refine jT_neg (by decide) (jT_pos (by decide) ?_)
    unfold B_14_operation_161
    refine jT_neg (by decide) (jT_pos (by decide) (jT_neg (by decide) (jT_pos (by decide) (jT_pos (by decide) (jT_pos (by decide) (jT_neg (by decide) ?_))))))
    unfold B_14_operation_266
    exact jT_g (w_Zk h) (w_fails (n := 4) h rfl (by decide) (by decide) fun H' hy => jT_ret (hk0 H' rfl hy))
  · unfold F_14_operation
    refine jT_neg (by decide) (jT_neg (by decide) ?_)
    unfold B_14_operation_12
    refine jT_pos (by decide) (jT_neg (by decide) (jT_pos (by decide) (jT_neg (by decide) (jT_neg (by decide) (jT_neg (by decide) (jT_pos (by decide) ?_))))))
    unfold B_14_operation_96
    refine jT_neg (by decide) (jT_neg (by decide) (jT_pos (by decide) ?_))
    unfold B_14_operation_132
    refine jT_neg (by decide) (jT_pos (by decide) ?_)
    unfold B_14_operation_161
    refine jT_neg (by decide) (jT_pos (by decide) (jT_neg (by decide) (jT_pos (by decide) (jT_pos (by decide) (jT_pos (by decide) (jT_neg (by decide) ?_))))))
    unfold B_14_operation_266
    exact jT_g (w_Zk h) (w_fails (n := 4) h rfl (by decide) (by decide) fun H' hy => jT_ret (hk0 H' rfl hy))
  · unfold F_14_operation
    refine jT_neg (by decide) (jT_neg (by decide) ?_)
    unfold B_14_operation_12
    refine jT_pos (by decide) (jT_neg (by decide) (jT_pos (by decide) (jT_neg (by decide) (jT_neg (by decide) (jT_neg (by decide) (jT_pos (by decide) ?_))))))
    unfold B_14_operation_96
    refine jT_neg (by decide) (jT_neg (by decide) (jT_pos (by decide) ?_))
    unfold B_14_operation_132
    refine jT_neg (by decide) (jT_pos (by decide) ?_)
    unfold B_14_operation_161
    refine jT_neg (by decide) (jT_pos (by decide) (jT_neg (by decide) (jT_pos (by decide) (jT_pos (by decide) (jT_pos (by decide) (jT_neg (by decide) ?_))))))
    unfold B_14_operation_266
    exact jT_g (w_Zk h) (w_fails (n := 4) h rfl (by decide) (by decide) fun H' hy => jT_ret (hk0 H' rfl hy))
  · unfold F_14_operation
    refine jT_neg (by decide) (jT_neg (by decide) ?_)
    unfold B_14_operation_12
    refine jT_pos (by decide) (jT_neg (by decide) (jT_pos (by decide) (jT_neg (by decide) (jT_neg (by decide) (jT_neg (by decide) (jT_pos (by decide) ?_))))))
    unfold B_14_operation_96
    refine jT_neg (by decide) (jT_neg (by decide) (jT_pos (by decide) ?_))
    unfold B_14_operation_132
    refine jT_neg (by decide) (jT_pos (by decide) ?_)
    unfold B_14_operation_161
    refine jT_neg (by decide) (jT_pos (by decide) (jT_neg (by decide) (jT_pos (by decide) (jT_pos (by decide) (jT_pos (by decide) (jT_neg (by decide) ?_))))))
    unfold B_14_operation_266
    exact jT_g (w_Zk h) (w_fails (n := 4) h rfl (by decide) (by decide) fun H' hy => jT_ret (hk0 H' rfl hy))
  · unfold F_14_operation
    refine jT_neg (by decide) (jT_neg (by decide) ?_)
    unfold B_14_operation_12
    refine jT_pos (by decide) (jT_neg (by decide) (jT_pos (by decide) (jT_neg (by decide) (jT_neg (by decide) (jT_neg (by decide) (jT_pos (by decide) ?_))))))
    unfold B_14_operation_96
    refine jT_neg (by decide) (jT_neg (by decide) (jT_neg (by decide) (jT_neg (by decide) ?_)))
    unfold B_14_operation_124
    unfold B_14_operation_266
    have eo : w_op 154 S.1 S.2.1 = w_cal 154 S.1 S.2.1 := w_op_cal (by decide) (by decide)
    exact jT_g (w_Zk h) (w_two14 (c := 154) (by decide) h (by omega) (fun st' sd' H' e h' => jT_ret (hk1 _ _ H' (eo.trans e) h')) fun H' e hy => jT_ret (hk0 H' (eo.trans e) hy))
  · unfold F_14_operation
    refine jT_neg (by decide) (jT_neg (by decide) ?_)
    unfold B_14_operation_12
    refine jT_pos (by decide) (jT_neg (by decide) (jT_pos (by decide) (jT_neg (by decide) (jT_neg (by decide) (jT_neg (by decide) (jT_pos (by decide) ?_))))))
    unfold B_14_operation_96
    refine jT_neg (by decide) (jT_neg (by decide) (jT_neg (by decide) (jT_neg (by decide) ?_)))
    unfold B_14_operation_124
    unfold B_14_operation_266
    have eo : w_op 155 S.1 S.2.1 = w_cal 155 S.1 S.2.1 := w_op_cal (by decide) (by decide)
    exact jT_g (w_Zk h) (w_two14 (c := 155) (by decide) h (by omega) (fun st' sd' H' e h' => jT_ret (hk1 _ _ H' (eo.trans e) h')) fun H' e hy => jT_ret (hk0 H' (eo.trans e) hy))
  · unfold F_14_operation
    refine jT_neg (by decide) (jT_neg (by decide) ?_)
    unfold B_14_operation_12
    refine jT_pos (by decide) (jT_neg (by decide) (jT_pos (by decide) (jT_neg (by decide) (jT_neg (by decide) (jT_neg (by decide) (jT_pos (by decide) ?_))))))
    unfold B_14_operation_96
    refine jT_neg (by decide) (jT_neg (by decide) (jT_neg (by decide) (jT_neg (by decide) ?_)))
    unfold B_14_operation_124
    unfold B_14_operation_266
    have eo : w_op 156 S.1 S.2.1 = w_cal 156 S.1 S.2.1 := w_op_cal (by decide) (by decide)
    exact jT_g (w_Zk h) (w_two14 (c := 156) (by decide) h (by omega) (fun st' sd' H' e h' => jT_ret (hk1 _ _ H' (eo.trans e) h')) fun H' e hy => jT_ret (hk0 H' (eo.trans e) hy))
  · unfold F_14_operation
    refine jT_neg (by decide) (jT_neg (by decide) ?_)
    unfold B_14_operation_12
    refine jT_pos (by decide) (jT_neg (by decide) (jT_pos (by decide) (jT_neg (by decide) (jT_neg (by decide) (jT_neg (by decide) (jT_pos (by decide) ?_))))))
    unfold B_14_operation_96
    refine jT_neg (by decide) (jT_neg (by decide) (jT_neg (by decide) (jT_neg (by decide) ?_)))
    unfold B_14_operation_124
    unfold B_14_operation_266
    have eo : w_op 157 S.1 S.2.1 = w_cal 157 S.1 S.2.1 := w_op_cal (by decide) (by decide)
    exact jT_g (w_Zk h) (w_two14 (c := 157) (by decide) h (by omega) (fun st' sd' H' e h' => jT_ret (hk1 _ _ H' (eo.trans e) h')) fun H' e hy => jT_ret (hk0 H' (eo.trans e) hy))
theorem w_opr3 {k : Unit → jH → Option (α × jH)} (hc : c = 158 ∨ c = 159 ∨ c = 160 ∨ c = 161 ∨ c = 162 ∨ c = 163 ∨ c = 164 ∨ c = 165 ∨ c = 166 ∨ c = 167 ∨ c = 168 ∨ c = 169 ∨ c = 170) (h : w_Z scr S lf H0 H) (hb : S.1.length + S.2.1.length ≤ 60) (hk1 : ∀ st' sd' H', w_op c S.1 S.2.1 = some (st', sd') → w_Z scr (st', sd', S.2.2) lf H0 H' → jT (k () H') Q) (hk0 : ∀ H', w_op c S.1 S.2.1 = none → w_Yf H0 H' → jT (k () H') Q) : jT (jb (F_14_operation 437 (Int32.ofNat c) H) k) Q := by
  refine jT_b ?_
  rcases hc with rfl | rfl | rfl | rfl | rfl | rfl | rfl | rfl | rfl | rfl | rfl | rfl | rfl
  · unfold F_14_operation
    refine jT_neg (by decide) (jT_neg (by decide) ?_)
    unfold B_14_operation_12
    refine jT_pos (by decide) (jT_neg (by decide) (jT_pos (by decide) (jT_neg (by decide) (jT_neg (by decide) (jT_neg (by decide) (jT_pos (by decide) ?_))))))
    unfold B_14_operation_96
    refine jT_neg (by decide) (jT_neg (by decide) (jT_neg (by decide) (jT_neg (by decide) ?_)))
    unfold B_14_operation_124
    unfold B_14_operation_266
    have eo : w_op 158 S.1 S.2.1 = w_cal 158 S.1 S.2.1 := w_op_cal (by decide) (by decide)
    exact jT_g (w_Zk h) (w_two14 (c := 158) (by decide) h (by omega) (fun st' sd' H' e h' => jT_ret (hk1 _ _ H' (eo.trans e) h')) fun H' e hy => jT_ret (hk0 H' (eo.trans e) hy))
  · unfold F_14_operation
    refine jT_neg (by decide) (jT_neg (by decide) ?_)
    unfold B_14_operation_12
    refine jT_pos (by decide) (jT_neg (by decide) (jT_pos (by decide) (jT_neg (by decide) (jT_neg (by decide) (jT_neg (by decide) (jT_pos (by decide) ?_))))))
    unfold B_14_operation_96
    refine jT_neg (by decide) (jT_neg (by decide) (jT_neg (by decide) (jT_neg (by decide) ?_)))
    unfold B_14_operation_124
    unfold B_14_operation_266
    have eo : w_op 159 S.1 S.2.1 = w_cal 159 S.1 S.2.1 := w_op_cal (by decide) (by decide)
    exact jT_g (w_Zk h) (w_two14 (c := 159) (by decide) h (by omega) (fun st' sd' H' e h' => jT_ret (hk1 _ _ H' (eo.trans e) h')) fun H' e hy => jT_ret (hk0 H' (eo.trans e) hy))
  · unfold F_14_operation
    refine jT_neg (by decide) (jT_neg (by decide) ?_)
    unfold B_14_operation_12
    refine jT_pos (by decide) (jT_neg (by decide) (jT_pos (by decide) (jT_neg (by decide) (jT_neg (by decide) (jT_neg (by decide) (jT_pos (by decide) ?_))))))
    unfold B_14_operation_96
    refine jT_neg (by decide) (jT_neg (by decide) (jT_neg (by decide) (jT_neg (by decide) ?_)))
    unfold B_14_operation_124
    unfold B_14_operation_266
    have eo : w_op 160 S.1 S.2.1 = w_cal 160 S.1 S.2.1 := w_op_cal (by decide) (by decide)
    exact jT_g (w_Zk h) (w_two14 (c := 160) (by decide) h (by omega) (fun st' sd' H' e h' => jT_ret (hk1 _ _ H' (eo.trans e) h')) fun H' e hy => jT_ret (hk0 H' (eo.trans e) hy))
  · unfold F_14_operation
    refine jT_neg (by decide) (jT_neg (by decide) ?_)
    unfold B_14_operation_12
    refine jT_pos (by decide) (jT_neg (by decide) (jT_pos (by decide) (jT_neg (by decide) (jT_neg (by decide) (jT_neg (by decide) (jT_pos (by decide) ?_))))))
    unfold B_14_operation_96
    refine jT_neg (by decide) (jT_neg (by decide) (jT_neg (by decide) (jT_neg (by decide) ?_)))
    unfold B_14_operation_124
    unfold B_14_operation_266
    have eo : w_op 161 S.1 S.2.1 = w_cal 161 S.1 S.2.1 := w_op_cal (by decide) (by decide)
    exact jT_g (w_Zk h) (w_two14 (c := 161) (by decide) h (by omega) (fun st' sd' H' e h' => jT_ret (hk1 _ _ H' (eo.trans e) h')) fun H' e hy => jT_ret (hk0 H' (eo.trans e) hy))
  · unfold F_14_operation
    refine jT_neg (by decide) (jT_neg (by decide) ?_)
    unfold B_14_operation_12
    refine jT_pos (by decide) (jT_neg (by decide) (jT_pos (by decide) (jT_neg (by decide) (jT_neg (by decide) (jT_neg (by decide) (jT_pos (by decide) ?_))))))
    unfold B_14_operation_96
    refine jT_neg (by decide) (jT_neg (by decide) (jT_neg (by decide) (jT_neg (by decide) ?_)))
    unfold B_14_operation_124
    unfold B_14_operation_266
    have eo : w_op 162 S.1 S.2.1 = w_cal 162 S.1 S.2.1 := w_op_cal (by decide) (by decide)
    exact jT_g (w_Zk h) (w_two14 (c := 162) (by decide) h (by omega) (fun st' sd' H' e h' => jT_ret (hk1 _ _ H' (eo.trans e) h')) fun H' e hy => jT_ret (hk0 H' (eo.trans e) hy))
  · unfold F_14_operation
    refine jT_neg (by decide) (jT_neg (by decide) ?_)
    unfold B_14_operation_12
    refine jT_pos (by decide) (jT_neg (by decide) (jT_pos (by decide) (jT_neg (by decide) (jT_neg (by decide) (jT_neg (by decide) (jT_pos (by decide) ?_))))))
    unfold B_14_operation_96
    refine jT_neg (by decide) (jT_neg (by decide) (jT_neg (by decide) (jT_neg (by decide) ?_)))
    unfold B_14_operation_124
    unfold B_14_operation_266
    have eo : w_op 163 S.1 S.2.1 = w_cal 163 S.1 S.2.1 := w_op_cal (by decide) (by decide)
    exact jT_g (w_Zk h) (w_two14 (c := 163) (by decide) h (by omega) (fun st' sd' H' e h' => jT_ret (hk1 _ _ H' (eo.trans e) h')) fun H' e hy => jT_ret (hk0 H' (eo.trans e) hy))
  · unfold F_14_operation
    refine jT_neg (by decide) (jT_neg (by decide) ?_)
    unfold B_14_operation_12
    refine jT_pos (by decide) (jT_neg (by decide) (jT_pos (by decide) (jT_neg (by decide) (jT_neg (by decide) (jT_neg (by decide) (jT_pos (by decide) ?_))))))
    unfold B_14_operation_96
    refine jT_neg (by decide) (jT_neg (by decide) (jT_neg (by decide) (jT_neg (by decide) ?_)))
    unfold B_14_operation_124
    unfold B_14_operation_266
    have eo : w_op 164 S.1 S.2.1 = w_cal 164 S.1 S.2.1 := w_op_cal (by decide) (by decide)
    exact jT_g (w_Zk h) (w_two14 (c := 164) (by decide) h (by omega) (fun st' sd' H' e h' => jT_ret (hk1 _ _ H' (eo.trans e) h')) fun H' e hy => jT_ret (hk0 H' (eo.trans e) hy))
  · unfold F_14_operation
    refine jT_neg (by decide) (jT_neg (by decide) ?_)
    unfold B_14_operation_12
    refine jT_pos (by decide) (jT_neg (by decide) (jT_pos (by decide) (jT_neg (by decide) (jT_neg (by decide) (jT_neg (by decide) (jT_pos (by decide) ?_))))))
    unfold B_14_operation_96
    refine jT_neg (by decide) (jT_neg (by decide) (jT_neg (by decide) (jT_neg (by decide) ?_)))
    unfold B_14_operation_124
    unfold B_14_operation_266
    have eo : w_op 165 S.1 S.2.1 = w_cal 165 S.1 S.2.1 := w_op_cal (by decide) (by decide)
    exact jT_g (w_Zk h) (w_two14 (c := 165) (by decide) h (by omega) (fun st' sd' H' e h' => jT_ret (hk1 _ _ H' (eo.trans e) h')) fun H' e hy => jT_ret (hk0 H' (eo.trans e) hy))
  · unfold F_14_operation
    refine jT_neg (by decide) (jT_neg (by decide) ?_)
    unfold B_14_operation_12
    refine jT_pos (by decide) (jT_neg (by decide) (jT_pos (by decide) (jT_neg (by decide) (jT_neg (by decide) (jT_neg (by decide) (jT_pos (by decide) ?_))))))
    unfold B_14_operation_96
    refine jT_neg (by decide) (jT_neg (by decide) (jT_neg (by decide) (jT_pos (by decide) ?_)))
    unfold B_14_operation_132
    refine jT_pos (by decide) ?_
    unfold B_14_operation_153
    unfold B_14_operation_266
    have eo : w_op 166 S.1 S.2.1 = w_dig 166 S.1 S.2.1 := w_op_dig (by decide)
    exact jT_g (w_Zk h) (w_digest14 (c := 166) (by decide) h (fun st' sd' H' e h' => jT_ret (hk1 _ _ H' (eo.trans e) h')) fun H' e hy => jT_ret (hk0 H' (eo.trans e) hy))
  · unfold F_14_operation
    refine jT_neg (by decide) (jT_neg (by decide) ?_)
    unfold B_14_operation_12
    refine jT_pos (by decide) (jT_neg (by decide) (jT_pos (by decide) (jT_neg (by decide) (jT_neg (by decide) (jT_neg (by decide) (jT_pos (by decide) ?_))))))
    unfold B_14_operation_96
    refine jT_neg (by decide) (jT_neg (by decide) (jT_neg (by decide) (jT_pos (by decide) ?_)))
    unfold B_14_operation_132
    refine jT_neg (by decide) (jT_pos (by decide) ?_)
    unfold B_14_operation_161
    refine jT_neg (by decide) (jT_pos (by decide) (jT_neg (by decide) (jT_pos (by decide) (jT_pos (by decide) (jT_pos (by decide) (jT_neg (by decide) ?_))))))
    unfold B_14_operation_266
    exact jT_g (w_Zk h) (w_fails (n := 4) h rfl (by decide) (by decide) fun H' hy => jT_ret (hk0 H' rfl hy))
  · unfold F_14_operation
    refine jT_neg (by decide) (jT_neg (by decide) ?_)
    unfold B_14_operation_12
    refine jT_pos (by decide) (jT_neg (by decide) (jT_pos (by decide) (jT_neg (by decide) (jT_neg (by decide) (jT_neg (by decide) (jT_pos (by decide) ?_))))))
    unfold B_14_operation_96
    refine jT_neg (by decide) (jT_neg (by decide) (jT_neg (by decide) (jT_pos (by decide) ?_)))
    unfold B_14_operation_132
    refine jT_neg (by decide) (jT_neg (by decide) (jT_neg (by decide) ?_))
    unfold B_14_operation_153
    unfold B_14_operation_266
    have eo : w_op 168 S.1 S.2.1 = w_dig 168 S.1 S.2.1 := w_op_dig (by decide)
    exact jT_g (w_Zk h) (w_digest14 (c := 168) (by decide) h (fun st' sd' H' e h' => jT_ret (hk1 _ _ H' (eo.trans e) h')) fun H' e hy => jT_ret (hk0 H' (eo.trans e) hy))
  · unfold F_14_operation
    refine jT_neg (by decide) (jT_neg (by decide) ?_)
    unfold B_14_operation_12
    refine jT_pos (by decide) (jT_neg (by decide) (jT_pos (by decide) (jT_neg (by decide) (jT_neg (by decide) (jT_neg (by decide) (jT_pos (by decide) ?_))))))
    unfold B_14_operation_96
    refine jT_neg (by decide) (jT_neg (by decide) (jT_neg (by decide) (jT_pos (by decide) ?_)))
    unfold B_14_operation_132
    refine jT_neg (by decide) (jT_neg (by decide) (jT_neg (by decide) ?_))
    unfold B_14_operation_153
    unfold B_14_operation_266
    have eo : w_op 169 S.1 S.2.1 = w_dig 169 S.1 S.2.1 := w_op_dig (by decide)
    exact jT_g (w_Zk h) (w_digest14 (c := 169) (by decide) h (fun st' sd' H' e h' => jT_ret (hk1 _ _ H' (eo.trans e) h')) fun H' e hy => jT_ret (hk0 H' (eo.trans e) hy))
  · unfold F_14_operation
    refine jT_neg (by decide) (jT_neg (by decide) ?_)
    unfold B_14_operation_12
    refine jT_pos (by decide) (jT_neg (by decide) (jT_pos (by decide) (jT_neg (by decide) (jT_neg (by decide) (jT_neg (by decide) (jT_pos (by decide) ?_))))))
    unfold B_14_operation_96
    refine jT_neg (by decide) (jT_neg (by decide) (jT_neg (by decide) (jT_pos (by decide) ?_)))
    unfold B_14_operation_132
    refine jT_neg (by decide) (jT_neg (by decide) (jT_neg (by decide) ?_))
    unfold B_14_operation_153
    unfold B_14_operation_266
    have eo : w_op 170 S.1 S.2.1 = w_dig 170 S.1 S.2.1 := w_op_dig (by decide)
    exact jT_g (w_Zk h) (w_digest14 (c := 170) (by decide) h (fun st' sd' H' e h' => jT_ret (hk1 _ _ H' (eo.trans e) h')) fun H' e hy => jT_ret (hk0 H' (eo.trans e) hy))
theorem w_oper14 {k : Unit → jH → Option (α × jH)} (hc : 97 ≤ c) (hc2 : c ≤ 170) (h : w_Z scr S lf H0 H) (hb : S.1.length + S.2.1.length ≤ 60) (hk1 : ∀ st' sd' H', w_op c S.1 S.2.1 = some (st', sd') → w_Z scr (st', sd', S.2.2) lf H0 H' → jT (k () H') Q) (hk0 : ∀ H', w_op c S.1 S.2.1 = none → w_Yf H0 H' → jT (k () H') Q) : jT (jb (F_14_operation 437 (Int32.ofNat c) H) k) Q := by
  by_cases c1 : 107 ≤ c ∧ c ≤ 125
  · unfold F_14_operation B_14_operation_19 B_14_operation_266
    exact jT_b (jT_neg (by rw [show (107 : Int32) = Int32.ofNat 107 from rfl, jo_lt (by omega) (by omega)]; omega) (jT_pos (by rw [show (125 : Int32) = Int32.ofNat 125 from rfl, jo_le (by omega) (by omega)]; omega) (jT_g (w_Zk h) (w_moves14 (Or.inl c1) h hb (fun st' sd' H' e h' => jT_ret (hk1 _ _ H' e h')) fun H' e hy => jT_ret (hk0 H' e hy)))))
  by_cases g0 : 97 ≤ c ∧ c ≤ 129 ∧ (c ≤ 106 ∨ 126 ≤ c)
  · exact w_opr0 (by omega) h hb hk1 hk0
  by_cases g1 : 130 ≤ c ∧ c ≤ 143 ∧ (c ≤ 106 ∨ 126 ≤ c)
  · exact w_opr1 (by omega) h hb hk1 hk0
  by_cases g2 : 144 ≤ c ∧ c ≤ 157 ∧ (c ≤ 106 ∨ 126 ≤ c)
  · exact w_opr2 (by omega) h hb hk1 hk0
  by_cases g3 : 158 ≤ c ∧ c ≤ 170 ∧ (c ≤ 106 ∨ 126 ≤ c)
  · exact w_opr3 (by omega) h hb hk1 hk0
  exfalso
  omega
end OP15
