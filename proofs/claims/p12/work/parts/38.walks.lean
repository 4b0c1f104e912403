def mi_L_answer : jM := (56917257334234333491827306860793064446069814276974495641156368887369395384513546508747102301935152702504568723647276299757071329823990356071009745682180652079935837366650559451252728024195385694968388446377410580, 88, 9, "CoinNodeLaw", some FieldType.long, "answer", 2, 42)
def y_L_answer : MethodName := ⟨"CoinNodeLaw", "answer", "(LCoinNode;I)J"⟩
theorem n_L_answer : jn_is method_25_code mi_L_answer.1 mi_L_answer.2.1 := by unfold jn_is; decide +kernel
theorem k_L_answer : jmok y_L_answer method_25_code mi_L_answer 2 := ⟨jw_1387, jw_0, ⟨by decide, by decide⟩, by decide +kernel⟩
theorem v_L_answer_40 (l : Launch) (k14 : Nat → Int32 → Int64 → Int64 → Int32 → jH → Option (Int64 × jH)) (hk14 : ∀ a0 a1 a2 a4 a6 H, JV l mi_L_answer jeL 14 [(0, .ref a0), (1, .int a1), (2, .long a2), (4, .long a4), (6, .int a6)] [] H (k14 a0 a1 a2 a4 a6 H)) (k40 : Nat → Int32 → Int64 → Int64 → Int32 → Int32 → Int32 → jH → Option (Int64 × jH)) (hk40 : ∀ a0 a1 a2 a4 a6 a7 a8 H, JV l mi_L_answer jeL 40 [(0, .ref a0), (1, .int a1), (2, .long a2), (4, .long a4), (6, .int a6), (7, .int a7), (8, .int a8)] [] H (k40 a0 a1 a2 a4 a6 a7 a8 H)) (a0 : Nat) (a1 : Int32) (a2 : Int64) (a4 : Int64) (a6 : Int32) (a7 : Int32) (a8 : Int32) (H : jH) : JV l mi_L_answer jeL 40 [(0, .ref a0), (1, .int a1), (2, .long a2), (4, .long a4), (6, .int a6), (7, .int a7), (8, .int a8)] [] H (B_L_answer_40 k14 k40 a0 a1 a2 a4 a6 a7 a8 H) := by
  unfold B_L_answer_40
  refine s_21 8 42 rfl rfl ?_
  refine s_21 7 44 rfl rfl ?_
  refine s_162 0 29 73 47 rfl rfl ?_ ?_
  · refine s_42 74 rfl rfl ?_
    refine s_27 75 rfl rfl ?_
    refine s_182L 0 165 78 165 (m_11_fetch l _ _ _) rfl k_11_fetch jc_11 jw_1371 jw_1372 jw_1373 rfl rfl rfl rfl rfl (fun x1 h2 => ?_)
    refine s_55 4 80 rfl rfl ?_
    refine s_132L 6 1 83 1 ji_1 rfl rfl rfl (fun x3 => ?_)
    refine s_167 255 187 14 rfl rfl ?_
    exact s_jmp (hk14 _ _ _ _ _ _) ⟨rfl, rfl, rfl, rfl, rfl, trivial⟩
  · refine s_32 48 rfl rfl ?_
    refine s_22 4 50 rfl rfl ?_
    refine s_16 48 52 48 jbp_48 rfl ?_
    refine s_16 8 54 8 jbp_8 rfl ?_
    refine s_21 8 56 rfl rfl ?_
    refine s_104 57 rfl ?_
    refine s_100 58 rfl ?_
    refine s_123 59 rfl ?_
    refine s_20 0 111 62 111 255 rfl jw_622 rfl ?_
    refine s_127 63 rfl ?_
    refine s_184L 0 113 66 113 (m_L_fold l _ _ _) rfl k_L_fold jw_623 jw_624 rfl rfl rfl rfl rfl (fun x4 h5 => ?_)
    refine s_65 67 rfl rfl ?_
    refine s_132L 8 1 70 1 ji_1 rfl rfl rfl (fun x6 => ?_)
    refine s_167 255 226 40 rfl rfl ?_
    exact s_jmp (hk40 _ _ _ _ _ _ _ _) ⟨rfl, rfl, rfl, rfl, rfl, rfl, rfl, trivial⟩
theorem w_L_answer_40 (l : Launch) (k14 : Nat → Int32 → Int64 → Int64 → Int32 → jH → Option (Int64 × jH)) (hk14 : ∀ a0 a1 a2 a4 a6 H, JV l mi_L_answer jeL 14 [(0, .ref a0), (1, .int a1), (2, .long a2), (4, .long a4), (6, .int a6)] [] H (k14 a0 a1 a2 a4 a6 H)) (n : Nat) : ∀ a0 a1 a2 a4 a6 a7 a8 H, JV l mi_L_answer jeL 40 [(0, .ref a0), (1, .int a1), (2, .long a2), (4, .long a4), (6, .int a6), (7, .int a7), (8, .int a8)] [] H (F_L_answer_40 k14 n a0 a1 a2 a4 a6 a7 a8 H) := by
  induction n with
  | zero => intro _ _ _ _ _ _ _ _; exact s_none
  | succ n ih => intro a0 a1 a2 a4 a6 a7 a8 H; exact v_L_answer_40 l k14 hk14 (F_L_answer_40 k14 n) ih a0 a1 a2 a4 a6 a7 a8 H
theorem v_L_answer_86 (l : Launch)  (a2 : Int64) (H : jH) : JV l mi_L_answer jeL 86 [(2, .long a2)] [] H (B_L_answer_86  a2 H) := by
  unfold B_L_answer_86
  refine s_32 87 rfl rfl ?_
  exact s_173 rfl rfl
theorem v_L_answer_14 (l : Launch) (k14 : Nat → Int32 → Int64 → Int64 → Int32 → jH → Option (Int64 × jH)) (hk14 : ∀ a0 a1 a2 a4 a6 H, JV l mi_L_answer jeL 14 [(0, .ref a0), (1, .int a1), (2, .long a2), (4, .long a4), (6, .int a6)] [] H (k14 a0 a1 a2 a4 a6 H)) (a0 : Nat) (a1 : Int32) (a2 : Int64) (a4 : Int64) (a6 : Int32) (H : jH) : JV l mi_L_answer jeL 14 [(0, .ref a0), (1, .int a1), (2, .long a2), (4, .long a4), (6, .int a6)] [] H (B_L_answer_14 k14 a0 a1 a2 a4 a6 H) := by
  unfold B_L_answer_14
  refine s_21 6 16 rfl rfl ?_
  refine s_17 7 208 19 2000 jsp_7_208 rfl ?_
  refine s_162 0 67 86 22 rfl rfl ?_ ?_
  · exact s_jmp (v_L_answer_86 l _ _) ⟨rfl, trivial⟩
  · refine s_22 4 24 rfl rfl ?_
    refine s_9 25 rfl ?_
    refine s_148_153 0 60 86 26 29 rfl rfl rfl ?_ ?_
    · exact s_jmp (v_L_answer_86 l _ _) ⟨rfl, trivial⟩
    · refine s_22 4 31 rfl rfl ?_
      refine s_16 56 33 56 jbp_56 rfl ?_
      refine s_123 34 rfl ?_
      refine s_136 35 rfl ?_
      refine s_54L 7 37 rfl rfl (fun x7 => ?_)
      refine s_3 38 rfl ?_
      refine s_54 8 40 rfl rfl ?_
      exact s_jmp (w_L_answer_40 l k14 hk14 jfuel _ _ _ _ _ _ _ _) ⟨rfl, rfl, rfl, rfl, rfl, rfl, rfl, trivial⟩
theorem w_L_answer_14 (l : Launch)  (n : Nat) : ∀ a0 a1 a2 a4 a6 H, JV l mi_L_answer jeL 14 [(0, .ref a0), (1, .int a1), (2, .long a2), (4, .long a4), (6, .int a6)] [] H (F_L_answer_14  n a0 a1 a2 a4 a6 H) := by
  induction n with
  | zero => intro _ _ _ _ _ _; exact s_none
  | succ n ih => intro a0 a1 a2 a4 a6 H; exact v_L_answer_14 l (F_L_answer_14  n) ih a0 a1 a2 a4 a6 H
theorem v_L_answer (l : Launch) (a0 : Nat) (a1 : Int32) (H : jH) : JV l mi_L_answer jeL 0 [(0, .ref a0), (1, .int a1)] [] H (F_L_answer a0 a1 H) := by
  unfold F_L_answer
  refine s_20 0 163 3 163 7 rfl jw_1388 rfl ?_
  refine s_65 4 rfl rfl ?_
  refine s_42 5 rfl rfl ?_
  refine s_27 6 rfl rfl ?_
  refine s_182L 0 165 9 165 (m_11_fetch l _ _ _) rfl k_11_fetch jc_11 jw_1371 jw_1372 jw_1373 rfl rfl rfl rfl rfl (fun x8 h9 => ?_)
  refine s_55 4 11 rfl rfl ?_
  refine s_3 12 rfl ?_
  refine s_54 6 14 rfl rfl ?_
  exact s_jmp (w_L_answer_14 l jfuel _ _ _ _ _ _) ⟨rfl, rfl, rfl, rfl, rfl, trivial⟩
theorem m_L_answer (l : Launch) (a0 : Nat) (a1 : Int32) (H : jH) : JMet l y_L_answer method_25_code mi_L_answer jeL [.ref a0, .int a1] H (F_L_answer a0 a1 H) := jmet_of n_L_answer (by decide) ⟨rfl, rfl⟩ (Nat.le_of_ble_eq_true rfl) (v_L_answer l a0 a1 H)
def mi_L_named : jM := (540438046405158683338380204301419659415466859516939705117194659491947212048125988733803783328628837826150457670199794422342236740132953766209271299, 61, 5, "CoinNodeLaw", some FieldType.long, "named", 1, 23)
def y_L_named : MethodName := ⟨"CoinNodeLaw", "named", "(J[JI)J"⟩
theorem n_L_named : jn_is method_26_code mi_L_named.1 mi_L_named.2.1 := by unfold jn_is; decide +kernel
theorem k_L_named : jmok y_L_named method_26_code mi_L_named 3 := ⟨jw_1396, jw_0, ⟨by decide, by decide⟩, by decide +kernel⟩
theorem v_L_named_49 (l : Launch) (k3 : Int64 → Nat → Int32 → Int32 → jH → Option (Int64 × jH)) (hk3 : ∀ a0 a2 a3 a4 H, JV l mi_L_named jeL 3 [(0, .long a0), (2, .ref a2), (3, .int a3), (4, .int a4)] [] H (k3 a0 a2 a3 a4 H)) (a2 : Nat) (a3 : Int32) (a4 : Int32) (s0 : Int64) (s1 : Int64) (H : jH) : JV l mi_L_named jeL 49 [(2, .ref a2), (3, .int a3), (4, .int a4)] [.long s1, .long s0] H (B_L_named_49 k3 a2 a3 a4 s0 s1 H) := by
  unfold B_L_named_49
  refine s_184L 0 113 52 113 (m_L_fold l _ _ _) rfl k_L_fold jw_623 jw_624 rfl rfl rfl rfl rfl (fun x1 h2 => ?_)
  refine s_63 53 rfl rfl ?_
  refine s_132L 4 1 56 1 ji_1 rfl rfl rfl (fun x3 => ?_)
  refine s_167 255 203 3 rfl rfl ?_
  exact s_jmp (hk3 _ _ _ _ _) ⟨rfl, rfl, rfl, rfl, trivial⟩
theorem v_L_named_3 (l : Launch) (k3 : Int64 → Nat → Int32 → Int32 → jH → Option (Int64 × jH)) (hk3 : ∀ a0 a2 a3 a4 H, JV l mi_L_named jeL 3 [(0, .long a0), (2, .ref a2), (3, .int a3), (4, .int a4)] [] H (k3 a0 a2 a3 a4 H)) (a0 : Int64) (a2 : Nat) (a3 : Int32) (a4 : Int32) (H : jH) : JV l mi_L_named jeL 3 [(0, .long a0), (2, .ref a2), (3, .int a3), (4, .int a4)] [] H (B_L_named_3 k3 a0 a2 a3 a4 H) := by
  unfold B_L_named_3
  refine s_21 4 5 rfl rfl ?_
  refine s_16 32 7 32 jbp_32 rfl ?_
  refine s_162 0 52 59 10 rfl rfl ?_ ?_
  · refine s_30 60 rfl rfl ?_
    exact s_173 rfl rfl
  · refine s_30 11 rfl rfl ?_
    refine s_29 12 rfl rfl ?_
    refine s_156 0 7 19 15 rfl rfl ?_ ?_
    · refine s_44 20 rfl rfl ?_
      refine s_16 32 22 32 jbp_32 rfl ?_
      refine s_7 23 rfl ?_
      refine s_29 24 rfl rfl ?_
      refine s_104 25 rfl ?_
      refine s_96 26 rfl ?_
      refine s_21 4 28 rfl rfl ?_
      refine s_16 8 30 8 jbp_8 rfl ?_
      refine s_108 31 rfl ?_
      refine s_96 32 rfl ?_
      refine s_47 33 rfl ?_
      refine s_16 56 35 56 jbp_56 rfl ?_
      refine s_16 8 37 8 jbp_8 rfl ?_
      refine s_21 4 39 rfl rfl ?_
      refine s_16 8 41 8 jbp_8 rfl ?_
      refine s_112 42 rfl ?_
      refine s_104 43 rfl ?_
      refine s_100 44 rfl ?_
      refine s_123 45 rfl ?_
      refine s_20 0 111 48 111 255 rfl jw_622 rfl ?_
      refine s_127 49 rfl ?_
      exact s_jmp (v_L_named_49 l k3 hk3 _ _ _ _ _ _) ⟨rfl, rfl, rfl, trivial⟩
    · refine s_9 16 rfl ?_
      refine s_167 0 33 49 rfl rfl ?_
      exact s_jmp (v_L_named_49 l k3 hk3 _ _ _ _ _ _) ⟨rfl, rfl, rfl, trivial⟩
theorem w_L_named_3 (l : Launch)  (n : Nat) : ∀ a0 a2 a3 a4 H, JV l mi_L_named jeL 3 [(0, .long a0), (2, .ref a2), (3, .int a3), (4, .int a4)] [] H (F_L_named_3  n a0 a2 a3 a4 H) := by
  induction n with
  | zero => intro _ _ _ _ _; exact s_none
  | succ n ih => intro a0 a2 a3 a4 H; exact v_L_named_3 l (F_L_named_3  n) ih a0 a2 a3 a4 H
theorem v_L_named (l : Launch) (a0 : Int64) (a2 : Nat) (a3 : Int32) (H : jH) : JV l mi_L_named jeL 0 [(0, .long a0), (2, .ref a2), (3, .int a3)] [] H (F_L_named a0 a2 a3 H) := by
  unfold F_L_named
  refine s_3 1 rfl ?_
  refine s_54 4 3 rfl rfl ?_
  exact s_jmp (w_L_named_3 l jfuel _ _ _ _ _) ⟨rfl, rfl, rfl, rfl, trivial⟩
theorem m_L_named (l : Launch) (a0 : Int64) (a2 : Nat) (a3 : Int32) (H : jH) : JMet l y_L_named method_26_code mi_L_named jeL [.long a0, .ref a2, .int a3] H (F_L_named a0 a2 a3 H) := jmet_of n_L_named (by decide) ⟨rfl, rfl⟩ (Nat.le_of_ble_eq_true rfl) (v_L_named l a0 a2 a3 H)
def mi_L_verdict : jM := (1198666264506661184121016441224044935695770716255809433548688560197140500, 30, 3, "CoinNodeLaw", some FieldType.long, "verdict", 2, 47)
def y_L_verdict : MethodName := ⟨"CoinNodeLaw", "verdict", "(I[JI)J"⟩
theorem n_L_verdict : jn_is method_27_code mi_L_verdict.1 mi_L_verdict.2.1 := by unfold jn_is; decide +kernel
theorem k_L_verdict : jmok y_L_verdict method_27_code mi_L_verdict 3 := ⟨jw_1391, jw_0, ⟨by decide, by decide⟩, by decide +kernel⟩
theorem v_L_verdict (l : Launch) (a0 : Int32) (a1 : Nat) (a2 : Int32) (H : jH) : JV l mi_L_verdict jeL 0 [(0, .int a0), (1, .ref a1), (2, .int a2)] [] H (F_L_verdict a0 a1 a2 H) := by
  unfold F_L_verdict
  refine s_20 0 163 3 163 7 rfl jw_1388 rfl ?_
  refine s_9 4 rfl ?_
  refine s_184L 0 113 7 113 (m_L_fold l _ _ _) rfl k_L_fold jw_623 jw_624 rfl rfl rfl rfl rfl (fun x1 h2 => ?_)
  refine s_20 0 169 10 169 34 rfl jw_1392 rfl ?_
  refine s_184L 0 113 13 113 (m_L_fold l _ _ _) rfl k_L_fold jw_623 jw_624 rfl rfl rfl rfl rfl (fun x3 h4 => ?_)
  refine s_20 0 171 16 171 8 rfl jw_1393 rfl ?_
  refine s_184L 0 113 19 113 (m_L_fold l _ _ _) rfl k_L_fold jw_623 jw_624 rfl rfl rfl rfl rfl (fun x5 h6 => ?_)
  refine s_26 20 rfl rfl ?_
  refine s_133 21 rfl ?_
  refine s_184L 0 113 24 113 (m_L_fold l _ _ _) rfl k_L_fold jw_623 jw_624 rfl rfl rfl rfl rfl (fun x7 h8 => ?_)
  refine s_43 25 rfl rfl ?_
  refine s_28 26 rfl rfl ?_
  refine s_184L 0 173 29 173 (m_L_named l _ _ _ _) rfl k_L_named jw_1394 jw_1395 rfl rfl rfl rfl rfl (fun x9 h10 => ?_)
  exact s_173 rfl rfl
theorem m_L_verdict (l : Launch) (a0 : Int32) (a1 : Nat) (a2 : Int32) (H : jH) : JMet l y_L_verdict method_27_code mi_L_verdict jeL [.int a0, .ref a1, .int a2] H (F_L_verdict a0 a1 a2 H) := jmet_of n_L_verdict (by decide) ⟨rfl, rfl⟩ (Nat.le_of_ble_eq_true rfl) (v_L_verdict l a0 a1 a2 H)
def mi_L_have : jM := (5148232404874595359952400121335578291018510487931825773433166831997208329506193428, 34, 3, "CoinNodeLaw", some FieldType.long, "have", 2, 47)
def y_L_have : MethodName := ⟨"CoinNodeLaw", "have", "(I[JI)J"⟩
theorem n_L_have : jn_is method_28_code mi_L_have.1 mi_L_have.2.1 := by unfold jn_is; decide +kernel
theorem k_L_have : jmok y_L_have method_28_code mi_L_have 3 := ⟨jw_1402, jw_0, ⟨by decide, by decide⟩, by decide +kernel⟩
theorem v_L_have (l : Launch) (a0 : Int32) (a1 : Nat) (a2 : Int32) (H : jH) : JV l mi_L_have jeL 0 [(0, .int a0), (1, .ref a1), (2, .int a2)] [] H (F_L_have a0 a1 a2 H) := by
  unfold F_L_have
  refine s_20 0 163 3 163 7 rfl jw_1388 rfl ?_
  refine s_9 4 rfl ?_
  refine s_184L 0 113 7 113 (m_L_fold l _ _ _) rfl k_L_fold jw_623 jw_624 rfl rfl rfl rfl rfl (fun x1 h2 => ?_)
  refine s_20 0 177 10 177 35 rfl jw_1403 rfl ?_
  refine s_184L 0 113 13 113 (m_L_fold l _ _ _) rfl k_L_fold jw_623 jw_624 rfl rfl rfl rfl rfl (fun x3 h4 => ?_)
  refine s_20 0 179 16 179 6 rfl jw_1404 rfl ?_
  refine s_184L 0 113 19 113 (m_L_fold l _ _ _) rfl k_L_fold jw_623 jw_624 rfl rfl rfl rfl rfl (fun x5 h6 => ?_)
  refine s_10 20 rfl ?_
  refine s_184L 0 113 23 113 (m_L_fold l _ _ _) rfl k_L_fold jw_623 jw_624 rfl rfl rfl rfl rfl (fun x7 h8 => ?_)
  refine s_26 24 rfl rfl ?_
  refine s_133 25 rfl ?_
  refine s_184L 0 113 28 113 (m_L_fold l _ _ _) rfl k_L_fold jw_623 jw_624 rfl rfl rfl rfl rfl (fun x9 h10 => ?_)
  refine s_43 29 rfl rfl ?_
  refine s_28 30 rfl rfl ?_
  refine s_184L 0 173 33 173 (m_L_named l _ _ _ _) rfl k_L_named jw_1394 jw_1395 rfl rfl rfl rfl rfl (fun x11 h12 => ?_)
  exact s_173 rfl rfl
theorem m_L_have (l : Launch) (a0 : Int32) (a1 : Nat) (a2 : Int32) (H : jH) : JMet l y_L_have method_28_code mi_L_have jeL [.int a0, .ref a1, .int a2] H (F_L_have a0 a1 a2 H) := jmet_of n_L_have (by decide) ⟨rfl, rfl⟩ (Nat.le_of_ble_eq_true rfl) (v_L_have l a0 a1 a2 H)
def mi_L_block : jM := (2026532999693137731623368499555350009668694779573133275891112563183243786513969001347091477623013684581500424913428729614516717892009074862740052162461126294257658841406211010515372537259411366407127852159310979837544421577931471101844313491069071551765639284728492118560773718193891751007108163191967561615690217515, 131, 12, "CoinNodeLaw", some FieldType.boolean, "block", 9, 275)
def y_L_block : MethodName := ⟨"CoinNodeLaw", "block", "(LCoinNode;[I[JIIIIIJ)Z"⟩
theorem n_L_block : jn_is method_29_code mi_L_block.1 mi_L_block.2.1 := by unfold jn_is; decide +kernel
theorem k_L_block : jmok y_L_block method_29_code mi_L_block 9 := ⟨jw_658, jw_0, ⟨by decide, by decide⟩, by decide +kernel⟩
theorem v_L_block_130 (l : Launch)  (s0 : Int32) (H : jH) : JV l mi_L_block jeI 130 [] [.int s0] H (B_L_block_130  s0 H) := by
  unfold B_L_block_130
  exact s_172Z rfl rfl
theorem v_L_block_129 (l : Launch)   (H : jH) : JV l mi_L_block jeI 129 [] [] H (B_L_block_129   H) := by
  unfold B_L_block_129
  refine s_3 130 rfl ?_
  exact s_jmp (v_L_block_130 l _ _) trivial
theorem v_L_block (l : Launch) (a0 : Nat) (a1 : Nat) (a2 : Nat) (a3 : Int32) (a4 : Int32) (a5 : Int32) (a6 : Int32) (a7 : Int32) (a8 : Int64) (H : jH) : JV l mi_L_block jeI 0 [(0, .ref a0), (1, .ref a1), (2, .ref a2), (3, .int a3), (4, .int a4), (5, .int a5), (6, .int a6), (7, .int a7), (8, .long a8)] [] H (F_L_block a0 a1 a2 a3 a4 a5 a6 a7 a8 H) := by
  unfold F_L_block
  refine s_43 1 rfl rfl ?_
  refine s_184V 0 105 4 105 (m_L_begin l _ _) rfl k_L_begin jw_523 jw_524 rfl rfl rfl rfl rfl (fun x1 h2 => ?_)
  refine s_42 5 rfl rfl ?_
  refine s_43 6 rfl rfl ?_
  refine s_44 7 rfl rfl ?_
  refine s_2 8 rfl ?_
  refine s_3 9 rfl ?_
  refine s_21 7 11 rfl rfl ?_
  refine s_22 8 13 rfl rfl ?_
  refine s_20 0 138 16 138 (-1) rfl jw_654 rfl ?_
  refine s_184I 0 181 19 181 (m_L_tx l _ _ _ _ _ _ _ _ _) rfl k_L_tx jw_659 jw_660 rfl rfl rfl rfl rfl (fun x3 h4 => ?_)
  refine s_54 10 21 rfl rfl ?_
  refine s_43 22 rfl rfl ?_
  refine s_44 23 rfl rfl ?_
  refine s_16 7 25 7 jbp_7 rfl ?_
  refine s_184V 0 146 28 146 (m_L_name l _ _ _ _) rfl k_L_name jw_638 jw_639 rfl rfl rfl rfl rfl (fun x5 h6 => ?_)
  refine s_43 29 rfl rfl ?_
  refine s_44 30 rfl rfl ?_
  refine s_16 7 32 7 jbp_7 rfl ?_
  refine s_184V 0 149 35 149 (m_L_note l _ _ _ _) rfl k_L_note jw_647 jw_648 rfl rfl rfl rfl rfl (fun x7 h8 => ?_)
  refine s_42 36 rfl rfl ?_
  refine s_43 37 rfl rfl ?_
  refine s_44 38 rfl rfl ?_
  refine s_21 4 40 rfl rfl ?_
  refine s_16 7 42 7 jbp_7 rfl ?_
  refine s_21 6 44 rfl rfl ?_
  refine s_18 141 46 545259519 jw_535 rfl ?_
  refine s_21 5 48 rfl rfl ?_
  refine s_4 49 rfl ?_
  refine s_184I 0 185 52 185 (m_L_mine l _ _ _ _ _ _ _ _ _ _) rfl k_L_mine jw_662 jw_663 rfl rfl rfl rfl rfl (fun x9 h10 => ?_)
  refine s_54 11 54 rfl rfl ?_
  refine s_21 10 56 rfl rfl ?_
  refine s_153 0 73 129 59 rfl rfl ?_ ?_
  · exact s_jmp (v_L_block_129 l _) trivial
  · refine s_42 60 rfl rfl ?_
    refine s_43 61 rfl rfl ?_
    refine s_44 62 rfl rfl ?_
    refine s_5 63 rfl ?_
    refine s_184I 0 189 66 189 (m_L_open l _ _ _ _ _) rfl k_L_open jw_669 jw_670 rfl rfl rfl rfl rfl (fun x11 h12 => ?_)
    refine s_153 0 63 129 69 rfl rfl ?_ ?_
    · exact s_jmp (v_L_block_129 l _) trivial
    · refine s_42 70 rfl rfl ?_
      refine s_43 71 rfl rfl ?_
      refine s_44 72 rfl rfl ?_
      refine s_21 4 74 rfl rfl ?_
      refine s_16 7 76 7 jbp_7 rfl ?_
      refine s_21 6 78 rfl rfl ?_
      refine s_18 141 80 545259519 jw_535 rfl ?_
      refine s_21 11 82 rfl rfl ?_
      refine s_184I 0 142 85 142 (m_L_head l _ _ _ _ _ _ _ _ _) rfl k_L_head jw_536 jw_537 rfl rfl rfl rfl rfl (fun x13 h14 => ?_)
      refine s_153 0 44 129 88 rfl rfl ?_ ?_
      · exact s_jmp (v_L_block_129 l _) trivial
      · refine s_42 89 rfl rfl ?_
        refine s_43 90 rfl rfl ?_
        refine s_44 91 rfl rfl ?_
        refine s_4 92 rfl ?_
        refine s_184I 0 123 95 123 (m_L_put l _ _ _ _ _) rfl k_L_put jw_542 jw_543 rfl rfl rfl rfl rfl (fun x15 h16 => ?_)
        refine s_153 0 34 129 98 rfl rfl ?_ ?_
        · exact s_jmp (v_L_block_129 l _) trivial
        · refine s_42 99 rfl rfl ?_
          refine s_43 100 rfl rfl ?_
          refine s_44 101 rfl rfl ?_
          refine s_2 102 rfl ?_
          refine s_3 103 rfl ?_
          refine s_21 7 105 rfl rfl ?_
          refine s_22 8 107 rfl rfl ?_
          refine s_20 0 138 110 138 (-1) rfl jw_654 rfl ?_
          refine s_184I 0 181 113 181 (m_L_tx l _ _ _ _ _ _ _ _ _) rfl k_L_tx jw_659 jw_660 rfl rfl rfl rfl rfl (fun x17 h18 => ?_)
          refine s_153 0 16 129 116 rfl rfl ?_ ?_
          · exact s_jmp (v_L_block_129 l _) trivial
          · refine s_42 117 rfl rfl ?_
            refine s_43 118 rfl rfl ?_
            refine s_29 119 rfl rfl ?_
            refine s_184I 0 192 122 192 (m_L_send l _ _ _ _) rfl k_L_send jw_672 jw_673 rfl rfl rfl rfl rfl (fun x19 h20 => ?_)
            refine s_153 0 7 129 125 rfl rfl ?_ ?_
            · exact s_jmp (v_L_block_129 l _) trivial
            · refine s_4 126 rfl ?_
              refine s_167 0 4 130 rfl rfl ?_
              exact s_jmp (v_L_block_130 l _ _) trivial
theorem m_L_block (l : Launch) (a0 : Nat) (a1 : Nat) (a2 : Nat) (a3 : Int32) (a4 : Int32) (a5 : Int32) (a6 : Int32) (a7 : Int32) (a8 : Int64) (H : jH) : JMet l y_L_block method_29_code mi_L_block jeI [.ref a0, .ref a1, .ref a2, .int a3, .int a4, .int a5, .int a6, .int a7, .long a8] H (F_L_block a0 a1 a2 a3 a4 a5 a6 a7 a8 H) := jmet_of n_L_block (by decide) ⟨rfl, rfl⟩ (Nat.le_of_ble_eq_true rfl) (v_L_block l a0 a1 a2 a3 a4 a5 a6 a7 a8 H)
def mi_L_isAt : jM := (46777339636009819316167397809833816382825525935176041875215345717625481501119658951478545779687133698153810044832813859662473688673771644802420465432921942542493969565648017610310684974122, 78, 4, "CoinNodeLaw", some FieldType.boolean, "isAt", 2, 47)
def y_L_isAt : MethodName := ⟨"CoinNodeLaw", "isAt", "(LCoinNode;[JII)Z"⟩
theorem n_L_isAt : jn_is method_30_code mi_L_isAt.1 mi_L_isAt.2.1 := by unfold jn_is; decide +kernel
theorem k_L_isAt : jmok y_L_isAt method_30_code mi_L_isAt 4 := ⟨jw_1411, jw_0, ⟨by decide, by decide⟩, by decide +kernel⟩
theorem v_L_isAt_77 (l : Launch)  (s0 : Int32) (H : jH) : JV l mi_L_isAt jeI 77 [] [.int s0] H (B_L_isAt_77  s0 H) := by
  unfold B_L_isAt_77
  exact s_172Z rfl rfl
theorem v_L_isAt_76 (l : Launch)   (H : jH) : JV l mi_L_isAt jeI 76 [] [] H (B_L_isAt_76   H) := by
  unfold B_L_isAt_76
  refine s_3 77 rfl ?_
  exact s_jmp (v_L_isAt_77 l _ _) trivial
theorem v_L_isAt (l : Launch) (a0 : Nat) (a1 : Nat) (a2 : Int32) (a3 : Int32) (H : jH) : JV l mi_L_isAt jeI 0 [(0, .ref a0), (1, .ref a1), (2, .int a2), (3, .int a3)] [] H (F_L_isAt a0 a1 a2 a3 H) := by
  unfold F_L_isAt
  refine s_42 1 rfl rfl ?_
  refine s_28 2 rfl rfl ?_
  refine s_3 3 rfl ?_
  refine s_182L 0 195 6 195 (m_11_block l _ _ _ _) rfl k_11_block jc_11 jw_1377 jw_1378 jw_1379 rfl rfl rfl rfl rfl (fun x1 h2 => ?_)
  refine s_43 7 rfl rfl ?_
  refine s_16 32 9 32 jbp_32 rfl ?_
  refine s_7 10 rfl ?_
  refine s_29 11 rfl rfl ?_
  refine s_104 12 rfl ?_
  refine s_96 13 rfl ?_
  refine s_47 14 rfl ?_
  refine s_148_154 0 61 76 15 18 rfl rfl rfl ?_ ?_
  · exact s_jmp (v_L_isAt_76 l _) trivial
  · refine s_42 19 rfl rfl ?_
    refine s_28 20 rfl rfl ?_
    refine s_4 21 rfl ?_
    refine s_182L 0 195 24 195 (m_11_block l _ _ _ _) rfl k_11_block jc_11 jw_1377 jw_1378 jw_1379 rfl rfl rfl rfl rfl (fun x3 h4 => ?_)
    refine s_43 25 rfl rfl ?_
    refine s_16 33 27 33 jbp_33 rfl ?_
    refine s_7 28 rfl ?_
    refine s_29 29 rfl rfl ?_
    refine s_104 30 rfl ?_
    refine s_96 31 rfl ?_
    refine s_47 32 rfl ?_
    refine s_148_154 0 43 76 33 36 rfl rfl rfl ?_ ?_
    · exact s_jmp (v_L_isAt_76 l _) trivial
    · refine s_42 37 rfl rfl ?_
      refine s_28 38 rfl rfl ?_
      refine s_5 39 rfl ?_
      refine s_182L 0 195 42 195 (m_11_block l _ _ _ _) rfl k_11_block jc_11 jw_1377 jw_1378 jw_1379 rfl rfl rfl rfl rfl (fun x5 h6 => ?_)
      refine s_43 43 rfl rfl ?_
      refine s_16 34 45 34 jbp_34 rfl ?_
      refine s_7 46 rfl ?_
      refine s_29 47 rfl rfl ?_
      refine s_104 48 rfl ?_
      refine s_96 49 rfl ?_
      refine s_47 50 rfl ?_
      refine s_148_154 0 25 76 51 54 rfl rfl rfl ?_ ?_
      · exact s_jmp (v_L_isAt_76 l _) trivial
      · refine s_42 55 rfl rfl ?_
        refine s_28 56 rfl rfl ?_
        refine s_6 57 rfl ?_
        refine s_182L 0 195 60 195 (m_11_block l _ _ _ _) rfl k_11_block jc_11 jw_1377 jw_1378 jw_1379 rfl rfl rfl rfl rfl (fun x7 h8 => ?_)
        refine s_43 61 rfl rfl ?_
        refine s_16 35 63 35 jbp_35 rfl ?_
        refine s_7 64 rfl ?_
        refine s_29 65 rfl rfl ?_
        refine s_104 66 rfl ?_
        refine s_96 67 rfl ?_
        refine s_47 68 rfl ?_
        refine s_148_154 0 7 76 69 72 rfl rfl rfl ?_ ?_
        · exact s_jmp (v_L_isAt_76 l _) trivial
        · refine s_4 73 rfl ?_
          refine s_167 0 4 77 rfl rfl ?_
          exact s_jmp (v_L_isAt_77 l _ _) trivial
theorem m_L_isAt (l : Launch) (a0 : Nat) (a1 : Nat) (a2 : Int32) (a3 : Int32) (H : jH) : JMet l y_L_isAt method_30_code mi_L_isAt jeI [.ref a0, .ref a1, .int a2, .int a3] H (F_L_isAt a0 a1 a2 a3 H) := jmet_of n_L_isAt (by decide) ⟨rfl, rfl⟩ (Nat.le_of_ble_eq_true rfl) (v_L_isAt l a0 a1 a2 a3 H)
def mi_L_coin : jM := (95032205152452161705765259332547229471612097425996246875380897184059544757387738800578131760119819050, 42, 4, "CoinNodeLaw", some FieldType.long, "coin", 4, 85)
def y_L_coin : MethodName := ⟨"CoinNodeLaw", "coin", "(LCoinNode;[JII)J"⟩
theorem n_L_coin : jn_is method_31_code mi_L_coin.1 mi_L_coin.2.1 := by unfold jn_is; decide +kernel
theorem k_L_coin : jmok y_L_coin method_31_code mi_L_coin 4 := ⟨jw_1414, jw_0, ⟨by decide, by decide⟩, by decide +kernel⟩
theorem v_L_coin (l : Launch) (a0 : Nat) (a1 : Nat) (a2 : Int32) (a3 : Int32) (H : jH) : JV l mi_L_coin jeL 0 [(0, .ref a0), (1, .ref a1), (2, .int a2), (3, .int a3)] [] H (F_L_coin a0 a1 a2 a3 H) := by
  unfold F_L_coin
  refine s_42 1 rfl rfl ?_
  refine s_43 2 rfl rfl ?_
  refine s_16 32 4 32 jbp_32 rfl ?_
  refine s_7 5 rfl ?_
  refine s_28 6 rfl rfl ?_
  refine s_104 7 rfl ?_
  refine s_96 8 rfl ?_
  refine s_47 9 rfl ?_
  refine s_43 10 rfl rfl ?_
  refine s_16 33 12 33 jbp_33 rfl ?_
  refine s_7 13 rfl ?_
  refine s_28 14 rfl rfl ?_
  refine s_104 15 rfl ?_
  refine s_96 16 rfl ?_
  refine s_47 17 rfl ?_
  refine s_43 18 rfl rfl ?_
  refine s_16 34 20 34 jbp_34 rfl ?_
  refine s_7 21 rfl ?_
  refine s_28 22 rfl rfl ?_
  refine s_104 23 rfl ?_
  refine s_96 24 rfl ?_
  refine s_47 25 rfl ?_
  refine s_43 26 rfl rfl ?_
  refine s_16 35 28 35 jbp_35 rfl ?_
  refine s_7 29 rfl ?_
  refine s_28 30 rfl rfl ?_
  refine s_104 31 rfl ?_
  refine s_96 32 rfl ?_
  refine s_47 33 rfl ?_
  refine s_29 34 rfl rfl ?_
  refine s_182V 0 199 37 199 (m_11_key l _ _ _ _ _ _ _) rfl k_11_key jc_11 jw_1415 jw_1416 jw_1417 rfl rfl rfl rfl rfl (fun x1 h2 => ?_)
  refine s_42 38 rfl rfl ?_
  refine s_182L 0 203 41 203 (m_11_value l _ _) rfl k_11_value jc_11 jw_1419 jw_1420 jw_1421 rfl rfl rfl rfl rfl (fun x3 h4 => ?_)
  exact s_173 rfl rfl
theorem m_L_coin (l : Launch) (a0 : Nat) (a1 : Nat) (a2 : Int32) (a3 : Int32) (H : jH) : JMet l y_L_coin method_31_code mi_L_coin jeL [.ref a0, .ref a1, .int a2, .int a3] H (F_L_coin a0 a1 a2 a3 H) := jmet_of n_L_coin (by decide) ⟨rfl, rfl⟩ (Nat.le_of_ble_eq_true rfl) (v_L_coin l a0 a1 a2 a3 H)
def mi_L_copy : jM := (5273287378714224650904153717205386562698633677533825080117567667228744733293362691, 34, 4, "CoinNodeLaw", none, "copy", 0, 0)
def y_L_copy : MethodName := ⟨"CoinNodeLaw", "copy", "([JII)V"⟩
theorem n_L_copy : jn_is method_32_code mi_L_copy.1 mi_L_copy.2.1 := by unfold jn_is; decide +kernel
theorem k_L_copy : jmok y_L_copy method_32_code mi_L_copy 3 := ⟨jw_1399, jw_0, ⟨by decide, by decide⟩, by decide +kernel⟩
theorem v_L_copy_2 (l : Launch) (k2 : Nat → Int32 → Int32 → Int32 → jH → Option (Unit × jH)) (hk2 : ∀ a0 a1 a2 a3 H, JV l mi_L_copy jeV 2 [(0, .ref a0), (1, .int a1), (2, .int a2), (3, .int a3)] [] H (k2 a0 a1 a2 a3 H)) (a0 : Nat) (a1 : Int32) (a2 : Int32) (a3 : Int32) (H : jH) : JV l mi_L_copy jeV 2 [(0, .ref a0), (1, .int a1), (2, .int a2), (3, .int a3)] [] H (B_L_copy_2 k2 a0 a1 a2 a3 H) := by
  unfold B_L_copy_2
  refine s_29 3 rfl rfl ?_
  refine s_7 4 rfl ?_
  refine s_162 0 29 33 7 rfl rfl ?_ ?_
  · exact s_177 rfl rfl
  · refine s_42 8 rfl rfl ?_
    refine s_16 32 10 32 jbp_32 rfl ?_
    refine s_7 11 rfl ?_
    refine s_28 12 rfl rfl ?_
    refine s_104 13 rfl ?_
    refine s_96 14 rfl ?_
    refine s_29 15 rfl rfl ?_
    refine s_96 16 rfl ?_
    refine s_42 17 rfl rfl ?_
    refine s_16 32 19 32 jbp_32 rfl ?_
    refine s_7 20 rfl ?_
    refine s_27 21 rfl rfl ?_
    refine s_104 22 rfl ?_
    refine s_96 23 rfl ?_
    refine s_29 24 rfl rfl ?_
    refine s_96 25 rfl ?_
    refine s_47 26 rfl ?_
    refine s_80 27 rfl (fun h1 => ?_)
    refine s_132L 3 1 30 1 ji_1 rfl rfl rfl (fun x2 => ?_)
    refine s_167 255 228 2 rfl rfl ?_
    exact s_jmp (hk2 _ _ _ _ _) ⟨rfl, rfl, rfl, rfl, trivial⟩
theorem w_L_copy_2 (l : Launch)  (n : Nat) : ∀ a0 a1 a2 a3 H, JV l mi_L_copy jeV 2 [(0, .ref a0), (1, .int a1), (2, .int a2), (3, .int a3)] [] H (F_L_copy_2  n a0 a1 a2 a3 H) := by
  induction n with
  | zero => intro _ _ _ _ _; exact s_none
  | succ n ih => intro a0 a1 a2 a3 H; exact v_L_copy_2 l (F_L_copy_2  n) ih a0 a1 a2 a3 H
theorem v_L_copy (l : Launch) (a0 : Nat) (a1 : Int32) (a2 : Int32) (H : jH) : JV l mi_L_copy jeV 0 [(0, .ref a0), (1, .int a1), (2, .int a2)] [] H (F_L_copy a0 a1 a2 H) := by
  unfold F_L_copy
  refine s_3 1 rfl ?_
  refine s_62 2 rfl rfl ?_
  exact s_jmp (w_L_copy_2 l jfuel _ _ _ _ _) ⟨rfl, rfl, rfl, rfl, trivial⟩
theorem m_L_copy (l : Launch) (a0 : Nat) (a1 : Int32) (a2 : Int32) (H : jH) : JMet l y_L_copy method_32_code mi_L_copy jeV [.ref a0, .int a1, .int a2] H (F_L_copy a0 a1 a2 H) := jmet_of n_L_copy (by decide) ⟨rfl, rfl⟩ (Nat.le_of_ble_eq_true rfl) (v_L_copy l a0 a1 a2 H)
def mi_L_holds : jM := (152514807504906616236097804383817104723242252037901167973941582271457774596052126205154727279152009937195159600818571725588048134321395263108776864765084087565247064826910886059560487823169218041719656999962524399301990394496316465614400225628490351674896528724965561735922199359140922781466839355827095936890777722537991422019833256208994729128004953628139436699321779781990820504199122153073625810109540212815757726086666772664888202148505490706371635202399749265848149998743926384840978008941312330461554072889483986166324628037185537831085814522710869932099013959245866166834478278963971292128283188477968980316935283293314057183201883267398240708145083986437625498120342797428943946051729932049870104372026157343531163193528553280996149234850154752469778185474920408856302466139911031802545343729209690324204469499763045053372355368179796987445091927950912481902770654514056461787291697160821473853816294556548219688175629317111822217525812617782700661440562451909826363454697232756845086068766004286329842976224349637063666238003488522458370145231153032853763682100406618869325872233763220886900734449518728750713607980667992961330375772583670185290574390192962067577208990157171027073683000190688901749023447400774520887831357188206117455451532724486210128215393418124524915287896031454074694703644167046293781332170265082182922702201277553705704125074676092423521109155818634745032048627643452457651398646289354399060567169528267824476222779095564045075247319665152030246365795886934003254111246717369636062547571997077061285387883396374025343740177366253755, 650, 23, "CoinNodeLaw", some FieldType.boolean, "holds", 10, 306)
def y_L_holds : MethodName := ⟨"CoinNodeLaw", "holds", "([I[I)Z"⟩
theorem n_L_holds : jn_is method_34_code mi_L_holds.1 mi_L_holds.2.1 := by unfold jn_is; decide +kernel
theorem k_L_holds : jmok y_L_holds method_34_code mi_L_holds 2 := ⟨jw_18, jw_0, ⟨by decide, by decide⟩, by decide +kernel⟩
theorem v_L_holds_511 (l : Launch) (k460 : Nat → Nat → Nat → Nat → Int64 → Int32 → Int32 → Int32 → Int32 → Int32 → Int32 → Int32 → Int32 → Int32 → jH → Option (Int32 × jH)) (hk460 : ∀ a0 a1 a2 a3 a4 a6 a7 a8 a9 a11 a15 a19 a20 a21 H, JV l mi_L_holds jeI 460 [(0, .ref a0), (1, .ref a1), (2, .ref a2), (3, .ref a3), (4, .long a4), (6, .int a6), (7, .int a7), (8, .int a8), (9, .int a9), (11, .int a11), (15, .int a15), (19, .int a19), (20, .int a20), (21, .int a21)] [] H (k460 a0 a1 a2 a3 a4 a6 a7 a8 a9 a11 a15 a19 a20 a21 H)) (a0 : Nat) (a1 : Nat) (a2 : Nat) (a3 : Nat) (a4 : Int64) (a6 : Int32) (a7 : Int32) (a8 : Int32) (a9 : Int32) (a11 : Int32) (a15 : Int32) (a20 : Int32) (a21 : Int32) (s0 : Int32) (H : jH) : JV l mi_L_holds jeI 511 [(0, .ref a0), (1, .ref a1), (2, .ref a2), (3, .ref a3), (4, .long a4), (6, .int a6), (7, .int a7), (8, .int a8), (9, .int a9), (11, .int a11), (15, .int a15), (20, .int a20), (21, .int a21)] [.int s0] H (B_L_holds_511 k460 a0 a1 a2 a3 a4 a6 a7 a8 a9 a11 a15 a20 a21 s0 H) := by
  unfold B_L_holds_511
  refine s_54 19 513 rfl rfl ?_
  refine s_132L 21 1 516 1 ji_1 rfl rfl rfl (fun x1 => ?_)
  refine s_167 255 200 460 rfl rfl ?_
  exact s_jmp (hk460 _ _ _ _ _ _ _ _ _ _ _ _ _ _ _) ⟨rfl, rfl, rfl, rfl, rfl, rfl, rfl, rfl, rfl, rfl, rfl, rfl, rfl, rfl, trivial⟩
theorem v_L_holds_502 (l : Launch) (k460 : Nat → Nat → Nat → Nat → Int64 → Int32 → Int32 → Int32 → Int32 → Int32 → Int32 → Int32 → Int32 → Int32 → jH → Option (Int32 × jH)) (hk460 : ∀ a0 a1 a2 a3 a4 a6 a7 a8 a9 a11 a15 a19 a20 a21 H, JV l mi_L_holds jeI 460 [(0, .ref a0), (1, .ref a1), (2, .ref a2), (3, .ref a3), (4, .long a4), (6, .int a6), (7, .int a7), (8, .int a8), (9, .int a9), (11, .int a11), (15, .int a15), (19, .int a19), (20, .int a20), (21, .int a21)] [] H (k460 a0 a1 a2 a3 a4 a6 a7 a8 a9 a11 a15 a19 a20 a21 H)) (a0 : Nat) (a1 : Nat) (a2 : Nat) (a3 : Nat) (a4 : Int64) (a6 : Int32) (a7 : Int32) (a8 : Int32) (a9 : Int32) (a11 : Int32) (a15 : Int32) (a20 : Int32) (a21 : Int32) (s0 : Int64) (s1 : Int64) (H : jH) : JV l mi_L_holds jeI 502 [(0, .ref a0), (1, .ref a1), (2, .ref a2), (3, .ref a3), (4, .long a4), (6, .int a6), (7, .int a7), (8, .int a8), (9, .int a9), (11, .int a11), (15, .int a15), (20, .int a20), (21, .int a21)] [.long s1, .long s0] H (B_L_holds_502 k460 a0 a1 a2 a3 a4 a6 a7 a8 a9 a11 a15 a20 a21 s0 s1 H) := by
  unfold B_L_holds_502
  refine s_148_154 0 7 510 503 506 rfl rfl rfl ?_ ?_
  · refine s_3 511 rfl ?_
    exact s_jmp (v_L_holds_511 l k460 hk460 _ _ _ _ _ _ _ _ _ _ _ _ _ _ _) ⟨rfl, rfl, rfl, rfl, rfl, rfl, rfl, rfl, rfl, rfl, rfl, rfl, rfl, trivial⟩
  · refine s_4 507 rfl ?_
    refine s_167 0 4 511 rfl rfl ?_
    exact s_jmp (v_L_holds_511 l k460 hk460 _ _ _ _ _ _ _ _ _ _ _ _ _ _ _) ⟨rfl, rfl, rfl, rfl, rfl, rfl, rfl, rfl, rfl, rfl, rfl, rfl, rfl, trivial⟩
theorem v_L_holds_499 (l : Launch) (k460 : Nat → Nat → Nat → Nat → Int64 → Int32 → Int32 → Int32 → Int32 → Int32 → Int32 → Int32 → Int32 → Int32 → jH → Option (Int32 × jH)) (hk460 : ∀ a0 a1 a2 a3 a4 a6 a7 a8 a9 a11 a15 a19 a20 a21 H, JV l mi_L_holds jeI 460 [(0, .ref a0), (1, .ref a1), (2, .ref a2), (3, .ref a3), (4, .long a4), (6, .int a6), (7, .int a7), (8, .int a8), (9, .int a9), (11, .int a11), (15, .int a15), (19, .int a19), (20, .int a20), (21, .int a21)] [] H (k460 a0 a1 a2 a3 a4 a6 a7 a8 a9 a11 a15 a19 a20 a21 H)) (a0 : Nat) (a1 : Nat) (a2 : Nat) (a3 : Nat) (a4 : Int64) (a6 : Int32) (a7 : Int32) (a8 : Int32) (a9 : Int32) (a11 : Int32) (a15 : Int32) (a20 : Int32) (a21 : Int32) (s0 : Int64) (H : jH) : JV l mi_L_holds jeI 499 [(0, .ref a0), (1, .ref a1), (2, .ref a2), (3, .ref a3), (4, .long a4), (6, .int a6), (7, .int a7), (8, .int a8), (9, .int a9), (11, .int a11), (15, .int a15), (20, .int a20), (21, .int a21)] [.long s0] H (B_L_holds_499 k460 a0 a1 a2 a3 a4 a6 a7 a8 a9 a11 a15 a20 a21 s0 H) := by
  unfold B_L_holds_499
  refine s_20 0 163 502 163 7 rfl jw_1388 rfl ?_
  exact s_jmp (v_L_holds_502 l k460 hk460 _ _ _ _ _ _ _ _ _ _ _ _ _ _ _ _) ⟨rfl, rfl, rfl, rfl, rfl, rfl, rfl, rfl, rfl, rfl, rfl, rfl, rfl, trivial⟩
theorem v_L_holds_633 (l : Launch) (k48 : Nat → Nat → Nat → Nat → Int64 → Int32 → Int32 → Int32 → Int32 → jH → Option (Int32 × jH)) (hk48 : ∀ a0 a1 a2 a3 a4 a6 a7 a8 a9 H, JV l mi_L_holds jeI 48 [(0, .ref a0), (1, .ref a1), (2, .ref a2), (3, .ref a3), (4, .long a4), (6, .int a6), (7, .int a7), (8, .int a8), (9, .int a9)] [] H (k48 a0 a1 a2 a3 a4 a6 a7 a8 a9 H)) (a0 : Nat) (a1 : Nat) (a2 : Nat) (a3 : Nat) (a4 : Int64) (a6 : Int32) (a7 : Int32) (a8 : Int32) (a9 : Int32) (s0 : Int32) (H : jH) : JV l mi_L_holds jeI 633 [(0, .ref a0), (1, .ref a1), (2, .ref a2), (3, .ref a3), (4, .long a4), (6, .int a6), (7, .int a7), (8, .int a8), (9, .int a9)] [.int s0] H (B_L_holds_633 k48 a0 a1 a2 a3 a4 a6 a7 a8 a9 s0 H) := by
  unfold B_L_holds_633
  refine s_54 19 635 rfl rfl ?_
  refine s_21 19 637 rfl rfl ?_
  refine s_154 0 5 642 640 rfl rfl ?_ ?_
  · refine s_132L 9 1 645 1 ji_1 rfl rfl rfl (fun x2 => ?_)
    refine s_167 253 171 48 rfl rfl ?_
    exact s_jmp (hk48 _ _ _ _ _ _ _ _ _ _) ⟨rfl, rfl, rfl, rfl, rfl, rfl, rfl, rfl, rfl, trivial⟩
  · refine s_3 641 rfl ?_
    exact s_172Z rfl rfl
theorem v_L_holds_632 (l : Launch) (k48 : Nat → Nat → Nat → Nat → Int64 → Int32 → Int32 → Int32 → Int32 → jH → Option (Int32 × jH)) (hk48 : ∀ a0 a1 a2 a3 a4 a6 a7 a8 a9 H, JV l mi_L_holds jeI 48 [(0, .ref a0), (1, .ref a1), (2, .ref a2), (3, .ref a3), (4, .long a4), (6, .int a6), (7, .int a7), (8, .int a8), (9, .int a9)] [] H (k48 a0 a1 a2 a3 a4 a6 a7 a8 a9 H)) (a0 : Nat) (a1 : Nat) (a2 : Nat) (a3 : Nat) (a4 : Int64) (a6 : Int32) (a7 : Int32) (a8 : Int32) (a9 : Int32) (H : jH) : JV l mi_L_holds jeI 632 [(0, .ref a0), (1, .ref a1), (2, .ref a2), (3, .ref a3), (4, .long a4), (6, .int a6), (7, .int a7), (8, .int a8), (9, .int a9)] [] H (B_L_holds_632 k48 a0 a1 a2 a3 a4 a6 a7 a8 a9 H) := by
  unfold B_L_holds_632
  refine s_3 633 rfl ?_
  exact s_jmp (v_L_holds_633 l k48 hk48 _ _ _ _ _ _ _ _ _ _ _) ⟨rfl, rfl, rfl, rfl, rfl, rfl, rfl, rfl, rfl, trivial⟩
theorem v_L_holds_624 (l : Launch) (k48 : Nat → Nat → Nat → Nat → Int64 → Int32 → Int32 → Int32 → Int32 → jH → Option (Int32 × jH)) (hk48 : ∀ a0 a1 a2 a3 a4 a6 a7 a8 a9 H, JV l mi_L_holds jeI 48 [(0, .ref a0), (1, .ref a1), (2, .ref a2), (3, .ref a3), (4, .long a4), (6, .int a6), (7, .int a7), (8, .int a8), (9, .int a9)] [] H (k48 a0 a1 a2 a3 a4 a6 a7 a8 a9 H)) (a0 : Nat) (a1 : Nat) (a2 : Nat) (a3 : Nat) (a4 : Int64) (a6 : Int32) (a7 : Int32) (a8 : Int32) (a9 : Int32) (s0 : Int64) (s1 : Int64) (H : jH) : JV l mi_L_holds jeI 624 [(0, .ref a0), (1, .ref a1), (2, .ref a2), (3, .ref a3), (4, .long a4), (6, .int a6), (7, .int a7), (8, .int a8), (9, .int a9)] [.long s1, .long s0] H (B_L_holds_624 k48 a0 a1 a2 a3 a4 a6 a7 a8 a9 s0 s1 H) := by
  unfold B_L_holds_624
  refine s_148_154 0 7 632 625 628 rfl rfl rfl ?_ ?_
  · exact s_jmp (v_L_holds_632 l k48 hk48 _ _ _ _ _ _ _ _ _ _) ⟨rfl, rfl, rfl, rfl, rfl, rfl, rfl, rfl, rfl, trivial⟩
  · refine s_4 629 rfl ?_
    refine s_167 0 4 633 rfl rfl ?_
    exact s_jmp (v_L_holds_633 l k48 hk48 _ _ _ _ _ _ _ _ _ _ _) ⟨rfl, rfl, rfl, rfl, rfl, rfl, rfl, rfl, rfl, trivial⟩
theorem v_L_holds_602 (l : Launch) (k48 : Nat → Nat → Nat → Nat → Int64 → Int32 → Int32 → Int32 → Int32 → jH → Option (Int32 × jH)) (hk48 : ∀ a0 a1 a2 a3 a4 a6 a7 a8 a9 H, JV l mi_L_holds jeI 48 [(0, .ref a0), (1, .ref a1), (2, .ref a2), (3, .ref a3), (4, .long a4), (6, .int a6), (7, .int a7), (8, .int a8), (9, .int a9)] [] H (k48 a0 a1 a2 a3 a4 a6 a7 a8 a9 H)) (a0 : Nat) (a1 : Nat) (a2 : Nat) (a3 : Nat) (a4 : Int64) (a6 : Int32) (a7 : Int32) (a8 : Int32) (a9 : Int32) (a20 : Int32) (H : jH) : JV l mi_L_holds jeI 602 [(0, .ref a0), (1, .ref a1), (2, .ref a2), (3, .ref a3), (4, .long a4), (6, .int a6), (7, .int a7), (8, .int a8), (9, .int a9), (20, .int a20)] [] H (B_L_holds_602 k48 a0 a1 a2 a3 a4 a6 a7 a8 a9 a20 H) := by
  unfold B_L_holds_602
  refine s_44 603 rfl rfl ?_
  refine s_45 604 rfl rfl ?_
  refine s_16 7 606 7 jbp_7 rfl ?_
  refine s_3 607 rfl ?_
  refine s_184L 0 250 610 250 (m_L_coin l _ _ _ _ _) rfl k_L_coin jw_1412 jw_1413 rfl rfl rfl rfl rfl (fun x3 h4 => ?_)
  refine s_21 20 612 rfl rfl ?_
  refine s_153 0 9 621 615 rfl rfl ?_ ?_
  · refine s_20 0 138 624 138 (-1) rfl jw_654 rfl ?_
    exact s_jmp (v_L_holds_624 l k48 hk48 _ _ _ _ _ _ _ _ _ _ _ _) ⟨rfl, rfl, rfl, rfl, rfl, rfl, rfl, rfl, rfl, trivial⟩
  · refine s_20 0 216 618 216 5000000000 rfl jw_655 rfl ?_
    refine s_167 0 6 624 rfl rfl ?_
    exact s_jmp (v_L_holds_624 l k48 hk48 _ _ _ _ _ _ _ _ _ _ _ _) ⟨rfl, rfl, rfl, rfl, rfl, rfl, rfl, rfl, rfl, trivial⟩
theorem v_L_holds_519 (l : Launch) (k48 : Nat → Nat → Nat → Nat → Int64 → Int32 → Int32 → Int32 → Int32 → jH → Option (Int32 × jH)) (hk48 : ∀ a0 a1 a2 a3 a4 a6 a7 a8 a9 H, JV l mi_L_holds jeI 48 [(0, .ref a0), (1, .ref a1), (2, .ref a2), (3, .ref a3), (4, .long a4), (6, .int a6), (7, .int a7), (8, .int a8), (9, .int a9)] [] H (k48 a0 a1 a2 a3 a4 a6 a7 a8 a9 H)) (a0 : Nat) (a1 : Nat) (a2 : Nat) (a3 : Nat) (a4 : Int64) (a6 : Int32) (a7 : Int32) (a8 : Int32) (a9 : Int32) (a15 : Int32) (a19 : Int32) (a20 : Int32) (H : jH) : JV l mi_L_holds jeI 519 [(0, .ref a0), (1, .ref a1), (2, .ref a2), (3, .ref a3), (4, .long a4), (6, .int a6), (7, .int a7), (8, .int a8), (9, .int a9), (15, .int a15), (19, .int a19), (20, .int a20)] [] H (B_L_holds_519 k48 a0 a1 a2 a3 a4 a6 a7 a8 a9 a15 a19 a20 H) := by
  unfold B_L_holds_519
  refine s_21 19 521 rfl rfl ?_
  refine s_153 0 111 632 524 rfl rfl ?_ ?_
  · exact s_jmp (v_L_holds_632 l k48 hk48 _ _ _ _ _ _ _ _ _ _) ⟨rfl, rfl, rfl, rfl, rfl, rfl, rfl, rfl, rfl, trivial⟩
  · refine s_44 525 rfl rfl ?_
    refine s_3 526 rfl ?_
    refine s_182I 0 225 529 225 (m_11_count l _ _ _) rfl k_11_count jc_11 jw_1381 jw_1382 jw_1383 rfl rfl rfl rfl rfl (fun x5 h6 => ?_)
    refine s_21 6 531 rfl rfl ?_
    refine s_160 0 101 632 534 rfl rfl ?_ ?_
    · exact s_jmp (v_L_holds_632 l k48 hk48 _ _ _ _ _ _ _ _ _ _) ⟨rfl, rfl, rfl, rfl, rfl, rfl, rfl, rfl, rfl, trivial⟩
    · refine s_44 535 rfl rfl ?_
      refine s_4 536 rfl ?_
      refine s_182I 0 225 539 225 (m_11_count l _ _ _) rfl k_11_count jc_11 jw_1381 jw_1382 jw_1383 rfl rfl rfl rfl rfl (fun x7 h8 => ?_)
      refine s_21 7 541 rfl rfl ?_
      refine s_160 0 91 632 544 rfl rfl ?_ ?_
      · exact s_jmp (v_L_holds_632 l k48 hk48 _ _ _ _ _ _ _ _ _ _) ⟨rfl, rfl, rfl, rfl, rfl, rfl, rfl, rfl, rfl, trivial⟩
      · refine s_44 545 rfl rfl ?_
        refine s_5 546 rfl ?_
        refine s_182I 0 225 549 225 (m_11_count l _ _ _) rfl k_11_count jc_11 jw_1381 jw_1382 jw_1383 rfl rfl rfl rfl rfl (fun x9 h10 => ?_)
        refine s_21 7 551 rfl rfl ?_
        refine s_160 0 81 632 554 rfl rfl ?_ ?_
        · exact s_jmp (v_L_holds_632 l k48 hk48 _ _ _ _ _ _ _ _ _ _) ⟨rfl, rfl, rfl, rfl, rfl, rfl, rfl, rfl, rfl, trivial⟩
        · refine s_44 555 rfl rfl ?_
          refine s_182L 0 243 558 243 (m_11_total l _ _) rfl k_11_total jc_11 jw_1405 jw_1406 jw_1407 rfl rfl rfl rfl rfl (fun x11 h12 => ?_)
          refine s_20 0 216 561 216 5000000000 rfl jw_655 rfl ?_
          refine s_21 7 563 rfl rfl ?_
          refine s_133 564 rfl ?_
          refine s_105 565 rfl ?_
          refine s_148_154 0 66 632 566 569 rfl rfl rfl ?_ ?_
          · exact s_jmp (v_L_holds_632 l k48 hk48 _ _ _ _ _ _ _ _ _ _) ⟨rfl, rfl, rfl, rfl, rfl, rfl, rfl, rfl, rfl, trivial⟩
          · refine s_44 570 rfl rfl ?_
            refine s_6 571 rfl ?_
            refine s_182I 0 225 574 225 (m_11_count l _ _ _) rfl k_11_count jc_11 jw_1381 jw_1382 jw_1383 rfl rfl rfl rfl rfl (fun x13 h14 => ?_)
            refine s_154 0 58 632 577 rfl rfl ?_ ?_
            · exact s_jmp (v_L_holds_632 l k48 hk48 _ _ _ _ _ _ _ _ _ _) ⟨rfl, rfl, rfl, rfl, rfl, rfl, rfl, rfl, rfl, trivial⟩
            · refine s_44 578 rfl rfl ?_
              refine s_8 579 rfl ?_
              refine s_182I 0 225 582 225 (m_11_count l _ _ _) rfl k_11_count jc_11 jw_1381 jw_1382 jw_1383 rfl rfl rfl rfl rfl (fun x15 h16 => ?_)
              refine s_154 0 50 632 585 rfl rfl ?_ ?_
              · exact s_jmp (v_L_holds_632 l k48 hk48 _ _ _ _ _ _ _ _ _ _) ⟨rfl, rfl, rfl, rfl, rfl, rfl, rfl, rfl, rfl, trivial⟩
              · refine s_21 20 587 rfl rfl ?_
                refine s_153 0 15 602 590 rfl rfl ?_ ?_
                · exact s_jmp (v_L_holds_602 l k48 hk48 _ _ _ _ _ _ _ _ _ _ _) ⟨rfl, rfl, rfl, rfl, rfl, rfl, rfl, rfl, rfl, rfl, trivial⟩
                · refine s_44 591 rfl rfl ?_
                  refine s_45 592 rfl rfl ?_
                  refine s_21 15 594 rfl rfl ?_
                  refine s_16 6 596 6 jbp_6 rfl ?_
                  refine s_184I 0 246 599 246 (m_L_isAt l _ _ _ _ _) rfl k_L_isAt jw_1409 jw_1410 rfl rfl rfl rfl rfl (fun x17 h18 => ?_)
                  refine s_153 0 33 632 602 rfl rfl ?_ ?_
                  · exact s_jmp (v_L_holds_632 l k48 hk48 _ _ _ _ _ _ _ _ _ _) ⟨rfl, rfl, rfl, rfl, rfl, rfl, rfl, rfl, rfl, trivial⟩
                  · exact s_jmp (v_L_holds_602 l k48 hk48 _ _ _ _ _ _ _ _ _ _ _) ⟨rfl, rfl, rfl, rfl, rfl, rfl, rfl, rfl, rfl, rfl, trivial⟩
theorem v_L_holds_460 (l : Launch) (k48 : Nat → Nat → Nat → Nat → Int64 → Int32 → Int32 → Int32 → Int32 → jH → Option (Int32 × jH)) (hk48 : ∀ a0 a1 a2 a3 a4 a6 a7 a8 a9 H, JV l mi_L_holds jeI 48 [(0, .ref a0), (1, .ref a1), (2, .ref a2), (3, .ref a3), (4, .long a4), (6, .int a6), (7, .int a7), (8, .int a8), (9, .int a9)] [] H (k48 a0 a1 a2 a3 a4 a6 a7 a8 a9 H)) (k460 : Nat → Nat → Nat → Nat → Int64 → Int32 → Int32 → Int32 → Int32 → Int32 → Int32 → Int32 → Int32 → Int32 → jH → Option (Int32 × jH)) (hk460 : ∀ a0 a1 a2 a3 a4 a6 a7 a8 a9 a11 a15 a19 a20 a21 H, JV l mi_L_holds jeI 460 [(0, .ref a0), (1, .ref a1), (2, .ref a2), (3, .ref a3), (4, .long a4), (6, .int a6), (7, .int a7), (8, .int a8), (9, .int a9), (11, .int a11), (15, .int a15), (19, .int a19), (20, .int a20), (21, .int a21)] [] H (k460 a0 a1 a2 a3 a4 a6 a7 a8 a9 a11 a15 a19 a20 a21 H)) (a0 : Nat) (a1 : Nat) (a2 : Nat) (a3 : Nat) (a4 : Int64) (a6 : Int32) (a7 : Int32) (a8 : Int32) (a9 : Int32) (a11 : Int32) (a15 : Int32) (a19 : Int32) (a20 : Int32) (a21 : Int32) (H : jH) : JV l mi_L_holds jeI 460 [(0, .ref a0), (1, .ref a1), (2, .ref a2), (3, .ref a3), (4, .long a4), (6, .int a6), (7, .int a7), (8, .int a8), (9, .int a9), (11, .int a11), (15, .int a15), (19, .int a19), (20, .int a20), (21, .int a21)] [] H (B_L_holds_460 k48 k460 a0 a1 a2 a3 a4 a6 a7 a8 a9 a11 a15 a19 a20 a21 H) := by
  unfold B_L_holds_460
  refine s_21 21 462 rfl rfl ?_
  refine s_7 463 rfl ?_
  refine s_162 0 56 519 466 rfl rfl ?_ ?_
  · exact s_jmp (v_L_holds_519 l k48 hk48 _ _ _ _ _ _ _ _ _ _ _ _ _) ⟨rfl, rfl, rfl, rfl, rfl, rfl, rfl, rfl, rfl, rfl, rfl, rfl, trivial⟩
  · refine s_21 19 468 rfl rfl ?_
    refine s_153 0 51 519 471 rfl rfl ?_ ?_
    · exact s_jmp (v_L_holds_519 l k48 hk48 _ _ _ _ _ _ _ _ _ _ _ _ _) ⟨rfl, rfl, rfl, rfl, rfl, rfl, rfl, rfl, rfl, rfl, rfl, rfl, trivial⟩
    · refine s_44 472 rfl rfl ?_
      refine s_21 21 474 rfl rfl ?_
      refine s_184L 0 228 477 228 (m_L_answer l _ _ _) rfl k_L_answer jw_1385 jw_1386 rfl rfl rfl rfl rfl (fun x19 h20 => ?_)
      refine s_21 21 479 rfl rfl ?_
      refine s_21 11 481 rfl rfl ?_
      refine s_159 0 18 499 484 rfl rfl ?_ ?_
      · exact s_jmp (v_L_holds_499 l k460 hk460 _ _ _ _ _ _ _ _ _ _ _ _ _ _ _) ⟨rfl, rfl, rfl, rfl, rfl, rfl, rfl, rfl, rfl, rfl, rfl, rfl, rfl, trivial⟩
      · refine s_21 20 486 rfl rfl ?_
        refine s_153 0 13 499 489 rfl rfl ?_ ?_
        · exact s_jmp (v_L_holds_499 l k460 hk460 _ _ _ _ _ _ _ _ _ _ _ _ _ _ _) ⟨rfl, rfl, rfl, rfl, rfl, rfl, rfl, rfl, rfl, rfl, rfl, rfl, rfl, trivial⟩
        · refine s_5 490 rfl ?_
          refine s_45 491 rfl rfl ?_
          refine s_16 6 493 6 jbp_6 rfl ?_
          refine s_184L 0 240 496 240 (m_L_have l _ _ _ _) rfl k_L_have jw_1400 jw_1401 rfl rfl rfl rfl rfl (fun x21 h22 => ?_)
          refine s_167 0 6 502 rfl rfl ?_
          exact s_jmp (v_L_holds_502 l k460 hk460 _ _ _ _ _ _ _ _ _ _ _ _ _ _ _ _) ⟨rfl, rfl, rfl, rfl, rfl, rfl, rfl, rfl, rfl, rfl, rfl, rfl, rfl, trivial⟩
theorem w_L_holds_460 (l : Launch) (k48 : Nat → Nat → Nat → Nat → Int64 → Int32 → Int32 → Int32 → Int32 → jH → Option (Int32 × jH)) (hk48 : ∀ a0 a1 a2 a3 a4 a6 a7 a8 a9 H, JV l mi_L_holds jeI 48 [(0, .ref a0), (1, .ref a1), (2, .ref a2), (3, .ref a3), (4, .long a4), (6, .int a6), (7, .int a7), (8, .int a8), (9, .int a9)] [] H (k48 a0 a1 a2 a3 a4 a6 a7 a8 a9 H)) (n : Nat) : ∀ a0 a1 a2 a3 a4 a6 a7 a8 a9 a11 a15 a19 a20 a21 H, JV l mi_L_holds jeI 460 [(0, .ref a0), (1, .ref a1), (2, .ref a2), (3, .ref a3), (4, .long a4), (6, .int a6), (7, .int a7), (8, .int a8), (9, .int a9), (11, .int a11), (15, .int a15), (19, .int a19), (20, .int a20), (21, .int a21)] [] H (F_L_holds_460 k48 n a0 a1 a2 a3 a4 a6 a7 a8 a9 a11 a15 a19 a20 a21 H) := by
  induction n with
  | zero => intro _ _ _ _ _ _ _ _ _ _ _ _ _ _ _; exact s_none
  | succ n ih => intro a0 a1 a2 a3 a4 a6 a7 a8 a9 a11 a15 a19 a20 a21 H; exact v_L_holds_460 l k48 hk48 (F_L_holds_460 k48 n) ih a0 a1 a2 a3 a4 a6 a7 a8 a9 a11 a15 a19 a20 a21 H
theorem v_L_holds_457 (l : Launch) (k48 : Nat → Nat → Nat → Nat → Int64 → Int32 → Int32 → Int32 → Int32 → jH → Option (Int32 × jH)) (hk48 : ∀ a0 a1 a2 a3 a4 a6 a7 a8 a9 H, JV l mi_L_holds jeI 48 [(0, .ref a0), (1, .ref a1), (2, .ref a2), (3, .ref a3), (4, .long a4), (6, .int a6), (7, .int a7), (8, .int a8), (9, .int a9)] [] H (k48 a0 a1 a2 a3 a4 a6 a7 a8 a9 H)) (a0 : Nat) (a1 : Nat) (a2 : Nat) (a3 : Nat) (a4 : Int64) (a6 : Int32) (a7 : Int32) (a8 : Int32) (a9 : Int32) (a11 : Int32) (a15 : Int32) (a19 : Int32) (a20 : Int32) (H : jH) : JV l mi_L_holds jeI 457 [(0, .ref a0), (1, .ref a1), (2, .ref a2), (3, .ref a3), (4, .long a4), (6, .int a6), (7, .int a7), (8, .int a8), (9, .int a9), (11, .int a11), (15, .int a15), (19, .int a19), (20, .int a20)] [] H (B_L_holds_457 k48 a0 a1 a2 a3 a4 a6 a7 a8 a9 a11 a15 a19 a20 H) := by
  unfold B_L_holds_457
  refine s_3 458 rfl ?_
  refine s_54 21 460 rfl rfl ?_
  exact s_jmp (w_L_holds_460 l k48 hk48 jfuel _ _ _ _ _ _ _ _ _ _ _ _ _ _ _) ⟨rfl, rfl, rfl, rfl, rfl, rfl, rfl, rfl, rfl, rfl, rfl, rfl, rfl, rfl, trivial⟩
theorem v_L_holds_360 (l : Launch) (k48 : Nat → Nat → Nat → Nat → Int64 → Int32 → Int32 → Int32 → Int32 → jH → Option (Int32 × jH)) (hk48 : ∀ a0 a1 a2 a3 a4 a6 a7 a8 a9 H, JV l mi_L_holds jeI 48 [(0, .ref a0), (1, .ref a1), (2, .ref a2), (3, .ref a3), (4, .long a4), (6, .int a6), (7, .int a7), (8, .int a8), (9, .int a9)] [] H (k48 a0 a1 a2 a3 a4 a6 a7 a8 a9 H)) (a0 : Nat) (a1 : Nat) (a2 : Nat) (a3 : Nat) (a4 : Int64) (a6 : Int32) (a7 : Int32) (a8 : Int32) (a9 : Int32) (a11 : Int32) (a15 : Int32) (a20 : Int32) (s0 : Int32) (H : jH) : JV l mi_L_holds jeI 360 [(0, .ref a0), (1, .ref a1), (2, .ref a2), (3, .ref a3), (4, .long a4), (6, .int a6), (7, .int a7), (8, .int a8), (9, .int a9), (11, .int a11), (15, .int a15), (20, .int a20)] [.int s0] H (B_L_holds_360 k48 a0 a1 a2 a3 a4 a6 a7 a8 a9 a11 a15 a20 s0 H) := by
  unfold B_L_holds_360
  refine s_54 19 362 rfl rfl ?_
  refine s_44 363 rfl rfl ?_
  refine s_21 11 365 rfl rfl ?_
  refine s_184L 0 228 368 228 (m_L_answer l _ _ _) rfl k_L_answer jw_1385 jw_1386 rfl rfl rfl rfl rfl (fun x23 h24 => ?_)
  refine s_88L 369 rfl rfl ?_
  refine s_167 0 88 457 rfl rfl ?_
  exact s_jmp (v_L_holds_457 l k48 hk48 _ _ _ _ _ _ _ _ _ _ _ _ _ _) ⟨rfl, rfl, rfl, rfl, rfl, rfl, rfl, rfl, rfl, rfl, rfl, rfl, rfl, trivial⟩
theorem v_L_holds_359 (l : Launch) (k48 : Nat → Nat → Nat → Nat → Int64 → Int32 → Int32 → Int32 → Int32 → jH → Option (Int32 × jH)) (hk48 : ∀ a0 a1 a2 a3 a4 a6 a7 a8 a9 H, JV l mi_L_holds jeI 48 [(0, .ref a0), (1, .ref a1), (2, .ref a2), (3, .ref a3), (4, .long a4), (6, .int a6), (7, .int a7), (8, .int a8), (9, .int a9)] [] H (k48 a0 a1 a2 a3 a4 a6 a7 a8 a9 H)) (a0 : Nat) (a1 : Nat) (a2 : Nat) (a3 : Nat) (a4 : Int64) (a6 : Int32) (a7 : Int32) (a8 : Int32) (a9 : Int32) (a11 : Int32) (a15 : Int32) (a20 : Int32) (H : jH) : JV l mi_L_holds jeI 359 [(0, .ref a0), (1, .ref a1), (2, .ref a2), (3, .ref a3), (4, .long a4), (6, .int a6), (7, .int a7), (8, .int a8), (9, .int a9), (11, .int a11), (15, .int a15), (20, .int a20)] [] H (B_L_holds_359 k48 a0 a1 a2 a3 a4 a6 a7 a8 a9 a11 a15 a20 H) := by
  unfold B_L_holds_359
  refine s_3 360 rfl ?_
  exact s_jmp (v_L_holds_360 l k48 hk48 _ _ _ _ _ _ _ _ _ _ _ _ _ _) ⟨rfl, rfl, rfl, rfl, rfl, rfl, rfl, rfl, rfl, rfl, rfl, rfl, trivial⟩
theorem v_L_holds_455 (l : Launch) (k48 : Nat → Nat → Nat → Nat → Int64 → Int32 → Int32 → Int32 → Int32 → jH → Option (Int32 × jH)) (hk48 : ∀ a0 a1 a2 a3 a4 a6 a7 a8 a9 H, JV l mi_L_holds jeI 48 [(0, .ref a0), (1, .ref a1), (2, .ref a2), (3, .ref a3), (4, .long a4), (6, .int a6), (7, .int a7), (8, .int a8), (9, .int a9)] [] H (k48 a0 a1 a2 a3 a4 a6 a7 a8 a9 H)) (a0 : Nat) (a1 : Nat) (a2 : Nat) (a3 : Nat) (a4 : Int64) (a6 : Int32) (a8 : Int32) (a9 : Int32) (a11 : Int32) (a15 : Int32) (a19 : Int32) (a20 : Int32) (s0 : Int32) (H : jH) : JV l mi_L_holds jeI 455 [(0, .ref a0), (1, .ref a1), (2, .ref a2), (3, .ref a3), (4, .long a4), (6, .int a6), (8, .int a8), (9, .int a9), (11, .int a11), (15, .int a15), (19, .int a19), (20, .int a20)] [.int s0] H (B_L_holds_455 k48 a0 a1 a2 a3 a4 a6 a8 a9 a11 a15 a19 a20 s0 H) := by
  unfold B_L_holds_455
  refine s_54 7 457 rfl rfl ?_
  exact s_jmp (v_L_holds_457 l k48 hk48 _ _ _ _ _ _ _ _ _ _ _ _ _ _) ⟨rfl, rfl, rfl, rfl, rfl, rfl, rfl, rfl, rfl, rfl, rfl, rfl, rfl, trivial⟩
theorem v_L_holds_399 (l : Launch) (k48 : Nat → Nat → Nat → Nat → Int64 → Int32 → Int32 → Int32 → Int32 → jH → Option (Int32 × jH)) (hk48 : ∀ a0 a1 a2 a3 a4 a6 a7 a8 a9 H, JV l mi_L_holds jeI 48 [(0, .ref a0), (1, .ref a1), (2, .ref a2), (3, .ref a3), (4, .long a4), (6, .int a6), (7, .int a7), (8, .int a8), (9, .int a9)] [] H (k48 a0 a1 a2 a3 a4 a6 a7 a8 a9 H)) (a0 : Nat) (a1 : Nat) (a2 : Nat) (a3 : Nat) (a4 : Int64) (a6 : Int32) (a7 : Int32) (a8 : Int32) (a9 : Int32) (a11 : Int32) (a14 : Int32) (a15 : Int32) (a20 : Int32) (s0 : Int32) (H : jH) : JV l mi_L_holds jeI 399 [(0, .ref a0), (1, .ref a1), (2, .ref a2), (3, .ref a3), (4, .long a4), (6, .int a6), (7, .int a7), (8, .int a8), (9, .int a9), (11, .int a11), (14, .int a14), (15, .int a15), (20, .int a20)] [.int s0] H (B_L_holds_399 k48 a0 a1 a2 a3 a4 a6 a7 a8 a9 a11 a14 a15 a20 s0 H) := by
  unfold B_L_holds_399
  refine s_54 19 401 rfl rfl ?_
  refine s_45 402 rfl rfl ?_
  refine s_16 6 404 6 jbp_6 rfl ?_
  refine s_21 14 406 rfl rfl ?_
  refine s_184V 0 236 409 236 (m_L_copy l _ _ _ _) rfl k_L_copy jw_1397 jw_1398 rfl rfl rfl rfl rfl (fun x25 h26 => ?_)
  refine s_22 4 411 rfl rfl ?_
  refine s_20 0 111 414 111 255 rfl jw_622 rfl ?_
  refine s_16 8 416 8 jbp_8 rfl ?_
  refine s_21 14 418 rfl rfl ?_
  refine s_104 419 rfl ?_
  refine s_121 420 rfl ?_
  refine s_20 0 138 423 138 (-1) rfl jw_654 rfl ?_
  refine s_131 424 rfl ?_
  refine s_127 425 rfl ?_
  refine s_21 15 427 rfl rfl ?_
  refine s_133 428 rfl ?_
  refine s_16 8 430 8 jbp_8 rfl ?_
  refine s_21 14 432 rfl rfl ?_
  refine s_104 433 rfl ?_
  refine s_121 434 rfl ?_
  refine s_129 435 rfl ?_
  refine s_55L 4 437 rfl rfl (fun x27 => ?_)
  refine s_21 6 439 rfl rfl ?_
  refine s_4 440 rfl ?_
  refine s_96 441 rfl ?_
  refine s_54L 6 443 rfl rfl (fun x28 => ?_)
  refine s_21 20 445 rfl rfl ?_
  refine s_153 0 8 453 448 rfl rfl ?_ ?_
  · refine s_21 7 455 rfl rfl ?_
    exact s_jmp (v_L_holds_455 l k48 hk48 _ _ _ _ _ _ _ _ _ _ _ _ _ _) ⟨rfl, rfl, rfl, rfl, rfl, rfl, rfl, rfl, rfl, rfl, rfl, rfl, trivial⟩
  · refine s_21 15 450 rfl rfl ?_
    refine s_167 0 5 455 rfl rfl ?_
    exact s_jmp (v_L_holds_455 l k48 hk48 _ _ _ _ _ _ _ _ _ _ _ _ _ _) ⟨rfl, rfl, rfl, rfl, rfl, rfl, rfl, rfl, rfl, rfl, rfl, rfl, trivial⟩
theorem v_L_holds_398 (l : Launch) (k48 : Nat → Nat → Nat → Nat → Int64 → Int32 → Int32 → Int32 → Int32 → jH → Option (Int32 × jH)) (hk48 : ∀ a0 a1 a2 a3 a4 a6 a7 a8 a9 H, JV l mi_L_holds jeI 48 [(0, .ref a0), (1, .ref a1), (2, .ref a2), (3, .ref a3), (4, .long a4), (6, .int a6), (7, .int a7), (8, .int a8), (9, .int a9)] [] H (k48 a0 a1 a2 a3 a4 a6 a7 a8 a9 H)) (a0 : Nat) (a1 : Nat) (a2 : Nat) (a3 : Nat) (a4 : Int64) (a6 : Int32) (a7 : Int32) (a8 : Int32) (a9 : Int32) (a11 : Int32) (a14 : Int32) (a15 : Int32) (a20 : Int32) (H : jH) : JV l mi_L_holds jeI 398 [(0, .ref a0), (1, .ref a1), (2, .ref a2), (3, .ref a3), (4, .long a4), (6, .int a6), (7, .int a7), (8, .int a8), (9, .int a9), (11, .int a11), (14, .int a14), (15, .int a15), (20, .int a20)] [] H (B_L_holds_398 k48 a0 a1 a2 a3 a4 a6 a7 a8 a9 a11 a14 a15 a20 H) := by
  unfold B_L_holds_398
  refine s_3 399 rfl ?_
  exact s_jmp (v_L_holds_399 l k48 hk48 _ _ _ _ _ _ _ _ _ _ _ _ _ _ _) ⟨rfl, rfl, rfl, rfl, rfl, rfl, rfl, rfl, rfl, rfl, rfl, rfl, rfl, trivial⟩
theorem v_L_holds_289 (l : Launch) (k48 : Nat → Nat → Nat → Nat → Int64 → Int32 → Int32 → Int32 → Int32 → jH → Option (Int32 × jH)) (hk48 : ∀ a0 a1 a2 a3 a4 a6 a7 a8 a9 H, JV l mi_L_holds jeI 48 [(0, .ref a0), (1, .ref a1), (2, .ref a2), (3, .ref a3), (4, .long a4), (6, .int a6), (7, .int a7), (8, .int a8), (9, .int a9)] [] H (k48 a0 a1 a2 a3 a4 a6 a7 a8 a9 H)) (a0 : Nat) (a1 : Nat) (a2 : Nat) (a3 : Nat) (a4 : Int64) (a6 : Int32) (a7 : Int32) (a8 : Int32) (a9 : Int32) (a11 : Int32) (a14 : Int32) (a15 : Int32) (a18 : Int32) (a19 : Int32) (s0 : Int32) (H : jH) : JV l mi_L_holds jeI 289 [(0, .ref a0), (1, .ref a1), (2, .ref a2), (3, .ref a3), (4, .long a4), (6, .int a6), (7, .int a7), (8, .int a8), (9, .int a9), (11, .int a11), (14, .int a14), (15, .int a15), (18, .int a18), (19, .int a19)] [.int s0] H (B_L_holds_289 k48 a0 a1 a2 a3 a4 a6 a7 a8 a9 a11 a14 a15 a18 a19 s0 H) := by
  unfold B_L_holds_289
  refine s_54 20 291 rfl rfl ?_
  refine s_21 18 293 rfl rfl ?_
  refine s_153 0 79 372 296 rfl rfl ?_ ?_
  · refine s_21 19 374 rfl rfl ?_
    refine s_153 0 24 398 377 rfl rfl ?_ ?_
    · exact s_jmp (v_L_holds_398 l k48 hk48 _ _ _ _ _ _ _ _ _ _ _ _ _ _) ⟨rfl, rfl, rfl, rfl, rfl, rfl, rfl, rfl, rfl, rfl, rfl, rfl, rfl, trivial⟩
    · refine s_44 378 rfl rfl ?_
      refine s_21 11 380 rfl rfl ?_
      refine s_184L 0 228 383 228 (m_L_answer l _ _ _) rfl k_L_answer jw_1385 jw_1386 rfl rfl rfl rfl rfl (fun x29 h30 => ?_)
      refine s_3 384 rfl ?_
      refine s_45 385 rfl rfl ?_
      refine s_16 6 387 6 jbp_6 rfl ?_
      refine s_184L 0 232 390 232 (m_L_verdict l _ _ _ _) rfl k_L_verdict jw_1389 jw_1390 rfl rfl rfl rfl rfl (fun x31 h32 => ?_)
      refine s_148_154 0 7 398 391 394 rfl rfl rfl ?_ ?_
      · exact s_jmp (v_L_holds_398 l k48 hk48 _ _ _ _ _ _ _ _ _ _ _ _ _ _) ⟨rfl, rfl, rfl, rfl, rfl, rfl, rfl, rfl, rfl, rfl, rfl, rfl, rfl, trivial⟩
      · refine s_4 395 rfl ?_
        refine s_167 0 4 399 rfl rfl ?_
        exact s_jmp (v_L_holds_399 l k48 hk48 _ _ _ _ _ _ _ _ _ _ _ _ _ _ _) ⟨rfl, rfl, rfl, rfl, rfl, rfl, rfl, rfl, rfl, rfl, rfl, rfl, rfl, trivial⟩
  · refine s_44 297 rfl rfl ?_
    refine s_21 11 299 rfl rfl ?_
    refine s_182L 0 165 302 165 (m_11_fetch l _ _ _) rfl k_11_fetch jc_11 jw_1371 jw_1372 jw_1373 rfl rfl rfl rfl rfl (fun x33 h34 => ?_)
    refine s_55 21 304 rfl rfl ?_
    refine s_21 19 306 rfl rfl ?_
    refine s_153 0 53 359 309 rfl rfl ?_ ?_
    · exact s_jmp (v_L_holds_359 l k48 hk48 _ _ _ _ _ _ _ _ _ _ _ _ _) ⟨rfl, rfl, rfl, rfl, rfl, rfl, rfl, rfl, rfl, rfl, rfl, rfl, trivial⟩
    · refine s_22 21 311 rfl rfl ?_
      refine s_16 32 313 32 jbp_32 rfl ?_
      refine s_123 314 rfl ?_
      refine s_20 0 111 317 111 255 rfl jw_622 rfl ?_
      refine s_127 318 rfl ?_
      refine s_20 0 221 321 221 3 rfl jw_1375 rfl ?_
      refine s_148_154 0 37 359 322 325 rfl rfl rfl ?_ ?_
      · exact s_jmp (v_L_holds_359 l k48 hk48 _ _ _ _ _ _ _ _ _ _ _ _ _) ⟨rfl, rfl, rfl, rfl, rfl, rfl, rfl, rfl, rfl, rfl, rfl, rfl, trivial⟩
      · refine s_22 21 327 rfl rfl ?_
        refine s_20 0 223 330 223 16777215 rfl jw_1376 rfl ?_
        refine s_127 331 rfl ?_
        refine s_44 332 rfl rfl ?_
        refine s_21 7 334 rfl rfl ?_
        refine s_3 335 rfl ?_
        refine s_182L 0 195 338 195 (m_11_block l _ _ _ _) rfl k_11_block jc_11 jw_1377 jw_1378 jw_1379 rfl rfl rfl rfl rfl (fun x35 h36 => ?_)
        refine s_16 40 340 40 jbp_40 rfl ?_
        refine s_125 341 rfl ?_
        refine s_148_154 0 17 359 342 345 rfl rfl rfl ?_ ?_
        · exact s_jmp (v_L_holds_359 l k48 hk48 _ _ _ _ _ _ _ _ _ _ _ _ _) ⟨rfl, rfl, rfl, rfl, rfl, rfl, rfl, rfl, rfl, rfl, rfl, rfl, trivial⟩
        · refine s_44 346 rfl rfl ?_
          refine s_3 347 rfl ?_
          refine s_182I 0 225 350 225 (m_11_count l _ _ _) rfl k_11_count jc_11 jw_1381 jw_1382 jw_1383 rfl rfl rfl rfl rfl (fun x37 h38 => ?_)
          refine s_21 6 352 rfl rfl ?_
          refine s_160 0 7 359 355 rfl rfl ?_ ?_
          · exact s_jmp (v_L_holds_359 l k48 hk48 _ _ _ _ _ _ _ _ _ _ _ _ _) ⟨rfl, rfl, rfl, rfl, rfl, rfl, rfl, rfl, rfl, rfl, rfl, rfl, trivial⟩
          · refine s_4 356 rfl ?_
            refine s_167 0 4 360 rfl rfl ?_
            exact s_jmp (v_L_holds_360 l k48 hk48 _ _ _ _ _ _ _ _ _ _ _ _ _ _) ⟨rfl, rfl, rfl, rfl, rfl, rfl, rfl, rfl, rfl, rfl, rfl, rfl, trivial⟩
theorem v_L_holds_288 (l : Launch) (k48 : Nat → Nat → Nat → Nat → Int64 → Int32 → Int32 → Int32 → Int32 → jH → Option (Int32 × jH)) (hk48 : ∀ a0 a1 a2 a3 a4 a6 a7 a8 a9 H, JV l mi_L_holds jeI 48 [(0, .ref a0), (1, .ref a1), (2, .ref a2), (3, .ref a3), (4, .long a4), (6, .int a6), (7, .int a7), (8, .int a8), (9, .int a9)] [] H (k48 a0 a1 a2 a3 a4 a6 a7 a8 a9 H)) (a0 : Nat) (a1 : Nat) (a2 : Nat) (a3 : Nat) (a4 : Int64) (a6 : Int32) (a7 : Int32) (a8 : Int32) (a9 : Int32) (a11 : Int32) (a14 : Int32) (a15 : Int32) (a18 : Int32) (a19 : Int32) (H : jH) : JV l mi_L_holds jeI 288 [(0, .ref a0), (1, .ref a1), (2, .ref a2), (3, .ref a3), (4, .long a4), (6, .int a6), (7, .int a7), (8, .int a8), (9, .int a9), (11, .int a11), (14, .int a14), (15, .int a15), (18, .int a18), (19, .int a19)] [] H (B_L_holds_288 k48 a0 a1 a2 a3 a4 a6 a7 a8 a9 a11 a14 a15 a18 a19 H) := by
  unfold B_L_holds_288
  refine s_3 289 rfl ?_
  exact s_jmp (v_L_holds_289 l k48 hk48 _ _ _ _ _ _ _ _ _ _ _ _ _ _ _ _) ⟨rfl, rfl, rfl, rfl, rfl, rfl, rfl, rfl, rfl, rfl, rfl, rfl, rfl, rfl, trivial⟩
theorem v_L_holds_224 (l : Launch) (k48 : Nat → Nat → Nat → Nat → Int64 → Int32 → Int32 → Int32 → Int32 → jH → Option (Int32 × jH)) (hk48 : ∀ a0 a1 a2 a3 a4 a6 a7 a8 a9 H, JV l mi_L_holds jeI 48 [(0, .ref a0), (1, .ref a1), (2, .ref a2), (3, .ref a3), (4, .long a4), (6, .int a6), (7, .int a7), (8, .int a8), (9, .int a9)] [] H (k48 a0 a1 a2 a3 a4 a6 a7 a8 a9 H)) (a0 : Nat) (a1 : Nat) (a2 : Nat) (a3 : Nat) (a4 : Int64) (a6 : Int32) (a7 : Int32) (a8 : Int32) (a9 : Int32) (a10 : Int32) (a11 : Int32) (a13 : Int32) (a14 : Int32) (a15 : Int32) (a16 : Int64) (a18 : Int32) (s0 : Nat) (s1 : Int32) (s2 : Int32) (H : jH) : JV l mi_L_holds jeI 224 [(0, .ref a0), (1, .ref a1), (2, .ref a2), (3, .ref a3), (4, .long a4), (6, .int a6), (7, .int a7), (8, .int a8), (9, .int a9), (10, .int a10), (11, .int a11), (13, .int a13), (14, .int a14), (15, .int a15), (16, .long a16), (18, .int a18)] [.int s2, .int s1, .ref s0] H (B_L_holds_224 k48 a0 a1 a2 a3 a4 a6 a7 a8 a9 a10 a11 a13 a14 a15 a16 a18 s0 s1 s2 H) := by
  unfold B_L_holds_224
  refine s_79 225 rfl (fun h39 => ?_)
  refine s_44 226 rfl rfl ?_
  refine s_43 227 rfl rfl ?_
  refine s_45 228 rfl rfl ?_
  refine s_21 11 230 rfl rfl ?_
  refine s_21 13 232 rfl rfl ?_
  refine s_16 6 234 6 jbp_6 rfl ?_
  refine s_18 140 236 1000000 jw_534 rfl ?_
  refine s_17 2 178 239 690 jsp_2_178 rfl ?_
  refine s_21 15 241 rfl rfl ?_
  refine s_104 242 rfl ?_
  refine s_96 243 rfl ?_
  refine s_21 10 245 rfl rfl ?_
  refine s_16 14 247 14 jbp_14 rfl ?_
  refine s_122 248 rfl ?_
  refine s_4 249 rfl ?_
  refine s_126 250 rfl ?_
  refine s_96 251 rfl ?_
  refine s_21 9 253 rfl rfl ?_
  refine s_20 0 216 256 216 5000000000 rfl jw_655 rfl ?_
  refine s_184I 0 218 259 218 (m_L_block l _ _ _ _ _ _ _ _ _ _) rfl k_L_block jw_656 jw_657 rfl rfl rfl rfl rfl (fun x40 h41 => ?_)
  refine s_54 19 261 rfl rfl ?_
  refine s_45 262 rfl rfl ?_
  refine s_16 32 264 32 jbp_32 rfl ?_
  refine s_7 265 rfl ?_
  refine s_21 13 267 rfl rfl ?_
  refine s_104 268 rfl ?_
  refine s_96 269 rfl ?_
  refine s_22 16 271 rfl rfl ?_
  refine s_80 272 rfl (fun h42 => ?_)
  refine s_21 18 274 rfl rfl ?_
  refine s_154 0 14 288 277 rfl rfl ?_ ?_
  · exact s_jmp (v_L_holds_288 l k48 hk48 _ _ _ _ _ _ _ _ _ _ _ _ _ _ _) ⟨rfl, rfl, rfl, rfl, rfl, rfl, rfl, rfl, rfl, rfl, rfl, rfl, rfl, rfl, trivial⟩
  · refine s_21 15 279 rfl rfl ?_
    refine s_21 7 281 rfl rfl ?_
    refine s_164 0 7 288 284 rfl rfl ?_ ?_
    · exact s_jmp (v_L_holds_288 l k48 hk48 _ _ _ _ _ _ _ _ _ _ _ _ _ _ _) ⟨rfl, rfl, rfl, rfl, rfl, rfl, rfl, rfl, rfl, rfl, rfl, rfl, rfl, rfl, trivial⟩
    · refine s_4 285 rfl ?_
      refine s_167 0 4 289 rfl rfl ?_
      exact s_jmp (v_L_holds_289 l k48 hk48 _ _ _ _ _ _ _ _ _ _ _ _ _ _ _ _) ⟨rfl, rfl, rfl, rfl, rfl, rfl, rfl, rfl, rfl, rfl, rfl, rfl, rfl, rfl, trivial⟩
theorem v_L_holds_220 (l : Launch) (k48 : Nat → Nat → Nat → Nat → Int64 → Int32 → Int32 → Int32 → Int32 → jH → Option (Int32 × jH)) (hk48 : ∀ a0 a1 a2 a3 a4 a6 a7 a8 a9 H, JV l mi_L_holds jeI 48 [(0, .ref a0), (1, .ref a1), (2, .ref a2), (3, .ref a3), (4, .long a4), (6, .int a6), (7, .int a7), (8, .int a8), (9, .int a9)] [] H (k48 a0 a1 a2 a3 a4 a6 a7 a8 a9 H)) (a0 : Nat) (a1 : Nat) (a2 : Nat) (a3 : Nat) (a4 : Int64) (a6 : Int32) (a7 : Int32) (a8 : Int32) (a9 : Int32) (a10 : Int32) (a11 : Int32) (a13 : Int32) (a14 : Int32) (a15 : Int32) (a16 : Int64) (a18 : Int32) (s0 : Nat) (s1 : Int32) (H : jH) : JV l mi_L_holds jeI 220 [(0, .ref a0), (1, .ref a1), (2, .ref a2), (3, .ref a3), (4, .long a4), (6, .int a6), (7, .int a7), (8, .int a8), (9, .int a9), (10, .int a10), (11, .int a11), (13, .int a13), (14, .int a14), (15, .int a15), (16, .long a16), (18, .int a18)] [.int s1, .ref s0] H (B_L_holds_220 k48 a0 a1 a2 a3 a4 a6 a7 a8 a9 a10 a11 a13 a14 a15 a16 a18 s0 s1 H) := by
  unfold B_L_holds_220
  refine s_43 221 rfl rfl ?_
  refine s_16 59 223 59 jbp_59 rfl ?_
  refine s_46 224 rfl ?_
  exact s_jmp (v_L_holds_224 l k48 hk48 _ _ _ _ _ _ _ _ _ _ _ _ _ _ _ _ _ _ _ _) ⟨rfl, rfl, rfl, rfl, rfl, rfl, rfl, rfl, rfl, rfl, rfl, rfl, rfl, rfl, rfl, rfl, trivial⟩
theorem v_L_holds_197 (l : Launch) (k48 : Nat → Nat → Nat → Nat → Int64 → Int32 → Int32 → Int32 → Int32 → jH → Option (Int32 × jH)) (hk48 : ∀ a0 a1 a2 a3 a4 a6 a7 a8 a9 H, JV l mi_L_holds jeI 48 [(0, .ref a0), (1, .ref a1), (2, .ref a2), (3, .ref a3), (4, .long a4), (6, .int a6), (7, .int a7), (8, .int a8), (9, .int a9)] [] H (k48 a0 a1 a2 a3 a4 a6 a7 a8 a9 H)) (a0 : Nat) (a1 : Nat) (a2 : Nat) (a3 : Nat) (a4 : Int64) (a6 : Int32) (a7 : Int32) (a8 : Int32) (a9 : Int32) (a10 : Int32) (a11 : Int32) (a13 : Int32) (a14 : Int32) (a15 : Int32) (a16 : Int64) (a18 : Int32) (s0 : Nat) (s1 : Int32) (s2 : Int64) (H : jH) : JV l mi_L_holds jeI 197 [(0, .ref a0), (1, .ref a1), (2, .ref a2), (3, .ref a3), (4, .long a4), (6, .int a6), (7, .int a7), (8, .int a8), (9, .int a9), (10, .int a10), (11, .int a11), (13, .int a13), (14, .int a14), (15, .int a15), (16, .long a16), (18, .int a18)] [.long s2, .int s1, .ref s0] H (B_L_holds_197 k48 a0 a1 a2 a3 a4 a6 a7 a8 a9 a10 a11 a13 a14 a15 a16 a18 s0 s1 s2 H) := by
  unfold B_L_holds_197
  refine s_80 198 rfl (fun h43 => ?_)
  refine s_43 199 rfl rfl ?_
  refine s_16 59 201 59 jbp_59 rfl ?_
  refine s_21 18 203 rfl rfl ?_
  refine s_153 0 17 220 206 rfl rfl ?_ ?_
  · exact s_jmp (v_L_holds_220 l k48 hk48 _ _ _ _ _ _ _ _ _ _ _ _ _ _ _ _ _ _ _) ⟨rfl, rfl, rfl, rfl, rfl, rfl, rfl, rfl, rfl, rfl, rfl, rfl, rfl, rfl, rfl, rfl, trivial⟩
  · refine s_43 207 rfl rfl ?_
    refine s_45 208 rfl rfl ?_
    refine s_21 13 210 rfl rfl ?_
    refine s_184I 0 154 213 154 (m_L_isNoted l _ _ _ _) rfl k_L_isNoted jw_650 jw_651 rfl rfl rfl rfl rfl (fun x44 h45 => ?_)
    refine s_153 0 7 220 216 rfl rfl ?_ ?_
    · exact s_jmp (v_L_holds_220 l k48 hk48 _ _ _ _ _ _ _ _ _ _ _ _ _ _ _ _ _ _ _) ⟨rfl, rfl, rfl, rfl, rfl, rfl, rfl, rfl, rfl, rfl, rfl, rfl, rfl, rfl, rfl, rfl, trivial⟩
    · refine s_4 217 rfl ?_
      refine s_167 0 7 224 rfl rfl ?_
      exact s_jmp (v_L_holds_224 l k48 hk48 _ _ _ _ _ _ _ _ _ _ _ _ _ _ _ _ _ _ _ _) ⟨rfl, rfl, rfl, rfl, rfl, rfl, rfl, rfl, rfl, rfl, rfl, rfl, rfl, rfl, rfl, rfl, trivial⟩
theorem v_L_holds_171 (l : Launch) (k48 : Nat → Nat → Nat → Nat → Int64 → Int32 → Int32 → Int32 → Int32 → jH → Option (Int32 × jH)) (hk48 : ∀ a0 a1 a2 a3 a4 a6 a7 a8 a9 H, JV l mi_L_holds jeI 48 [(0, .ref a0), (1, .ref a1), (2, .ref a2), (3, .ref a3), (4, .long a4), (6, .int a6), (7, .int a7), (8, .int a8), (9, .int a9)] [] H (k48 a0 a1 a2 a3 a4 a6 a7 a8 a9 H)) (a0 : Nat) (a1 : Nat) (a2 : Nat) (a3 : Nat) (a4 : Int64) (a6 : Int32) (a7 : Int32) (a8 : Int32) (a9 : Int32) (a10 : Int32) (a11 : Int32) (a13 : Int32) (a14 : Int32) (a15 : Int32) (a16 : Int64) (s0 : Int32) (H : jH) : JV l mi_L_holds jeI 171 [(0, .ref a0), (1, .ref a1), (2, .ref a2), (3, .ref a3), (4, .long a4), (6, .int a6), (7, .int a7), (8, .int a8), (9, .int a9), (10, .int a10), (11, .int a11), (13, .int a13), (14, .int a14), (15, .int a15), (16, .long a16)] [.int s0] H (B_L_holds_171 k48 a0 a1 a2 a3 a4 a6 a7 a8 a9 a10 a11 a13 a14 a15 a16 s0 H) := by
  unfold B_L_holds_171
  refine s_54 18 173 rfl rfl ?_
  refine s_45 174 rfl rfl ?_
  refine s_16 32 176 32 jbp_32 rfl ?_
  refine s_7 177 rfl ?_
  refine s_21 13 179 rfl rfl ?_
  refine s_104 180 rfl ?_
  refine s_96 181 rfl ?_
  refine s_21 18 183 rfl rfl ?_
  refine s_153 0 12 195 186 rfl rfl ?_ ?_
  · refine s_22 16 197 rfl rfl ?_
    exact s_jmp (v_L_holds_197 l k48 hk48 _ _ _ _ _ _ _ _ _ _ _ _ _ _ _ _ _ _ _ _) ⟨rfl, rfl, rfl, rfl, rfl, rfl, rfl, rfl, rfl, rfl, rfl, rfl, rfl, rfl, rfl, rfl, trivial⟩
  · refine s_22 16 188 rfl rfl ?_
    refine s_20 0 138 191 138 (-1) rfl jw_654 rfl ?_
    refine s_131 192 rfl ?_
    refine s_167 0 5 197 rfl rfl ?_
    exact s_jmp (v_L_holds_197 l k48 hk48 _ _ _ _ _ _ _ _ _ _ _ _ _ _ _ _ _ _ _ _) ⟨rfl, rfl, rfl, rfl, rfl, rfl, rfl, rfl, rfl, rfl, rfl, rfl, rfl, rfl, rfl, rfl, trivial⟩
theorem v_L_holds_115 (l : Launch) (k48 : Nat → Nat → Nat → Nat → Int64 → Int32 → Int32 → Int32 → Int32 → jH → Option (Int32 × jH)) (hk48 : ∀ a0 a1 a2 a3 a4 a6 a7 a8 a9 H, JV l mi_L_holds jeI 48 [(0, .ref a0), (1, .ref a1), (2, .ref a2), (3, .ref a3), (4, .long a4), (6, .int a6), (7, .int a7), (8, .int a8), (9, .int a9)] [] H (k48 a0 a1 a2 a3 a4 a6 a7 a8 a9 H)) (a0 : Nat) (a1 : Nat) (a2 : Nat) (a3 : Nat) (a4 : Int64) (a6 : Int32) (a7 : Int32) (a8 : Int32) (a9 : Int32) (a10 : Int32) (a11 : Int32) (s0 : Int32) (H : jH) : JV l mi_L_holds jeI 115 [(0, .ref a0), (1, .ref a1), (2, .ref a2), (3, .ref a3), (4, .long a4), (6, .int a6), (7, .int a7), (8, .int a8), (9, .int a9), (10, .int a10), (11, .int a11)] [.int s0] H (B_L_holds_115 k48 a0 a1 a2 a3 a4 a6 a7 a8 a9 a10 a11 s0 H) := by
  unfold B_L_holds_115
  refine s_16 6 117 6 jbp_6 rfl ?_
  refine s_112 118 rfl ?_
  refine s_54L 13 120 rfl rfl (fun x46 => ?_)
  refine s_21 6 122 rfl rfl ?_
  refine s_16 6 124 6 jbp_6 rfl ?_
  refine s_112 125 rfl ?_
  refine s_54L 14 127 rfl rfl (fun x47 => ?_)
  refine s_22 4 129 rfl rfl ?_
  refine s_16 8 131 8 jbp_8 rfl ?_
  refine s_21 13 133 rfl rfl ?_
  refine s_104 134 rfl ?_
  refine s_123 135 rfl ?_
  refine s_20 0 111 138 111 255 rfl jw_622 rfl ?_
  refine s_127 139 rfl ?_
  refine s_136 140 rfl ?_
  refine s_4 141 rfl ?_
  refine s_96 142 rfl ?_
  refine s_54L 15 144 rfl rfl (fun x48 => ?_)
  refine s_45 145 rfl rfl ?_
  refine s_16 32 147 32 jbp_32 rfl ?_
  refine s_7 148 rfl ?_
  refine s_21 13 150 rfl rfl ?_
  refine s_104 151 rfl ?_
  refine s_96 152 rfl ?_
  refine s_47 153 rfl ?_
  refine s_55L 16 155 rfl rfl (fun x49 => ?_)
  refine s_21 10 157 rfl rfl ?_
  refine s_16 11 159 11 jbp_11 rfl ?_
  refine s_122 160 rfl ?_
  refine s_16 7 162 7 jbp_7 rfl ?_
  refine s_126 163 rfl ?_
  refine s_154 0 7 170 166 rfl rfl ?_ ?_
  · refine s_3 171 rfl ?_
    exact s_jmp (v_L_holds_171 l k48 hk48 _ _ _ _ _ _ _ _ _ _ _ _ _ _ _ _ _) ⟨rfl, rfl, rfl, rfl, rfl, rfl, rfl, rfl, rfl, rfl, rfl, rfl, rfl, rfl, rfl, trivial⟩
  · refine s_4 167 rfl ?_
    refine s_167 0 4 171 rfl rfl ?_
    exact s_jmp (v_L_holds_171 l k48 hk48 _ _ _ _ _ _ _ _ _ _ _ _ _ _ _ _ _) ⟨rfl, rfl, rfl, rfl, rfl, rfl, rfl, rfl, rfl, rfl, rfl, rfl, rfl, rfl, rfl, trivial⟩
theorem v_L_holds_81 (l : Launch) (k48 : Nat → Nat → Nat → Nat → Int64 → Int32 → Int32 → Int32 → Int32 → jH → Option (Int32 × jH)) (hk48 : ∀ a0 a1 a2 a3 a4 a6 a7 a8 a9 H, JV l mi_L_holds jeI 48 [(0, .ref a0), (1, .ref a1), (2, .ref a2), (3, .ref a3), (4, .long a4), (6, .int a6), (7, .int a7), (8, .int a8), (9, .int a9)] [] H (k48 a0 a1 a2 a3 a4 a6 a7 a8 a9 H)) (a0 : Nat) (a1 : Nat) (a2 : Nat) (a3 : Nat) (a4 : Int64) (a6 : Int32) (a7 : Int32) (a8 : Int32) (a9 : Int32) (a10 : Int32) (a11 : Int32) (s0 : Int32) (H : jH) : JV l mi_L_holds jeI 81 [(0, .ref a0), (1, .ref a1), (2, .ref a2), (3, .ref a3), (4, .long a4), (6, .int a6), (7, .int a7), (8, .int a8), (9, .int a9), (10, .int a10), (11, .int a11)] [.int s0] H (B_L_holds_81 k48 a0 a1 a2 a3 a4 a6 a7 a8 a9 a10 a11 s0 H) := by
  unfold B_L_holds_81
  refine s_54 12 83 rfl rfl ?_
  refine s_21 10 85 rfl rfl ?_
  refine s_5 86 rfl ?_
  refine s_122 87 rfl ?_
  refine s_4 88 rfl ?_
  refine s_126 89 rfl ?_
  refine s_154 0 10 99 92 rfl rfl ?_ ?_
  · refine s_21 6 101 rfl rfl ?_
    refine s_4 102 rfl ?_
    refine s_100 103 rfl ?_
    refine s_21 10 105 rfl rfl ?_
    refine s_6 106 rfl ?_
    refine s_122 107 rfl ?_
    refine s_17 0 255 110 255 jsp_0_255 rfl ?_
    refine s_126 111 rfl ?_
    refine s_21 12 113 rfl rfl ?_
    refine s_112 114 rfl ?_
    refine s_100 115 rfl ?_
    exact s_jmp (v_L_holds_115 l k48 hk48 _ _ _ _ _ _ _ _ _ _ _ _ _) ⟨rfl, rfl, rfl, rfl, rfl, rfl, rfl, rfl, rfl, rfl, rfl, trivial⟩
  · refine s_21 6 94 rfl rfl ?_
    refine s_4 95 rfl ?_
    refine s_100 96 rfl ?_
    refine s_167 0 19 115 rfl rfl ?_
    exact s_jmp (v_L_holds_115 l k48 hk48 _ _ _ _ _ _ _ _ _ _ _ _ _) ⟨rfl, rfl, rfl, rfl, rfl, rfl, rfl, rfl, rfl, rfl, rfl, trivial⟩
theorem v_L_holds_48 (l : Launch) (k48 : Nat → Nat → Nat → Nat → Int64 → Int32 → Int32 → Int32 → Int32 → jH → Option (Int32 × jH)) (hk48 : ∀ a0 a1 a2 a3 a4 a6 a7 a8 a9 H, JV l mi_L_holds jeI 48 [(0, .ref a0), (1, .ref a1), (2, .ref a2), (3, .ref a3), (4, .long a4), (6, .int a6), (7, .int a7), (8, .int a8), (9, .int a9)] [] H (k48 a0 a1 a2 a3 a4 a6 a7 a8 a9 H)) (a0 : Nat) (a1 : Nat) (a2 : Nat) (a3 : Nat) (a4 : Int64) (a6 : Int32) (a7 : Int32) (a8 : Int32) (a9 : Int32) (H : jH) : JV l mi_L_holds jeI 48 [(0, .ref a0), (1, .ref a1), (2, .ref a2), (3, .ref a3), (4, .long a4), (6, .int a6), (7, .int a7), (8, .int a8), (9, .int a9)] [] H (B_L_holds_48 k48 a0 a1 a2 a3 a4 a6 a7 a8 a9 H) := by
  unfold B_L_holds_48
  refine s_21 9 50 rfl rfl ?_
  refine s_21 8 52 rfl rfl ?_
  refine s_162 2 84 648 55 rfl rfl ?_ ?_
  · refine s_4 649 rfl ?_
    exact s_172Z rfl rfl
  · refine s_42 56 rfl rfl ?_
    refine s_21 9 58 rfl rfl ?_
    refine s_46 59 rfl ?_
    refine s_54L 10 61 rfl rfl (fun x50 => ?_)
    refine s_21 10 63 rfl rfl ?_
    refine s_6 64 rfl ?_
    refine s_126 65 rfl ?_
    refine s_54L 11 67 rfl rfl (fun x51 => ?_)
    refine s_21 6 69 rfl rfl ?_
    refine s_16 6 71 6 jbp_6 rfl ?_
    refine s_162 0 8 79 74 rfl rfl ?_ ?_
    · refine s_16 6 81 6 jbp_6 rfl ?_
      exact s_jmp (v_L_holds_81 l k48 hk48 _ _ _ _ _ _ _ _ _ _ _ _ _) ⟨rfl, rfl, rfl, rfl, rfl, rfl, rfl, rfl, rfl, rfl, rfl, trivial⟩
    · refine s_21 6 76 rfl rfl ?_
      refine s_167 0 5 81 rfl rfl ?_
      exact s_jmp (v_L_holds_81 l k48 hk48 _ _ _ _ _ _ _ _ _ _ _ _ _) ⟨rfl, rfl, rfl, rfl, rfl, rfl, rfl, rfl, rfl, rfl, rfl, trivial⟩
theorem w_L_holds_48 (l : Launch)  (n : Nat) : ∀ a0 a1 a2 a3 a4 a6 a7 a8 a9 H, JV l mi_L_holds jeI 48 [(0, .ref a0), (1, .ref a1), (2, .ref a2), (3, .ref a3), (4, .long a4), (6, .int a6), (7, .int a7), (8, .int a8), (9, .int a9)] [] H (F_L_holds_48  n a0 a1 a2 a3 a4 a6 a7 a8 a9 H) := by
  induction n with
  | zero => intro _ _ _ _ _ _ _ _ _ _; exact s_none
  | succ n ih => intro a0 a1 a2 a3 a4 a6 a7 a8 a9 H; exact v_L_holds_48 l (F_L_holds_48  n) ih a0 a1 a2 a3 a4 a6 a7 a8 a9 H
theorem v_L_holds_43 (l : Launch)  (a0 : Nat) (a1 : Nat) (a2 : Nat) (a3 : Nat) (a4 : Int64) (a6 : Int32) (a7 : Int32) (s0 : Int32) (H : jH) : JV l mi_L_holds jeI 43 [(0, .ref a0), (1, .ref a1), (2, .ref a2), (3, .ref a3), (4, .long a4), (6, .int a6), (7, .int a7)] [.int s0] H (B_L_holds_43  a0 a1 a2 a3 a4 a6 a7 s0 H) := by
  unfold B_L_holds_43
  refine s_54 8 45 rfl rfl ?_
  refine s_3 46 rfl ?_
  refine s_54 9 48 rfl rfl ?_
  exact s_jmp (w_L_holds_48 l jfuel _ _ _ _ _ _ _ _ _ _) ⟨rfl, rfl, rfl, rfl, rfl, rfl, rfl, rfl, rfl, trivial⟩
theorem v_L_holds (l : Launch) (a0 : Nat) (a1 : Nat) (H : jH) : JV l mi_L_holds jeI 0 [(0, .ref a0), (1, .ref a1)] [] H (F_L_holds a0 a1 H) := by
  unfold F_L_holds
  refine s_187 0 118 3 118 jc_11 jw_19 jw_20 jw_1 rfl rfl (fun r52 h53 => ?_)
  refine s_89 4 rfl rfl ?_
  refine s_183V 0 211 7 211 (m_11_init l _ _) rfl k_11_init rfl rfl jw_21 jw_22 rfl rfl rfl rfl rfl (fun x54 h55 => ?_)
  refine s_77 8 rfl rfl ?_
  refine s_16 64 10 64 jbp_64 rfl ?_
  refine s_188_11 12 jw_96 rfl (fun r56 h57 => ?_)
  refine s_78 13 rfl rfl ?_
  refine s_44 14 rfl rfl ?_
  refine s_43 15 rfl rfl ?_
  refine s_45 16 rfl rfl ?_
  refine s_3 17 rfl ?_
  refine s_184V 0 212 20 212 (m_L_first l _ _ _ _ _) rfl k_L_first jw_520 jw_521 rfl rfl rfl rfl rfl (fun x58 h59 => ?_)
  refine s_9 21 rfl ?_
  refine s_55 4 23 rfl rfl ?_
  refine s_4 24 rfl ?_
  refine s_54 6 26 rfl rfl ?_
  refine s_3 27 rfl ?_
  refine s_54 7 29 rfl rfl ?_
  refine s_42 30 rfl rfl ?_
  refine s_190 31 100 jm_100 rfl ?_
  refine s_16 28 33 28 jbp_28 rfl ?_
  refine s_162 0 8 41 36 rfl rfl ?_ ?_
  · refine s_16 28 43 28 jbp_28 rfl ?_
    exact s_jmp (v_L_holds_43 l _ _ _ _ _ _ _ _ _) ⟨rfl, rfl, rfl, rfl, rfl, rfl, rfl, trivial⟩
  · refine s_42 37 rfl rfl ?_
    refine s_190 38 100 jm_100 rfl ?_
    refine s_167 0 5 43 rfl rfl ?_
    exact s_jmp (v_L_holds_43 l _ _ _ _ _ _ _ _ _) ⟨rfl, rfl, rfl, rfl, rfl, rfl, rfl, trivial⟩
theorem m_L_holds (l : Launch) (a0 : Nat) (a1 : Nat) (H : jH) : JMet l y_L_holds method_34_code mi_L_holds jeI [.ref a0, .ref a1] H (F_L_holds a0 a1 H) := jmet_of n_L_holds (by decide) ⟨rfl, rfl⟩ (Nat.le_of_ble_eq_true rfl) (v_L_holds l a0 a1 H)
def mi_L_law : jM := (70761541903348507349757642611830609750832867108385006946944303120, 27, 2, "CoinNodeLaw", some FieldType.boolean, "law", 11, 348)
def y_L_law : MethodName := ⟨"CoinNodeLaw", "law", "([I)Z"⟩
theorem n_L_law : jn_is code mi_L_law.1 mi_L_law.2.1 := by unfold jn_is; decide +kernel
theorem v_L_law_26 (l : Launch)  (s0 : Int32) (H : jH) : JV l mi_L_law jeI 26 [] [.int s0] H (B_L_law_26  s0 H) := by
  unfold B_L_law_26
  exact s_172Z rfl rfl
theorem v_L_law_21 (l : Launch)   (H : jH) : JV l mi_L_law jeI 21 [] [] H (B_L_law_21   H) := by
  unfold B_L_law_21
  refine s_4 22 rfl ?_
  refine s_167 0 4 26 rfl rfl ?_
  exact s_jmp (v_L_law_26 l _ _) trivial
theorem v_L_law (l : Launch) (a0 : Nat) (H : jH) : JV l mi_L_law jeI 0 [(0, .ref a0)] [] H (F_L_law a0 H) := by
  unfold F_L_law
  refine s_16 64 2 64 jbp_64 rfl ?_
  refine s_188_10 4 jw_55 rfl (fun r1 h2 => ?_)
  refine s_76 5 rfl rfl ?_
  refine s_42 6 rfl rfl ?_
  refine s_43 7 rfl rfl ?_
  refine s_184I 0 207 10 207 (m_L_holds l _ _ _) rfl k_L_holds jw_16 jw_17 rfl rfl rfl rfl rfl (fun x3 h4 => ?_)
  refine s_154 0 11 21 13 rfl rfl ?_ ?_
  · exact s_jmp (v_L_law_21 l _) trivial
  · refine s_43 14 rfl rfl ?_
    refine s_16 59 16 59 jbp_59 rfl ?_
    refine s_46 17 rfl ?_
    refine s_4 18 rfl ?_
    refine s_160 0 7 25 21 rfl rfl ?_ ?_
    · refine s_3 26 rfl ?_
      exact s_jmp (v_L_law_26 l _ _) trivial
    · exact s_jmp (v_L_law_21 l _) trivial
theorem m_L_law (l : Launch) (a0 : Nat) (H : jH) : JMet l y_L_law code mi_L_law jeI [.ref a0] H (F_L_law a0 H) := jmet_of n_L_law (by decide) ⟨rfl, rfl⟩ (Nat.le_of_ble_eq_true rfl) (v_L_law l a0 H)
