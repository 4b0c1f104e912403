def mi_16_longOf : jM := (5642830855548363769790848817892757407229762019609208143213119210557722677625854395307021845001, 39, 6, "CoinNodeModel$Tree", some FieldType.long, "longOf", 0, 0)
def y_16_longOf : MethodName := ⟨"CoinNodeModel$Tree", "longOf", "([III)J"⟩
theorem n_16_longOf : jn_is prog_20_method_12_code mi_16_longOf.1 mi_16_longOf.2.1 := by unfold jn_is; decide +kernel
theorem k_16_longOf : jmok y_16_longOf prog_20_method_12_code mi_16_longOf 3 := ⟨jw_2369, jw_19, ⟨by decide, by decide⟩, by decide +kernel⟩
theorem v_16_longOf_6 (l : Launch) (k6 : Nat → Int32 → Int32 → Int64 → Int32 → jH → Option (Int64 × jH)) (hk6 : ∀ a0 a1 a2 a3 a5 H, JV l mi_16_longOf jeL 6 [(0, .ref a0), (1, .int a1), (2, .int a2), (3, .long a3), (5, .int a5)] [] H (k6 a0 a1 a2 a3 a5 H)) (a0 : Nat) (a1 : Int32) (a2 : Int32) (a3 : Int64) (a5 : Int32) (H : jH) : JV l mi_16_longOf jeL 6 [(0, .ref a0), (1, .int a1), (2, .int a2), (3, .long a3), (5, .int a5)] [] H (B_16_longOf_6 k6 a0 a1 a2 a3 a5 H) := by
  unfold B_16_longOf_6
  refine s_21 5 8 rfl rfl ?_
  refine s_155 0 29 37 11 rfl rfl ?_ ?_
  · refine s_33 38 rfl rfl ?_
    exact s_173 rfl rfl
  · refine s_33 12 rfl rfl ?_
    refine s_16 8 14 8 jbp_8 rfl ?_
    refine s_121 15 rfl ?_
    refine s_42 16 rfl rfl ?_
    refine s_27 17 rfl rfl ?_
    refine s_16 8 19 8 jbp_8 rfl ?_
    refine s_6 20 rfl ?_
    refine s_28 21 rfl rfl ?_
    refine s_100 22 rfl ?_
    refine s_104 23 rfl ?_
    refine s_96 24 rfl ?_
    refine s_21 5 26 rfl rfl ?_
    refine s_96 27 rfl ?_
    refine s_46 28 rfl ?_
    refine s_133 29 rfl ?_
    refine s_129 30 rfl ?_
    refine s_66L 31 rfl rfl (fun x1 => ?_)
    refine s_132L 5 255 34 (-1) ji_255 rfl rfl rfl (fun x2 => ?_)
    refine s_167 255 228 6 rfl rfl ?_
    exact s_jmp (hk6 _ _ _ _ _ _) ⟨rfl, rfl, rfl, rfl, rfl, trivial⟩
theorem w_16_longOf_6 (l : Launch)  (n : Nat) : ∀ a0 a1 a2 a3 a5 H, JV l mi_16_longOf jeL 6 [(0, .ref a0), (1, .int a1), (2, .int a2), (3, .long a3), (5, .int a5)] [] H (F_16_longOf_6  n a0 a1 a2 a3 a5 H) := by
  induction n with
  | zero => intro _ _ _ _ _ _; exact s_none
  | succ n ih => intro a0 a1 a2 a3 a5 H; exact v_16_longOf_6 l (F_16_longOf_6  n) ih a0 a1 a2 a3 a5 H
theorem v_16_longOf (l : Launch) (a0 : Nat) (a1 : Int32) (a2 : Int32) (H : jH) : JV l mi_16_longOf jeL 0 [(0, .ref a0), (1, .int a1), (2, .int a2)] [] H (F_16_longOf a0 a1 a2 H) := by
  unfold F_16_longOf
  refine s_9 1 rfl ?_
  refine s_66 2 rfl rfl ?_
  refine s_16 7 4 7 jbp_7 rfl ?_
  refine s_54 5 6 rfl rfl ?_
  exact s_jmp (w_16_longOf_6 l jfuel _ _ _ _ _ _) ⟨rfl, rfl, rfl, rfl, rfl, trivial⟩
theorem m_16_longOf (l : Launch) (a0 : Nat) (a1 : Int32) (a2 : Int32) (H : jH) : JMet l y_16_longOf prog_20_method_12_code mi_16_longOf jeL [.ref a0, .int a1, .int a2] H (F_16_longOf a0 a1 a2 H) := jmet_of n_16_longOf (by decide) ⟨rfl, rfl⟩ (Nat.le_of_ble_eq_true rfl) (v_16_longOf l a0 a1 a2 H)
def mi_16_target : jM := (104233023506538029160370497925798401246630831640765810652356200566072139140277581163503033622450514295827325132586, 47, 5, "CoinNodeModel$Tree", some FieldType.long, "target", 3, 74)
def y_16_target : MethodName := ⟨"CoinNodeModel$Tree", "target", "(JI)J"⟩
theorem n_16_target : jn_is prog_20_method_13_code mi_16_target.1 mi_16_target.2.1 := by unfold jn_is; decide +kernel
theorem k_16_target : jmok y_16_target prog_20_method_13_code mi_16_target 2 := ⟨jw_2358, jw_19, ⟨by decide, by decide⟩, by decide +kernel⟩
theorem v_16_target_27 (l : Launch)   (H : jH) : JV l mi_16_target jeL 27 [] [] H (B_16_target_27   H) := by
  unfold B_16_target_27
  refine s_9 28 rfl ?_
  exact s_173 rfl rfl
theorem v_16_target_18 (l : Launch)  (a0 : Nat) (a1 : Int64) (a3 : Int32) (H : jH) : JV l mi_16_target jeL 18 [(0, .ref a0), (1, .long a1), (3, .int a3)] [] H (B_16_target_18  a0 a1 a3 H) := by
  unfold B_16_target_18
  refine s_29 19 rfl rfl ?_
  refine s_155 0 8 27 22 rfl rfl ?_ ?_
  · exact s_jmp (v_16_target_27 l _) trivial
  · refine s_29 23 rfl rfl ?_
    refine s_6 24 rfl ?_
    refine s_164 0 5 29 27 rfl rfl ?_ ?_
    · refine s_31 30 rfl rfl ?_
      refine s_42 31 rfl rfl ?_
      refine s_180R 0 30 34 30 f_16_8 jw_1479 rfl rfl ?_
      refine s_184V 0 57 37 57 (m_16_open l _ _ _) rfl k_16_open jw_1456 jw_1457 rfl rfl rfl rfl rfl (fun x1 h2 => ?_)
      refine s_42 38 rfl rfl ?_
      refine s_180R 0 30 41 30 f_16_8 jw_1479 rfl rfl ?_
      refine s_3 42 rfl ?_
      refine s_29 43 rfl rfl ?_
      refine s_184L 0 94 46 94 (m_16_longOf l _ _ _ _) rfl k_16_longOf jw_2367 jw_2368 rfl rfl rfl rfl rfl (fun x3 h4 => ?_)
      exact s_173 rfl rfl
    · exact s_jmp (v_16_target_27 l _) trivial
theorem v_16_target (l : Launch) (a0 : Nat) (a1 : Int64) (a3 : Int32) (H : jH) : JV l mi_16_target jeL 0 [(0, .ref a0), (1, .long a1), (3, .int a3)] [] H (F_16_target a0 a1 a3 H) := by
  unfold F_16_target
  refine s_42 1 rfl rfl ?_
  refine s_31 2 rfl rfl ?_
  refine s_182I 0 90 5 90 (m_16_fault l _ _ _) rfl k_16_fault jc_16 jw_2359 jw_2360 jw_2361 rfl rfl rfl rfl rfl (fun x5 h6 => ?_)
  refine s_54 4 7 rfl rfl ?_
  refine s_21 4 9 rfl rfl ?_
  refine s_153 0 9 18 12 rfl rfl ?_ ?_
  · exact s_jmp (v_16_target_18 l _ _ _ _) ⟨rfl, rfl, rfl, trivial⟩
  · refine s_21 4 14 rfl rfl ?_
    refine s_7 15 rfl ?_
    refine s_160 0 12 27 18 rfl rfl ?_ ?_
    · exact s_jmp (v_16_target_27 l _) trivial
    · exact s_jmp (v_16_target_18 l _ _ _ _) ⟨rfl, rfl, rfl, trivial⟩
theorem m_16_target (l : Launch) (a0 : Nat) (a1 : Int64) (a3 : Int32) (H : jH) : JMet l y_16_target prog_20_method_13_code mi_16_target jeL [.ref a0, .long a1, .int a3] H (F_16_target a0 a1 a3 H) := jmet_of n_16_target (by decide) ⟨rfl, rfl⟩ (Nat.le_of_ble_eq_true rfl) (v_16_target l a0 a1 a3 H)
def mi_18_isAbove : jM := (6548162600394219970476114806606178489212885135045084596317580456951915147491213795059388231645888860136616369543122051981221891103621538226721815708682229905540382677258365652212809024795621425220451744826610390956759843748982355353751041243108142488109543852128649564551951886257911315971, 120, 8, "CoinNodeModel", some FieldType.boolean, "isAbove", 4, 98)
def y_18_isAbove : MethodName := ⟨"CoinNodeModel", "isAbove", "(J)Z"⟩
theorem n_18_isAbove : jn_is prog_14_method_32_code mi_18_isAbove.1 mi_18_isAbove.2.1 := by unfold jn_is; decide +kernel
theorem k_18_isAbove : jmok y_18_isAbove prog_14_method_32_code mi_18_isAbove 1 := ⟨jw_2354, jw_14, ⟨by decide, by decide⟩, by decide +kernel⟩
theorem v_18_isAbove_111 (l : Launch)  (s0 : Int32) (H : jH) : JV l mi_18_isAbove jeI 111 [] [.int s0] H (B_18_isAbove_111  s0 H) := by
  unfold B_18_isAbove_111
  exact s_172Z rfl rfl
theorem v_18_isAbove_13 (l : Launch) (k2 : Nat → Int64 → Int32 → jH → Option (Int32 × jH)) (hk2 : ∀ a0 a1 a3 H, JV l mi_18_isAbove jeI 2 [(0, .ref a0), (1, .long a1), (3, .int a3)] [] H (k2 a0 a1 a3 H)) (k13 : Nat → Int64 → Int32 → Int64 → Int32 → jH → Option (Int32 × jH)) (hk13 : ∀ a0 a1 a3 a4 a6 H, JV l mi_18_isAbove jeI 13 [(0, .ref a0), (1, .long a1), (3, .int a3), (4, .long a4), (6, .int a6)] [] H (k13 a0 a1 a3 a4 a6 H)) (a0 : Nat) (a1 : Int64) (a3 : Int32) (a4 : Int64) (a6 : Int32) (H : jH) : JV l mi_18_isAbove jeI 13 [(0, .ref a0), (1, .long a1), (3, .int a3), (4, .long a4), (6, .int a6)] [] H (B_18_isAbove_13 k2 k13 a0 a1 a3 a4 a6 H) := by
  unfold B_18_isAbove_13
  refine s_21 6 15 rfl rfl ?_
  refine s_16 8 17 8 jbp_8 rfl ?_
  refine s_162 0 37 54 20 rfl rfl ?_ ?_
  · refine s_42 55 rfl rfl ?_
    refine s_180R 0 40 58 40 f_18_3 jw_1613 rfl rfl ?_
    refine s_31 59 rfl rfl ?_
    refine s_29 60 rfl rfl ?_
    refine s_182L 1 164 63 420 (m_16_target l _ _ _ _) rfl k_16_target jc_16 jw_2355 jw_2356 jw_2357 rfl rfl rfl rfl rfl (fun x1 h2 => ?_)
    refine s_55 6 65 rfl rfl ?_
    refine s_22 4 67 rfl rfl ?_
    refine s_22 6 69 rfl rfl ?_
    refine s_148_153 0 42 112 70 73 rfl rfl rfl ?_ ?_
    · refine s_132L 3 1 115 1 ji_1 rfl rfl rfl (fun x3 => ?_)
      refine s_167 255 143 2 rfl rfl ?_
      exact s_jmp (hk2 _ _ _ _) ⟨rfl, rfl, rfl, trivial⟩
    · refine s_22 4 75 rfl rfl ?_
      refine s_22 6 77 rfl rfl ?_
      refine s_131 78 rfl ?_
      refine s_9 79 rfl ?_
      refine s_148_156 0 18 98 80 83 rfl rfl rfl ?_ ?_
      · refine s_22 4 100 rfl rfl ?_
        refine s_22 6 102 rfl rfl ?_
        refine s_148_158 0 7 110 103 106 rfl rfl rfl ?_ ?_
        · refine s_3 111 rfl ?_
          exact s_jmp (v_18_isAbove_111 l _ _) trivial
        · refine s_4 107 rfl ?_
          refine s_167 0 4 111 rfl rfl ?_
          exact s_jmp (v_18_isAbove_111 l _ _) trivial
      · refine s_22 4 85 rfl rfl ?_
        refine s_9 86 rfl ?_
        refine s_148_156 0 7 94 87 90 rfl rfl rfl ?_ ?_
        · refine s_3 95 rfl ?_
          refine s_167 0 16 111 rfl rfl ?_
          exact s_jmp (v_18_isAbove_111 l _ _) trivial
        · refine s_4 91 rfl ?_
          refine s_167 0 20 111 rfl rfl ?_
          exact s_jmp (v_18_isAbove_111 l _ _) trivial
  · refine s_22 4 22 rfl rfl ?_
    refine s_16 8 24 8 jbp_8 rfl ?_
    refine s_121 25 rfl ?_
    refine s_42 26 rfl rfl ?_
    refine s_180R 0 161 29 161 f_18_49 jw_1659 rfl rfl ?_
    refine s_16 31 31 31 jbp_31 rfl ?_
    refine s_16 8 33 8 jbp_8 rfl ?_
    refine s_29 34 rfl rfl ?_
    refine s_104 35 rfl ?_
    refine s_100 36 rfl ?_
    refine s_21 6 38 rfl rfl ?_
    refine s_100 39 rfl ?_
    refine s_51B 40 rfl ?_
    refine s_17 0 255 43 255 jsp_0_255 rfl ?_
    refine s_126 44 rfl ?_
    refine s_133 45 rfl ?_
    refine s_129 46 rfl ?_
    refine s_55L 4 48 rfl rfl (fun x4 => ?_)
    refine s_132L 6 1 51 1 ji_1 rfl rfl rfl (fun x5 => ?_)
    refine s_167 255 218 13 rfl rfl ?_
    exact s_jmp (hk13 _ _ _ _ _ _) ⟨rfl, rfl, rfl, rfl, rfl, trivial⟩
theorem w_18_isAbove_13 (l : Launch) (k2 : Nat → Int64 → Int32 → jH → Option (Int32 × jH)) (hk2 : ∀ a0 a1 a3 H, JV l mi_18_isAbove jeI 2 [(0, .ref a0), (1, .long a1), (3, .int a3)] [] H (k2 a0 a1 a3 H)) (n : Nat) : ∀ a0 a1 a3 a4 a6 H, JV l mi_18_isAbove jeI 13 [(0, .ref a0), (1, .long a1), (3, .int a3), (4, .long a4), (6, .int a6)] [] H (F_18_isAbove_13 k2 n a0 a1 a3 a4 a6 H) := by
  induction n with
  | zero => intro _ _ _ _ _ _; exact s_none
  | succ n ih => intro a0 a1 a3 a4 a6 H; exact v_18_isAbove_13 l k2 hk2 (F_18_isAbove_13 k2 n) ih a0 a1 a3 a4 a6 H
theorem v_18_isAbove_2 (l : Launch) (k2 : Nat → Int64 → Int32 → jH → Option (Int32 × jH)) (hk2 : ∀ a0 a1 a3 H, JV l mi_18_isAbove jeI 2 [(0, .ref a0), (1, .long a1), (3, .int a3)] [] H (k2 a0 a1 a3 H)) (a0 : Nat) (a1 : Int64) (a3 : Int32) (H : jH) : JV l mi_18_isAbove jeI 2 [(0, .ref a0), (1, .long a1), (3, .int a3)] [] H (B_18_isAbove_2 k2 a0 a1 a3 H) := by
  unfold B_18_isAbove_2
  refine s_29 3 rfl rfl ?_
  refine s_7 4 rfl ?_
  refine s_162 0 114 118 7 rfl rfl ?_ ?_
  · refine s_3 119 rfl ?_
    exact s_172Z rfl rfl
  · refine s_9 8 rfl ?_
    refine s_55 4 10 rfl rfl ?_
    refine s_3 11 rfl ?_
    refine s_54 6 13 rfl rfl ?_
    exact s_jmp (w_18_isAbove_13 l k2 hk2 jfuel _ _ _ _ _ _) ⟨rfl, rfl, rfl, rfl, rfl, trivial⟩
theorem w_18_isAbove_2 (l : Launch)  (n : Nat) : ∀ a0 a1 a3 H, JV l mi_18_isAbove jeI 2 [(0, .ref a0), (1, .long a1), (3, .int a3)] [] H (F_18_isAbove_2  n a0 a1 a3 H) := by
  induction n with
  | zero => intro _ _ _ _; exact s_none
  | succ n ih => intro a0 a1 a3 H; exact v_18_isAbove_2 l (F_18_isAbove_2  n) ih a0 a1 a3 H
theorem v_18_isAbove (l : Launch) (a0 : Nat) (a1 : Int64) (H : jH) : JV l mi_18_isAbove jeI 0 [(0, .ref a0), (1, .long a1)] [] H (F_18_isAbove a0 a1 H) := by
  unfold F_18_isAbove
  refine s_3 1 rfl ?_
  refine s_62 2 rfl rfl ?_
  exact s_jmp (w_18_isAbove_2 l jfuel _ _ _ _) ⟨rfl, rfl, rfl, trivial⟩
theorem m_18_isAbove (l : Launch) (a0 : Nat) (a1 : Int64) (H : jH) : JMet l y_18_isAbove prog_14_method_32_code mi_18_isAbove jeI [.ref a0, .long a1] H (F_18_isAbove a0 a1 H) := jmet_of n_18_isAbove (by decide) ⟨rfl, rfl⟩ (Nat.le_of_ble_eq_true rfl) (v_18_isAbove l a0 a1 H)
def mi_18_head : jM := (94670975427600979280245326872469384018970349017494422973245062144397017100199561481845270070670672393, 42, 6, "CoinNodeModel", some FieldType.long, "head", 0, 0)
def y_18_head : MethodName := ⟨"CoinNodeModel", "head", "(II)J"⟩
theorem n_18_head : jn_is prog_14_method_33_code mi_18_head.1 mi_18_head.2.1 := by unfold jn_is; decide +kernel
theorem k_18_head : jmok y_18_head prog_14_method_33_code mi_18_head 2 := ⟨jw_2326, jw_14, ⟨by decide, by decide⟩, by decide +kernel⟩
theorem v_18_head_7 (l : Launch) (k7 : Nat → Int32 → Int64 → Int32 → jH → Option (Int64 × jH)) (hk7 : ∀ a0 a1 a3 a5 H, JV l mi_18_head jeL 7 [(0, .ref a0), (1, .int a1), (3, .long a3), (5, .int a5)] [] H (k7 a0 a1 a3 a5 H)) (a0 : Nat) (a1 : Int32) (a3 : Int64) (a5 : Int32) (H : jH) : JV l mi_18_head jeL 7 [(0, .ref a0), (1, .int a1), (3, .long a3), (5, .int a5)] [] H (B_18_head_7 k7 a0 a1 a3 a5 H) := by
  unfold B_18_head_7
  refine s_21 5 9 rfl rfl ?_
  refine s_155 0 31 40 12 rfl rfl ?_ ?_
  · refine s_33 41 rfl rfl ?_
    exact s_173 rfl rfl
  · refine s_33 13 rfl rfl ?_
    refine s_16 8 15 8 jbp_8 rfl ?_
    refine s_121 16 rfl ?_
    refine s_42 17 rfl rfl ?_
    refine s_180R 0 158 20 158 f_18_47 jw_1657 rfl rfl ?_
    refine s_4 21 rfl ?_
    refine s_27 22 rfl rfl ?_
    refine s_96 23 rfl ?_
    refine s_21 5 25 rfl rfl ?_
    refine s_96 26 rfl ?_
    refine s_51B 27 rfl ?_
    refine s_17 0 255 30 255 jsp_0_255 rfl ?_
    refine s_126 31 rfl ?_
    refine s_133 32 rfl ?_
    refine s_129 33 rfl ?_
    refine s_66L 34 rfl rfl (fun x1 => ?_)
    refine s_132L 5 255 37 (-1) ji_255 rfl rfl rfl (fun x2 => ?_)
    refine s_167 255 226 7 rfl rfl ?_
    exact s_jmp (hk7 _ _ _ _ _) ⟨rfl, rfl, rfl, rfl, trivial⟩
theorem w_18_head_7 (l : Launch)  (n : Nat) : ∀ a0 a1 a3 a5 H, JV l mi_18_head jeL 7 [(0, .ref a0), (1, .int a1), (3, .long a3), (5, .int a5)] [] H (F_18_head_7  n a0 a1 a3 a5 H) := by
  induction n with
  | zero => intro _ _ _ _ _; exact s_none
  | succ n ih => intro a0 a1 a3 a5 H; exact v_18_head_7 l (F_18_head_7  n) ih a0 a1 a3 a5 H
theorem v_18_head (l : Launch) (a0 : Nat) (a1 : Int32) (a2 : Int32) (H : jH) : JV l mi_18_head jeL 0 [(0, .ref a0), (1, .int a1), (2, .int a2)] [] H (F_18_head a0 a1 a2 H) := by
  unfold F_18_head
  refine s_9 1 rfl ?_
  refine s_66 2 rfl rfl ?_
  refine s_28 3 rfl rfl ?_
  refine s_4 4 rfl ?_
  refine s_100 5 rfl ?_
  refine s_54L 5 7 rfl rfl (fun x3 => ?_)
  exact s_jmp (w_18_head_7 l jfuel _ _ _ _ _) ⟨rfl, rfl, rfl, rfl, trivial⟩
theorem m_18_head (l : Launch) (a0 : Nat) (a1 : Int32) (a2 : Int32) (H : jH) : JMet l y_18_head prog_14_method_33_code mi_18_head jeL [.ref a0, .int a1, .int a2] H (F_18_head a0 a1 a2 H) := jmet_of n_18_head (by decide) ⟨rfl, rfl⟩ (Nat.le_of_ble_eq_true rfl) (v_18_head l a0 a1 a2 H)
def mi_18_isFramed : jM := (9570422021690944927384564727135698810391455568208955835196019002813951650486974280320629285862605257806110845867251806919617991681454649321674024325881066924639082266431336246209291943950244450183962496710989068978120613930934102568249101848441516623502189665424396211003720576692059107221464478428063620046453082252419846574085324715050, 140, 2, "CoinNodeModel", some FieldType.boolean, "isFramed", 4, 92)
def y_18_isFramed : MethodName := ⟨"CoinNodeModel", "isFramed", "()Z"⟩
theorem n_18_isFramed : jn_is prog_14_method_34_code mi_18_isFramed.1 mi_18_isFramed.2.1 := by unfold jn_is; decide +kernel
theorem k_18_isFramed : jmok y_18_isFramed prog_14_method_34_code mi_18_isFramed 0 := ⟨jw_2373, jw_14, ⟨by decide, by decide⟩, by decide +kernel⟩
theorem v_18_isFramed_82 (l : Launch)   (H : jH) : JV l mi_18_isFramed jeI 82 [] [] H (B_18_isFramed_82   H) := by
  unfold B_18_isFramed_82
  refine s_3 83 rfl ?_
  exact s_172Z rfl rfl
theorem v_18_isFramed_86 (l : Launch) (k86 : Nat → Int32 → jH → Option (Int32 × jH)) (hk86 : ∀ a0 a1 H, JV l mi_18_isFramed jeI 86 [(0, .ref a0), (1, .int a1)] [] H (k86 a0 a1 H)) (a0 : Nat) (a1 : Int32) (H : jH) : JV l mi_18_isFramed jeI 86 [(0, .ref a0), (1, .int a1)] [] H (B_18_isFramed_86 k86 a0 a1 H) := by
  unfold B_18_isFramed_86
  refine s_27 87 rfl rfl ?_
  refine s_42 88 rfl rfl ?_
  refine s_180I 0 232 91 232 f_18_14 jw_1624 rfl rfl ?_
  refine s_162 0 47 138 94 rfl rfl ?_ ?_
  · refine s_4 139 rfl ?_
    exact s_172Z rfl rfl
  · refine s_42 95 rfl rfl ?_
    refine s_180R 0 47 98 47 f_18_4 jw_1614 rfl rfl ?_
    refine s_42 99 rfl rfl ?_
    refine s_180R 0 158 102 158 f_18_47 jw_1657 rfl rfl ?_
    refine s_42 103 rfl rfl ?_
    refine s_180R 0 79 106 79 f_18_15 jw_1625 rfl rfl ?_
    refine s_27 107 rfl rfl ?_
    refine s_46 108 rfl ?_
    refine s_42 109 rfl rfl ?_
    refine s_180R 0 79 112 79 f_18_15 jw_1625 rfl rfl ?_
    refine s_27 113 rfl rfl ?_
    refine s_4 114 rfl ?_
    refine s_96 115 rfl ?_
    refine s_46 116 rfl ?_
    refine s_182I 0 235 119 235 (m_17_read l _ _ _ _ _) rfl k_17_read jc_17 jw_1846 jw_1847 jw_1848 rfl rfl rfl rfl rfl (fun x1 h2 => ?_)
    refine s_87 120 rfl rfl ?_
    refine s_42 121 rfl rfl ?_
    refine s_180R 0 47 124 47 f_18_4 jw_1614 rfl rfl ?_
    refine s_182I 1 135 127 391 (m_17_hasRoot l _ _) rfl k_17_hasRoot jc_17 jw_1905 jw_1906 jw_1907 rfl rfl rfl rfl rfl (fun x3 h4 => ?_)
    refine s_153 0 5 132 130 rfl rfl ?_ ?_
    · refine s_132L 1 1 135 1 ji_1 rfl rfl rfl (fun x5 => ?_)
      refine s_167 255 207 86 rfl rfl ?_
      exact s_jmp (hk86 _ _ _) ⟨rfl, rfl, trivial⟩
    · refine s_3 131 rfl ?_
      exact s_172Z rfl rfl
theorem w_18_isFramed_86 (l : Launch)  (n : Nat) : ∀ a0 a1 H, JV l mi_18_isFramed jeI 86 [(0, .ref a0), (1, .int a1)] [] H (F_18_isFramed_86  n a0 a1 H) := by
  induction n with
  | zero => intro _ _ _; exact s_none
  | succ n ih => intro a0 a1 H; exact v_18_isFramed_86 l (F_18_isFramed_86  n) ih a0 a1 H
theorem v_18_isFramed (l : Launch) (a0 : Nat) (H : jH) : JV l mi_18_isFramed jeI 0 [(0, .ref a0)] [] H (F_18_isFramed a0 H) := by
  unfold F_18_isFramed
  refine s_42 1 rfl rfl ?_
  refine s_180I 0 232 4 232 f_18_14 jw_1624 rfl rfl ?_
  refine s_154 0 5 9 7 rfl rfl ?_ ?_
  · refine s_42 10 rfl rfl ?_
    refine s_180R 0 47 13 47 f_18_4 jw_1614 rfl rfl ?_
    refine s_42 14 rfl rfl ?_
    refine s_180R 0 158 17 158 f_18_47 jw_1657 rfl rfl ?_
    refine s_42 18 rfl rfl ?_
    refine s_180R 0 79 21 79 f_18_15 jw_1625 rfl rfl ?_
    refine s_3 22 rfl ?_
    refine s_46 23 rfl ?_
    refine s_42 24 rfl rfl ?_
    refine s_180R 0 79 27 79 f_18_15 jw_1625 rfl rfl ?_
    refine s_4 28 rfl ?_
    refine s_46 29 rfl ?_
    refine s_182I 0 235 32 235 (m_17_read l _ _ _ _ _) rfl k_17_read jc_17 jw_1846 jw_1847 jw_1848 rfl rfl rfl rfl rfl (fun x6 h7 => ?_)
    refine s_87 33 rfl rfl ?_
    refine s_42 34 rfl rfl ?_
    refine s_180R 0 47 37 47 f_18_4 jw_1614 rfl rfl ?_
    refine s_180IN 0 194 40 194 f_17_4 jnf_12 rfl rfl ?_
    refine s_4 41 rfl ?_
    refine s_160 0 41 82 44 rfl rfl ?_ ?_
    · exact s_jmp (v_18_isFramed_82 l _) trivial
    · refine s_42 45 rfl rfl ?_
      refine s_180R 0 47 48 47 f_18_4 jw_1614 rfl rfl ?_
      refine s_3 49 rfl ?_
      refine s_182I 1 168 52 424 (m_17_isRoot l _ _ _) rfl k_17_isRoot jc_17 jw_2374 jw_1910 jw_1911 rfl rfl rfl rfl rfl (fun x8 h9 => ?_)
      refine s_153 0 30 82 55 rfl rfl ?_ ?_
      · exact s_jmp (v_18_isFramed_82 l _) trivial
      · refine s_42 56 rfl rfl ?_
        refine s_180R 0 47 59 47 f_18_4 jw_1614 rfl rfl ?_
        refine s_180RN 1 27 62 283 f_17_10 jnf_19 rfl rfl ?_
        refine s_3 63 rfl ?_
        refine s_46 64 rfl ?_
        refine s_5 65 rfl ?_
        refine s_161 0 17 82 68 rfl rfl ?_ ?_
        · exact s_jmp (v_18_isFramed_82 l _) trivial
        · refine s_42 69 rfl rfl ?_
          refine s_180R 0 47 72 47 f_18_4 jw_1614 rfl rfl ?_
          refine s_180RN 1 27 75 283 f_17_10 jnf_19 rfl rfl ?_
          refine s_3 76 rfl ?_
          refine s_46 77 rfl ?_
          refine s_16 100 79 100 jbp_100 rfl ?_
          refine s_164 0 5 84 82 rfl rfl ?_ ?_
          · refine s_4 85 rfl ?_
            refine s_60 86 rfl rfl ?_
            exact s_jmp (w_18_isFramed_86 l jfuel _ _ _) ⟨rfl, rfl, trivial⟩
          · exact s_jmp (v_18_isFramed_82 l _) trivial
  · refine s_3 8 rfl ?_
    exact s_172Z rfl rfl
theorem m_18_isFramed (l : Launch) (a0 : Nat) (H : jH) : JMet l y_18_isFramed prog_14_method_34_code mi_18_isFramed jeI [.ref a0] H (F_18_isFramed a0 H) := jmet_of n_18_isFramed (by decide) ⟨rfl, rfl⟩ (Nat.le_of_ble_eq_true rfl) (v_18_isFramed l a0 H)
def mi_18_isRooted : jM := (112748003022980238767588370021798300804927612554771407254880316001387506198602388354998203793383788015491507529090313785914910077226517512402029229745805667557599970319573843087093244411162398394364177384083234978760624182358623071414933377083655512586350653155557519171019478989374371373298063519839190302578638330344980520373847023759432100850493192961682800561127862217880362376506465498249013404221597110052962405268452651823581360750048583728215878474405967319370666043053104732979654511832324342569864678837829939014057713828462864694889925101002225719288540190477476861334572161794303429646955300206740966839435722724091504492749295258452048899, 270, 4, "CoinNodeModel", some FieldType.boolean, "isRooted", 3, 81)
def y_18_isRooted : MethodName := ⟨"CoinNodeModel", "isRooted", "()Z"⟩
theorem n_18_isRooted : jn_is prog_14_method_35_code mi_18_isRooted.1 mi_18_isRooted.2.1 := by unfold jn_is; decide +kernel
theorem k_18_isRooted : jmok y_18_isRooted prog_14_method_35_code mi_18_isRooted 0 := ⟨jw_2378, jw_14, ⟨by decide, by decide⟩, by decide +kernel⟩
theorem v_18_isRooted_52 (l : Launch) (k2 : Nat → Int32 → jH → Option (Int32 × jH)) (hk2 : ∀ a0 a1 H, JV l mi_18_isRooted jeI 2 [(0, .ref a0), (1, .int a1)] [] H (k2 a0 a1 H)) (k52 : Nat → Int32 → Int32 → jH → Option (Int32 × jH)) (hk52 : ∀ a0 a1 a2 H, JV l mi_18_isRooted jeI 52 [(0, .ref a0), (1, .int a1), (2, .int a2)] [] H (k52 a0 a1 a2 H)) (a0 : Nat) (a1 : Int32) (a2 : Int32) (H : jH) : JV l mi_18_isRooted jeI 52 [(0, .ref a0), (1, .int a1), (2, .int a2)] [] H (B_18_isRooted_52 k2 k52 a0 a1 a2 H) := by
  unfold B_18_isRooted_52
  refine s_28 53 rfl rfl ?_
  refine s_16 32 55 32 jbp_32 rfl ?_
  refine s_162 0 31 86 58 rfl rfl ?_ ?_
  · refine s_132L 1 1 89 1 ji_1 rfl rfl rfl (fun x1 => ?_)
    refine s_167 255 169 2 rfl rfl ?_
    exact s_jmp (hk2 _ _ _) ⟨rfl, rfl, trivial⟩
  · refine s_42 59 rfl rfl ?_
    refine s_180R 0 76 62 76 f_18_12 jw_1622 rfl rfl ?_
    refine s_16 32 64 32 jbp_32 rfl ?_
    refine s_27 65 rfl rfl ?_
    refine s_104 66 rfl ?_
    refine s_28 67 rfl rfl ?_
    refine s_96 68 rfl ?_
    refine s_42 69 rfl rfl ?_
    refine s_180R 0 164 72 164 f_18_50 jw_1660 rfl rfl ?_
    refine s_16 32 74 32 jbp_32 rfl ?_
    refine s_27 75 rfl rfl ?_
    refine s_104 76 rfl ?_
    refine s_28 77 rfl rfl ?_
    refine s_96 78 rfl ?_
    refine s_51B 79 rfl ?_
    refine s_84B 80 rfl (fun h2 => ?_)
    refine s_132L 2 1 83 1 ji_1 rfl rfl rfl (fun x3 => ?_)
    refine s_167 255 225 52 rfl rfl ?_
    exact s_jmp (hk52 _ _ _ _) ⟨rfl, rfl, rfl, trivial⟩
theorem w_18_isRooted_52 (l : Launch) (k2 : Nat → Int32 → jH → Option (Int32 × jH)) (hk2 : ∀ a0 a1 H, JV l mi_18_isRooted jeI 2 [(0, .ref a0), (1, .int a1)] [] H (k2 a0 a1 H)) (n : Nat) : ∀ a0 a1 a2 H, JV l mi_18_isRooted jeI 52 [(0, .ref a0), (1, .int a1), (2, .int a2)] [] H (F_18_isRooted_52 k2 n a0 a1 a2 H) := by
  induction n with
  | zero => intro _ _ _ _; exact s_none
  | succ n ih => intro a0 a1 a2 H; exact v_18_isRooted_52 l k2 hk2 (F_18_isRooted_52 k2 n) ih a0 a1 a2 H
theorem v_18_isRooted_200 (l : Launch) (k152 : Nat → Int32 → Int32 → Int32 → jH → Option (Int32 × jH)) (hk152 : ∀ a0 a1 a2 a3 H, JV l mi_18_isRooted jeI 152 [(0, .ref a0), (1, .int a1), (2, .int a2), (3, .int a3)] [] H (k152 a0 a1 a2 a3 H)) (a0 : Nat) (a2 : Int32) (a3 : Int32) (s0 : Int32) (H : jH) : JV l mi_18_isRooted jeI 200 [(0, .ref a0), (2, .int a2), (3, .int a3)] [.int s0] H (B_18_isRooted_200 k152 a0 a2 a3 s0 H) := by
  unfold B_18_isRooted_200
  refine s_60 201 rfl rfl ?_
  refine s_42 202 rfl rfl ?_
  refine s_180R 0 10 205 10 f_18_0 jw_1610 rfl rfl ?_
  refine s_42 206 rfl rfl ?_
  refine s_180R 0 164 209 164 f_18_50 jw_1660 rfl rfl ?_
  refine s_16 32 211 32 jbp_32 rfl ?_
  refine s_29 212 rfl rfl ?_
  refine s_104 213 rfl ?_
  refine s_16 64 215 64 jbp_64 rfl ?_
  refine s_42 216 rfl rfl ?_
  refine s_180R 0 164 219 164 f_18_50 jw_1660 rfl rfl ?_
  refine s_16 16 221 16 jbp_16 rfl ?_
  refine s_29 222 rfl rfl ?_
  refine s_104 223 rfl ?_
  refine s_182V 0 180 226 180 (m_12_name l _ _ _ _ _ _ _) rfl k_12_name jc_12 jw_1586 jw_1587 jw_1588 rfl rfl rfl rfl rfl (fun x4 h5 => ?_)
  refine s_132L 3 2 229 2 ji_2 rfl rfl rfl (fun x6 => ?_)
  refine s_167 255 179 152 rfl rfl ?_
  exact s_jmp (hk152 _ _ _ _ _) ⟨rfl, rfl, rfl, rfl, trivial⟩
theorem v_18_isRooted_195 (l : Launch) (k152 : Nat → Int32 → Int32 → Int32 → jH → Option (Int32 × jH)) (hk152 : ∀ a0 a1 a2 a3 H, JV l mi_18_isRooted jeI 152 [(0, .ref a0), (1, .int a1), (2, .int a2), (3, .int a3)] [] H (k152 a0 a1 a2 a3 H)) (a0 : Nat) (a2 : Int32) (a3 : Int32) (H : jH) : JV l mi_18_isRooted jeI 195 [(0, .ref a0), (2, .int a2), (3, .int a3)] [] H (B_18_isRooted_195 k152 a0 a2 a3 H) := by
  unfold B_18_isRooted_195
  refine s_4 196 rfl ?_
  refine s_167 0 4 200 rfl rfl ?_
  exact s_jmp (v_18_isRooted_200 l k152 hk152 _ _ _ _ _) ⟨rfl, rfl, rfl, trivial⟩
theorem v_18_isRooted_199 (l : Launch) (k152 : Nat → Int32 → Int32 → Int32 → jH → Option (Int32 × jH)) (hk152 : ∀ a0 a1 a2 a3 H, JV l mi_18_isRooted jeI 152 [(0, .ref a0), (1, .int a1), (2, .int a2), (3, .int a3)] [] H (k152 a0 a1 a2 a3 H)) (a0 : Nat) (a2 : Int32) (a3 : Int32) (H : jH) : JV l mi_18_isRooted jeI 199 [(0, .ref a0), (2, .int a2), (3, .int a3)] [] H (B_18_isRooted_199 k152 a0 a2 a3 H) := by
  unfold B_18_isRooted_199
  refine s_3 200 rfl ?_
  exact s_jmp (v_18_isRooted_200 l k152 hk152 _ _ _ _ _) ⟨rfl, rfl, rfl, trivial⟩
theorem v_18_isRooted_152 (l : Launch) (k99 : Nat → Int32 → Int32 → jH → Option (Int32 × jH)) (hk99 : ∀ a0 a1 a2 H, JV l mi_18_isRooted jeI 99 [(0, .ref a0), (1, .int a1), (2, .int a2)] [] H (k99 a0 a1 a2 H)) (k152 : Nat → Int32 → Int32 → Int32 → jH → Option (Int32 × jH)) (hk152 : ∀ a0 a1 a2 a3 H, JV l mi_18_isRooted jeI 152 [(0, .ref a0), (1, .int a1), (2, .int a2), (3, .int a3)] [] H (k152 a0 a1 a2 a3 H)) (a0 : Nat) (a1 : Int32) (a2 : Int32) (a3 : Int32) (H : jH) : JV l mi_18_isRooted jeI 152 [(0, .ref a0), (1, .int a1), (2, .int a2), (3, .int a3)] [] H (B_18_isRooted_152 k99 k152 a0 a1 a2 a3 H) := by
  unfold B_18_isRooted_152
  refine s_29 153 rfl rfl ?_
  refine s_28 154 rfl rfl ?_
  refine s_162 0 78 232 157 rfl rfl ?_ ?_
  · refine s_28 233 rfl rfl ?_
    refine s_4 234 rfl ?_
    refine s_96 235 rfl ?_
    refine s_5 236 rfl ?_
    refine s_108 237 rfl ?_
    refine s_61L 238 rfl rfl (fun x7 => ?_)
    refine s_167 255 117 99 rfl rfl ?_
    exact s_jmp (hk99 _ _ _ _) ⟨rfl, rfl, rfl, trivial⟩
  · refine s_27 158 rfl rfl ?_
    refine s_154 0 37 195 161 rfl rfl ?_ ?_
    · exact s_jmp (v_18_isRooted_195 l k152 hk152 _ _ _ _) ⟨rfl, rfl, rfl, trivial⟩
    · refine s_29 162 rfl rfl ?_
      refine s_4 163 rfl ?_
      refine s_96 164 rfl ?_
      refine s_28 165 rfl rfl ?_
      refine s_162 0 34 199 168 rfl rfl ?_ ?_
      · exact s_jmp (v_18_isRooted_199 l k152 hk152 _ _ _ _) ⟨rfl, rfl, rfl, trivial⟩
      · refine s_42 169 rfl rfl ?_
        refine s_180R 0 164 172 164 f_18_50 jw_1660 rfl rfl ?_
        refine s_16 32 174 32 jbp_32 rfl ?_
        refine s_29 175 rfl rfl ?_
        refine s_104 176 rfl ?_
        refine s_42 177 rfl rfl ?_
        refine s_180R 0 164 180 164 f_18_50 jw_1660 rfl rfl ?_
        refine s_16 32 182 32 jbp_32 rfl ?_
        refine s_29 183 rfl rfl ?_
        refine s_104 184 rfl ?_
        refine s_16 32 186 32 jbp_32 rfl ?_
        refine s_96 187 rfl ?_
        refine s_16 32 189 32 jbp_32 rfl ?_
        refine s_184I 0 187 192 187 (m_18_like l _ _ _ _ _ _) rfl k_18_like jw_1876 jw_1877 rfl rfl rfl rfl rfl (fun x8 h9 => ?_)
        refine s_153 0 7 199 195 rfl rfl ?_ ?_
        · exact s_jmp (v_18_isRooted_199 l k152 hk152 _ _ _ _) ⟨rfl, rfl, rfl, trivial⟩
        · exact s_jmp (v_18_isRooted_195 l k152 hk152 _ _ _ _) ⟨rfl, rfl, rfl, trivial⟩
theorem w_18_isRooted_152 (l : Launch) (k99 : Nat → Int32 → Int32 → jH → Option (Int32 × jH)) (hk99 : ∀ a0 a1 a2 H, JV l mi_18_isRooted jeI 99 [(0, .ref a0), (1, .int a1), (2, .int a2)] [] H (k99 a0 a1 a2 H)) (n : Nat) : ∀ a0 a1 a2 a3 H, JV l mi_18_isRooted jeI 152 [(0, .ref a0), (1, .int a1), (2, .int a2), (3, .int a3)] [] H (F_18_isRooted_152 k99 n a0 a1 a2 a3 H) := by
  induction n with
  | zero => intro _ _ _ _ _; exact s_none
  | succ n ih => intro a0 a1 a2 a3 H; exact v_18_isRooted_152 l k99 hk99 (F_18_isRooted_152 k99 n) ih a0 a1 a2 a3 H
theorem v_18_isRooted_150 (l : Launch) (k99 : Nat → Int32 → Int32 → jH → Option (Int32 × jH)) (hk99 : ∀ a0 a1 a2 H, JV l mi_18_isRooted jeI 99 [(0, .ref a0), (1, .int a1), (2, .int a2)] [] H (k99 a0 a1 a2 H)) (a0 : Nat) (a1 : Int32) (a2 : Int32) (H : jH) : JV l mi_18_isRooted jeI 150 [(0, .ref a0), (1, .int a1), (2, .int a2)] [] H (B_18_isRooted_150 k99 a0 a1 a2 H) := by
  unfold B_18_isRooted_150
  refine s_3 151 rfl ?_
  refine s_62 152 rfl rfl ?_
  exact s_jmp (w_18_isRooted_152 l k99 hk99 jfuel _ _ _ _ _) ⟨rfl, rfl, rfl, rfl, trivial⟩
theorem v_18_isRooted_106 (l : Launch) (k99 : Nat → Int32 → Int32 → jH → Option (Int32 × jH)) (hk99 : ∀ a0 a1 a2 H, JV l mi_18_isRooted jeI 99 [(0, .ref a0), (1, .int a1), (2, .int a2)] [] H (k99 a0 a1 a2 H)) (k106 : Nat → Int32 → Int32 → Int32 → jH → Option (Int32 × jH)) (hk106 : ∀ a0 a1 a2 a3 H, JV l mi_18_isRooted jeI 106 [(0, .ref a0), (1, .int a1), (2, .int a2), (3, .int a3)] [] H (k106 a0 a1 a2 a3 H)) (a0 : Nat) (a1 : Int32) (a2 : Int32) (a3 : Int32) (H : jH) : JV l mi_18_isRooted jeI 106 [(0, .ref a0), (1, .int a1), (2, .int a2), (3, .int a3)] [] H (B_18_isRooted_106 k99 k106 a0 a1 a2 a3 H) := by
  unfold B_18_isRooted_106
  refine s_29 107 rfl rfl ?_
  refine s_16 32 109 32 jbp_32 rfl ?_
  refine s_162 0 41 150 112 rfl rfl ?_ ?_
  · exact s_jmp (v_18_isRooted_150 l k99 hk99 _ _ _ _) ⟨rfl, rfl, rfl, trivial⟩
  · refine s_28 113 rfl rfl ?_
    refine s_5 114 rfl ?_
    refine s_112 115 rfl ?_
    refine s_4 116 rfl ?_
    refine s_160 0 34 150 119 rfl rfl ?_ ?_
    · exact s_jmp (v_18_isRooted_150 l k99 hk99 _ _ _ _) ⟨rfl, rfl, rfl, trivial⟩
    · refine s_42 120 rfl rfl ?_
      refine s_180R 0 164 123 164 f_18_50 jw_1660 rfl rfl ?_
      refine s_16 32 125 32 jbp_32 rfl ?_
      refine s_28 126 rfl rfl ?_
      refine s_104 127 rfl ?_
      refine s_29 128 rfl rfl ?_
      refine s_96 129 rfl ?_
      refine s_42 130 rfl rfl ?_
      refine s_180R 0 164 133 164 f_18_50 jw_1660 rfl rfl ?_
      refine s_16 32 135 32 jbp_32 rfl ?_
      refine s_28 136 rfl rfl ?_
      refine s_104 137 rfl ?_
      refine s_16 32 139 32 jbp_32 rfl ?_
      refine s_100 140 rfl ?_
      refine s_29 141 rfl rfl ?_
      refine s_96 142 rfl ?_
      refine s_51B 143 rfl ?_
      refine s_84B 144 rfl (fun h10 => ?_)
      refine s_132L 3 1 147 1 ji_1 rfl rfl rfl (fun x11 => ?_)
      refine s_167 255 215 106 rfl rfl ?_
      exact s_jmp (hk106 _ _ _ _ _) ⟨rfl, rfl, rfl, rfl, trivial⟩
theorem w_18_isRooted_106 (l : Launch) (k99 : Nat → Int32 → Int32 → jH → Option (Int32 × jH)) (hk99 : ∀ a0 a1 a2 H, JV l mi_18_isRooted jeI 99 [(0, .ref a0), (1, .int a1), (2, .int a2)] [] H (k99 a0 a1 a2 H)) (n : Nat) : ∀ a0 a1 a2 a3 H, JV l mi_18_isRooted jeI 106 [(0, .ref a0), (1, .int a1), (2, .int a2), (3, .int a3)] [] H (F_18_isRooted_106 k99 n a0 a1 a2 a3 H) := by
  induction n with
  | zero => intro _ _ _ _ _; exact s_none
  | succ n ih => intro a0 a1 a2 a3 H; exact v_18_isRooted_106 l k99 hk99 (F_18_isRooted_106 k99 n) ih a0 a1 a2 a3 H
theorem v_18_isRooted_269 (l : Launch)  (s0 : Int32) (H : jH) : JV l mi_18_isRooted jeI 269 [] [.int s0] H (B_18_isRooted_269  s0 H) := by
  unfold B_18_isRooted_269
  exact s_172Z rfl rfl
theorem v_18_isRooted_268 (l : Launch)   (H : jH) : JV l mi_18_isRooted jeI 268 [] [] H (B_18_isRooted_268   H) := by
  unfold B_18_isRooted_268
  refine s_3 269 rfl ?_
  exact s_jmp (v_18_isRooted_269 l _ _) trivial
theorem v_18_isRooted_99 (l : Launch) (k99 : Nat → Int32 → Int32 → jH → Option (Int32 × jH)) (hk99 : ∀ a0 a1 a2 H, JV l mi_18_isRooted jeI 99 [(0, .ref a0), (1, .int a1), (2, .int a2)] [] H (k99 a0 a1 a2 H)) (a0 : Nat) (a1 : Int32) (a2 : Int32) (H : jH) : JV l mi_18_isRooted jeI 99 [(0, .ref a0), (1, .int a1), (2, .int a2)] [] H (B_18_isRooted_99 k99 a0 a1 a2 H) := by
  unfold B_18_isRooted_99
  refine s_28 100 rfl rfl ?_
  refine s_4 101 rfl ?_
  refine s_164 0 140 241 104 rfl rfl ?_ ?_
  · refine s_27 242 rfl rfl ?_
    refine s_154 0 26 268 245 rfl rfl ?_ ?_
    · exact s_jmp (v_18_isRooted_268 l _) trivial
    · refine s_42 246 rfl rfl ?_
      refine s_180R 0 164 249 164 f_18_50 jw_1660 rfl rfl ?_
      refine s_3 250 rfl ?_
      refine s_42 251 rfl rfl ?_
      refine s_180R 0 158 254 158 f_18_47 jw_1657 rfl rfl ?_
      refine s_16 37 256 37 jbp_37 rfl ?_
      refine s_16 32 258 32 jbp_32 rfl ?_
      refine s_184I 0 187 261 187 (m_18_like l _ _ _ _ _ _) rfl k_18_like jw_1876 jw_1877 rfl rfl rfl rfl rfl (fun x12 h13 => ?_)
      refine s_153 0 7 268 264 rfl rfl ?_ ?_
      · exact s_jmp (v_18_isRooted_268 l _) trivial
      · refine s_4 265 rfl ?_
        refine s_167 0 4 269 rfl rfl ?_
        exact s_jmp (v_18_isRooted_269 l _ _) trivial
  · refine s_3 105 rfl ?_
    refine s_62 106 rfl rfl ?_
    exact s_jmp (w_18_isRooted_106 l k99 hk99 jfuel _ _ _ _ _) ⟨rfl, rfl, rfl, rfl, trivial⟩
theorem w_18_isRooted_99 (l : Launch)  (n : Nat) : ∀ a0 a1 a2 H, JV l mi_18_isRooted jeI 99 [(0, .ref a0), (1, .int a1), (2, .int a2)] [] H (F_18_isRooted_99  n a0 a1 a2 H) := by
  induction n with
  | zero => intro _ _ _ _; exact s_none
  | succ n ih => intro a0 a1 a2 H; exact v_18_isRooted_99 l (F_18_isRooted_99  n) ih a0 a1 a2 H
theorem v_18_isRooted_2 (l : Launch) (k2 : Nat → Int32 → jH → Option (Int32 × jH)) (hk2 : ∀ a0 a1 H, JV l mi_18_isRooted jeI 2 [(0, .ref a0), (1, .int a1)] [] H (k2 a0 a1 H)) (a0 : Nat) (a1 : Int32) (H : jH) : JV l mi_18_isRooted jeI 2 [(0, .ref a0), (1, .int a1)] [] H (B_18_isRooted_2 k2 a0 a1 H) := by
  unfold B_18_isRooted_2
  refine s_27 3 rfl rfl ?_
  refine s_42 4 rfl rfl ?_
  refine s_180I 0 232 7 232 f_18_14 jw_1624 rfl rfl ?_
  refine s_162 0 85 92 10 rfl rfl ?_ ?_
  · refine s_3 93 rfl ?_
    refine s_60 94 rfl rfl ?_
    refine s_42 95 rfl rfl ?_
    refine s_180I 0 232 98 232 f_18_14 jw_1624 rfl rfl ?_
    refine s_61L 99 rfl rfl (fun x14 => ?_)
    exact s_jmp (w_18_isRooted_99 l jfuel _ _ _ _) ⟨rfl, rfl, rfl, trivial⟩
  · refine s_42 11 rfl rfl ?_
    refine s_180R 0 10 14 10 f_18_0 jw_1610 rfl rfl ?_
    refine s_42 15 rfl rfl ?_
    refine s_180R 0 158 18 158 f_18_47 jw_1657 rfl rfl ?_
    refine s_42 19 rfl rfl ?_
    refine s_180R 0 79 22 79 f_18_15 jw_1625 rfl rfl ?_
    refine s_27 23 rfl rfl ?_
    refine s_46 24 rfl ?_
    refine s_42 25 rfl rfl ?_
    refine s_180R 0 79 28 79 f_18_15 jw_1625 rfl rfl ?_
    refine s_27 29 rfl rfl ?_
    refine s_4 30 rfl ?_
    refine s_96 31 rfl ?_
    refine s_46 32 rfl ?_
    refine s_42 33 rfl rfl ?_
    refine s_180R 0 79 36 79 f_18_15 jw_1625 rfl rfl ?_
    refine s_27 37 rfl rfl ?_
    refine s_46 38 rfl ?_
    refine s_100 39 rfl ?_
    refine s_42 40 rfl rfl ?_
    refine s_180R 0 164 43 164 f_18_50 jw_1660 rfl rfl ?_
    refine s_16 32 45 32 jbp_32 rfl ?_
    refine s_27 46 rfl rfl ?_
    refine s_104 47 rfl ?_
    refine s_182V 0 180 50 180 (m_12_name l _ _ _ _ _ _ _) rfl k_12_name jc_12 jw_1586 jw_1587 jw_1588 rfl rfl rfl rfl rfl (fun x15 h16 => ?_)
    refine s_3 51 rfl ?_
    refine s_61 52 rfl rfl ?_
    exact s_jmp (w_18_isRooted_52 l k2 hk2 jfuel _ _ _ _) ⟨rfl, rfl, rfl, trivial⟩
theorem w_18_isRooted_2 (l : Launch)  (n : Nat) : ∀ a0 a1 H, JV l mi_18_isRooted jeI 2 [(0, .ref a0), (1, .int a1)] [] H (F_18_isRooted_2  n a0 a1 H) := by
  induction n with
  | zero => intro _ _ _; exact s_none
  | succ n ih => intro a0 a1 H; exact v_18_isRooted_2 l (F_18_isRooted_2  n) ih a0 a1 H
theorem v_18_isRooted (l : Launch) (a0 : Nat) (H : jH) : JV l mi_18_isRooted jeI 0 [(0, .ref a0)] [] H (F_18_isRooted a0 H) := by
  unfold F_18_isRooted
  refine s_3 1 rfl ?_
  refine s_60 2 rfl rfl ?_
  exact s_jmp (w_18_isRooted_2 l jfuel _ _ _) ⟨rfl, rfl, trivial⟩
theorem m_18_isRooted (l : Launch) (a0 : Nat) (H : jH) : JMet l y_18_isRooted prog_14_method_35_code mi_18_isRooted jeI [.ref a0] H (F_18_isRooted a0 H) := jmet_of n_18_isRooted (by decide) ⟨rfl, rfl⟩ (Nat.le_of_ble_eq_true rfl) (v_18_isRooted l a0 H)
def mi_18_isFaulty : jM := (51433036380386423594211671656068538116782048508793299148459265247241766204372465338332891109593322288855649359991696066295389581944721735257828540260577551984121324590676658689031985158419866632010755, 83, 2, "CoinNodeModel", some FieldType.boolean, "isFaulty", 4, 92)
def y_18_isFaulty : MethodName := ⟨"CoinNodeModel", "isFaulty", "()Z"⟩
theorem n_18_isFaulty : jn_is prog_14_method_36_code mi_18_isFaulty.1 mi_18_isFaulty.2.1 := by unfold jn_is; decide +kernel
theorem k_18_isFaulty : jmok y_18_isFaulty prog_14_method_36_code mi_18_isFaulty 0 := ⟨jw_2382, jw_14, ⟨by decide, by decide⟩, by decide +kernel⟩
theorem v_18_isFaulty_73 (l : Launch)   (H : jH) : JV l mi_18_isFaulty jeI 73 [] [] H (B_18_isFaulty_73   H) := by
  unfold B_18_isFaulty_73
  refine s_4 74 rfl ?_
  exact s_172Z rfl rfl
theorem v_18_isFaulty_75 (l : Launch) (k2 : Nat → Int32 → jH → Option (Int32 × jH)) (hk2 : ∀ a0 a1 H, JV l mi_18_isFaulty jeI 2 [(0, .ref a0), (1, .int a1)] [] H (k2 a0 a1 H)) (a0 : Nat) (a1 : Int32) (H : jH) : JV l mi_18_isFaulty jeI 75 [(0, .ref a0), (1, .int a1)] [] H (B_18_isFaulty_75 k2 a0 a1 H) := by
  unfold B_18_isFaulty_75
  refine s_132L 1 1 78 1 ji_1 rfl rfl rfl (fun x1 => ?_)
  refine s_167 255 180 2 rfl rfl ?_
  exact s_jmp (hk2 _ _ _) ⟨rfl, rfl, trivial⟩
theorem v_18_isFaulty_2 (l : Launch) (k2 : Nat → Int32 → jH → Option (Int32 × jH)) (hk2 : ∀ a0 a1 H, JV l mi_18_isFaulty jeI 2 [(0, .ref a0), (1, .int a1)] [] H (k2 a0 a1 H)) (a0 : Nat) (a1 : Int32) (H : jH) : JV l mi_18_isFaulty jeI 2 [(0, .ref a0), (1, .int a1)] [] H (B_18_isFaulty_2 k2 a0 a1 H) := by
  unfold B_18_isFaulty_2
  refine s_27 3 rfl rfl ?_
  refine s_42 4 rfl rfl ?_
  refine s_180I 0 232 7 232 f_18_14 jw_1624 rfl rfl ?_
  refine s_162 0 74 81 10 rfl rfl ?_ ?_
  · refine s_3 82 rfl ?_
    exact s_172Z rfl rfl
  · refine s_42 11 rfl rfl ?_
    refine s_180R 0 47 14 47 f_18_4 jw_1614 rfl rfl ?_
    refine s_42 15 rfl rfl ?_
    refine s_180R 0 158 18 158 f_18_47 jw_1657 rfl rfl ?_
    refine s_42 19 rfl rfl ?_
    refine s_180R 0 79 22 79 f_18_15 jw_1625 rfl rfl ?_
    refine s_27 23 rfl rfl ?_
    refine s_46 24 rfl ?_
    refine s_42 25 rfl rfl ?_
    refine s_180R 0 79 28 79 f_18_15 jw_1625 rfl rfl ?_
    refine s_27 29 rfl rfl ?_
    refine s_4 30 rfl ?_
    refine s_96 31 rfl ?_
    refine s_46 32 rfl ?_
    refine s_182I 0 235 35 235 (m_17_read l _ _ _ _ _) rfl k_17_read jc_17 jw_1846 jw_1847 jw_1848 rfl rfl rfl rfl rfl (fun x2 h3 => ?_)
    refine s_87 36 rfl rfl ?_
    refine s_27 37 rfl rfl ?_
    refine s_154 0 26 63 40 rfl rfl ?_ ?_
    · refine s_42 64 rfl rfl ?_
      refine s_180R 0 47 67 47 f_18_4 jw_1614 rfl rfl ?_
      refine s_182I 1 132 70 388 (m_17_fault l _ _) rfl k_17_fault jc_17 jw_1891 jw_1892 jw_1893 rfl rfl rfl rfl rfl (fun x4 h5 => ?_)
      refine s_158 0 5 75 73 rfl rfl ?_ ?_
      · exact s_jmp (v_18_isFaulty_75 l k2 hk2 _ _ _) ⟨rfl, rfl, trivial⟩
      · exact s_jmp (v_18_isFaulty_73 l _) trivial
    · refine s_42 41 rfl rfl ?_
      refine s_180R 0 47 44 47 f_18_4 jw_1614 rfl rfl ?_
      refine s_182I 1 172 47 428 (m_17_isLarge l _ _) rfl k_17_isLarge jc_17 jw_2383 jw_1896 jw_1897 rfl rfl rfl rfl rfl (fun x6 h7 => ?_)
      refine s_154 0 26 73 50 rfl rfl ?_ ?_
      · exact s_jmp (v_18_isFaulty_73 l _) trivial
      · refine s_42 51 rfl rfl ?_
        refine s_180R 0 47 54 47 f_18_4 jw_1614 rfl rfl ?_
        refine s_180IN 0 213 57 213 f_17_5 jnf_14 rfl rfl ?_
        refine s_154 0 18 75 60 rfl rfl ?_ ?_
        · exact s_jmp (v_18_isFaulty_75 l k2 hk2 _ _ _) ⟨rfl, rfl, trivial⟩
        · refine s_167 0 13 73 rfl rfl ?_
          exact s_jmp (v_18_isFaulty_73 l _) trivial
theorem w_18_isFaulty_2 (l : Launch)  (n : Nat) : ∀ a0 a1 H, JV l mi_18_isFaulty jeI 2 [(0, .ref a0), (1, .int a1)] [] H (F_18_isFaulty_2  n a0 a1 H) := by
  induction n with
  | zero => intro _ _ _; exact s_none
  | succ n ih => intro a0 a1 H; exact v_18_isFaulty_2 l (F_18_isFaulty_2  n) ih a0 a1 H
theorem v_18_isFaulty (l : Launch) (a0 : Nat) (H : jH) : JV l mi_18_isFaulty jeI 0 [(0, .ref a0)] [] H (F_18_isFaulty a0 H) := by
  unfold F_18_isFaulty
  refine s_3 1 rfl ?_
  refine s_60 2 rfl rfl ?_
  exact s_jmp (w_18_isFaulty_2 l jfuel _ _ _) ⟨rfl, rfl, trivial⟩
theorem m_18_isFaulty (l : Launch) (a0 : Nat) (H : jH) : JMet l y_18_isFaulty prog_14_method_36_code mi_18_isFaulty jeI [.ref a0] H (F_18_isFaulty a0 H) := jmet_of n_18_isFaulty (by decide) ⟨rfl, rfl⟩ (Nat.le_of_ble_eq_true rfl) (v_18_isFaulty l a0 H)
def mi_16_median : jM := (5453396810532361200221790768397862003797434603960942358861590172031698323661225812665759530984569791475647098751416317780278905857912711254318125134548125325891002837505138096276443033166827578106170869895298365951158231964807511686764762590756265009907500295002922, 110, 5, "CoinNodeModel$Tree", some FieldType.long, "median", 1, 21)
def y_16_median : MethodName := ⟨"CoinNodeModel$Tree", "median", "(I)J"⟩
theorem n_16_median : jn_is prog_20_method_18_code mi_16_median.1 mi_16_median.2.1 := by unfold jn_is; decide +kernel
theorem k_16_median : jmok y_16_median prog_20_method_18_code mi_16_median 1 := ⟨jw_2350, jw_19, ⟨by decide, by decide⟩, by decide +kernel⟩
theorem v_16_median_75 (l : Launch) (k16 : Nat → Int32 → Int32 → jH → Option (Int64 × jH)) (hk16 : ∀ a0 a2 a3 H, JV l mi_16_median jeL 16 [(0, .ref a0), (2, .int a2), (3, .int a3)] [] H (k16 a0 a2 a3 H)) (a0 : Nat) (a2 : Int32) (a3 : Int32) (a4 : Int32) (H : jH) : JV l mi_16_median jeL 75 [(0, .ref a0), (2, .int a2), (3, .int a3), (4, .int a4)] [] H (B_16_median_75 k16 a0 a2 a3 a4 H) := by
  unfold B_16_median_75
  refine s_42 76 rfl rfl ?_
  refine s_180R 0 39 79 39 f_16_11 jw_1482 rfl rfl ?_
  refine s_21 4 81 rfl rfl ?_
  refine s_42 82 rfl rfl ?_
  refine s_180R 0 16 85 16 f_16_4 jw_1475 rfl rfl ?_
  refine s_29 86 rfl rfl ?_
  refine s_47 87 rfl ?_
  refine s_80 88 rfl (fun h1 => ?_)
  refine s_132L 2 1 91 1 ji_1 rfl rfl rfl (fun x2 => ?_)
  refine s_42 92 rfl rfl ?_
  refine s_180R 0 7 95 7 f_16_2 jw_1473 rfl rfl ?_
  refine s_29 96 rfl rfl ?_
  refine s_46 97 rfl ?_
  refine s_62L 98 rfl rfl (fun x3 => ?_)
  refine s_167 255 174 16 rfl rfl ?_
  exact s_jmp (hk16 _ _ _ _) ⟨rfl, rfl, rfl, trivial⟩
theorem v_16_median_29 (l : Launch) (k16 : Nat → Int32 → Int32 → jH → Option (Int64 × jH)) (hk16 : ∀ a0 a2 a3 H, JV l mi_16_median jeL 16 [(0, .ref a0), (2, .int a2), (3, .int a3)] [] H (k16 a0 a2 a3 H)) (k29 : Nat → Int32 → Int32 → Int32 → jH → Option (Int64 × jH)) (hk29 : ∀ a0 a2 a3 a4 H, JV l mi_16_median jeL 29 [(0, .ref a0), (2, .int a2), (3, .int a3), (4, .int a4)] [] H (k29 a0 a2 a3 a4 H)) (a0 : Nat) (a2 : Int32) (a3 : Int32) (a4 : Int32) (H : jH) : JV l mi_16_median jeL 29 [(0, .ref a0), (2, .int a2), (3, .int a3), (4, .int a4)] [] H (B_16_median_29 k16 k29 a0 a2 a3 a4 H) := by
  unfold B_16_median_29
  refine s_21 4 31 rfl rfl ?_
  refine s_158 0 44 75 34 rfl rfl ?_ ?_
  · exact s_jmp (v_16_median_75 l k16 hk16 _ _ _ _ _) ⟨rfl, rfl, rfl, rfl, trivial⟩
  · refine s_42 35 rfl rfl ?_
    refine s_180R 0 39 38 39 f_16_11 jw_1482 rfl rfl ?_
    refine s_21 4 40 rfl rfl ?_
    refine s_4 41 rfl ?_
    refine s_100 42 rfl ?_
    refine s_47 43 rfl ?_
    refine s_42 44 rfl rfl ?_
    refine s_180R 0 16 47 16 f_16_4 jw_1475 rfl rfl ?_
    refine s_29 48 rfl rfl ?_
    refine s_47 49 rfl ?_
    refine s_148_158 0 25 75 50 53 rfl rfl rfl ?_ ?_
    · exact s_jmp (v_16_median_75 l k16 hk16 _ _ _ _ _) ⟨rfl, rfl, rfl, rfl, trivial⟩
    · refine s_42 54 rfl rfl ?_
      refine s_180R 0 39 57 39 f_16_11 jw_1482 rfl rfl ?_
      refine s_21 4 59 rfl rfl ?_
      refine s_42 60 rfl rfl ?_
      refine s_180R 0 39 63 39 f_16_11 jw_1482 rfl rfl ?_
      refine s_21 4 65 rfl rfl ?_
      refine s_4 66 rfl ?_
      refine s_100 67 rfl ?_
      refine s_47 68 rfl ?_
      refine s_80 69 rfl (fun h4 => ?_)
      refine s_132L 4 255 72 (-1) ji_255 rfl rfl rfl (fun x5 => ?_)
      refine s_167 255 213 29 rfl rfl ?_
      exact s_jmp (hk29 _ _ _ _ _) ⟨rfl, rfl, rfl, rfl, trivial⟩
theorem w_16_median_29 (l : Launch) (k16 : Nat → Int32 → Int32 → jH → Option (Int64 × jH)) (hk16 : ∀ a0 a2 a3 H, JV l mi_16_median jeL 16 [(0, .ref a0), (2, .int a2), (3, .int a3)] [] H (k16 a0 a2 a3 H)) (n : Nat) : ∀ a0 a2 a3 a4 H, JV l mi_16_median jeL 29 [(0, .ref a0), (2, .int a2), (3, .int a3), (4, .int a4)] [] H (F_16_median_29 k16 n a0 a2 a3 a4 H) := by
  induction n with
  | zero => intro _ _ _ _ _; exact s_none
  | succ n ih => intro a0 a2 a3 a4 H; exact v_16_median_29 l k16 hk16 (F_16_median_29 k16 n) ih a0 a2 a3 a4 H
theorem v_16_median_101 (l : Launch)  (a0 : Nat) (a2 : Int32) (H : jH) : JV l mi_16_median jeL 101 [(0, .ref a0), (2, .int a2)] [] H (B_16_median_101  a0 a2 H) := by
  unfold B_16_median_101
  refine s_42 102 rfl rfl ?_
  refine s_180R 0 39 105 39 f_16_11 jw_1482 rfl rfl ?_
  refine s_28 106 rfl rfl ?_
  refine s_5 107 rfl ?_
  refine s_108 108 rfl ?_
  refine s_47 109 rfl ?_
  exact s_173 rfl rfl
theorem v_16_median_16 (l : Launch) (k16 : Nat → Int32 → Int32 → jH → Option (Int64 × jH)) (hk16 : ∀ a0 a2 a3 H, JV l mi_16_median jeL 16 [(0, .ref a0), (2, .int a2), (3, .int a3)] [] H (k16 a0 a2 a3 H)) (a0 : Nat) (a2 : Int32) (a3 : Int32) (H : jH) : JV l mi_16_median jeL 16 [(0, .ref a0), (2, .int a2), (3, .int a3)] [] H (B_16_median_16 k16 a0 a2 a3 H) := by
  unfold B_16_median_16
  refine s_29 17 rfl rfl ?_
  refine s_155 0 84 101 20 rfl rfl ?_ ?_
  · exact s_jmp (v_16_median_101 l _ _ _) ⟨rfl, rfl, trivial⟩
  · refine s_28 21 rfl rfl ?_
    refine s_16 11 23 11 jbp_11 rfl ?_
    refine s_162 0 78 101 26 rfl rfl ?_ ?_
    · exact s_jmp (v_16_median_101 l _ _ _) ⟨rfl, rfl, trivial⟩
    · refine s_28 27 rfl rfl ?_
      refine s_54 4 29 rfl rfl ?_
      exact s_jmp (w_16_median_29 l k16 hk16 jfuel _ _ _ _ _) ⟨rfl, rfl, rfl, rfl, trivial⟩
theorem w_16_median_16 (l : Launch)  (n : Nat) : ∀ a0 a2 a3 H, JV l mi_16_median jeL 16 [(0, .ref a0), (2, .int a2), (3, .int a3)] [] H (F_16_median_16  n a0 a2 a3 H) := by
  induction n with
  | zero => intro _ _ _ _; exact s_none
  | succ n ih => intro a0 a2 a3 H; exact v_16_median_16 l (F_16_median_16  n) ih a0 a2 a3 H
theorem v_16_median (l : Launch) (a0 : Nat) (a1 : Int32) (H : jH) : JV l mi_16_median jeL 0 [(0, .ref a0), (1, .int a1)] [] H (F_16_median a0 a1 H) := by
  unfold F_16_median
  refine s_42 1 rfl rfl ?_
  refine s_27 2 rfl rfl ?_
  refine s_182I 0 102 5 102 (m_16_isBlock l _ _ _) rfl k_16_isBlock jc_16 jw_1829 jw_1831 jps_59 rfl rfl rfl rfl rfl (fun x6 h7 => ?_)
  refine s_154 0 7 12 8 rfl rfl ?_ ?_
  · refine s_3 13 rfl ?_
    refine s_61 14 rfl rfl ?_
    refine s_27 15 rfl rfl ?_
    refine s_62 16 rfl rfl ?_
    exact s_jmp (w_16_median_16 l jfuel _ _ _ _) ⟨rfl, rfl, rfl, trivial⟩
  · refine s_20 0 106 11 106 (-1) rfl jw_1833 rfl ?_
    exact s_173 rfl rfl
theorem m_16_median (l : Launch) (a0 : Nat) (a1 : Int32) (H : jH) : JMet l y_16_median prog_20_method_18_code mi_16_median jeL [.ref a0, .int a1] H (F_16_median a0 a1 H) := jmet_of n_16_median (by decide) ⟨rfl, rfl⟩ (Nat.le_of_ble_eq_true rfl) (v_16_median l a0 a1 H)
def mi_16_bytes : jM := (77847129826343605630601805895511949708069083477601798953341637666667965398019, 32, 3, "CoinNodeModel$Tree", some FieldType.int, "bytes", 0, 0)
def y_16_bytes : MethodName := ⟨"CoinNodeModel$Tree", "bytes", "([I)I"⟩
theorem n_16_bytes : jn_is prog_20_method_5_code mi_16_bytes.1 mi_16_bytes.2.1 := by unfold jn_is; decide +kernel
theorem k_16_bytes : jmok y_16_bytes prog_20_method_5_code mi_16_bytes 1 := ⟨jw_2345, jw_19, ⟨by decide, by decide⟩, by decide +kernel⟩
theorem v_16_bytes_23 (l : Launch) (k4 : Nat → Int32 → Int32 → jH → Option (Int32 × jH)) (hk4 : ∀ a0 a1 a2 H, JV l mi_16_bytes jeI 4 [(0, .ref a0), (1, .int a1), (2, .int a2)] [] H (k4 a0 a1 a2 H)) (a0 : Nat) (a2 : Int32) (s0 : Int32) (H : jH) : JV l mi_16_bytes jeI 23 [(0, .ref a0), (2, .int a2)] [.int s0] H (B_16_bytes_23 k4 a0 a2 s0 H) := by
  unfold B_16_bytes_23
  refine s_60 24 rfl rfl ?_
  refine s_132L 2 1 27 1 ji_1 rfl rfl rfl (fun x1 => ?_)
  refine s_167 255 233 4 rfl rfl ?_
  exact s_jmp (hk4 _ _ _ _) ⟨rfl, rfl, rfl, trivial⟩
theorem v_16_bytes_4 (l : Launch) (k4 : Nat → Int32 → Int32 → jH → Option (Int32 × jH)) (hk4 : ∀ a0 a1 a2 H, JV l mi_16_bytes jeI 4 [(0, .ref a0), (1, .int a1), (2, .int a2)] [] H (k4 a0 a1 a2 H)) (a0 : Nat) (a1 : Int32) (a2 : Int32) (H : jH) : JV l mi_16_bytes jeI 4 [(0, .ref a0), (1, .int a1), (2, .int a2)] [] H (B_16_bytes_4 k4 a0 a1 a2 H) := by
  unfold B_16_bytes_4
  refine s_28 5 rfl rfl ?_
  refine s_16 40 7 40 jbp_40 rfl ?_
  refine s_162 0 23 30 10 rfl rfl ?_ ?_
  · refine s_27 31 rfl rfl ?_
    exact s_172 rfl rfl
  · refine s_42 11 rfl rfl ?_
    refine s_28 12 rfl rfl ?_
    refine s_46 13 rfl ?_
    refine s_158 0 9 22 16 rfl rfl ?_ ?_
    · refine s_27 23 rfl rfl ?_
      exact s_jmp (v_16_bytes_23 l k4 hk4 _ _ _ _) ⟨rfl, rfl, trivial⟩
    · refine s_28 17 rfl rfl ?_
      refine s_4 18 rfl ?_
      refine s_96 19 rfl ?_
      refine s_167 0 4 23 rfl rfl ?_
      exact s_jmp (v_16_bytes_23 l k4 hk4 _ _ _ _) ⟨rfl, rfl, trivial⟩
theorem w_16_bytes_4 (l : Launch)  (n : Nat) : ∀ a0 a1 a2 H, JV l mi_16_bytes jeI 4 [(0, .ref a0), (1, .int a1), (2, .int a2)] [] H (F_16_bytes_4  n a0 a1 a2 H) := by
  induction n with
  | zero => intro _ _ _ _; exact s_none
  | succ n ih => intro a0 a1 a2 H; exact v_16_bytes_4 l (F_16_bytes_4  n) ih a0 a1 a2 H
theorem v_16_bytes (l : Launch) (a0 : Nat) (H : jH) : JV l mi_16_bytes jeI 0 [(0, .ref a0)] [] H (F_16_bytes a0 H) := by
  unfold F_16_bytes
  refine s_3 1 rfl ?_
  refine s_60 2 rfl rfl ?_
  refine s_3 3 rfl ?_
  refine s_61 4 rfl rfl ?_
  exact s_jmp (w_16_bytes_4 l jfuel _ _ _ _) ⟨rfl, rfl, rfl, trivial⟩
theorem m_16_bytes (l : Launch) (a0 : Nat) (H : jH) : JMet l y_16_bytes prog_20_method_5_code mi_16_bytes jeI [.ref a0] H (F_16_bytes a0 H) := jmet_of n_16_bytes (by decide) ⟨rfl, rfl⟩ (Nat.le_of_ble_eq_true rfl) (v_16_bytes l a0 H)
def mi_16_compactOf : jM := (956300489632223118659714550009015151278677247480613058534732848412313823871604054719149545746325030449937618681041016483903347757805762373359662072359573306113450781857864488953145015362715038664235828124614588102653994, 91, 5, "CoinNodeModel$Tree", some FieldType.long, "compactOf", 1, 22)
def y_16_compactOf : MethodName := ⟨"CoinNodeModel$Tree", "compactOf", "([I)J"⟩
theorem n_16_compactOf : jn_is prog_20_method_9_code mi_16_compactOf.1 mi_16_compactOf.2.1 := by unfold jn_is; decide +kernel
theorem k_16_compactOf : jmok y_16_compactOf prog_20_method_9_code mi_16_compactOf 1 := ⟨jw_2342, jw_19, ⟨by decide, by decide⟩, by decide +kernel⟩
theorem v_16_compactOf_38 (l : Launch) (k10 : Nat → Int32 → Int64 → Int32 → jH → Option (Int64 × jH)) (hk10 : ∀ a0 a1 a2 a4 H, JV l mi_16_compactOf jeL 10 [(0, .ref a0), (1, .int a1), (2, .long a2), (4, .int a4)] [] H (k10 a0 a1 a2 a4 H)) (a0 : Nat) (a1 : Int32) (a4 : Int32) (s0 : Int64) (s1 : Int32) (H : jH) : JV l mi_16_compactOf jeL 38 [(0, .ref a0), (1, .int a1), (4, .int a4)] [.int s1, .long s0] H (B_16_compactOf_38 k10 a0 a1 a4 s0 s1 H) := by
  unfold B_16_compactOf_38
  refine s_133 39 rfl ?_
  refine s_97 40 rfl ?_
  refine s_65L 41 rfl rfl (fun x1 => ?_)
  refine s_132L 4 1 44 1 ji_1 rfl rfl rfl (fun x2 => ?_)
  refine s_167 255 222 10 rfl rfl ?_
  exact s_jmp (hk10 _ _ _ _ _) ⟨rfl, rfl, rfl, rfl, trivial⟩
theorem v_16_compactOf_90 (l : Launch)  (s0 : Int64) (H : jH) : JV l mi_16_compactOf jeL 90 [] [.long s0] H (B_16_compactOf_90  s0 H) := by
  unfold B_16_compactOf_90
  exact s_173 rfl rfl
theorem v_16_compactOf_60 (l : Launch)  (a1 : Int32) (a2 : Int64) (s0 : Int32) (H : jH) : JV l mi_16_compactOf jeL 60 [(1, .int a1), (2, .long a2)] [.int s0] H (B_16_compactOf_60  a1 a2 s0 H) := by
  unfold B_16_compactOf_60
  refine s_54 4 62 rfl rfl ?_
  refine s_21 4 64 rfl rfl ?_
  refine s_153 0 19 83 67 rfl rfl ?_ ?_
  · refine s_27 84 rfl rfl ?_
    refine s_133 85 rfl ?_
    refine s_16 24 87 24 jbp_24 rfl ?_
    refine s_121 88 rfl ?_
    refine s_32 89 rfl rfl ?_
    refine s_97 90 rfl ?_
    exact s_jmp (v_16_compactOf_90 l _ _) trivial
  · refine s_27 68 rfl rfl ?_
    refine s_133 69 rfl ?_
    refine s_10 70 rfl ?_
    refine s_97 71 rfl ?_
    refine s_16 24 73 24 jbp_24 rfl ?_
    refine s_121 74 rfl ?_
    refine s_32 75 rfl rfl ?_
    refine s_20 0 76 78 76 256 rfl jw_2339 rfl ?_
    refine s_109 79 rfl ?_
    refine s_97 80 rfl ?_
    refine s_167 0 10 90 rfl rfl ?_
    exact s_jmp (v_16_compactOf_90 l _ _) trivial
theorem v_16_compactOf_10 (l : Launch) (k10 : Nat → Int32 → Int64 → Int32 → jH → Option (Int64 × jH)) (hk10 : ∀ a0 a1 a2 a4 H, JV l mi_16_compactOf jeL 10 [(0, .ref a0), (1, .int a1), (2, .long a2), (4, .int a4)] [] H (k10 a0 a1 a2 a4 H)) (a0 : Nat) (a1 : Int32) (a2 : Int64) (a4 : Int32) (H : jH) : JV l mi_16_compactOf jeL 10 [(0, .ref a0), (1, .int a1), (2, .long a2), (4, .int a4)] [] H (B_16_compactOf_10 k10 a0 a1 a2 a4 H) := by
  unfold B_16_compactOf_10
  refine s_21 4 12 rfl rfl ?_
  refine s_6 13 rfl ?_
  refine s_163 0 34 47 16 rfl rfl ?_ ?_
  · refine s_32 48 rfl rfl ?_
    refine s_20 0 82 51 82 8388608 rfl jw_2346 rfl ?_
    refine s_148_155 0 7 59 52 55 rfl rfl rfl ?_ ?_
    · refine s_3 60 rfl ?_
      exact s_jmp (v_16_compactOf_60 l _ _ _ _) ⟨rfl, rfl, trivial⟩
    · refine s_4 56 rfl ?_
      refine s_167 0 4 60 rfl rfl ?_
      exact s_jmp (v_16_compactOf_60 l _ _ _ _) ⟨rfl, rfl, trivial⟩
  · refine s_32 17 rfl rfl ?_
    refine s_20 0 76 20 76 256 rfl jw_2339 rfl ?_
    refine s_105 21 rfl ?_
    refine s_27 22 rfl rfl ?_
    refine s_21 4 24 rfl rfl ?_
    refine s_100 25 rfl ?_
    refine s_155 0 12 37 28 rfl rfl ?_ ?_
    · refine s_3 38 rfl ?_
      exact s_jmp (v_16_compactOf_38 l k10 hk10 _ _ _ _ _ _) ⟨rfl, rfl, rfl, trivial⟩
    · refine s_42 29 rfl rfl ?_
      refine s_27 30 rfl rfl ?_
      refine s_21 4 32 rfl rfl ?_
      refine s_100 33 rfl ?_
      refine s_46 34 rfl ?_
      refine s_167 0 4 38 rfl rfl ?_
      exact s_jmp (v_16_compactOf_38 l k10 hk10 _ _ _ _ _ _) ⟨rfl, rfl, rfl, trivial⟩
theorem w_16_compactOf_10 (l : Launch)  (n : Nat) : ∀ a0 a1 a2 a4 H, JV l mi_16_compactOf jeL 10 [(0, .ref a0), (1, .int a1), (2, .long a2), (4, .int a4)] [] H (F_16_compactOf_10  n a0 a1 a2 a4 H) := by
  induction n with
  | zero => intro _ _ _ _ _; exact s_none
  | succ n ih => intro a0 a1 a2 a4 H; exact v_16_compactOf_10 l (F_16_compactOf_10  n) ih a0 a1 a2 a4 H
theorem v_16_compactOf (l : Launch) (a0 : Nat) (H : jH) : JV l mi_16_compactOf jeL 0 [(0, .ref a0)] [] H (F_16_compactOf a0 H) := by
  unfold F_16_compactOf
  refine s_42 1 rfl rfl ?_
  refine s_184I 0 78 4 78 (m_16_bytes l _ _) rfl k_16_bytes jw_2343 jw_2344 rfl rfl rfl rfl rfl (fun x3 h4 => ?_)
  refine s_60 5 rfl rfl ?_
  refine s_9 6 rfl ?_
  refine s_65 7 rfl rfl ?_
  refine s_4 8 rfl ?_
  refine s_54 4 10 rfl rfl ?_
  exact s_jmp (w_16_compactOf_10 l jfuel _ _ _ _ _) ⟨rfl, rfl, rfl, rfl, trivial⟩
theorem m_16_compactOf (l : Launch) (a0 : Nat) (H : jH) : JMet l y_16_compactOf prog_20_method_9_code mi_16_compactOf jeL [.ref a0] H (F_16_compactOf a0 H) := jmet_of n_16_compactOf (by decide) ⟨rfl, rfl⟩ (Nat.le_of_ble_eq_true rfl) (v_16_compactOf l a0 H)
def mi_16_scale : jM := (5599841502279069758376992438628774517019993157722571551861175168185605772767699025211075720792322249177589388812616390292683927909382216443912884740718329693417714920308750153108502962128998660663827725238404569809214555223874726946764152049694888214340511641974537, 110, 12, "CoinNodeModel$Tree", none, "scale", 0, 0)
def y_16_scale : MethodName := ⟨"CoinNodeModel$Tree", "scale", "(JJ)V"⟩
theorem n_16_scale : jn_is prog_20_method_8_code mi_16_scale.1 mi_16_scale.2.1 := by unfold jn_is; decide +kernel
theorem k_16_scale : jmok y_16_scale prog_20_method_8_code mi_16_scale 2 := ⟨jw_2338, jw_19, ⟨by decide, by decide⟩, by decide +kernel⟩
theorem v_16_scale_63 (l : Launch) (k63 : Nat → Int64 → Int64 → Int32 → jH → Option (Unit × jH)) (hk63 : ∀ a0 a3 a7 a9 H, JV l mi_16_scale jeV 63 [(0, .ref a0), (3, .long a3), (7, .long a7), (9, .int a9)] [] H (k63 a0 a3 a7 a9 H)) (a0 : Nat) (a3 : Int64) (a7 : Int64) (a9 : Int32) (H : jH) : JV l mi_16_scale jeV 63 [(0, .ref a0), (3, .long a3), (7, .long a7), (9, .int a9)] [] H (B_16_scale_63 k63 a0 a3 a7 a9 H) := by
  unfold B_16_scale_63
  refine s_21 9 65 rfl rfl ?_
  refine s_155 0 44 109 68 rfl rfl ?_ ?_
  · exact s_177 rfl rfl
  · refine s_22 7 70 rfl rfl ?_
    refine s_20 0 76 73 76 256 rfl jw_2339 rfl ?_
    refine s_105 74 rfl ?_
    refine s_42 75 rfl rfl ?_
    refine s_180R 0 30 78 30 f_16_8 jw_1479 rfl rfl ?_
    refine s_21 9 80 rfl rfl ?_
    refine s_46 81 rfl ?_
    refine s_133 82 rfl ?_
    refine s_97 83 rfl ?_
    refine s_55L 10 85 rfl rfl (fun x1 => ?_)
    refine s_42 86 rfl rfl ?_
    refine s_180R 0 30 89 30 f_16_8 jw_1479 rfl rfl ?_
    refine s_21 9 91 rfl rfl ?_
    refine s_22 10 93 rfl rfl ?_
    refine s_33 94 rfl rfl ?_
    refine s_109 95 rfl ?_
    refine s_136 96 rfl ?_
    refine s_79 97 rfl (fun h2 => ?_)
    refine s_22 10 99 rfl rfl ?_
    refine s_33 100 rfl rfl ?_
    refine s_113 101 rfl ?_
    refine s_jmp (ls' := [(0, .ref a0), (3, .long a3), (7, .long a7), (9, .int a9), (10, .long x1)]) ?_ ⟨rfl, rfl, rfl, rfl, rfl, trivial⟩
    refine s_55L 7 103 rfl rfl (fun x3 => ?_)
    refine s_132L 9 255 106 (-1) ji_255 rfl rfl rfl (fun x4 => ?_)
    refine s_167 255 213 63 rfl rfl ?_
    exact s_jmp (hk63 _ _ _ _ _) ⟨rfl, rfl, rfl, rfl, trivial⟩
theorem w_16_scale_63 (l : Launch)  (n : Nat) : ∀ a0 a3 a7 a9 H, JV l mi_16_scale jeV 63 [(0, .ref a0), (3, .long a3), (7, .long a7), (9, .int a9)] [] H (F_16_scale_63  n a0 a3 a7 a9 H) := by
  induction n with
  | zero => intro _ _ _ _ _; exact s_none
  | succ n ih => intro a0 a3 a7 a9 H; exact v_16_scale_63 l (F_16_scale_63  n) ih a0 a3 a7 a9 H
theorem v_16_scale_6 (l : Launch) (k6 : Nat → Int64 → Int64 → Int64 → Int32 → jH → Option (Unit × jH)) (hk6 : ∀ a0 a1 a3 a5 a7 H, JV l mi_16_scale jeV 6 [(0, .ref a0), (1, .long a1), (3, .long a3), (5, .long a5), (7, .int a7)] [] H (k6 a0 a1 a3 a5 a7 H)) (a0 : Nat) (a1 : Int64) (a3 : Int64) (a5 : Int64) (a7 : Int32) (H : jH) : JV l mi_16_scale jeV 6 [(0, .ref a0), (1, .long a1), (3, .long a3), (5, .long a5), (7, .int a7)] [] H (B_16_scale_6 k6 a0 a1 a3 a5 a7 H) := by
  unfold B_16_scale_6
  refine s_21 7 8 rfl rfl ?_
  refine s_16 40 10 40 jbp_40 rfl ?_
  refine s_162 0 46 56 13 rfl rfl ?_ ?_
  · refine s_9 57 rfl ?_
    refine s_jmp (ls' := [(0, .ref a0), (1, .long a1), (3, .long a3), (5, .long a5), (7, .int a7)]) ?_ ⟨rfl, rfl, rfl, rfl, rfl, trivial⟩
    refine s_55 7 59 rfl rfl ?_
    refine s_16 39 61 39 jbp_39 rfl ?_
    refine s_jmp (ls' := [(0, .ref a0), (1, .long a1), (3, .long a3), (5, .long a5), (7, .long 0)]) ?_ ⟨rfl, rfl, rfl, rfl, rfl, trivial⟩
    refine s_54 9 63 rfl rfl ?_
    exact s_jmp (w_16_scale_63 l jfuel _ _ _ _ _) ⟨rfl, rfl, rfl, rfl, trivial⟩
  · refine s_42 14 rfl rfl ?_
    refine s_180R 0 30 17 30 f_16_8 jw_1479 rfl rfl ?_
    refine s_21 7 19 rfl rfl ?_
    refine s_46 20 rfl ?_
    refine s_133 21 rfl ?_
    refine s_31 22 rfl rfl ?_
    refine s_105 23 rfl ?_
    refine s_22 5 25 rfl rfl ?_
    refine s_97 26 rfl ?_
    refine s_jmp (ls' := [(0, .ref a0), (1, .long a1), (3, .long a3), (5, .long a5), (7, .int a7)]) ?_ ⟨rfl, rfl, rfl, rfl, rfl, trivial⟩
    refine s_55L 8 28 rfl rfl (fun x5 => ?_)
    refine s_42 29 rfl rfl ?_
    refine s_180R 0 30 32 30 f_16_8 jw_1479 rfl rfl ?_
    refine s_21 7 34 rfl rfl ?_
    refine s_22 8 36 rfl rfl ?_
    refine s_20 0 76 39 76 256 rfl jw_2339 rfl ?_
    refine s_113 40 rfl ?_
    refine s_136 41 rfl ?_
    refine s_79 42 rfl (fun h6 => ?_)
    refine s_22 8 44 rfl rfl ?_
    refine s_20 0 76 47 76 256 rfl jw_2339 rfl ?_
    refine s_109 48 rfl ?_
    refine s_55L 5 50 rfl rfl (fun x7 => ?_)
    refine s_132L 7 1 53 1 ji_1 rfl rfl rfl (fun x8 => ?_)
    refine s_167 255 209 6 rfl rfl ?_
    exact s_jmp (hk6 _ _ _ _ _ _) ⟨rfl, rfl, rfl, rfl, rfl, trivial⟩
theorem w_16_scale_6 (l : Launch)  (n : Nat) : ∀ a0 a1 a3 a5 a7 H, JV l mi_16_scale jeV 6 [(0, .ref a0), (1, .long a1), (3, .long a3), (5, .long a5), (7, .int a7)] [] H (F_16_scale_6  n a0 a1 a3 a5 a7 H) := by
  induction n with
  | zero => intro _ _ _ _ _ _; exact s_none
  | succ n ih => intro a0 a1 a3 a5 a7 H; exact v_16_scale_6 l (F_16_scale_6  n) ih a0 a1 a3 a5 a7 H
theorem v_16_scale (l : Launch) (a0 : Nat) (a1 : Int64) (a3 : Int64) (H : jH) : JV l mi_16_scale jeV 0 [(0, .ref a0), (1, .long a1), (3, .long a3)] [] H (F_16_scale a0 a1 a3 H) := by
  unfold F_16_scale
  refine s_9 1 rfl ?_
  refine s_55 5 3 rfl rfl ?_
  refine s_3 4 rfl ?_
  refine s_54 7 6 rfl rfl ?_
  exact s_jmp (w_16_scale_6 l jfuel _ _ _ _ _ _) ⟨rfl, rfl, rfl, rfl, rfl, trivial⟩
theorem m_16_scale (l : Launch) (a0 : Nat) (a1 : Int64) (a3 : Int64) (H : jH) : JMet l y_16_scale prog_20_method_8_code mi_16_scale jeV [.ref a0, .long a1, .long a3] H (F_16_scale a0 a1 a3 H) := jmet_of n_16_scale (by decide) ⟨rfl, rfl⟩ (Nat.le_of_ble_eq_true rfl) (v_16_scale l a0 a1 a3 H)
def mi_16_must : jM := (195650426246356135228778107754396142302500327396898196457832227630523410457947254876004203643119208815578003390673995998522633565811582353312823289334116767099631813210884335362804870630081702615189371214126711564684920627185909654826808987473290384433836191715384994835928301513435737270251797275436300212487276495701503749630723093197326684753602257514764661641583402, 153, 4, "CoinNodeModel$Tree", some FieldType.long, "must", 2, 48)
def y_16_must : MethodName := ⟨"CoinNodeModel$Tree", "must", "(I)J"⟩
theorem n_16_must : jn_is prog_20_method_17_code mi_16_must.1 mi_16_must.2.1 := by unfold jn_is; decide +kernel
theorem k_16_must : jmok y_16_must prog_20_method_17_code mi_16_must 1 := ⟨jw_2330, jw_19, ⟨by decide, by decide⟩, by decide +kernel⟩
theorem v_16_must_152 (l : Launch)  (s0 : Int64) (H : jH) : JV l mi_16_must jeL 152 [] [.long s0] H (B_16_must_152  s0 H) := by
  unfold B_16_must_152
  exact s_173 rfl rfl
theorem v_16_must_89 (l : Launch)  (a0 : Nat) (a1 : Int32) (s0 : Int64) (H : jH) : JV l mi_16_must jeL 89 [(0, .ref a0), (1, .int a1)] [.long s0] H (B_16_must_89  a0 a1 s0 H) := by
  unfold B_16_must_89
  refine s_65 90 rfl rfl ?_
  refine s_42 91 rfl rfl ?_
  refine s_180R 0 20 94 20 f_16_5 jw_1476 rfl rfl ?_
  refine s_27 95 rfl rfl ?_
  refine s_47 96 rfl ?_
  refine s_42 97 rfl rfl ?_
  refine s_180R 0 30 100 30 f_16_8 jw_1479 rfl rfl ?_
  refine s_184V 0 57 103 57 (m_16_open l _ _ _) rfl k_16_open jw_1456 jw_1457 rfl rfl rfl rfl rfl (fun x1 h2 => ?_)
  refine s_42 104 rfl rfl ?_
  refine s_32 105 rfl rfl ?_
  refine s_20 0 116 108 116 4800 rfl jw_2334 rfl ?_
  refine s_182V 0 118 111 118 (m_16_scale l _ _ _ _) rfl k_16_scale jc_16 jw_2335 jw_2337 jps_147 rfl rfl rfl rfl rfl (fun x3 h4 => ?_)
  refine s_20 0 48 114 48 545259519 rfl jw_1451 rfl ?_
  refine s_42 115 rfl rfl ?_
  refine s_180R 0 33 118 33 f_16_9 jw_1480 rfl rfl ?_
  refine s_184V 0 57 121 57 (m_16_open l _ _ _) rfl k_16_open jw_1456 jw_1457 rfl rfl rfl rfl rfl (fun x5 h6 => ?_)
  refine s_42 122 rfl rfl ?_
  refine s_180R 0 30 125 30 f_16_8 jw_1479 rfl rfl ?_
  refine s_42 126 rfl rfl ?_
  refine s_180R 0 33 129 33 f_16_9 jw_1480 rfl rfl ?_
  refine s_184I 0 72 132 72 (m_16_compareRows l _ _ _) rfl k_16_compareRows jw_1468 jw_1469 rfl rfl rfl rfl rfl (fun x7 h8 => ?_)
  refine s_158 0 13 145 135 rfl rfl ?_ ?_
  · refine s_42 146 rfl rfl ?_
    refine s_180R 0 30 149 30 f_16_8 jw_1479 rfl rfl ?_
    refine s_184L 0 98 152 98 (m_16_compactOf l _ _) rfl k_16_compactOf jw_2340 jw_2341 rfl rfl rfl rfl rfl (fun x9 h10 => ?_)
    exact s_jmp (v_16_must_152 l _ _) trivial
  · refine s_42 136 rfl rfl ?_
    refine s_180R 0 33 139 33 f_16_9 jw_1480 rfl rfl ?_
    refine s_184L 0 98 142 98 (m_16_compactOf l _ _) rfl k_16_compactOf jw_2340 jw_2341 rfl rfl rfl rfl rfl (fun x11 h12 => ?_)
    refine s_167 0 10 152 rfl rfl ?_
    exact s_jmp (v_16_must_152 l _ _) trivial
theorem v_16_must (l : Launch) (a0 : Nat) (a1 : Int32) (H : jH) : JV l mi_16_must jeL 0 [(0, .ref a0), (1, .int a1)] [] H (F_16_must a0 a1 H) := by
  unfold F_16_must
  refine s_42 1 rfl rfl ?_
  refine s_27 2 rfl rfl ?_
  refine s_182I 0 102 5 102 (m_16_isBlock l _ _ _) rfl k_16_isBlock jc_16 jw_1829 jw_1831 jps_59 rfl rfl rfl rfl rfl (fun x13 h14 => ?_)
  refine s_154 0 7 12 8 rfl rfl ?_ ?_
  · refine s_42 13 rfl rfl ?_
    refine s_180R 0 13 16 13 f_16_3 jw_1474 rfl rfl ?_
    refine s_27 17 rfl rfl ?_
    refine s_46 18 rfl ?_
    refine s_4 19 rfl ?_
    refine s_96 20 rfl ?_
    refine s_16 8 22 8 jbp_8 rfl ?_
    refine s_112 23 rfl ?_
    refine s_153 0 10 33 26 rfl rfl ?_ ?_
    · refine s_42 34 rfl rfl ?_
      refine s_180R 0 16 37 16 f_16_4 jw_1475 rfl rfl ?_
      refine s_27 38 rfl rfl ?_
      refine s_47 39 rfl ?_
      refine s_42 40 rfl rfl ?_
      refine s_180R 0 16 43 16 f_16_4 jw_1475 rfl rfl ?_
      refine s_42 44 rfl rfl ?_
      refine s_27 45 rfl rfl ?_
      refine s_42 46 rfl rfl ?_
      refine s_180R 0 13 49 13 f_16_3 jw_1474 rfl rfl ?_
      refine s_27 50 rfl rfl ?_
      refine s_46 51 rfl ?_
      refine s_16 7 53 7 jbp_7 rfl ?_
      refine s_100 54 rfl ?_
      refine s_182I 0 108 57 108 (m_16_below l _ _ _ _) rfl k_16_below jc_16 jw_2331 jw_1835 jw_1836 rfl rfl rfl rfl rfl (fun x15 h16 => ?_)
      refine s_47 58 rfl ?_
      refine s_101 59 rfl ?_
      refine s_65L 60 rfl rfl (fun x17 => ?_)
      refine s_32 61 rfl rfl ?_
      refine s_20 0 112 64 112 1200 rfl jw_2332 rfl ?_
      refine s_148_156 0 9 74 65 68 rfl rfl rfl ?_ ?_
      · refine s_32 75 rfl rfl ?_
        refine s_20 0 114 78 114 19200 rfl jw_2333 rfl ?_
        refine s_148_158 0 9 88 79 82 rfl rfl rfl ?_ ?_
        · refine s_32 89 rfl rfl ?_
          exact s_jmp (v_16_must_89 l _ _ _ _) ⟨rfl, rfl, trivial⟩
        · refine s_20 0 114 85 114 19200 rfl jw_2333 rfl ?_
          refine s_167 0 4 89 rfl rfl ?_
          exact s_jmp (v_16_must_89 l _ _ _ _) ⟨rfl, rfl, trivial⟩
      · refine s_20 0 112 71 112 1200 rfl jw_2332 rfl ?_
        refine s_167 0 18 89 rfl rfl ?_
        exact s_jmp (v_16_must_89 l _ _ _ _) ⟨rfl, rfl, trivial⟩
    · refine s_42 27 rfl rfl ?_
      refine s_180R 0 20 30 20 f_16_5 jw_1476 rfl rfl ?_
      refine s_27 31 rfl rfl ?_
      refine s_47 32 rfl ?_
      exact s_173 rfl rfl
  · refine s_20 0 106 11 106 (-1) rfl jw_1833 rfl ?_
    exact s_173 rfl rfl
theorem m_16_must (l : Launch) (a0 : Nat) (a1 : Int32) (H : jH) : JMet l y_16_must prog_20_method_17_code mi_16_must jeL [.ref a0, .int a1] H (F_16_must a0 a1 H) := jmet_of n_16_must (by decide) ⟨rfl, rfl⟩ (Nat.le_of_ble_eq_true rfl) (v_16_must l a0 a1 H)
def mi_16_add : jM := (864790395390970102201439605428943880600094806743803861769151845780133046157351676180579424846505028453762646947970557311769095271492694815692981580881567222702586028595944483868278346230147931151694329944874, 86, 6, "CoinNodeModel$Tree", some FieldType.int, "add", 3, 78)
def y_16_add : MethodName := ⟨"CoinNodeModel$Tree", "add", "(IJJ)I"⟩
theorem n_16_add : jn_is prog_20_method_19_code mi_16_add.1 mi_16_add.2.1 := by unfold jn_is; decide +kernel
theorem k_16_add : jmok y_16_add prog_20_method_19_code mi_16_add 3 := ⟨jw_2387, jw_19, ⟨by decide, by decide⟩, by decide +kernel⟩
theorem v_16_add_54 (l : Launch)   (H : jH) : JV l mi_16_add jeI 54 [] [] H (B_16_add_54   H) := by
  unfold B_16_add_54
  refine s_16 252 56 (-4) jbp_252 rfl ?_
  exact s_172 rfl rfl
theorem v_16_add (l : Launch) (a0 : Nat) (a1 : Int32) (a2 : Int64) (a4 : Int64) (H : jH) : JV l mi_16_add jeI 0 [(0, .ref a0), (1, .int a1), (2, .long a2), (4, .long a4)] [] H (F_16_add a0 a1 a2 a4 H) := by
  unfold F_16_add
  refine s_42 1 rfl rfl ?_
  refine s_27 2 rfl rfl ?_
  refine s_182I 0 102 5 102 (m_16_isBlock l _ _ _) rfl k_16_isBlock jc_16 jw_1829 jw_1831 jps_59 rfl rfl rfl rfl rfl (fun x1 h2 => ?_)
  refine s_154 0 5 10 8 rfl rfl ?_ ?_
  · refine s_42 11 rfl rfl ?_
    refine s_180R 0 23 14 23 f_16_6 jw_1477 rfl rfl ?_
    refine s_27 15 rfl rfl ?_
    refine s_51Z 16 rfl ?_
    refine s_153 0 6 22 19 rfl rfl ?_ ?_
    · refine s_22 4 24 rfl rfl ?_
      refine s_42 25 rfl rfl ?_
      refine s_27 26 rfl rfl ?_
      refine s_182L 0 122 29 122 (m_16_must l _ _ _) rfl k_16_must jc_16 jw_2388 jw_2328 jw_2329 rfl rfl rfl rfl rfl (fun x3 h4 => ?_)
      refine s_148_153 0 6 36 30 33 rfl rfl rfl ?_ ?_
      · refine s_32 37 rfl rfl ?_
        refine s_20 0 46 40 46 4294967295 rfl jw_1450 rfl ?_
        refine s_148_157 0 13 54 41 44 rfl rfl rfl ?_ ?_
        · exact s_jmp (v_16_add_54 l _) trivial
        · refine s_32 45 rfl rfl ?_
          refine s_42 46 rfl rfl ?_
          refine s_27 47 rfl rfl ?_
          refine s_182L 0 126 50 126 (m_16_median l _ _ _) rfl k_16_median jc_16 jw_2389 jw_2348 jw_2349 rfl rfl rfl rfl rfl (fun x5 h6 => ?_)
          refine s_148_157 0 6 57 51 54 rfl rfl rfl ?_ ?_
          · refine s_42 58 rfl rfl ?_
            refine s_180I 0 54 61 54 f_16_1 jw_1472 rfl rfl ?_
            refine s_42 62 rfl rfl ?_
            refine s_180I 0 42 65 42 f_16_0 jw_1471 rfl rfl ?_
            refine s_160 0 6 71 68 rfl rfl ?_ ?_
            · refine s_42 72 rfl rfl ?_
              refine s_27 73 rfl rfl ?_
              refine s_32 74 rfl rfl ?_
              refine s_22 4 76 rfl rfl ?_
              refine s_182V 0 50 79 50 (m_16_join l _ _ _ _ _) rfl k_16_join jc_16 jw_1452 jw_1454 jps_52 rfl rfl rfl rfl rfl (fun x7 h8 => ?_)
              refine s_42 80 rfl rfl ?_
              refine s_180I 0 54 83 54 f_16_1 jw_1472 rfl rfl ?_
              refine s_4 84 rfl ?_
              refine s_100 85 rfl ?_
              exact s_172 rfl rfl
            · refine s_16 251 70 (-5) jbp_251 rfl ?_
              exact s_172 rfl rfl
          · exact s_jmp (v_16_add_54 l _) trivial
      · refine s_16 253 35 (-3) jbp_253 rfl ?_
        exact s_172 rfl rfl
    · refine s_16 254 21 (-2) jbp_254 rfl ?_
      exact s_172 rfl rfl
  · refine s_2 9 rfl ?_
    exact s_172 rfl rfl
theorem m_16_add (l : Launch) (a0 : Nat) (a1 : Int32) (a2 : Int64) (a4 : Int64) (H : jH) : JMet l y_16_add prog_20_method_19_code mi_16_add jeI [.ref a0, .int a1, .long a2, .long a4] H (F_16_add a0 a1 a2 a4 H) := jmet_of n_16_add (by decide) ⟨rfl, rfl⟩ (Nat.le_of_ble_eq_true rfl) (v_16_add l a0 a1 a2 a4 H)
def mi_18_arrives : jM := (4721199653698140228521616133709320566258278971953661279346510670541425099341007133905170091816465080911174974026330218483931250149004396522217967378004189426603482669531092147433275842734636900512997934910289516223258017264344561902753859502021479169957852201112002279826782338600658048312100284035945696915872145365958595445533955953100776261539508934420837802507141588185775663757145349342349151367326135567384176856673587725254575463289926171393059281080310781728970630548337273977796503557918301314107591655970674415568575326618509353725945253922625599026060156459123541840828685982727637439792745494557865940797647981851735274915105363413017287185762398670362545144445043806147450794952275650225695147769810069778884335421863529337009278081065184608390635537297028798558239752598890140417560999971961877554679329758275725700063489386834493574995990710231108134670788631845289587677373769737643557446223402881189387874530614094179470647842056746, 394, 9, "CoinNodeModel", some FieldType.int, "arrives", 18, 429)
def y_18_arrives : MethodName := ⟨"CoinNodeModel", "arrives", "(I)I"⟩
theorem n_18_arrives : jn_is prog_14_method_37_code mi_18_arrives.1 mi_18_arrives.2.1 := by unfold jn_is; decide +kernel
theorem k_18_arrives : jmok y_18_arrives prog_14_method_37_code mi_18_arrives 1 := ⟨jw_2314, jw_14, ⟨by decide, by decide⟩, by decide +kernel⟩
theorem v_18_arrives_393 (l : Launch)  (s0 : Int32) (H : jH) : JV l mi_18_arrives jeI 393 [] [.int s0] H (B_18_arrives_393  s0 H) := by
  unfold B_18_arrives_393
  exact s_172 rfl rfl
theorem v_18_arrives_352 (l : Launch)  (a0 : Nat) (a7 : Int32) (H : jH) : JV l mi_18_arrives jeI 352 [(0, .ref a0), (7, .int a7)] [] H (B_18_arrives_352  a0 a7 H) := by
  unfold B_18_arrives_352
  refine s_42 353 rfl rfl ?_
  refine s_180R 0 40 356 40 f_18_3 jw_1613 rfl rfl ?_
  refine s_21 7 358 rfl rfl ?_
  refine s_7 359 rfl ?_
  refine s_182L 0 243 362 243 (m_16_look l _ _ _ _) rfl k_16_look jc_16 jw_1825 jw_1826 jw_1827 rfl rfl rfl rfl rfl (fun x1 h2 => ?_)
  refine s_9 363 rfl ?_
  refine s_148_154 0 7 371 364 367 rfl rfl rfl ?_ ?_
  · refine s_42 372 rfl rfl ?_
    refine s_180R 0 69 375 69 f_18_10 jw_1620 rfl rfl ?_
    refine s_21 7 377 rfl rfl ?_
    refine s_46 378 rfl ?_
    refine s_158 0 13 391 381 rfl rfl ?_ ?_
    · refine s_16 22 393 22 jbp_22 rfl ?_
      exact s_jmp (v_18_arrives_393 l _ _) trivial
    · refine s_42 382 rfl rfl ?_
      refine s_180R 0 69 385 69 f_18_10 jw_1620 rfl rfl ?_
      refine s_21 7 387 rfl rfl ?_
      refine s_46 388 rfl ?_
      refine s_167 0 5 393 rfl rfl ?_
      exact s_jmp (v_18_arrives_393 l _ _) trivial
  · refine s_3 368 rfl ?_
    refine s_167 0 25 393 rfl rfl ?_
    exact s_jmp (v_18_arrives_393 l _ _) trivial
theorem v_18_arrives_280 (l : Launch) (k280 : Nat → Int32 → Int32 → Int32 → jH → Option (Int32 × jH)) (hk280 : ∀ a0 a1 a7 a8 H, JV l mi_18_arrives jeI 280 [(0, .ref a0), (1, .int a1), (7, .int a7), (8, .int a8)] [] H (k280 a0 a1 a7 a8 H)) (a0 : Nat) (a1 : Int32) (a7 : Int32) (a8 : Int32) (H : jH) : JV l mi_18_arrives jeI 280 [(0, .ref a0), (1, .int a1), (7, .int a7), (8, .int a8)] [] H (B_18_arrives_280 k280 a0 a1 a7 a8 H) := by
  unfold B_18_arrives_280
  refine s_21 8 282 rfl rfl ?_
  refine s_16 32 284 32 jbp_32 rfl ?_
  refine s_42 285 rfl rfl ?_
  refine s_180I 0 232 288 232 f_18_14 jw_1624 rfl rfl ?_
  refine s_104 289 rfl ?_
  refine s_162 0 30 319 292 rfl rfl ?_ ?_
  · refine s_42 320 rfl rfl ?_
    refine s_180R 0 59 323 59 f_18_7 jw_1617 rfl rfl ?_
    refine s_21 7 325 rfl rfl ?_
    refine s_27 326 rfl rfl ?_
    refine s_79 327 rfl (fun h3 => ?_)
    refine s_42 328 rfl rfl ?_
    refine s_180I 1 84 331 340 f_18_13 jw_1623 rfl rfl ?_
    refine s_54L 8 333 rfl rfl (fun x4 => ?_)
    refine s_42 334 rfl rfl ?_
    refine s_182V 1 205 337 461 (m_18_choose l _ _) rfl k_18_choose jc_18 jw_2390 jw_2392 jps_152 rfl rfl rfl rfl rfl (fun x5 h6 => ?_)
    refine s_42 338 rfl rfl ?_
    refine s_180I 1 84 341 340 f_18_13 jw_1623 rfl rfl ?_
    refine s_21 8 343 rfl rfl ?_
    refine s_159 0 9 352 346 rfl rfl ?_ ?_
    · exact s_jmp (v_18_arrives_352 l _ _ _) ⟨rfl, rfl, trivial⟩
    · refine s_42 347 rfl rfl ?_
      refine s_21 8 349 rfl rfl ?_
      refine s_182V 1 208 352 464 (m_18_renew l _ _ _) rfl k_18_renew jc_18 jw_2436 jw_2438 jps_159 rfl rfl rfl rfl rfl (fun x7 h8 => ?_)
      exact s_jmp (v_18_arrives_352 l _ _ _) ⟨rfl, rfl, trivial⟩
  · refine s_42 293 rfl rfl ?_
    refine s_180R 0 73 296 73 f_18_11 jw_1621 rfl rfl ?_
    refine s_17 1 128 299 384 jsp_1_128 rfl ?_
    refine s_21 7 301 rfl rfl ?_
    refine s_104 302 rfl ?_
    refine s_21 8 304 rfl rfl ?_
    refine s_96 305 rfl ?_
    refine s_42 306 rfl rfl ?_
    refine s_180R 0 76 309 76 f_18_12 jw_1622 rfl rfl ?_
    refine s_21 8 311 rfl rfl ?_
    refine s_51B 312 rfl ?_
    refine s_84B 313 rfl (fun h9 => ?_)
    refine s_132L 8 1 316 1 ji_1 rfl rfl rfl (fun x10 => ?_)
    refine s_167 255 220 280 rfl rfl ?_
    exact s_jmp (hk280 _ _ _ _ _) ⟨rfl, rfl, rfl, rfl, trivial⟩
theorem w_18_arrives_280 (l : Launch)  (n : Nat) : ∀ a0 a1 a7 a8 H, JV l mi_18_arrives jeI 280 [(0, .ref a0), (1, .int a1), (7, .int a7), (8, .int a8)] [] H (F_18_arrives_280  n a0 a1 a7 a8 H) := by
  induction n with
  | zero => intro _ _ _ _ _; exact s_none
  | succ n ih => intro a0 a1 a7 a8 H; exact v_18_arrives_280 l (F_18_arrives_280  n) ih a0 a1 a7 a8 H
theorem v_18_arrives_244 (l : Launch) (k244 : Nat → Int32 → Int32 → Int32 → jH → Option (Int32 × jH)) (hk244 : ∀ a0 a1 a7 a8 H, JV l mi_18_arrives jeI 244 [(0, .ref a0), (1, .int a1), (7, .int a7), (8, .int a8)] [] H (k244 a0 a1 a7 a8 H)) (a0 : Nat) (a1 : Int32) (a7 : Int32) (a8 : Int32) (H : jH) : JV l mi_18_arrives jeI 244 [(0, .ref a0), (1, .int a1), (7, .int a7), (8, .int a8)] [] H (B_18_arrives_244 k244 a0 a1 a7 a8 H) := by
  unfold B_18_arrives_244
  refine s_21 8 246 rfl rfl ?_
  refine s_16 32 248 32 jbp_32 rfl ?_
  refine s_162 0 29 277 251 rfl rfl ?_ ?_
  · refine s_3 278 rfl ?_
    refine s_54 8 280 rfl rfl ?_
    exact s_jmp (w_18_arrives_280 l jfuel _ _ _ _ _) ⟨rfl, rfl, rfl, rfl, trivial⟩
  · refine s_42 252 rfl rfl ?_
    refine s_180R 0 63 255 63 f_18_8 jw_1618 rfl rfl ?_
    refine s_16 32 257 32 jbp_32 rfl ?_
    refine s_21 7 259 rfl rfl ?_
    refine s_104 260 rfl ?_
    refine s_21 8 262 rfl rfl ?_
    refine s_96 263 rfl ?_
    refine s_42 264 rfl rfl ?_
    refine s_180R 0 161 267 161 f_18_49 jw_1659 rfl rfl ?_
    refine s_21 8 269 rfl rfl ?_
    refine s_51B 270 rfl ?_
    refine s_84B 271 rfl (fun h11 => ?_)
    refine s_132L 8 1 274 1 ji_1 rfl rfl rfl (fun x12 => ?_)
    refine s_167 255 226 244 rfl rfl ?_
    exact s_jmp (hk244 _ _ _ _ _) ⟨rfl, rfl, rfl, rfl, trivial⟩
theorem w_18_arrives_244 (l : Launch)  (n : Nat) : ∀ a0 a1 a7 a8 H, JV l mi_18_arrives jeI 244 [(0, .ref a0), (1, .int a1), (7, .int a7), (8, .int a8)] [] H (F_18_arrives_244  n a0 a1 a7 a8 H) := by
  induction n with
  | zero => intro _ _ _ _ _; exact s_none
  | succ n ih => intro a0 a1 a7 a8 H; exact v_18_arrives_244 l (F_18_arrives_244  n) ih a0 a1 a7 a8 H
theorem v_18_arrives_206 (l : Launch) (k206 : Nat → Int32 → Int32 → Int32 → jH → Option (Int32 × jH)) (hk206 : ∀ a0 a1 a7 a8 H, JV l mi_18_arrives jeI 206 [(0, .ref a0), (1, .int a1), (7, .int a7), (8, .int a8)] [] H (k206 a0 a1 a7 a8 H)) (a0 : Nat) (a1 : Int32) (a7 : Int32) (a8 : Int32) (H : jH) : JV l mi_18_arrives jeI 206 [(0, .ref a0), (1, .int a1), (7, .int a7), (8, .int a8)] [] H (B_18_arrives_206 k206 a0 a1 a7 a8 H) := by
  unfold B_18_arrives_206
  refine s_21 8 208 rfl rfl ?_
  refine s_27 209 rfl rfl ?_
  refine s_162 0 32 241 212 rfl rfl ?_ ?_
  · refine s_3 242 rfl ?_
    refine s_54 8 244 rfl rfl ?_
    exact s_jmp (w_18_arrives_244 l jfuel _ _ _ _ _) ⟨rfl, rfl, rfl, rfl, trivial⟩
  · refine s_42 213 rfl rfl ?_
    refine s_180R 0 55 216 55 f_18_6 jw_1616 rfl rfl ?_
    refine s_17 7 208 219 2000 jsp_7_208 rfl ?_
    refine s_21 7 221 rfl rfl ?_
    refine s_104 222 rfl ?_
    refine s_21 8 224 rfl rfl ?_
    refine s_96 225 rfl ?_
    refine s_42 226 rfl rfl ?_
    refine s_180R 0 158 229 158 f_18_47 jw_1657 rfl rfl ?_
    refine s_4 230 rfl ?_
    refine s_21 8 232 rfl rfl ?_
    refine s_96 233 rfl ?_
    refine s_51B 234 rfl ?_
    refine s_84B 235 rfl (fun h13 => ?_)
    refine s_132L 8 1 238 1 ji_1 rfl rfl rfl (fun x14 => ?_)
    refine s_167 255 224 206 rfl rfl ?_
    exact s_jmp (hk206 _ _ _ _ _) ⟨rfl, rfl, rfl, rfl, trivial⟩
theorem w_18_arrives_206 (l : Launch)  (n : Nat) : ∀ a0 a1 a7 a8 H, JV l mi_18_arrives jeI 206 [(0, .ref a0), (1, .int a1), (7, .int a7), (8, .int a8)] [] H (F_18_arrives_206  n a0 a1 a7 a8 H) := by
  induction n with
  | zero => intro _ _ _ _ _; exact s_none
  | succ n ih => intro a0 a1 a7 a8 H; exact v_18_arrives_206 l (F_18_arrives_206  n) ih a0 a1 a7 a8 H
theorem v_18_arrives (l : Launch) (a0 : Nat) (a1 : Int32) (H : jH) : JV l mi_18_arrives jeI 0 [(0, .ref a0), (1, .int a1)] [] H (F_18_arrives a0 a1 H) := by
  unfold F_18_arrives
  refine s_42 1 rfl rfl ?_
  refine s_42 2 rfl rfl ?_
  refine s_180R 0 158 5 158 f_18_47 jw_1657 rfl rfl ?_
  refine s_4 6 rfl ?_
  refine s_27 7 rfl rfl ?_
  refine s_182I 0 239 10 239 (m_18_open l _ _ _ _ _) rfl k_18_open jc_18 jw_1842 jw_1844 jps_61 rfl rfl rfl rfl rfl (fun x15 h16 => ?_)
  refine s_154 0 5 15 13 rfl rfl ?_ ?_
  · refine s_42 16 rfl rfl ?_
    refine s_180R 0 10 19 10 f_18_0 jw_1610 rfl rfl ?_
    refine s_42 20 rfl rfl ?_
    refine s_180R 0 158 23 158 f_18_47 jw_1657 rfl rfl ?_
    refine s_4 24 rfl ?_
    refine s_16 80 26 80 jbp_80 rfl ?_
    refine s_42 27 rfl rfl ?_
    refine s_180R 0 161 30 161 f_18_49 jw_1659 rfl rfl ?_
    refine s_3 31 rfl ?_
    refine s_182V 0 180 34 180 (m_12_name l _ _ _ _ _ _ _) rfl k_12_name jc_12 jw_1586 jw_1587 jw_1588 rfl rfl rfl rfl rfl (fun x17 h18 => ?_)
    refine s_42 35 rfl rfl ?_
    refine s_42 36 rfl rfl ?_
    refine s_180R 0 161 39 161 f_18_49 jw_1659 rfl rfl ?_
    refine s_3 40 rfl ?_
    refine s_182I 1 175 43 431 (m_18_known l _ _ _ _) rfl k_18_known jc_18 jw_2315 jw_2317 jps_145 rfl rfl rfl rfl rfl (fun x19 h20 => ?_)
    refine s_155 0 6 49 46 rfl rfl ?_ ?_
    · refine s_42 50 rfl rfl ?_
      refine s_42 51 rfl rfl ?_
      refine s_180R 0 158 54 158 f_18_47 jw_1657 rfl rfl ?_
      refine s_8 55 rfl ?_
      refine s_182I 1 175 58 431 (m_18_known l _ _ _ _) rfl k_18_known jc_18 jw_2315 jw_2317 jps_145 rfl rfl rfl rfl rfl (fun x21 h22 => ?_)
      refine s_61 59 rfl rfl ?_
      refine s_28 60 rfl rfl ?_
      refine s_156 0 6 66 63 rfl rfl ?_ ?_
      · refine s_42 67 rfl rfl ?_
        refine s_180R 0 40 70 40 f_18_3 jw_1613 rfl rfl ?_
        refine s_28 71 rfl rfl ?_
        refine s_7 72 rfl ?_
        refine s_182L 0 243 75 243 (m_16_look l _ _ _ _) rfl k_16_look jc_16 jw_1825 jw_1826 jw_1827 rfl rfl rfl rfl rfl (fun x23 h24 => ?_)
        refine s_10 76 rfl ?_
        refine s_148_154 0 6 83 77 80 rfl rfl rfl ?_ ?_
        · refine s_42 84 rfl rfl ?_
          refine s_16 72 86 72 jbp_72 rfl ?_
          refine s_7 87 rfl ?_
          refine s_182L 1 178 90 434 (m_18_head l _ _ _ _) rfl k_18_head jc_18 jw_2323 jw_2325 jps_146 rfl rfl rfl rfl rfl (fun x25 h26 => ?_)
          refine s_66 91 rfl rfl ?_
          refine s_42 92 rfl rfl ?_
          refine s_16 68 94 68 jbp_68 rfl ?_
          refine s_7 95 rfl ?_
          refine s_182L 1 178 98 434 (m_18_head l _ _ _ _) rfl k_18_head jc_18 jw_2323 jw_2325 jps_146 rfl rfl rfl rfl rfl (fun x27 h28 => ?_)
          refine s_55 5 100 rfl rfl ?_
          refine s_33 101 rfl rfl ?_
          refine s_42 102 rfl rfl ?_
          refine s_180R 0 40 105 40 f_18_3 jw_1613 rfl rfl ?_
          refine s_28 106 rfl rfl ?_
          refine s_182L 1 181 109 437 (m_16_must l _ _ _) rfl k_16_must jc_16 jw_2327 jw_2328 jw_2329 rfl rfl rfl rfl rfl (fun x29 h30 => ?_)
          refine s_148_153 0 6 116 110 113 rfl rfl rfl ?_ ?_
          · refine s_22 5 118 rfl rfl ?_
            refine s_42 119 rfl rfl ?_
            refine s_180R 0 40 122 40 f_18_3 jw_1613 rfl rfl ?_
            refine s_28 123 rfl rfl ?_
            refine s_182L 1 185 126 441 (m_16_median l _ _ _) rfl k_16_median jc_16 jw_2347 jw_2348 jw_2349 rfl rfl rfl rfl rfl (fun x31 h32 => ?_)
            refine s_148_157 0 6 133 127 130 rfl rfl rfl ?_ ?_
            · refine s_42 134 rfl rfl ?_
              refine s_33 135 rfl rfl ?_
              refine s_182I 1 188 138 444 (m_18_isAbove l _ _ _) rfl k_18_isAbove jc_18 jw_2351 jw_2353 jps_148 rfl rfl rfl rfl rfl (fun x33 h34 => ?_)
              refine s_153 0 6 144 141 rfl rfl ?_ ?_
              · refine s_42 145 rfl rfl ?_
                refine s_182I 1 192 148 448 (m_18_isFramed l _ _) rfl k_18_isFramed jc_18 jw_2370 jw_2372 jps_149 rfl rfl rfl rfl rfl (fun x35 h36 => ?_)
                refine s_154 0 6 154 151 rfl rfl ?_ ?_
                · refine s_42 155 rfl rfl ?_
                  refine s_182I 1 195 158 451 (m_18_isRooted l _ _) rfl k_18_isRooted jc_18 jw_2375 jw_2377 jps_150 rfl rfl rfl rfl rfl (fun x37 h38 => ?_)
                  refine s_154 0 6 164 161 rfl rfl ?_ ?_
                  · refine s_42 165 rfl rfl ?_
                    refine s_182I 1 198 168 454 (m_18_isFaulty l _ _) rfl k_18_isFaulty jc_18 jw_2379 jw_2381 jps_151 rfl rfl rfl rfl rfl (fun x39 h40 => ?_)
                    refine s_153 0 6 174 171 rfl rfl ?_ ?_
                    · refine s_42 175 rfl rfl ?_
                      refine s_180R 0 40 178 40 f_18_3 jw_1613 rfl rfl ?_
                      refine s_182I 1 161 181 417 (m_16_size l _ _) rfl k_16_size jc_16 jw_2319 jw_2320 jw_2321 rfl rfl rfl rfl rfl (fun x41 h42 => ?_)
                      refine s_17 1 44 184 300 jsp_1_44 rfl ?_
                      refine s_160 0 6 190 187 rfl rfl ?_ ?_
                      · refine s_42 191 rfl rfl ?_
                        refine s_180R 0 40 194 40 f_18_3 jw_1613 rfl rfl ?_
                        refine s_28 195 rfl rfl ?_
                        refine s_22 5 197 rfl rfl ?_
                        refine s_33 198 rfl rfl ?_
                        refine s_182I 1 201 201 457 (m_16_add l _ _ _ _ _) rfl k_16_add jc_16 jw_2384 jw_2385 jw_2386 rfl rfl rfl rfl rfl (fun x43 h44 => ?_)
                        refine s_54 7 203 rfl rfl ?_
                        refine s_3 204 rfl ?_
                        refine s_54 8 206 rfl rfl ?_
                        exact s_jmp (w_18_arrives_206 l jfuel _ _ _ _ _) ⟨rfl, rfl, rfl, rfl, trivial⟩
                      · refine s_16 30 189 30 jbp_30 rfl ?_
                        exact s_172 rfl rfl
                    · refine s_16 28 173 28 jbp_28 rfl ?_
                      exact s_172 rfl rfl
                  · refine s_16 27 163 27 jbp_27 rfl ?_
                    exact s_172 rfl rfl
                · refine s_16 26 153 26 jbp_26 rfl ?_
                  exact s_172 rfl rfl
              · refine s_16 25 143 25 jbp_25 rfl ?_
                exact s_172 rfl rfl
            · refine s_16 24 132 24 jbp_24 rfl ?_
              exact s_172 rfl rfl
          · refine s_16 23 115 23 jbp_23 rfl ?_
            exact s_172 rfl rfl
        · refine s_16 22 82 22 jbp_22 rfl ?_
          exact s_172 rfl rfl
      · refine s_16 21 65 21 jbp_21 rfl ?_
        exact s_172 rfl rfl
    · refine s_16 20 48 20 jbp_20 rfl ?_
      exact s_172 rfl rfl
  · refine s_4 14 rfl ?_
    exact s_172 rfl rfl
theorem m_18_arrives (l : Launch) (a0 : Nat) (a1 : Int32) (H : jH) : JMet l y_18_arrives prog_14_method_37_code mi_18_arrives jeI [.ref a0, .int a1] H (F_18_arrives a0 a1 H) := jmet_of n_18_arrives (by decide) ⟨rfl, rfl⟩ (Nat.le_of_ble_eq_true rfl) (v_18_arrives l a0 a1 H)
def mi_18_put : jM := (66531948790004766358142630534292503186840142273885226, 22, 2, "CoinNodeModel", none, "put", 0, 0)
def y_18_put : MethodName := ⟨"CoinNodeModel", "put", "(I)V"⟩
theorem n_18_put : jn_is prog_14_method_38_code mi_18_put.1 mi_18_put.2.1 := by unfold jn_is; decide +kernel
theorem k_18_put : jmok y_18_put prog_14_method_38_code mi_18_put 1 := ⟨jw_2298, jw_14, ⟨by decide, by decide⟩, by decide +kernel⟩
theorem v_18_put (l : Launch) (a0 : Nat) (a1 : Int32) (H : jH) : JV l mi_18_put jeV 0 [(0, .ref a0), (1, .int a1)] [] H (F_18_put a0 a1 H) := by
  unfold F_18_put
  refine s_42 1 rfl rfl ?_
  refine s_180R 0 176 4 176 f_18_55 jw_1665 rfl rfl ?_
  refine s_42 5 rfl rfl ?_
  refine s_180I 1 211 8 467 f_18_56 jw_1666 rfl rfl ?_
  refine s_27 9 rfl rfl ?_
  refine s_145 10 rfl ?_
  refine s_84B 11 rfl (fun h1 => ?_)
  refine s_42 12 rfl rfl ?_
  refine s_89 13 rfl rfl ?_
  refine s_180I 1 211 16 467 f_18_56 jw_1666 rfl rfl ?_
  refine s_4 17 rfl ?_
  refine s_96 18 rfl ?_
  refine s_181I 1 211 21 467 f_18_56 rfl rfl jw_1666 rfl rfl (fun h2 => ?_)
  exact s_177 rfl rfl
theorem m_18_put (l : Launch) (a0 : Nat) (a1 : Int32) (H : jH) : JMet l y_18_put prog_14_method_38_code mi_18_put jeV [.ref a0, .int a1] H (F_18_put a0 a1 H) := jmet_of n_18_put (by decide) ⟨rfl, rfl⟩ (Nat.le_of_ble_eq_true rfl) (v_18_put l a0 a1 H)
def mi_18_copy : jM := (285921975522737611511209801565789832494649379792460163538236931, 26, 5, "CoinNodeModel", none, "copy", 1, 21)
def y_18_copy : MethodName := ⟨"CoinNodeModel", "copy", "([BII)V"⟩
theorem n_18_copy : jn_is prog_14_method_39_code mi_18_copy.1 mi_18_copy.2.1 := by unfold jn_is; decide +kernel
theorem k_18_copy : jmok y_18_copy prog_14_method_39_code mi_18_copy 3 := ⟨jw_2310, jw_14, ⟨by decide, by decide⟩, by decide +kernel⟩
theorem v_18_copy_3 (l : Launch) (k3 : Nat → Nat → Int32 → Int32 → Int32 → jH → Option (Unit × jH)) (hk3 : ∀ a0 a1 a2 a3 a4 H, JV l mi_18_copy jeV 3 [(0, .ref a0), (1, .ref a1), (2, .int a2), (3, .int a3), (4, .int a4)] [] H (k3 a0 a1 a2 a3 a4 H)) (a0 : Nat) (a1 : Nat) (a2 : Int32) (a3 : Int32) (a4 : Int32) (H : jH) : JV l mi_18_copy jeV 3 [(0, .ref a0), (1, .ref a1), (2, .int a2), (3, .int a3), (4, .int a4)] [] H (B_18_copy_3 k3 a0 a1 a2 a3 a4 H) := by
  unfold B_18_copy_3
  refine s_21 4 5 rfl rfl ?_
  refine s_29 6 rfl rfl ?_
  refine s_162 0 19 25 9 rfl rfl ?_ ?_
  · exact s_177 rfl rfl
  · refine s_42 10 rfl rfl ?_
    refine s_43 11 rfl rfl ?_
    refine s_28 12 rfl rfl ?_
    refine s_21 4 14 rfl rfl ?_
    refine s_96 15 rfl ?_
    refine s_51B 16 rfl ?_
    refine s_182V 1 214 19 470 (m_18_put l _ _ _) rfl k_18_put jc_18 jw_2295 jw_2297 jps_140 rfl rfl rfl rfl rfl (fun x1 h2 => ?_)
    refine s_132L 4 1 22 1 ji_1 rfl rfl rfl (fun x3 => ?_)
    refine s_167 255 237 3 rfl rfl ?_
    exact s_jmp (hk3 _ _ _ _ _ _) ⟨rfl, rfl, rfl, rfl, rfl, trivial⟩
theorem w_18_copy_3 (l : Launch)  (n : Nat) : ∀ a0 a1 a2 a3 a4 H, JV l mi_18_copy jeV 3 [(0, .ref a0), (1, .ref a1), (2, .int a2), (3, .int a3), (4, .int a4)] [] H (F_18_copy_3  n a0 a1 a2 a3 a4 H) := by
  induction n with
  | zero => intro _ _ _ _ _ _; exact s_none
  | succ n ih => intro a0 a1 a2 a3 a4 H; exact v_18_copy_3 l (F_18_copy_3  n) ih a0 a1 a2 a3 a4 H
theorem v_18_copy (l : Launch) (a0 : Nat) (a1 : Nat) (a2 : Int32) (a3 : Int32) (H : jH) : JV l mi_18_copy jeV 0 [(0, .ref a0), (1, .ref a1), (2, .int a2), (3, .int a3)] [] H (F_18_copy a0 a1 a2 a3 H) := by
  unfold F_18_copy
  refine s_3 1 rfl ?_
  refine s_54 4 3 rfl rfl ?_
  exact s_jmp (w_18_copy_3 l jfuel _ _ _ _ _ _) ⟨rfl, rfl, rfl, rfl, rfl, trivial⟩
theorem m_18_copy (l : Launch) (a0 : Nat) (a1 : Nat) (a2 : Int32) (a3 : Int32) (H : jH) : JMet l y_18_copy prog_14_method_39_code mi_18_copy jeV [.ref a0, .ref a1, .int a2, .int a3] H (F_18_copy a0 a1 a2 a3 H) := jmet_of n_18_copy (by decide) ⟨rfl, rfl⟩ (Nat.le_of_ble_eq_true rfl) (v_18_copy l a0 a1 a2 a3 H)
def mi_18_begin : jM := (214990488067996566737453866, 11, 2, "CoinNodeModel", none, "begin", 1, 21)
def y_18_begin : MethodName := ⟨"CoinNodeModel", "begin", "(I)V"⟩
theorem n_18_begin : jn_is prog_14_method_40_code mi_18_begin.1 mi_18_begin.2.1 := by unfold jn_is; decide +kernel
theorem k_18_begin : jmok y_18_begin prog_14_method_40_code mi_18_begin 1 := ⟨jw_2294, jw_14, ⟨by decide, by decide⟩, by decide +kernel⟩
theorem v_18_begin (l : Launch) (a0 : Nat) (a1 : Int32) (H : jH) : JV l mi_18_begin jeV 0 [(0, .ref a0), (1, .int a1)] [] H (F_18_begin a0 a1 H) := by
  unfold F_18_begin
  refine s_42 1 rfl rfl ?_
  refine s_3 2 rfl ?_
  refine s_181I 1 211 5 467 f_18_56 rfl rfl jw_1666 rfl rfl (fun h1 => ?_)
  refine s_42 6 rfl rfl ?_
  refine s_27 7 rfl rfl ?_
  refine s_182V 1 214 10 470 (m_18_put l _ _ _) rfl k_18_put jc_18 jw_2295 jw_2297 jps_140 rfl rfl rfl rfl rfl (fun x2 h3 => ?_)
  exact s_177 rfl rfl
theorem m_18_begin (l : Launch) (a0 : Nat) (a1 : Int32) (H : jH) : JMet l y_18_begin prog_14_method_40_code mi_18_begin jeV [.ref a0, .int a1] H (F_18_begin a0 a1 H) := jmet_of n_18_begin (by decide) ⟨rfl, rfl⟩ (Nat.le_of_ble_eq_true rfl) (v_18_begin l a0 a1 H)
def mi_18_tell : jM := (6138884084157810481424257054106054171277561245124270401203485457409776566622863478605890441593616994105535652072372369515417439332087170702389752498758524896161162542555213881921285925692408186353512370887626033430792057445719846581892792496212045575757976968552042224894915626, 115, 4, "CoinNodeModel", none, "tell", 0, 0)
def y_18_tell : MethodName := ⟨"CoinNodeModel", "tell", "(I)V"⟩
theorem n_18_tell : jn_is prog_14_method_41_code mi_18_tell.1 mi_18_tell.2.1 := by unfold jn_is; decide +kernel
theorem k_18_tell : jmok y_18_tell prog_14_method_41_code mi_18_tell 1 := ⟨jw_2302, jw_14, ⟨by decide, by decide⟩, by decide +kernel⟩
theorem v_18_tell_63 (l : Launch) (k63 : Nat → Int32 → Int32 → Int32 → jH → Option (Unit × jH)) (hk63 : ∀ a0 a1 a2 a3 H, JV l mi_18_tell jeV 63 [(0, .ref a0), (1, .int a1), (2, .int a2), (3, .int a3)] [] H (k63 a0 a1 a2 a3 H)) (a0 : Nat) (a1 : Int32) (a2 : Int32) (a3 : Int32) (H : jH) : JV l mi_18_tell jeV 63 [(0, .ref a0), (1, .int a1), (2, .int a2), (3, .int a3)] [] H (B_18_tell_63 k63 a0 a1 a2 a3 H) := by
  unfold B_18_tell_63
  refine s_29 64 rfl rfl ?_
  refine s_42 65 rfl rfl ?_
  refine s_180I 1 211 68 467 f_18_56 jw_1666 rfl rfl ?_
  refine s_162 0 31 99 71 rfl rfl ?_ ?_
  · refine s_42 100 rfl rfl ?_
    refine s_180R 0 173 103 173 f_18_54 jw_1664 rfl rfl ?_
    refine s_27 104 rfl rfl ?_
    refine s_92 105 rfl rfl rfl ?_
    refine s_46 106 rfl ?_
    refine s_5 107 rfl ?_
    refine s_42 108 rfl rfl ?_
    refine s_180I 1 211 111 467 f_18_56 jw_1666 rfl rfl ?_
    refine s_96 112 rfl ?_
    refine s_96 113 rfl ?_
    refine s_79 114 rfl (fun h1 => ?_)
    exact s_177 rfl rfl
  · refine s_42 72 rfl rfl ?_
    refine s_180R 0 170 75 170 f_18_53 jw_1663 rfl rfl ?_
    refine s_17 31 64 78 8000 jsp_31_64 rfl ?_
    refine s_27 79 rfl rfl ?_
    refine s_104 80 rfl ?_
    refine s_28 81 rfl rfl ?_
    refine s_96 82 rfl ?_
    refine s_5 83 rfl ?_
    refine s_96 84 rfl ?_
    refine s_29 85 rfl rfl ?_
    refine s_96 86 rfl ?_
    refine s_42 87 rfl rfl ?_
    refine s_180R 0 176 90 176 f_18_55 jw_1665 rfl rfl ?_
    refine s_29 91 rfl rfl ?_
    refine s_51B 92 rfl ?_
    refine s_84B 93 rfl (fun h2 => ?_)
    refine s_132L 3 1 96 1 ji_1 rfl rfl rfl (fun x3 => ?_)
    refine s_167 255 223 63 rfl rfl ?_
    exact s_jmp (hk63 _ _ _ _ _) ⟨rfl, rfl, rfl, rfl, trivial⟩
theorem w_18_tell_63 (l : Launch)  (n : Nat) : ∀ a0 a1 a2 a3 H, JV l mi_18_tell jeV 63 [(0, .ref a0), (1, .int a1), (2, .int a2), (3, .int a3)] [] H (F_18_tell_63  n a0 a1 a2 a3 H) := by
  induction n with
  | zero => intro _ _ _ _ _; exact s_none
  | succ n ih => intro a0 a1 a2 a3 H; exact v_18_tell_63 l (F_18_tell_63  n) ih a0 a1 a2 a3 H
theorem v_18_tell (l : Launch) (a0 : Nat) (a1 : Int32) (H : jH) : JV l mi_18_tell jeV 0 [(0, .ref a0), (1, .int a1)] [] H (F_18_tell a0 a1 H) := by
  unfold F_18_tell
  refine s_42 1 rfl rfl ?_
  refine s_180R 0 173 4 173 f_18_54 jw_1664 rfl rfl ?_
  refine s_27 5 rfl rfl ?_
  refine s_46 6 rfl ?_
  refine s_61L 7 rfl rfl (fun x4 => ?_)
  refine s_28 8 rfl rfl ?_
  refine s_5 9 rfl ?_
  refine s_96 10 rfl ?_
  refine s_42 11 rfl rfl ?_
  refine s_180I 1 211 14 467 f_18_56 jw_1666 rfl rfl ?_
  refine s_96 15 rfl ?_
  refine s_17 31 64 18 8000 jsp_31_64 rfl ?_
  refine s_164 0 4 22 21 rfl rfl ?_ ?_
  · refine s_42 23 rfl rfl ?_
    refine s_180R 0 170 26 170 f_18_53 jw_1663 rfl rfl ?_
    refine s_17 31 64 29 8000 jsp_31_64 rfl ?_
    refine s_27 30 rfl rfl ?_
    refine s_104 31 rfl ?_
    refine s_28 32 rfl rfl ?_
    refine s_96 33 rfl ?_
    refine s_42 34 rfl rfl ?_
    refine s_180I 1 211 37 467 f_18_56 jw_1666 rfl rfl ?_
    refine s_16 8 39 8 jbp_8 rfl ?_
    refine s_122 40 rfl ?_
    refine s_145 41 rfl ?_
    refine s_84B 42 rfl (fun h5 => ?_)
    refine s_42 43 rfl rfl ?_
    refine s_180R 0 170 46 170 f_18_53 jw_1663 rfl rfl ?_
    refine s_17 31 64 49 8000 jsp_31_64 rfl ?_
    refine s_27 50 rfl rfl ?_
    refine s_104 51 rfl ?_
    refine s_28 52 rfl rfl ?_
    refine s_96 53 rfl ?_
    refine s_4 54 rfl ?_
    refine s_96 55 rfl ?_
    refine s_42 56 rfl rfl ?_
    refine s_180I 1 211 59 467 f_18_56 jw_1666 rfl rfl ?_
    refine s_145 60 rfl ?_
    refine s_84B 61 rfl (fun h6 => ?_)
    refine s_3 62 rfl ?_
    refine s_62 63 rfl rfl ?_
    exact s_jmp (w_18_tell_63 l jfuel _ _ _ _ _) ⟨rfl, rfl, rfl, rfl, trivial⟩
  · exact s_177 rfl rfl
theorem m_18_tell (l : Launch) (a0 : Nat) (a1 : Int32) (H : jH) : JMet l y_18_tell prog_14_method_41_code mi_18_tell jeV [.ref a0, .int a1] H (F_18_tell a0 a1 H) := jmet_of n_18_tell (by decide) ⟨rfl, rfl⟩ (Nat.le_of_ble_eq_true rfl) (v_18_tell l a0 a1 H)
def mi_18_verdict : jM := (30099204790096205033433141081926207803499926738680856353670960915801875945202178998846780150251628785902648049980901705583693866, 53, 6, "CoinNodeModel", none, "verdict", 2, 42)
def y_18_verdict : MethodName := ⟨"CoinNodeModel", "verdict", "(II[BI)V"⟩
theorem n_18_verdict : jn_is prog_14_method_42_code mi_18_verdict.1 mi_18_verdict.2.1 := by unfold jn_is; decide +kernel
theorem k_18_verdict : jmok y_18_verdict prog_14_method_42_code mi_18_verdict 4 := ⟨jw_2290, jw_14, ⟨by decide, by decide⟩, by decide +kernel⟩
theorem v_18_verdict_38 (l : Launch) (k14 : Nat → Int32 → Int32 → Nat → Int32 → Int32 → jH → Option (Unit × jH)) (hk14 : ∀ a0 a1 a2 a3 a4 a5 H, JV l mi_18_verdict jeV 14 [(0, .ref a0), (1, .int a1), (2, .int a2), (3, .ref a3), (4, .int a4), (5, .int a5)] [] H (k14 a0 a1 a2 a3 a4 a5 H)) (a0 : Nat) (a1 : Int32) (a2 : Int32) (a3 : Nat) (a4 : Int32) (a5 : Int32) (s0 : Nat) (s1 : Int32) (H : jH) : JV l mi_18_verdict jeV 38 [(0, .ref a0), (1, .int a1), (2, .int a2), (3, .ref a3), (4, .int a4), (5, .int a5)] [.int s1, .ref s0] H (B_18_verdict_38 k14 a0 a1 a2 a3 a4 a5 s0 s1 H) := by
  unfold B_18_verdict_38
  refine s_182V 1 214 41 470 (m_18_put l _ _ _) rfl k_18_put jc_18 jw_2295 jw_2297 jps_140 rfl rfl rfl rfl rfl (fun x1 h2 => ?_)
  refine s_132L 5 1 44 1 ji_1 rfl rfl rfl (fun x3 => ?_)
  refine s_167 255 226 14 rfl rfl ?_
  exact s_jmp (hk14 _ _ _ _ _ _ _) ⟨rfl, rfl, rfl, rfl, rfl, rfl, trivial⟩
theorem v_18_verdict_14 (l : Launch) (k14 : Nat → Int32 → Int32 → Nat → Int32 → Int32 → jH → Option (Unit × jH)) (hk14 : ∀ a0 a1 a2 a3 a4 a5 H, JV l mi_18_verdict jeV 14 [(0, .ref a0), (1, .int a1), (2, .int a2), (3, .ref a3), (4, .int a4), (5, .int a5)] [] H (k14 a0 a1 a2 a3 a4 a5 H)) (a0 : Nat) (a1 : Int32) (a2 : Int32) (a3 : Nat) (a4 : Int32) (a5 : Int32) (H : jH) : JV l mi_18_verdict jeV 14 [(0, .ref a0), (1, .int a1), (2, .int a2), (3, .ref a3), (4, .int a4), (5, .int a5)] [] H (B_18_verdict_14 k14 a0 a1 a2 a3 a4 a5 H) := by
  unfold B_18_verdict_14
  refine s_21 5 16 rfl rfl ?_
  refine s_16 32 18 32 jbp_32 rfl ?_
  refine s_162 0 29 47 21 rfl rfl ?_ ?_
  · refine s_42 48 rfl rfl ?_
    refine s_27 49 rfl rfl ?_
    refine s_182V 1 220 52 476 (m_18_tell l _ _ _) rfl k_18_tell jc_18 jw_2299 jw_2301 jps_141 rfl rfl rfl rfl rfl (fun x4 h5 => ?_)
    exact s_177 rfl rfl
  · refine s_42 22 rfl rfl ?_
    refine s_28 23 rfl rfl ?_
    refine s_4 24 rfl ?_
    refine s_160 0 7 31 27 rfl rfl ?_ ?_
    · refine s_45 32 rfl rfl ?_
      refine s_21 4 34 rfl rfl ?_
      refine s_21 5 36 rfl rfl ?_
      refine s_96 37 rfl ?_
      refine s_51B 38 rfl ?_
      exact s_jmp (v_18_verdict_38 l k14 hk14 _ _ _ _ _ _ _ _ _) ⟨rfl, rfl, rfl, rfl, rfl, rfl, trivial⟩
    · refine s_3 28 rfl ?_
      refine s_167 0 10 38 rfl rfl ?_
      exact s_jmp (v_18_verdict_38 l k14 hk14 _ _ _ _ _ _ _ _ _) ⟨rfl, rfl, rfl, rfl, rfl, rfl, trivial⟩
theorem w_18_verdict_14 (l : Launch)  (n : Nat) : ∀ a0 a1 a2 a3 a4 a5 H, JV l mi_18_verdict jeV 14 [(0, .ref a0), (1, .int a1), (2, .int a2), (3, .ref a3), (4, .int a4), (5, .int a5)] [] H (F_18_verdict_14  n a0 a1 a2 a3 a4 a5 H) := by
  induction n with
  | zero => intro _ _ _ _ _ _ _; exact s_none
  | succ n ih => intro a0 a1 a2 a3 a4 a5 H; exact v_18_verdict_14 l (F_18_verdict_14  n) ih a0 a1 a2 a3 a4 a5 H
theorem v_18_verdict (l : Launch) (a0 : Nat) (a1 : Int32) (a2 : Int32) (a3 : Nat) (a4 : Int32) (H : jH) : JV l mi_18_verdict jeV 0 [(0, .ref a0), (1, .int a1), (2, .int a2), (3, .ref a3), (4, .int a4)] [] H (F_18_verdict a0 a1 a2 a3 a4 H) := by
  unfold F_18_verdict
  refine s_42 1 rfl rfl ?_
  refine s_16 8 3 8 jbp_8 rfl ?_
  refine s_182V 1 217 6 473 (m_18_begin l _ _ _) rfl k_18_begin jc_18 jw_2291 jw_2293 jps_139 rfl rfl rfl rfl rfl (fun x6 h7 => ?_)
  refine s_42 7 rfl rfl ?_
  refine s_28 8 rfl rfl ?_
  refine s_182V 1 214 11 470 (m_18_put l _ _ _) rfl k_18_put jc_18 jw_2295 jw_2297 jps_140 rfl rfl rfl rfl rfl (fun x8 h9 => ?_)
  refine s_3 12 rfl ?_
  refine s_54 5 14 rfl rfl ?_
  exact s_jmp (w_18_verdict_14 l jfuel _ _ _ _ _ _ _) ⟨rfl, rfl, rfl, rfl, rfl, rfl, trivial⟩
theorem m_18_verdict (l : Launch) (a0 : Nat) (a1 : Int32) (a2 : Int32) (a3 : Nat) (a4 : Int32) (H : jH) : JMet l y_18_verdict prog_14_method_42_code mi_18_verdict jeV [.ref a0, .int a1, .int a2, .ref a3, .int a4] H (F_18_verdict a0 a1 a2 a3 a4 H) := jmet_of n_18_verdict (by decide) ⟨rfl, rfl⟩ (Nat.le_of_ble_eq_true rfl) (v_18_verdict l a0 a1 a2 a3 a4 H)
def mi_18_tellOthers : jM := (30109776368763185461685964032857413379189844498561344855976149968252643824640717090590371438290643493814965105598802821715988522, 53, 6, "CoinNodeModel", none, "tellOthers", 2, 45)
def y_18_tellOthers : MethodName := ⟨"CoinNodeModel", "tellOthers", "(II[BI)V"⟩
theorem n_18_tellOthers : jn_is prog_14_method_43_code mi_18_tellOthers.1 mi_18_tellOthers.2.1 := by unfold jn_is; decide +kernel
theorem k_18_tellOthers : jmok y_18_tellOthers prog_14_method_43_code mi_18_tellOthers 4 := ⟨jw_2306, jw_14, ⟨by decide, by decide⟩, by decide +kernel⟩
theorem v_18_tellOthers_46 (l : Launch) (k28 : Nat → Int32 → Int32 → jH → Option (Unit × jH)) (hk28 : ∀ a0 a1 a5 H, JV l mi_18_tellOthers jeV 28 [(0, .ref a0), (1, .int a1), (5, .int a5)] [] H (k28 a0 a1 a5 H)) (a0 : Nat) (a1 : Int32) (a5 : Int32) (H : jH) : JV l mi_18_tellOthers jeV 46 [(0, .ref a0), (1, .int a1), (5, .int a5)] [] H (B_18_tellOthers_46 k28 a0 a1 a5 H) := by
  unfold B_18_tellOthers_46
  refine s_132L 5 1 49 1 ji_1 rfl rfl rfl (fun x1 => ?_)
  refine s_167 255 235 28 rfl rfl ?_
  exact s_jmp (hk28 _ _ _ _) ⟨rfl, rfl, rfl, trivial⟩
theorem v_18_tellOthers_28 (l : Launch) (k28 : Nat → Int32 → Int32 → jH → Option (Unit × jH)) (hk28 : ∀ a0 a1 a5 H, JV l mi_18_tellOthers jeV 28 [(0, .ref a0), (1, .int a1), (5, .int a5)] [] H (k28 a0 a1 a5 H)) (a0 : Nat) (a1 : Int32) (a5 : Int32) (H : jH) : JV l mi_18_tellOthers jeV 28 [(0, .ref a0), (1, .int a1), (5, .int a5)] [] H (B_18_tellOthers_28 k28 a0 a1 a5 H) := by
  unfold B_18_tellOthers_28
  refine s_21 5 30 rfl rfl ?_
  refine s_7 31 rfl ?_
  refine s_162 0 21 52 34 rfl rfl ?_ ?_
  · exact s_177 rfl rfl
  · refine s_21 5 36 rfl rfl ?_
    refine s_27 37 rfl rfl ?_
    refine s_159 0 9 46 40 rfl rfl ?_ ?_
    · exact s_jmp (v_18_tellOthers_46 l k28 hk28 _ _ _ _) ⟨rfl, rfl, rfl, trivial⟩
    · refine s_42 41 rfl rfl ?_
      refine s_21 5 43 rfl rfl ?_
      refine s_182V 1 220 46 476 (m_18_tell l _ _ _) rfl k_18_tell jc_18 jw_2299 jw_2301 jps_141 rfl rfl rfl rfl rfl (fun x2 h3 => ?_)
      exact s_jmp (v_18_tellOthers_46 l k28 hk28 _ _ _ _) ⟨rfl, rfl, rfl, trivial⟩
theorem w_18_tellOthers_28 (l : Launch)  (n : Nat) : ∀ a0 a1 a5 H, JV l mi_18_tellOthers jeV 28 [(0, .ref a0), (1, .int a1), (5, .int a5)] [] H (F_18_tellOthers_28  n a0 a1 a5 H) := by
  induction n with
  | zero => intro _ _ _ _; exact s_none
  | succ n ih => intro a0 a1 a5 H; exact v_18_tellOthers_28 l (F_18_tellOthers_28  n) ih a0 a1 a5 H
theorem v_18_tellOthers (l : Launch) (a0 : Nat) (a1 : Int32) (a2 : Int32) (a3 : Nat) (a4 : Int32) (H : jH) : JV l mi_18_tellOthers jeV 0 [(0, .ref a0), (1, .int a1), (2, .int a2), (3, .ref a3), (4, .int a4)] [] H (F_18_tellOthers a0 a1 a2 a3 a4 H) := by
  unfold F_18_tellOthers
  refine s_42 1 rfl rfl ?_
  refine s_16 6 3 6 jbp_6 rfl ?_
  refine s_182V 1 217 6 473 (m_18_begin l _ _ _) rfl k_18_begin jc_18 jw_2291 jw_2293 jps_139 rfl rfl rfl rfl rfl (fun x4 h5 => ?_)
  refine s_42 7 rfl rfl ?_
  refine s_4 8 rfl ?_
  refine s_182V 1 214 11 470 (m_18_put l _ _ _) rfl k_18_put jc_18 jw_2295 jw_2297 jps_140 rfl rfl rfl rfl rfl (fun x6 h7 => ?_)
  refine s_42 12 rfl rfl ?_
  refine s_28 13 rfl rfl ?_
  refine s_182V 1 214 16 470 (m_18_put l _ _ _) rfl k_18_put jc_18 jw_2295 jw_2297 jps_140 rfl rfl rfl rfl rfl (fun x8 h9 => ?_)
  refine s_42 17 rfl rfl ?_
  refine s_45 18 rfl rfl ?_
  refine s_21 4 20 rfl rfl ?_
  refine s_16 32 22 32 jbp_32 rfl ?_
  refine s_182V 1 223 25 479 (m_18_copy l _ _ _ _ _) rfl k_18_copy jc_18 jw_2307 jw_2309 jps_143 rfl rfl rfl rfl rfl (fun x10 h11 => ?_)
  refine s_3 26 rfl ?_
  refine s_54 5 28 rfl rfl ?_
  exact s_jmp (w_18_tellOthers_28 l jfuel _ _ _ _) ⟨rfl, rfl, rfl, trivial⟩
theorem m_18_tellOthers (l : Launch) (a0 : Nat) (a1 : Int32) (a2 : Int32) (a3 : Nat) (a4 : Int32) (H : jH) : JMet l y_18_tellOthers prog_14_method_43_code mi_18_tellOthers jeV [.ref a0, .int a1, .int a2, .ref a3, .int a4] H (F_18_tellOthers a0 a1 a2 a3 a4 H) := jmet_of n_18_tellOthers (by decide) ⟨rfl, rfl⟩ (Nat.le_of_ble_eq_true rfl) (v_18_tellOthers l a0 a1 a2 a3 a4 H)
def mi_16_row : jM := (3378698796025014071818766516028520785528207280223554433417100200981623221182199746134774428369335074019023142579611679739725305011305360635978019622795326508900958815679332715608714461231019181415301782314, 85, 6, "CoinNodeModel$Tree", some FieldType.int, "row", 2, 44)
def y_16_row : MethodName := ⟨"CoinNodeModel$Tree", "row", "(II)I"⟩
theorem n_16_row : jn_is prog_20_method_27_code mi_16_row.1 mi_16_row.2.1 := by unfold jn_is; decide +kernel
theorem k_16_row : jmok y_16_row prog_20_method_27_code mi_16_row 2 := ⟨jw_2447, jw_19, ⟨by decide, by decide⟩, by decide +kernel⟩
theorem v_16_row_12 (l : Launch)   (H : jH) : JV l mi_16_row jeI 12 [] [] H (B_16_row_12   H) := by
  unfold B_16_row_12
  refine s_2 13 rfl ?_
  exact s_172 rfl rfl
theorem v_16_row_71 (l : Launch) (k27 : Nat → Int32 → Int32 → Int32 → Int32 → Int32 → jH → Option (Int32 × jH)) (hk27 : ∀ a0 a1 a2 a3 a4 a5 H, JV l mi_16_row jeI 27 [(0, .ref a0), (1, .int a1), (2, .int a2), (3, .int a3), (4, .int a4), (5, .int a5)] [] H (k27 a0 a1 a2 a3 a4 a5 H)) (a0 : Nat) (a1 : Int32) (a2 : Int32) (a4 : Int32) (a5 : Int32) (s0 : Int32) (H : jH) : JV l mi_16_row jeI 71 [(0, .ref a0), (1, .int a1), (2, .int a2), (4, .int a4), (5, .int a5)] [.int s0] H (B_16_row_71 k27 a0 a1 a2 a4 a5 s0 H) := by
  unfold B_16_row_71
  refine s_62 72 rfl rfl ?_
  refine s_132L 5 1 75 1 ji_1 rfl rfl rfl (fun x1 => ?_)
  refine s_167 255 208 27 rfl rfl ?_
  exact s_jmp (hk27 _ _ _ _ _ _ _) ⟨rfl, rfl, rfl, rfl, rfl, rfl, trivial⟩
theorem v_16_row_54 (l : Launch) (k27 : Nat → Int32 → Int32 → Int32 → Int32 → Int32 → jH → Option (Int32 × jH)) (hk27 : ∀ a0 a1 a2 a3 a4 a5 H, JV l mi_16_row jeI 27 [(0, .ref a0), (1, .int a1), (2, .int a2), (3, .int a3), (4, .int a4), (5, .int a5)] [] H (k27 a0 a1 a2 a3 a4 a5 H)) (a0 : Nat) (a1 : Int32) (a2 : Int32) (a3 : Int32) (a5 : Int32) (s0 : Int32) (H : jH) : JV l mi_16_row jeI 54 [(0, .ref a0), (1, .int a1), (2, .int a2), (3, .int a3), (5, .int a5)] [.int s0] H (B_16_row_54 k27 a0 a1 a2 a3 a5 s0 H) := by
  unfold B_16_row_54
  refine s_54 4 56 rfl rfl ?_
  refine s_29 57 rfl rfl ?_
  refine s_21 4 59 rfl rfl ?_
  refine s_100 60 rfl ?_
  refine s_156 0 7 67 63 rfl rfl ?_ ?_
  · refine s_29 68 rfl rfl ?_
    refine s_21 4 70 rfl rfl ?_
    refine s_100 71 rfl ?_
    exact s_jmp (v_16_row_71 l k27 hk27 _ _ _ _ _ _ _) ⟨rfl, rfl, rfl, rfl, rfl, trivial⟩
  · refine s_3 64 rfl ?_
    refine s_167 0 7 71 rfl rfl ?_
    exact s_jmp (v_16_row_71 l k27 hk27 _ _ _ _ _ _ _) ⟨rfl, rfl, rfl, rfl, rfl, trivial⟩
theorem v_16_row_27 (l : Launch) (k27 : Nat → Int32 → Int32 → Int32 → Int32 → Int32 → jH → Option (Int32 × jH)) (hk27 : ∀ a0 a1 a2 a3 a4 a5 H, JV l mi_16_row jeI 27 [(0, .ref a0), (1, .int a1), (2, .int a2), (3, .int a3), (4, .int a4), (5, .int a5)] [] H (k27 a0 a1 a2 a3 a4 a5 H)) (a0 : Nat) (a1 : Int32) (a2 : Int32) (a3 : Int32) (a4 : Int32) (a5 : Int32) (H : jH) : JV l mi_16_row jeI 27 [(0, .ref a0), (1, .int a1), (2, .int a2), (3, .int a3), (4, .int a4), (5, .int a5)] [] H (B_16_row_27 k27 a0 a1 a2 a3 a4 a5 H) := by
  unfold B_16_row_27
  refine s_21 5 29 rfl rfl ?_
  refine s_28 30 rfl rfl ?_
  refine s_162 0 48 78 33 rfl rfl ?_ ?_
  · refine s_42 79 rfl rfl ?_
    refine s_27 80 rfl rfl ?_
    refine s_29 81 rfl rfl ?_
    refine s_182I 0 108 84 108 (m_16_below l _ _ _ _) rfl k_16_below jc_16 jw_2331 jw_1835 jw_1836 rfl rfl rfl rfl rfl (fun x2 h3 => ?_)
    exact s_172 rfl rfl
  · refine s_29 34 rfl rfl ?_
    refine s_154 0 5 39 37 rfl rfl ?_ ?_
    · refine s_21 5 41 rfl rfl ?_
      refine s_16 9 43 9 jbp_9 rfl ?_
      refine s_162 0 7 50 46 rfl rfl ?_ ?_
      · refine s_5 51 rfl ?_
        refine s_21 4 53 rfl rfl ?_
        refine s_104 54 rfl ?_
        exact s_jmp (v_16_row_54 l k27 hk27 _ _ _ _ _ _ _) ⟨rfl, rfl, rfl, rfl, rfl, trivial⟩
      · refine s_4 47 rfl ?_
        refine s_167 0 7 54 rfl rfl ?_
        exact s_jmp (v_16_row_54 l k27 hk27 _ _ _ _ _ _ _) ⟨rfl, rfl, rfl, rfl, rfl, trivial⟩
    · refine s_2 38 rfl ?_
      exact s_172 rfl rfl
theorem w_16_row_27 (l : Launch)  (n : Nat) : ∀ a0 a1 a2 a3 a4 a5 H, JV l mi_16_row jeI 27 [(0, .ref a0), (1, .int a1), (2, .int a2), (3, .int a3), (4, .int a4), (5, .int a5)] [] H (F_16_row_27  n a0 a1 a2 a3 a4 a5 H) := by
  induction n with
  | zero => intro _ _ _ _ _ _ _; exact s_none
  | succ n ih => intro a0 a1 a2 a3 a4 a5 H; exact v_16_row_27 l (F_16_row_27  n) ih a0 a1 a2 a3 a4 a5 H
theorem v_16_row (l : Launch) (a0 : Nat) (a1 : Int32) (a2 : Int32) (H : jH) : JV l mi_16_row jeI 0 [(0, .ref a0), (1, .int a1), (2, .int a2)] [] H (F_16_row a0 a1 a2 H) := by
  unfold F_16_row
  refine s_42 1 rfl rfl ?_
  refine s_27 2 rfl rfl ?_
  refine s_182I 0 102 5 102 (m_16_isBlock l _ _ _) rfl k_16_isBlock jc_16 jw_1829 jw_1831 jps_59 rfl rfl rfl rfl rfl (fun x4 h5 => ?_)
  refine s_153 0 7 12 8 rfl rfl ?_ ?_
  · exact s_jmp (v_16_row_12 l _) trivial
  · refine s_28 9 rfl rfl ?_
    refine s_156 0 5 14 12 rfl rfl ?_ ?_
    · refine s_42 15 rfl rfl ?_
      refine s_180R 0 13 18 13 f_16_3 jw_1474 rfl rfl ?_
      refine s_27 19 rfl rfl ?_
      refine s_46 20 rfl ?_
      refine s_62L 21 rfl rfl (fun x6 => ?_)
      refine s_4 22 rfl ?_
      refine s_54 4 24 rfl rfl ?_
      refine s_3 25 rfl ?_
      refine s_54 5 27 rfl rfl ?_
      exact s_jmp (w_16_row_27 l jfuel _ _ _ _ _ _ _) ⟨rfl, rfl, rfl, rfl, rfl, rfl, trivial⟩
    · exact s_jmp (v_16_row_12 l _) trivial
theorem m_16_row (l : Launch) (a0 : Nat) (a1 : Int32) (a2 : Int32) (H : jH) : JMet l y_16_row prog_20_method_27_code mi_16_row jeI [.ref a0, .int a1, .int a2] H (F_16_row a0 a1 a2 H) := jmet_of n_16_row (by decide) ⟨rfl, rfl⟩ (Nat.le_of_ble_eq_true rfl) (v_16_row l a0 a1 a2 H)
def mi_18_askBehind : jM := (738030353990904083590119954885608472377621617805417839253539136208964553330867132893052553623243627868751826939770059064204868232546292203323386561887723338199635510217477589329905194, 76, 4, "CoinNodeModel", none, "askBehind", 3, 69)
def y_18_askBehind : MethodName := ⟨"CoinNodeModel", "askBehind", "(I)V"⟩
theorem n_18_askBehind : jn_is prog_14_method_44_code mi_18_askBehind.1 mi_18_askBehind.2.1 := by unfold jn_is; decide +kernel
theorem k_18_askBehind : jmok y_18_askBehind prog_14_method_44_code mi_18_askBehind 1 := ⟨jw_2443, jw_14, ⟨by decide, by decide⟩, by decide +kernel⟩
theorem v_18_askBehind_25 (l : Launch) (k25 : Nat → Int32 → Int32 → Int32 → jH → Option (Unit × jH)) (hk25 : ∀ a0 a1 a2 a3 H, JV l mi_18_askBehind jeV 25 [(0, .ref a0), (1, .int a1), (2, .int a2), (3, .int a3)] [] H (k25 a0 a1 a2 a3 H)) (a0 : Nat) (a1 : Int32) (a2 : Int32) (a3 : Int32) (H : jH) : JV l mi_18_askBehind jeV 25 [(0, .ref a0), (1, .int a1), (2, .int a2), (3, .int a3)] [] H (B_18_askBehind_25 k25 a0 a1 a2 a3 H) := by
  unfold B_18_askBehind_25
  refine s_29 26 rfl rfl ?_
  refine s_155 0 36 62 29 rfl rfl ?_ ?_
  · refine s_42 63 rfl rfl ?_
    refine s_180R 0 176 66 176 f_18_55 jw_1665 rfl rfl ?_
    refine s_4 67 rfl ?_
    refine s_28 68 rfl rfl ?_
    refine s_145 69 rfl ?_
    refine s_84B 70 rfl (fun h1 => ?_)
    refine s_42 71 rfl rfl ?_
    refine s_27 72 rfl rfl ?_
    refine s_182V 1 220 75 476 (m_18_tell l _ _ _) rfl k_18_tell jc_18 jw_2299 jw_2301 jps_141 rfl rfl rfl rfl rfl (fun x2 h3 => ?_)
    exact s_177 rfl rfl
  · refine s_42 30 rfl rfl ?_
    refine s_42 31 rfl rfl ?_
    refine s_180R 0 63 34 63 f_18_8 jw_1618 rfl rfl ?_
    refine s_16 32 36 32 jbp_32 rfl ?_
    refine s_29 37 rfl rfl ?_
    refine s_104 38 rfl ?_
    refine s_16 32 40 32 jbp_32 rfl ?_
    refine s_182V 1 223 43 479 (m_18_copy l _ _ _ _ _) rfl k_18_copy jc_18 jw_2307 jw_2309 jps_143 rfl rfl rfl rfl rfl (fun x4 h5 => ?_)
    refine s_132L 2 1 46 1 ji_1 rfl rfl rfl (fun x6 => ?_)
    refine s_42 47 rfl rfl ?_
    refine s_180R 0 40 50 40 f_18_3 jw_1613 rfl rfl ?_
    refine s_42 51 rfl rfl ?_
    refine s_180I 1 84 54 340 f_18_13 jw_1623 rfl rfl ?_
    refine s_28 55 rfl rfl ?_
    refine s_182I 1 226 58 482 (m_16_row l _ _ _ _) rfl k_16_row jc_16 jw_2444 jw_2445 jw_2446 rfl rfl rfl rfl rfl (fun x7 h8 => ?_)
    refine s_62 59 rfl rfl ?_
    refine s_167 255 222 25 rfl rfl ?_
    exact s_jmp (hk25 _ _ _ _ _) ⟨rfl, rfl, rfl, rfl, trivial⟩
theorem w_18_askBehind_25 (l : Launch)  (n : Nat) : ∀ a0 a1 a2 a3 H, JV l mi_18_askBehind jeV 25 [(0, .ref a0), (1, .int a1), (2, .int a2), (3, .int a3)] [] H (F_18_askBehind_25  n a0 a1 a2 a3 H) := by
  induction n with
  | zero => intro _ _ _ _ _; exact s_none
  | succ n ih => intro a0 a1 a2 a3 H; exact v_18_askBehind_25 l (F_18_askBehind_25  n) ih a0 a1 a2 a3 H
theorem v_18_askBehind (l : Launch) (a0 : Nat) (a1 : Int32) (H : jH) : JV l mi_18_askBehind jeV 0 [(0, .ref a0), (1, .int a1)] [] H (F_18_askBehind a0 a1 H) := by
  unfold F_18_askBehind
  refine s_42 1 rfl rfl ?_
  refine s_6 2 rfl ?_
  refine s_182V 1 217 5 473 (m_18_begin l _ _ _) rfl k_18_begin jc_18 jw_2291 jw_2293 jps_139 rfl rfl rfl rfl rfl (fun x9 h10 => ?_)
  refine s_42 6 rfl rfl ?_
  refine s_3 7 rfl ?_
  refine s_182V 1 214 10 470 (m_18_put l _ _ _) rfl k_18_put jc_18 jw_2295 jw_2297 jps_140 rfl rfl rfl rfl rfl (fun x11 h12 => ?_)
  refine s_3 11 rfl ?_
  refine s_61 12 rfl rfl ?_
  refine s_42 13 rfl rfl ?_
  refine s_180R 0 40 16 40 f_18_3 jw_1613 rfl rfl ?_
  refine s_42 17 rfl rfl ?_
  refine s_180I 1 84 20 340 f_18_13 jw_1623 rfl rfl ?_
  refine s_3 21 rfl ?_
  refine s_182I 1 226 24 482 (m_16_row l _ _ _ _) rfl k_16_row jc_16 jw_2444 jw_2445 jw_2446 rfl rfl rfl rfl rfl (fun x13 h14 => ?_)
  refine s_62 25 rfl rfl ?_
  exact s_jmp (w_18_askBehind_25 l jfuel _ _ _ _ _) ⟨rfl, rfl, rfl, rfl, trivial⟩
theorem m_18_askBehind (l : Launch) (a0 : Nat) (a1 : Int32) (H : jH) : JMet l y_18_askBehind prog_14_method_44_code mi_18_askBehind jeV [.ref a0, .int a1] H (F_18_askBehind a0 a1 H) := jmet_of n_18_askBehind (by decide) ⟨rfl, rfl⟩ (Nat.le_of_ble_eq_true rfl) (v_18_askBehind l a0 a1 H)
def mi_18_heads : jM := (68295328452466629085444570383495245753951044631665896551610102329062130555529553896344321702537069352833224076361392480973244516897664682248013082076035436707757308855085368307138407724207021669393253364574508502040255116739765701228219404724478102858442054069759248109034235801339549458008600974228932684884954736358828490973154428604461676030924024145549096197088152525517014622598221801814401188045274627, 169, 6, "CoinNodeModel", none, "heads", 3, 66)
def y_18_heads : MethodName := ⟨"CoinNodeModel", "heads", "(II)V"⟩
theorem n_18_heads : jn_is prog_14_method_45_code mi_18_heads.1 mi_18_heads.2.1 := by unfold jn_is; decide +kernel
theorem k_18_heads : jmok y_18_heads prog_14_method_45_code mi_18_heads 2 := ⟨jw_2455, jw_14, ⟨by decide, by decide⟩, by decide +kernel⟩
theorem v_18_heads_66 (l : Launch) (k7 : Nat → Int32 → Int32 → Int32 → jH → Option (Unit × jH)) (hk7 : ∀ a0 a1 a3 a4 H, JV l mi_18_heads jeV 7 [(0, .ref a0), (1, .int a1), (3, .int a3), (4, .int a4)] [] H (k7 a0 a1 a3 a4 H)) (a0 : Nat) (a1 : Int32) (a4 : Int32) (s0 : Int32) (H : jH) : JV l mi_18_heads jeV 66 [(0, .ref a0), (1, .int a1), (4, .int a4)] [.int s0] H (B_18_heads_66 k7 a0 a1 a4 s0 H) := by
  unfold B_18_heads_66
  refine s_62 67 rfl rfl ?_
  refine s_132L 4 255 70 (-1) ji_255 rfl rfl rfl (fun x1 => ?_)
  refine s_167 255 193 7 rfl rfl ?_
  exact s_jmp (hk7 _ _ _ _ _) ⟨rfl, rfl, rfl, rfl, trivial⟩
theorem v_18_heads_65 (l : Launch) (k7 : Nat → Int32 → Int32 → Int32 → jH → Option (Unit × jH)) (hk7 : ∀ a0 a1 a3 a4 H, JV l mi_18_heads jeV 7 [(0, .ref a0), (1, .int a1), (3, .int a3), (4, .int a4)] [] H (k7 a0 a1 a3 a4 H)) (a0 : Nat) (a1 : Int32) (a3 : Int32) (a4 : Int32) (H : jH) : JV l mi_18_heads jeV 65 [(0, .ref a0), (1, .int a1), (3, .int a3), (4, .int a4)] [] H (B_18_heads_65 k7 a0 a1 a3 a4 H) := by
  unfold B_18_heads_65
  refine s_29 66 rfl rfl ?_
  exact s_jmp (v_18_heads_66 l k7 hk7 _ _ _ _ _) ⟨rfl, rfl, rfl, trivial⟩
theorem v_18_heads_121 (l : Launch) (k121 : Nat → Int32 → Int32 → Int32 → Int32 → jH → Option (Unit × jH)) (hk121 : ∀ a0 a1 a3 a4 a5 H, JV l mi_18_heads jeV 121 [(0, .ref a0), (1, .int a1), (3, .int a3), (4, .int a4), (5, .int a5)] [] H (k121 a0 a1 a3 a4 a5 H)) (a0 : Nat) (a1 : Int32) (a3 : Int32) (a4 : Int32) (a5 : Int32) (H : jH) : JV l mi_18_heads jeV 121 [(0, .ref a0), (1, .int a1), (3, .int a3), (4, .int a4), (5, .int a5)] [] H (B_18_heads_121 k121 a0 a1 a3 a4 a5 H) := by
  unfold B_18_heads_121
  refine s_21 5 123 rfl rfl ?_
  refine s_29 124 rfl rfl ?_
  refine s_21 4 126 rfl rfl ?_
  refine s_96 127 rfl ?_
  refine s_163 0 36 163 130 rfl rfl ?_ ?_
  · refine s_42 164 rfl rfl ?_
    refine s_27 165 rfl rfl ?_
    refine s_182V 1 220 168 476 (m_18_tell l _ _ _) rfl k_18_tell jc_18 jw_2299 jw_2301 jps_141 rfl rfl rfl rfl rfl (fun x2 h3 => ?_)
    exact s_177 rfl rfl
  · refine s_42 131 rfl rfl ?_
    refine s_42 132 rfl rfl ?_
    refine s_180R 0 55 135 55 f_18_6 jw_1616 rfl rfl ?_
    refine s_17 7 208 138 2000 jsp_7_208 rfl ?_
    refine s_42 139 rfl rfl ?_
    refine s_180R 0 40 142 40 f_18_3 jw_1613 rfl rfl ?_
    refine s_42 143 rfl rfl ?_
    refine s_180I 1 84 146 340 f_18_13 jw_1623 rfl rfl ?_
    refine s_21 5 148 rfl rfl ?_
    refine s_182I 0 254 151 254 (m_16_below l _ _ _ _) rfl k_16_below jc_16 jw_1834 jw_1835 jw_1836 rfl rfl rfl rfl rfl (fun x4 h5 => ?_)
    refine s_104 152 rfl ?_
    refine s_16 80 154 80 jbp_80 rfl ?_
    refine s_182V 1 223 157 479 (m_18_copy l _ _ _ _ _) rfl k_18_copy jc_18 jw_2307 jw_2309 jps_143 rfl rfl rfl rfl rfl (fun x6 h7 => ?_)
    refine s_132L 5 1 160 1 ji_1 rfl rfl rfl (fun x8 => ?_)
    refine s_167 255 217 121 rfl rfl ?_
    exact s_jmp (hk121 _ _ _ _ _ _) ⟨rfl, rfl, rfl, rfl, rfl, trivial⟩
theorem w_18_heads_121 (l : Launch)  (n : Nat) : ∀ a0 a1 a3 a4 a5 H, JV l mi_18_heads jeV 121 [(0, .ref a0), (1, .int a1), (3, .int a3), (4, .int a4), (5, .int a5)] [] H (F_18_heads_121  n a0 a1 a3 a4 a5 H) := by
  induction n with
  | zero => intro _ _ _ _ _ _; exact s_none
  | succ n ih => intro a0 a1 a3 a4 a5 H; exact v_18_heads_121 l (F_18_heads_121  n) ih a0 a1 a3 a4 a5 H
theorem v_18_heads_103 (l : Launch)  (a0 : Nat) (a1 : Int32) (a3 : Int32) (s0 : Int32) (H : jH) : JV l mi_18_heads jeV 103 [(0, .ref a0), (1, .int a1), (3, .int a3)] [.int s0] H (B_18_heads_103  a0 a1 a3 s0 H) := by
  unfold B_18_heads_103
  refine s_54 4 105 rfl rfl ?_
  refine s_42 106 rfl rfl ?_
  refine s_8 107 rfl ?_
  refine s_182V 1 217 110 473 (m_18_begin l _ _ _) rfl k_18_begin jc_18 jw_2291 jw_2293 jps_139 rfl rfl rfl rfl rfl (fun x9 h10 => ?_)
  refine s_42 111 rfl rfl ?_
  refine s_21 4 113 rfl rfl ?_
  refine s_182V 1 214 116 470 (m_18_put l _ _ _) rfl k_18_put jc_18 jw_2295 jw_2297 jps_140 rfl rfl rfl rfl rfl (fun x11 h12 => ?_)
  refine s_29 117 rfl rfl ?_
  refine s_4 118 rfl ?_
  refine s_96 119 rfl ?_
  refine s_54L 5 121 rfl rfl (fun x13 => ?_)
  exact s_jmp (w_18_heads_121 l jfuel _ _ _ _ _ _) ⟨rfl, rfl, rfl, rfl, rfl, trivial⟩
theorem v_18_heads_7 (l : Launch) (k7 : Nat → Int32 → Int32 → Int32 → jH → Option (Unit × jH)) (hk7 : ∀ a0 a1 a3 a4 H, JV l mi_18_heads jeV 7 [(0, .ref a0), (1, .int a1), (3, .int a3), (4, .int a4)] [] H (k7 a0 a1 a3 a4 H)) (a0 : Nat) (a1 : Int32) (a3 : Int32) (a4 : Int32) (H : jH) : JV l mi_18_heads jeV 7 [(0, .ref a0), (1, .int a1), (3, .int a3), (4, .int a4)] [] H (B_18_heads_7 k7 a0 a1 a3 a4 H) := by
  unfold B_18_heads_7
  refine s_21 4 9 rfl rfl ?_
  refine s_155 0 64 73 12 rfl rfl ?_ ?_
  · refine s_42 74 rfl rfl ?_
    refine s_42 75 rfl rfl ?_
    refine s_180I 1 84 78 340 f_18_13 jw_1623 rfl rfl ?_
    refine s_182I 0 250 81 250 (m_18_height l _ _ _) rfl k_18_height jc_18 jw_1821 jw_1823 jps_58 rfl rfl rfl rfl rfl (fun x14 h15 => ?_)
    refine s_29 82 rfl rfl ?_
    refine s_100 83 rfl ?_
    refine s_16 16 85 16 jbp_16 rfl ?_
    refine s_164 0 8 93 88 rfl rfl ?_ ?_
    · refine s_42 94 rfl rfl ?_
      refine s_42 95 rfl rfl ?_
      refine s_180I 1 84 98 340 f_18_13 jw_1623 rfl rfl ?_
      refine s_182I 0 250 101 250 (m_18_height l _ _ _) rfl k_18_height jc_18 jw_1821 jw_1823 jps_58 rfl rfl rfl rfl rfl (fun x16 h17 => ?_)
      refine s_29 102 rfl rfl ?_
      refine s_100 103 rfl ?_
      exact s_jmp (v_18_heads_103 l _ _ _ _ _) ⟨rfl, rfl, rfl, trivial⟩
    · refine s_16 16 90 16 jbp_16 rfl ?_
      refine s_167 0 13 103 rfl rfl ?_
      exact s_jmp (v_18_heads_103 l _ _ _ _ _) ⟨rfl, rfl, rfl, trivial⟩
  · refine s_42 13 rfl rfl ?_
    refine s_42 14 rfl rfl ?_
    refine s_180R 0 158 17 158 f_18_47 jw_1657 rfl rfl ?_
    refine s_5 18 rfl ?_
    refine s_16 32 20 32 jbp_32 rfl ?_
    refine s_21 4 22 rfl rfl ?_
    refine s_104 23 rfl ?_
    refine s_96 24 rfl ?_
    refine s_182I 1 175 27 431 (m_18_known l _ _ _ _) rfl k_18_known jc_18 jw_2315 jw_2317 jps_145 rfl rfl rfl rfl rfl (fun x18 h19 => ?_)
    refine s_54 5 29 rfl rfl ?_
    refine s_21 5 31 rfl rfl ?_
    refine s_155 0 34 65 34 rfl rfl ?_ ?_
    · exact s_jmp (v_18_heads_65 l k7 hk7 _ _ _ _ _) ⟨rfl, rfl, rfl, rfl, trivial⟩
    · refine s_42 35 rfl rfl ?_
      refine s_180R 0 40 38 40 f_18_3 jw_1613 rfl rfl ?_
      refine s_42 39 rfl rfl ?_
      refine s_180I 1 84 42 340 f_18_13 jw_1623 rfl rfl ?_
      refine s_42 43 rfl rfl ?_
      refine s_21 5 45 rfl rfl ?_
      refine s_182I 0 250 48 250 (m_18_height l _ _ _) rfl k_18_height jc_18 jw_1821 jw_1823 jps_58 rfl rfl rfl rfl rfl (fun x20 h21 => ?_)
      refine s_182I 0 254 51 254 (m_16_below l _ _ _ _) rfl k_16_below jc_16 jw_1834 jw_1835 jw_1836 rfl rfl rfl rfl rfl (fun x22 h23 => ?_)
      refine s_21 5 53 rfl rfl ?_
      refine s_160 0 12 65 56 rfl rfl ?_ ?_
      · exact s_jmp (v_18_heads_65 l k7 hk7 _ _ _ _ _) ⟨rfl, rfl, rfl, rfl, trivial⟩
      · refine s_42 57 rfl rfl ?_
        refine s_21 5 59 rfl rfl ?_
        refine s_182I 0 250 62 250 (m_18_height l _ _ _) rfl k_18_height jc_18 jw_1821 jw_1823 jps_58 rfl rfl rfl rfl rfl (fun x24 h25 => ?_)
        refine s_167 0 4 66 rfl rfl ?_
        exact s_jmp (v_18_heads_66 l k7 hk7 _ _ _ _ _) ⟨rfl, rfl, rfl, trivial⟩
theorem w_18_heads_7 (l : Launch)  (n : Nat) : ∀ a0 a1 a3 a4 H, JV l mi_18_heads jeV 7 [(0, .ref a0), (1, .int a1), (3, .int a3), (4, .int a4)] [] H (F_18_heads_7  n a0 a1 a3 a4 H) := by
  induction n with
  | zero => intro _ _ _ _ _; exact s_none
  | succ n ih => intro a0 a1 a3 a4 H; exact v_18_heads_7 l (F_18_heads_7  n) ih a0 a1 a3 a4 H
theorem v_18_heads (l : Launch) (a0 : Nat) (a1 : Int32) (a2 : Int32) (H : jH) : JV l mi_18_heads jeV 0 [(0, .ref a0), (1, .int a1), (2, .int a2)] [] H (F_18_heads a0 a1 a2 H) := by
  unfold F_18_heads
  refine s_3 1 rfl ?_
  refine s_62 2 rfl rfl ?_
  refine s_28 3 rfl rfl ?_
  refine s_4 4 rfl ?_
  refine s_100 5 rfl ?_
  refine s_54L 4 7 rfl rfl (fun x26 => ?_)
  exact s_jmp (w_18_heads_7 l jfuel _ _ _ _ _) ⟨rfl, rfl, rfl, rfl, trivial⟩
theorem m_18_heads (l : Launch) (a0 : Nat) (a1 : Int32) (a2 : Int32) (H : jH) : JMet l y_18_heads prog_14_method_45_code mi_18_heads jeV [.ref a0, .int a1, .int a2] H (F_18_heads a0 a1 a2 H) := jmet_of n_18_heads (by decide) ⟨rfl, rfl⟩ (Nat.le_of_ble_eq_true rfl) (v_18_heads l a0 a1 a2 H)
def mi_18_give : jM := (21072779990822639173613896820399002517689434371307777697310675482631481684767933075336261681313709397778256135636157537752331364918925069275083042168636483151389744601930690825581384392924047216585999965607496013477442778662428888443493490810454243205039659571289259845460748709121706557105962544626838872414262211743157002708968605482030101490362211686303933921447727218923479495010041810486568327968273742356310961382781317696798211, 180, 8, "CoinNodeModel", none, "give", 2, 49)
def y_18_give : MethodName := ⟨"CoinNodeModel", "give", "(II)V"⟩
theorem n_18_give : jn_is prog_14_method_46_code mi_18_give.1 mi_18_give.2.1 := by unfold jn_is; decide +kernel
theorem k_18_give : jmok y_18_give prog_14_method_46_code mi_18_give 2 := ⟨jw_2459, jw_14, ⟨by decide, by decide⟩, by decide +kernel⟩
theorem v_18_give_168 (l : Launch) (k2 : Nat → Int32 → Int32 → Int32 → jH → Option (Unit × jH)) (hk2 : ∀ a0 a1 a2 a3 H, JV l mi_18_give jeV 2 [(0, .ref a0), (1, .int a1), (2, .int a2), (3, .int a3)] [] H (k2 a0 a1 a2 a3 H)) (a0 : Nat) (a1 : Int32) (a2 : Int32) (a3 : Int32) (H : jH) : JV l mi_18_give jeV 168 [(0, .ref a0), (1, .int a1), (2, .int a2), (3, .int a3)] [] H (B_18_give_168 k2 a0 a1 a2 a3 H) := by
  unfold B_18_give_168
  refine s_42 169 rfl rfl ?_
  refine s_27 170 rfl rfl ?_
  refine s_182V 1 220 173 476 (m_18_tell l _ _ _) rfl k_18_tell jc_18 jw_2299 jw_2301 jps_141 rfl rfl rfl rfl rfl (fun x1 h2 => ?_)
  refine s_132L 3 1 176 1 ji_1 rfl rfl rfl (fun x3 => ?_)
  refine s_167 255 82 2 rfl rfl ?_
  exact s_jmp (hk2 _ _ _ _ _) ⟨rfl, rfl, rfl, rfl, trivial⟩
theorem v_18_give_150 (l : Launch) (k2 : Nat → Int32 → Int32 → Int32 → jH → Option (Unit × jH)) (hk2 : ∀ a0 a1 a2 a3 H, JV l mi_18_give jeV 2 [(0, .ref a0), (1, .int a1), (2, .int a2), (3, .int a3)] [] H (k2 a0 a1 a2 a3 H)) (a0 : Nat) (a1 : Int32) (a2 : Int32) (a3 : Int32) (s0 : Nat) (s1 : Nat) (s2 : Int32) (s3 : Int32) (H : jH) : JV l mi_18_give jeV 150 [(0, .ref a0), (1, .int a1), (2, .int a2), (3, .int a3)] [.int s3, .int s2, .ref s1, .ref s0] H (B_18_give_150 k2 a0 a1 a2 a3 s0 s1 s2 s3 H) := by
  unfold B_18_give_150
  refine s_182V 1 223 153 479 (m_18_copy l _ _ _ _ _) rfl k_18_copy jc_18 jw_2307 jw_2309 jps_143 rfl rfl rfl rfl rfl (fun x4 h5 => ?_)
  refine s_167 0 15 168 rfl rfl ?_
  exact s_jmp (v_18_give_168 l k2 hk2 _ _ _ _ _) ⟨rfl, rfl, rfl, rfl, trivial⟩
theorem v_18_give_121 (l : Launch) (k2 : Nat → Int32 → Int32 → Int32 → jH → Option (Unit × jH)) (hk2 : ∀ a0 a1 a2 a3 H, JV l mi_18_give jeV 2 [(0, .ref a0), (1, .int a1), (2, .int a2), (3, .int a3)] [] H (k2 a0 a1 a2 a3 H)) (a0 : Nat) (a1 : Int32) (a2 : Int32) (a3 : Int32) (a5 : Int32) (a6 : Int32) (s0 : Nat) (s1 : Nat) (H : jH) : JV l mi_18_give jeV 121 [(0, .ref a0), (1, .int a1), (2, .int a2), (3, .int a3), (5, .int a5), (6, .int a6)] [.ref s1, .ref s0] H (B_18_give_121 k2 a0 a1 a2 a3 a5 a6 s0 s1 H) := by
  unfold B_18_give_121
  refine s_17 7 208 124 2000 jsp_7_208 rfl ?_
  refine s_21 6 126 rfl rfl ?_
  refine s_104 127 rfl ?_
  refine s_21 5 129 rfl rfl ?_
  refine s_4 130 rfl ?_
  refine s_160 0 13 143 133 rfl rfl ?_ ?_
  · refine s_42 144 rfl rfl ?_
    refine s_180R 0 59 147 59 f_18_7 jw_1617 rfl rfl ?_
    refine s_21 6 149 rfl rfl ?_
    refine s_46 150 rfl ?_
    exact s_jmp (v_18_give_150 l k2 hk2 _ _ _ _ _ _ _ _ _) ⟨rfl, rfl, rfl, rfl, trivial⟩
  · refine s_42 134 rfl rfl ?_
    refine s_180R 0 131 137 131 f_18_38 jw_1648 rfl rfl ?_
    refine s_21 6 139 rfl rfl ?_
    refine s_46 140 rfl ?_
    refine s_167 0 10 150 rfl rfl ?_
    exact s_jmp (v_18_give_150 l k2 hk2 _ _ _ _ _ _ _ _ _) ⟨rfl, rfl, rfl, rfl, trivial⟩
theorem v_18_give_95 (l : Launch) (k2 : Nat → Int32 → Int32 → Int32 → jH → Option (Unit × jH)) (hk2 : ∀ a0 a1 a2 a3 H, JV l mi_18_give jeV 2 [(0, .ref a0), (1, .int a1), (2, .int a2), (3, .int a3)] [] H (k2 a0 a1 a2 a3 H)) (a0 : Nat) (a1 : Int32) (a2 : Int32) (a3 : Int32) (a4 : Int32) (a5 : Int32) (a6 : Int32) (a7 : Int32) (s0 : Nat) (s1 : Int32) (H : jH) : JV l mi_18_give jeV 95 [(0, .ref a0), (1, .int a1), (2, .int a2), (3, .int a3), (4, .int a4), (5, .int a5), (6, .int a6), (7, .int a7)] [.int s1, .ref s0] H (B_18_give_95 k2 a0 a1 a2 a3 a4 a5 a6 a7 s0 s1 H) := by
  unfold B_18_give_95
  refine s_182V 1 217 98 473 (m_18_begin l _ _ _) rfl k_18_begin jc_18 jw_2291 jw_2293 jps_139 rfl rfl rfl rfl rfl (fun x6 h7 => ?_)
  refine s_21 7 100 rfl rfl ?_
  refine s_153 0 56 156 103 rfl rfl ?_ ?_
  · refine s_42 157 rfl rfl ?_
    refine s_42 158 rfl rfl ?_
    refine s_180R 0 158 161 158 f_18_47 jw_1657 rfl rfl ?_
    refine s_21 4 163 rfl rfl ?_
    refine s_16 33 165 33 jbp_33 rfl ?_
    refine s_182V 1 223 168 479 (m_18_copy l _ _ _ _ _) rfl k_18_copy jc_18 jw_2307 jw_2309 jps_143 rfl rfl rfl rfl rfl (fun x8 h9 => ?_)
    exact s_jmp (v_18_give_168 l k2 hk2 _ _ _ _ _) ⟨rfl, rfl, rfl, rfl, trivial⟩
  · refine s_42 104 rfl rfl ?_
    refine s_21 5 106 rfl rfl ?_
    refine s_4 107 rfl ?_
    refine s_160 0 10 117 110 rfl rfl ?_ ?_
    · refine s_42 118 rfl rfl ?_
      refine s_180R 0 55 121 55 f_18_6 jw_1616 rfl rfl ?_
      exact s_jmp (v_18_give_121 l k2 hk2 _ _ _ _ _ _ _ _ _) ⟨rfl, rfl, rfl, rfl, rfl, rfl, trivial⟩
    · refine s_42 111 rfl rfl ?_
      refine s_180R 0 128 114 128 f_18_37 jw_1647 rfl rfl ?_
      refine s_167 0 7 121 rfl rfl ?_
      exact s_jmp (v_18_give_121 l k2 hk2 _ _ _ _ _ _ _ _ _) ⟨rfl, rfl, rfl, rfl, rfl, rfl, trivial⟩
theorem v_18_give_80 (l : Launch) (k2 : Nat → Int32 → Int32 → Int32 → jH → Option (Unit × jH)) (hk2 : ∀ a0 a1 a2 a3 H, JV l mi_18_give jeV 2 [(0, .ref a0), (1, .int a1), (2, .int a2), (3, .int a3)] [] H (k2 a0 a1 a2 a3 H)) (a0 : Nat) (a1 : Int32) (a2 : Int32) (a3 : Int32) (a4 : Int32) (a5 : Int32) (a6 : Int32) (s0 : Int32) (H : jH) : JV l mi_18_give jeV 80 [(0, .ref a0), (1, .int a1), (2, .int a2), (3, .int a3), (4, .int a4), (5, .int a5), (6, .int a6)] [.int s0] H (B_18_give_80 k2 a0 a1 a2 a3 a4 a5 a6 s0 H) := by
  unfold B_18_give_80
  refine s_54 7 82 rfl rfl ?_
  refine s_42 83 rfl rfl ?_
  refine s_21 7 85 rfl rfl ?_
  refine s_153 0 8 93 88 rfl rfl ?_ ?_
  · refine s_16 7 95 7 jbp_7 rfl ?_
    exact s_jmp (v_18_give_95 l k2 hk2 _ _ _ _ _ _ _ _ _ _ _) ⟨rfl, rfl, rfl, rfl, rfl, rfl, rfl, rfl, trivial⟩
  · refine s_21 5 90 rfl rfl ?_
    refine s_167 0 5 95 rfl rfl ?_
    exact s_jmp (v_18_give_95 l k2 hk2 _ _ _ _ _ _ _ _ _ _ _) ⟨rfl, rfl, rfl, rfl, rfl, rfl, rfl, rfl, trivial⟩
theorem v_18_give_75 (l : Launch) (k2 : Nat → Int32 → Int32 → Int32 → jH → Option (Unit × jH)) (hk2 : ∀ a0 a1 a2 a3 H, JV l mi_18_give jeV 2 [(0, .ref a0), (1, .int a1), (2, .int a2), (3, .int a3)] [] H (k2 a0 a1 a2 a3 H)) (a0 : Nat) (a1 : Int32) (a2 : Int32) (a3 : Int32) (a4 : Int32) (a5 : Int32) (a6 : Int32) (H : jH) : JV l mi_18_give jeV 75 [(0, .ref a0), (1, .int a1), (2, .int a2), (3, .int a3), (4, .int a4), (5, .int a5), (6, .int a6)] [] H (B_18_give_75 k2 a0 a1 a2 a3 a4 a5 a6 H) := by
  unfold B_18_give_75
  refine s_4 76 rfl ?_
  refine s_167 0 4 80 rfl rfl ?_
  exact s_jmp (v_18_give_80 l k2 hk2 _ _ _ _ _ _ _ _ _) ⟨rfl, rfl, rfl, rfl, rfl, rfl, rfl, trivial⟩
theorem v_18_give_79 (l : Launch) (k2 : Nat → Int32 → Int32 → Int32 → jH → Option (Unit × jH)) (hk2 : ∀ a0 a1 a2 a3 H, JV l mi_18_give jeV 2 [(0, .ref a0), (1, .int a1), (2, .int a2), (3, .int a3)] [] H (k2 a0 a1 a2 a3 H)) (a0 : Nat) (a1 : Int32) (a2 : Int32) (a3 : Int32) (a4 : Int32) (a5 : Int32) (a6 : Int32) (H : jH) : JV l mi_18_give jeV 79 [(0, .ref a0), (1, .int a1), (2, .int a2), (3, .int a3), (4, .int a4), (5, .int a5), (6, .int a6)] [] H (B_18_give_79 k2 a0 a1 a2 a3 a4 a5 a6 H) := by
  unfold B_18_give_79
  refine s_3 80 rfl ?_
  exact s_jmp (v_18_give_80 l k2 hk2 _ _ _ _ _ _ _ _ _) ⟨rfl, rfl, rfl, rfl, rfl, rfl, rfl, trivial⟩
theorem v_18_give_57 (l : Launch) (k2 : Nat → Int32 → Int32 → Int32 → jH → Option (Unit × jH)) (hk2 : ∀ a0 a1 a2 a3 H, JV l mi_18_give jeV 2 [(0, .ref a0), (1, .int a1), (2, .int a2), (3, .int a3)] [] H (k2 a0 a1 a2 a3 H)) (a0 : Nat) (a1 : Int32) (a2 : Int32) (a3 : Int32) (a4 : Int32) (a5 : Int32) (s0 : Int32) (H : jH) : JV l mi_18_give jeV 57 [(0, .ref a0), (1, .int a1), (2, .int a2), (3, .int a3), (4, .int a4), (5, .int a5)] [.int s0] H (B_18_give_57 k2 a0 a1 a2 a3 a4 a5 s0 H) := by
  unfold B_18_give_57
  refine s_54 6 59 rfl rfl ?_
  refine s_21 6 61 rfl rfl ?_
  refine s_157 0 14 75 64 rfl rfl ?_ ?_
  · exact s_jmp (v_18_give_75 l k2 hk2 _ _ _ _ _ _ _ _) ⟨rfl, rfl, rfl, rfl, rfl, rfl, rfl, trivial⟩
  · refine s_21 6 66 rfl rfl ?_
    refine s_154 0 13 79 69 rfl rfl ?_ ?_
    · exact s_jmp (v_18_give_79 l k2 hk2 _ _ _ _ _ _ _ _) ⟨rfl, rfl, rfl, rfl, rfl, rfl, rfl, trivial⟩
    · refine s_21 5 71 rfl rfl ?_
      refine s_4 72 rfl ?_
      refine s_160 0 7 79 75 rfl rfl ?_ ?_
      · exact s_jmp (v_18_give_79 l k2 hk2 _ _ _ _ _ _ _ _) ⟨rfl, rfl, rfl, rfl, rfl, rfl, rfl, trivial⟩
      · exact s_jmp (v_18_give_75 l k2 hk2 _ _ _ _ _ _ _ _) ⟨rfl, rfl, rfl, rfl, rfl, rfl, rfl, trivial⟩
theorem v_18_give_2 (l : Launch) (k2 : Nat → Int32 → Int32 → Int32 → jH → Option (Unit × jH)) (hk2 : ∀ a0 a1 a2 a3 H, JV l mi_18_give jeV 2 [(0, .ref a0), (1, .int a1), (2, .int a2), (3, .int a3)] [] H (k2 a0 a1 a2 a3 H)) (a0 : Nat) (a1 : Int32) (a2 : Int32) (a3 : Int32) (H : jH) : JV l mi_18_give jeV 2 [(0, .ref a0), (1, .int a1), (2, .int a2), (3, .int a3)] [] H (B_18_give_2 k2 a0 a1 a2 a3 H) := by
  unfold B_18_give_2
  refine s_29 3 rfl rfl ?_
  refine s_28 4 rfl rfl ?_
  refine s_162 0 175 179 7 rfl rfl ?_ ?_
  · exact s_177 rfl rfl
  · refine s_5 8 rfl ?_
    refine s_16 33 10 33 jbp_33 rfl ?_
    refine s_29 11 rfl rfl ?_
    refine s_104 12 rfl ?_
    refine s_96 13 rfl ?_
    refine s_54L 4 15 rfl rfl (fun x10 => ?_)
    refine s_42 16 rfl rfl ?_
    refine s_180R 0 158 19 158 f_18_47 jw_1657 rfl rfl ?_
    refine s_21 4 21 rfl rfl ?_
    refine s_51B 22 rfl ?_
    refine s_54L 5 24 rfl rfl (fun x11 => ?_)
    refine s_21 5 26 rfl rfl ?_
    refine s_4 27 rfl ?_
    refine s_160 0 18 45 30 rfl rfl ?_ ?_
    · refine s_42 46 rfl rfl ?_
      refine s_42 47 rfl rfl ?_
      refine s_180R 0 158 50 158 f_18_47 jw_1657 rfl rfl ?_
      refine s_21 4 52 rfl rfl ?_
      refine s_4 53 rfl ?_
      refine s_96 54 rfl ?_
      refine s_182I 1 175 57 431 (m_18_known l _ _ _ _) rfl k_18_known jc_18 jw_2315 jw_2317 jps_145 rfl rfl rfl rfl rfl (fun x12 h13 => ?_)
      exact s_jmp (v_18_give_57 l k2 hk2 _ _ _ _ _ _ _ _) ⟨rfl, rfl, rfl, rfl, rfl, rfl, trivial⟩
    · refine s_42 31 rfl rfl ?_
      refine s_42 32 rfl rfl ?_
      refine s_180R 0 158 35 158 f_18_47 jw_1657 rfl rfl ?_
      refine s_21 4 37 rfl rfl ?_
      refine s_4 38 rfl ?_
      refine s_96 39 rfl ?_
      refine s_182I 1 119 42 375 (m_18_inPool l _ _ _ _) rfl k_18_inPool jc_18 jw_1913 jw_1915 jps_69 rfl rfl rfl rfl rfl (fun x14 h15 => ?_)
      refine s_167 0 15 57 rfl rfl ?_
      exact s_jmp (v_18_give_57 l k2 hk2 _ _ _ _ _ _ _ _) ⟨rfl, rfl, rfl, rfl, rfl, rfl, trivial⟩
theorem w_18_give_2 (l : Launch)  (n : Nat) : ∀ a0 a1 a2 a3 H, JV l mi_18_give jeV 2 [(0, .ref a0), (1, .int a1), (2, .int a2), (3, .int a3)] [] H (F_18_give_2  n a0 a1 a2 a3 H) := by
  induction n with
  | zero => intro _ _ _ _ _; exact s_none
  | succ n ih => intro a0 a1 a2 a3 H; exact v_18_give_2 l (F_18_give_2  n) ih a0 a1 a2 a3 H
theorem v_18_give (l : Launch) (a0 : Nat) (a1 : Int32) (a2 : Int32) (H : jH) : JV l mi_18_give jeV 0 [(0, .ref a0), (1, .int a1), (2, .int a2)] [] H (F_18_give a0 a1 a2 H) := by
  unfold F_18_give
  refine s_3 1 rfl ?_
  refine s_62 2 rfl rfl ?_
  exact s_jmp (w_18_give_2 l jfuel _ _ _ _ _) ⟨rfl, rfl, rfl, rfl, trivial⟩
theorem m_18_give (l : Launch) (a0 : Nat) (a1 : Int32) (a2 : Int32) (H : jH) : JMet l y_18_give prog_14_method_46_code mi_18_give jeV [.ref a0, .int a1, .int a2] H (F_18_give a0 a1 a2 H) := jmet_of n_18_give (by decide) ⟨rfl, rfl⟩ (Nat.le_of_ble_eq_true rfl) (v_18_give l a0 a1 a2 H)
