def mi_14_pushNumber : jM := (780961401877073186188967160569410321779073423349984679178457961385686547694569303448212709383568737166167294081680090139611992913375282770199224345391717976360263659765016964892674445919501417278281703310365568936381319731686239515984477096873557166490499834851622455050662949535017091972592169754566857812966761953730654435347143505424110894605588931979681350289695, 152, 6, "CoinNodeModel$Scripts", none, "pushNumber", 0, 0)
def y_14_pushNumber : MethodName := ⟨"CoinNodeModel$Scripts", "pushNumber", "(J)V"⟩
theorem n_14_pushNumber : jn_is prog_18_method_6_code mi_14_pushNumber.1 mi_14_pushNumber.2.1 := by unfold jn_is; decide +kernel
theorem k_14_pushNumber : jmok y_14_pushNumber prog_18_method_6_code mi_14_pushNumber 1 := ⟨jw_1983, jw_18, ⟨by decide, by decide⟩, by decide +kernel⟩
theorem v_14_pushNumber_130 (l : Launch)  (a0 : Nat) (a5 : Int32) (H : jH) : JV l mi_14_pushNumber jeV 130 [(0, .ref a0), (5, .int a5)] [] H (B_14_pushNumber_130  a0 a5 H) := by
  unfold B_14_pushNumber_130
  refine s_42 131 rfl rfl ?_
  refine s_180R 0 13 134 13 f_14_1 jw_1391 rfl rfl ?_
  refine s_42 135 rfl rfl ?_
  refine s_180I 0 44 138 44 f_14_2 jw_1392 rfl rfl ?_
  refine s_21 5 140 rfl rfl ?_
  refine s_79 141 rfl (fun h1 => ?_)
  refine s_42 142 rfl rfl ?_
  refine s_89 143 rfl rfl ?_
  refine s_180I 0 44 146 44 f_14_2 jw_1392 rfl rfl ?_
  refine s_4 147 rfl ?_
  refine s_96 148 rfl ?_
  refine s_181I 0 44 151 44 f_14_2 rfl rfl jw_1392 rfl rfl (fun h2 => ?_)
  exact s_177 rfl rfl
theorem v_14_pushNumber_101 (l : Launch)  (a0 : Nat) (a1 : Int64) (a5 : Int32) (H : jH) : JV l mi_14_pushNumber jeV 101 [(0, .ref a0), (1, .long a1), (5, .int a5)] [] H (B_14_pushNumber_101  a0 a1 a5 H) := by
  unfold B_14_pushNumber_101
  refine s_31 102 rfl rfl ?_
  refine s_9 103 rfl ?_
  refine s_148_156 0 26 130 104 107 rfl rfl rfl ?_ ?_
  · exact s_jmp (v_14_pushNumber_130 l _ _ _) ⟨rfl, rfl, trivial⟩
  · refine s_42 108 rfl rfl ?_
    refine s_180R 0 7 111 7 f_14_0 jw_1390 rfl rfl ?_
    refine s_16 120 113 120 jbp_120 rfl ?_
    refine s_42 114 rfl rfl ?_
    refine s_180I 0 44 117 44 f_14_2 jw_1392 rfl rfl ?_
    refine s_104 118 rfl ?_
    refine s_21 5 120 rfl rfl ?_
    refine s_96 121 rfl ?_
    refine s_4 122 rfl ?_
    refine s_100 123 rfl ?_
    refine s_92 124 rfl rfl rfl ?_
    refine s_46 125 rfl ?_
    refine s_17 0 128 128 128 jsp_0_128 rfl ?_
    refine s_96 129 rfl ?_
    refine s_79 130 rfl (fun h3 => ?_)
    exact s_jmp (v_14_pushNumber_130 l _ _ _) ⟨rfl, rfl, trivial⟩
theorem v_14_pushNumber_16 (l : Launch) (k16 : Nat → Int64 → Int64 → Int32 → jH → Option (Unit × jH)) (hk16 : ∀ a0 a1 a3 a5 H, JV l mi_14_pushNumber jeV 16 [(0, .ref a0), (1, .long a1), (3, .long a3), (5, .int a5)] [] H (k16 a0 a1 a3 a5 H)) (a0 : Nat) (a1 : Int64) (a3 : Int64) (a5 : Int32) (H : jH) : JV l mi_14_pushNumber jeV 16 [(0, .ref a0), (1, .long a1), (3, .long a3), (5, .int a5)] [] H (B_14_pushNumber_16 k16 a0 a1 a3 a5 H) := by
  unfold B_14_pushNumber_16
  refine s_33 17 rfl rfl ?_
  refine s_9 18 rfl ?_
  refine s_148_158 0 36 55 19 22 rfl rfl rfl ?_ ?_
  · refine s_21 5 57 rfl rfl ?_
    refine s_158 0 44 101 60 rfl rfl ?_ ?_
    · exact s_jmp (v_14_pushNumber_101 l _ _ _ _) ⟨rfl, rfl, rfl, trivial⟩
    · refine s_42 61 rfl rfl ?_
      refine s_180R 0 7 64 7 f_14_0 jw_1390 rfl rfl ?_
      refine s_16 120 66 120 jbp_120 rfl ?_
      refine s_42 67 rfl rfl ?_
      refine s_180I 0 44 70 44 f_14_2 jw_1392 rfl rfl ?_
      refine s_104 71 rfl ?_
      refine s_21 5 73 rfl rfl ?_
      refine s_96 74 rfl ?_
      refine s_4 75 rfl ?_
      refine s_100 76 rfl ?_
      refine s_46 77 rfl ?_
      refine s_16 127 79 127 jbp_127 rfl ?_
      refine s_164 0 22 101 82 rfl rfl ?_ ?_
      · exact s_jmp (v_14_pushNumber_101 l _ _ _ _) ⟨rfl, rfl, rfl, trivial⟩
      · refine s_42 83 rfl rfl ?_
        refine s_180R 0 7 86 7 f_14_0 jw_1390 rfl rfl ?_
        refine s_16 120 88 120 jbp_120 rfl ?_
        refine s_42 89 rfl rfl ?_
        refine s_180I 0 44 92 44 f_14_2 jw_1392 rfl rfl ?_
        refine s_104 93 rfl ?_
        refine s_21 5 95 rfl rfl ?_
        refine s_96 96 rfl ?_
        refine s_3 97 rfl ?_
        refine s_79 98 rfl (fun h4 => ?_)
        refine s_132L 5 1 101 1 ji_1 rfl rfl rfl (fun x5 => ?_)
        exact s_jmp (v_14_pushNumber_101 l _ _ _ _) ⟨rfl, rfl, rfl, trivial⟩
  · refine s_42 23 rfl rfl ?_
    refine s_180R 0 7 26 7 f_14_0 jw_1390 rfl rfl ?_
    refine s_16 120 28 120 jbp_120 rfl ?_
    refine s_42 29 rfl rfl ?_
    refine s_180I 0 44 32 44 f_14_2 jw_1392 rfl rfl ?_
    refine s_104 33 rfl ?_
    refine s_21 5 35 rfl rfl ?_
    refine s_96 36 rfl ?_
    refine s_33 37 rfl rfl ?_
    refine s_20 0 51 40 51 256 rfl jw_1984 rfl ?_
    refine s_113 41 rfl ?_
    refine s_136 42 rfl ?_
    refine s_79 43 rfl (fun h6 => ?_)
    refine s_33 44 rfl rfl ?_
    refine s_20 0 51 47 51 256 rfl jw_1984 rfl ?_
    refine s_109 48 rfl ?_
    refine s_66L 49 rfl rfl (fun x7 => ?_)
    refine s_132L 5 1 52 1 ji_1 rfl rfl rfl (fun x8 => ?_)
    refine s_167 255 220 16 rfl rfl ?_
    exact s_jmp (hk16 _ _ _ _ _) ⟨rfl, rfl, rfl, rfl, trivial⟩
theorem w_14_pushNumber_16 (l : Launch)  (n : Nat) : ∀ a0 a1 a3 a5 H, JV l mi_14_pushNumber jeV 16 [(0, .ref a0), (1, .long a1), (3, .long a3), (5, .int a5)] [] H (F_14_pushNumber_16  n a0 a1 a3 a5 H) := by
  induction n with
  | zero => intro _ _ _ _ _; exact s_none
  | succ n ih => intro a0 a1 a3 a5 H; exact v_14_pushNumber_16 l (F_14_pushNumber_16  n) ih a0 a1 a3 a5 H
theorem v_14_pushNumber_12 (l : Launch)  (a0 : Nat) (a1 : Int64) (s0 : Int64) (H : jH) : JV l mi_14_pushNumber jeV 12 [(0, .ref a0), (1, .long a1)] [.long s0] H (B_14_pushNumber_12  a0 a1 s0 H) := by
  unfold B_14_pushNumber_12
  refine s_66 13 rfl rfl ?_
  refine s_3 14 rfl ?_
  refine s_54 5 16 rfl rfl ?_
  exact s_jmp (w_14_pushNumber_16 l jfuel _ _ _ _ _) ⟨rfl, rfl, rfl, rfl, trivial⟩
theorem v_14_pushNumber (l : Launch) (a0 : Nat) (a1 : Int64) (H : jH) : JV l mi_14_pushNumber jeV 0 [(0, .ref a0), (1, .long a1)] [] H (F_14_pushNumber a0 a1 H) := by
  unfold F_14_pushNumber
  refine s_31 1 rfl rfl ?_
  refine s_9 2 rfl ?_
  refine s_148_156 0 8 11 3 6 rfl rfl rfl ?_ ?_
  · refine s_31 12 rfl rfl ?_
    exact s_jmp (v_14_pushNumber_12 l _ _ _ _) ⟨rfl, rfl, trivial⟩
  · refine s_31 7 rfl rfl ?_
    refine s_117 8 rfl ?_
    refine s_167 0 4 12 rfl rfl ?_
    exact s_jmp (v_14_pushNumber_12 l _ _ _ _) ⟨rfl, rfl, trivial⟩
theorem m_14_pushNumber (l : Launch) (a0 : Nat) (a1 : Int64) (H : jH) : JMet l y_14_pushNumber prog_18_method_6_code mi_14_pushNumber jeV [.ref a0, .long a1] H (F_14_pushNumber a0 a1 H) := jmet_of n_14_pushNumber (by decide) ⟨rfl, rfl⟩ (Nat.le_of_ble_eq_true rfl) (v_14_pushNumber l a0 a1 H)
def mi_14_pushTruth : jM := (3594185812526675977133099050408746, 14, 2, "CoinNodeModel$Scripts", none, "pushTruth", 1, 25)
def y_14_pushTruth : MethodName := ⟨"CoinNodeModel$Scripts", "pushTruth", "(Z)V"⟩
theorem n_14_pushTruth : jn_is prog_18_method_7_code mi_14_pushTruth.1 mi_14_pushTruth.2.1 := by unfold jn_is; decide +kernel
theorem k_14_pushTruth : jmok y_14_pushTruth prog_18_method_7_code mi_14_pushTruth 1 := ⟨jw_2036, jw_18, ⟨by decide, by decide⟩, by decide +kernel⟩
theorem v_14_pushTruth_10 (l : Launch)  (s0 : Nat) (s1 : Int64) (H : jH) : JV l mi_14_pushTruth jeV 10 [] [.long s1, .ref s0] H (B_14_pushTruth_10  s0 s1 H) := by
  unfold B_14_pushTruth_10
  refine s_182V 0 53 13 53 (m_14_pushNumber l _ _ _) rfl k_14_pushNumber jc_14 jw_1980 jw_1982 jps_81 rfl rfl rfl rfl rfl (fun x1 h2 => ?_)
  exact s_177 rfl rfl
theorem v_14_pushTruth (l : Launch) (a0 : Nat) (a1 : Int32) (H : jH) : JV l mi_14_pushTruth jeV 0 [(0, .ref a0), (1, .int a1)] [] H (F_14_pushTruth a0 a1 H) := by
  unfold F_14_pushTruth
  refine s_42 1 rfl rfl ?_
  refine s_27 2 rfl rfl ?_
  refine s_153 0 7 9 5 rfl rfl ?_ ?_
  · refine s_9 10 rfl ?_
    exact s_jmp (v_14_pushTruth_10 l _ _ _) trivial
  · refine s_10 6 rfl ?_
    refine s_167 0 4 10 rfl rfl ?_
    exact s_jmp (v_14_pushTruth_10 l _ _ _) trivial
theorem m_14_pushTruth (l : Launch) (a0 : Nat) (a1 : Int32) (H : jH) : JMet l y_14_pushTruth prog_18_method_7_code mi_14_pushTruth jeV [.ref a0, .int a1] H (F_14_pushTruth a0 a1 H) := jmet_of n_14_pushTruth (by decide) ⟨rfl, rfl⟩ (Nat.le_of_ble_eq_true rfl) (v_14_pushTruth l a0 a1 H)
def mi_14_equal : jM := (27305923842523912152905310298495276135422397358865884725308979404521693980208917216553261670752532924548412771534122, 48, 3, "CoinNodeModel$Scripts", none, "equal", 3, 62)
def y_14_equal : MethodName := ⟨"CoinNodeModel$Scripts", "equal", "(Z)V"⟩
theorem n_14_equal : jn_is prog_18_method_25_code mi_14_equal.1 mi_14_equal.2.1 := by unfold jn_is; decide +kernel
theorem k_14_equal : jmok y_14_equal prog_18_method_25_code mi_14_equal 1 := ⟨jw_2028, jw_18, ⟨by decide, by decide⟩, by decide +kernel⟩
theorem v_14_equal_47 (l : Launch)   (H : jH) : JV l mi_14_equal jeV 47 [] [] H (B_14_equal_47   H) := by
  unfold B_14_equal_47
  exact s_177 rfl rfl
theorem v_14_equal (l : Launch) (a0 : Nat) (a1 : Int32) (H : jH) : JV l mi_14_equal jeV 0 [(0, .ref a0), (1, .int a1)] [] H (F_14_equal a0 a1 H) := by
  unfold F_14_equal
  refine s_42 1 rfl rfl ?_
  refine s_5 2 rfl ?_
  refine s_182I 0 64 5 64 (m_14_has l _ _ _) rfl k_14_has jc_14 jw_1971 jw_1973 jps_79 rfl rfl rfl rfl rfl (fun x1 h2 => ?_)
  refine s_154 0 4 9 8 rfl rfl ?_ ?_
  · refine s_42 10 rfl rfl ?_
    refine s_42 11 rfl rfl ?_
    refine s_3 12 rfl ?_
    refine s_182I 0 68 15 68 (m_14_top l _ _ _) rfl k_14_top jc_14 jw_2009 jw_2011 jps_88 rfl rfl rfl rfl rfl (fun x3 h4 => ?_)
    refine s_42 16 rfl rfl ?_
    refine s_4 17 rfl ?_
    refine s_182I 0 68 20 68 (m_14_top l _ _ _) rfl k_14_top jc_14 jw_2009 jw_2011 jps_88 rfl rfl rfl rfl rfl (fun x5 h6 => ?_)
    refine s_182I 0 142 23 142 (m_14_isSame l _ _ _ _) rfl k_14_isSame jc_14 jw_2029 jw_2031 jps_93 rfl rfl rfl rfl rfl (fun x7 h8 => ?_)
    refine s_61 24 rfl rfl ?_
    refine s_42 25 rfl rfl ?_
    refine s_89 26 rfl rfl ?_
    refine s_180I 0 44 29 44 f_14_2 jw_1392 rfl rfl ?_
    refine s_5 30 rfl ?_
    refine s_100 31 rfl ?_
    refine s_181I 0 44 34 44 f_14_2 rfl rfl jw_1392 rfl rfl (fun h9 => ?_)
    refine s_42 35 rfl rfl ?_
    refine s_28 36 rfl rfl ?_
    refine s_182V 0 101 39 101 (m_14_pushTruth l _ _ _) rfl k_14_pushTruth jc_14 jw_2033 jw_2035 jps_94 rfl rfl rfl rfl rfl (fun x10 h11 => ?_)
    refine s_27 40 rfl rfl ?_
    refine s_153 0 7 47 43 rfl rfl ?_ ?_
    · exact s_jmp (v_14_equal_47 l _) trivial
    · refine s_42 44 rfl rfl ?_
      refine s_182V 0 105 47 105 (m_14_mustBeTrue l _ _) rfl k_14_mustBeTrue jc_14 jw_2037 jw_2039 jps_95 rfl rfl rfl rfl rfl (fun x12 h13 => ?_)
      exact s_jmp (v_14_equal_47 l _) trivial
  · exact s_177 rfl rfl
theorem m_14_equal (l : Launch) (a0 : Nat) (a1 : Int32) (H : jH) : JMet l y_14_equal prog_18_method_25_code mi_14_equal jeV [.ref a0, .int a1] H (F_14_equal a0 a1 H) := jmet_of n_14_equal (by decide) ⟨rfl, rfl⟩ (Nat.le_of_ble_eq_true rfl) (v_14_equal l a0 a1 H)
def mi_14_copy : jM := (7008939471346087478284789864878244572334525193689387681899092755889467003260526427961672586138374132405975700465562666, 49, 4, "CoinNodeModel$Scripts", none, "copy", 0, 0)
def y_14_copy : MethodName := ⟨"CoinNodeModel$Scripts", "copy", "(II)V"⟩
theorem n_14_copy : jn_is prog_18_method_3_code mi_14_copy.1 mi_14_copy.2.1 := by unfold jn_is; decide +kernel
theorem k_14_copy : jmok y_14_copy prog_18_method_3_code mi_14_copy 2 := ⟨jw_1996, jw_18, ⟨by decide, by decide⟩, by decide +kernel⟩
theorem v_14_copy_14 (l : Launch) (k14 : Nat → Int32 → Int32 → Int32 → jH → Option (Unit × jH)) (hk14 : ∀ a0 a1 a2 a3 H, JV l mi_14_copy jeV 14 [(0, .ref a0), (1, .int a1), (2, .int a2), (3, .int a3)] [] H (k14 a0 a1 a2 a3 H)) (a0 : Nat) (a1 : Int32) (a2 : Int32) (a3 : Int32) (H : jH) : JV l mi_14_copy jeV 14 [(0, .ref a0), (1, .int a1), (2, .int a2), (3, .int a3)] [] H (B_14_copy_14 k14 a0 a1 a2 a3 H) := by
  unfold B_14_copy_14
  refine s_29 15 rfl rfl ?_
  refine s_16 120 17 120 jbp_120 rfl ?_
  refine s_162 0 31 48 20 rfl rfl ?_ ?_
  · exact s_177 rfl rfl
  · refine s_42 21 rfl rfl ?_
    refine s_180R 0 7 24 7 f_14_0 jw_1390 rfl rfl ?_
    refine s_16 120 26 120 jbp_120 rfl ?_
    refine s_27 27 rfl rfl ?_
    refine s_104 28 rfl ?_
    refine s_29 29 rfl rfl ?_
    refine s_96 30 rfl ?_
    refine s_42 31 rfl rfl ?_
    refine s_180R 0 7 34 7 f_14_0 jw_1390 rfl rfl ?_
    refine s_16 120 36 120 jbp_120 rfl ?_
    refine s_28 37 rfl rfl ?_
    refine s_104 38 rfl ?_
    refine s_29 39 rfl rfl ?_
    refine s_96 40 rfl ?_
    refine s_46 41 rfl ?_
    refine s_79 42 rfl (fun h1 => ?_)
    refine s_132L 3 1 45 1 ji_1 rfl rfl rfl (fun x2 => ?_)
    refine s_167 255 225 14 rfl rfl ?_
    exact s_jmp (hk14 _ _ _ _ _) ⟨rfl, rfl, rfl, rfl, trivial⟩
theorem w_14_copy_14 (l : Launch)  (n : Nat) : ∀ a0 a1 a2 a3 H, JV l mi_14_copy jeV 14 [(0, .ref a0), (1, .int a1), (2, .int a2), (3, .int a3)] [] H (F_14_copy_14  n a0 a1 a2 a3 H) := by
  induction n with
  | zero => intro _ _ _ _ _; exact s_none
  | succ n ih => intro a0 a1 a2 a3 H; exact v_14_copy_14 l (F_14_copy_14  n) ih a0 a1 a2 a3 H
theorem v_14_copy (l : Launch) (a0 : Nat) (a1 : Int32) (a2 : Int32) (H : jH) : JV l mi_14_copy jeV 0 [(0, .ref a0), (1, .int a1), (2, .int a2)] [] H (F_14_copy a0 a1 a2 H) := by
  unfold F_14_copy
  refine s_42 1 rfl rfl ?_
  refine s_180R 0 13 4 13 f_14_1 jw_1391 rfl rfl ?_
  refine s_27 5 rfl rfl ?_
  refine s_42 6 rfl rfl ?_
  refine s_180R 0 13 9 13 f_14_1 jw_1391 rfl rfl ?_
  refine s_28 10 rfl rfl ?_
  refine s_46 11 rfl ?_
  refine s_79 12 rfl (fun h3 => ?_)
  refine s_3 13 rfl ?_
  refine s_62 14 rfl rfl ?_
  exact s_jmp (w_14_copy_14 l jfuel _ _ _ _ _) ⟨rfl, rfl, rfl, rfl, trivial⟩
theorem m_14_copy (l : Launch) (a0 : Nat) (a1 : Int32) (a2 : Int32) (H : jH) : JMet l y_14_copy prog_18_method_3_code mi_14_copy jeV [.ref a0, .int a1, .int a2] H (F_14_copy a0 a1 a2 H) := jmet_of n_14_copy (by decide) ⟨rfl, rfl⟩ (Nat.le_of_ble_eq_true rfl) (v_14_copy l a0 a1 a2 H)
def mi_14_push : jM := (1011472660943290905161979644000049607744603564586, 20, 2, "CoinNodeModel$Scripts", none, "push", 1, 23)
def y_14_push : MethodName := ⟨"CoinNodeModel$Scripts", "push", "(I)V"⟩
theorem n_14_push : jn_is prog_18_method_5_code mi_14_push.1 mi_14_push.2.1 := by unfold jn_is; decide +kernel
theorem k_14_push : jmok y_14_push prog_18_method_5_code mi_14_push 1 := ⟨jw_2000, jw_18, ⟨by decide, by decide⟩, by decide +kernel⟩
theorem v_14_push (l : Launch) (a0 : Nat) (a1 : Int32) (H : jH) : JV l mi_14_push jeV 0 [(0, .ref a0), (1, .int a1)] [] H (F_14_push a0 a1 H) := by
  unfold F_14_push
  refine s_42 1 rfl rfl ?_
  refine s_42 2 rfl rfl ?_
  refine s_180I 0 44 5 44 f_14_2 jw_1392 rfl rfl ?_
  refine s_27 6 rfl rfl ?_
  refine s_182V 0 47 9 47 (m_14_copy l _ _ _ _) rfl k_14_copy jc_14 jw_1993 jw_1995 jps_84 rfl rfl rfl rfl rfl (fun x1 h2 => ?_)
  refine s_42 10 rfl rfl ?_
  refine s_89 11 rfl rfl ?_
  refine s_180I 0 44 14 44 f_14_2 jw_1392 rfl rfl ?_
  refine s_4 15 rfl ?_
  refine s_96 16 rfl ?_
  refine s_181I 0 44 19 44 f_14_2 rfl rfl jw_1392 rfl rfl (fun h3 => ?_)
  exact s_177 rfl rfl
theorem m_14_push (l : Launch) (a0 : Nat) (a1 : Int32) (H : jH) : JMet l y_14_push prog_18_method_5_code mi_14_push jeV [.ref a0, .int a1] H (F_14_push a0 a1 H) := jmet_of n_14_push (by decide) ⟨rfl, rfl⟩ (Nat.le_of_ble_eq_true rfl) (v_14_push l a0 a1 H)
def mi_14_again : jM := (6376413106839499806689000613749537266948698534591357664231111075246051645276267932972846441454676357815082, 44, 6, "CoinNodeModel$Scripts", none, "again", 2, 44)
def y_14_again : MethodName := ⟨"CoinNodeModel$Scripts", "again", "(III)V"⟩
theorem n_14_again : jn_is prog_18_method_20_code mi_14_again.1 mi_14_again.2.1 := by unfold jn_is; decide +kernel
theorem k_14_again : jmok y_14_again prog_18_method_20_code mi_14_again 3 := ⟨jw_2004, jw_18, ⟨by decide, by decide⟩, by decide +kernel⟩
theorem v_14_again_22 (l : Launch) (k22 : Nat → Int32 → Int32 → Int32 → jH → Option (Unit × jH)) (hk22 : ∀ a0 a3 a4 a5 H, JV l mi_14_again jeV 22 [(0, .ref a0), (3, .int a3), (4, .int a4), (5, .int a5)] [] H (k22 a0 a3 a4 a5 H)) (a0 : Nat) (a3 : Int32) (a4 : Int32) (a5 : Int32) (H : jH) : JV l mi_14_again jeV 22 [(0, .ref a0), (3, .int a3), (4, .int a4), (5, .int a5)] [] H (B_14_again_22 k22 a0 a3 a4 a5 H) := by
  unfold B_14_again_22
  refine s_21 5 24 rfl rfl ?_
  refine s_29 25 rfl rfl ?_
  refine s_162 0 18 43 28 rfl rfl ?_ ?_
  · exact s_177 rfl rfl
  · refine s_42 29 rfl rfl ?_
    refine s_21 4 31 rfl rfl ?_
    refine s_21 5 33 rfl rfl ?_
    refine s_96 34 rfl ?_
    refine s_182V 0 123 37 123 (m_14_push l _ _ _) rfl k_14_push jc_14 jw_1997 jw_1999 jps_85 rfl rfl rfl rfl rfl (fun x1 h2 => ?_)
    refine s_132L 5 1 40 1 ji_1 rfl rfl rfl (fun x3 => ?_)
    refine s_167 255 238 22 rfl rfl ?_
    exact s_jmp (hk22 _ _ _ _ _) ⟨rfl, rfl, rfl, rfl, trivial⟩
theorem w_14_again_22 (l : Launch)  (n : Nat) : ∀ a0 a3 a4 a5 H, JV l mi_14_again jeV 22 [(0, .ref a0), (3, .int a3), (4, .int a4), (5, .int a5)] [] H (F_14_again_22  n a0 a3 a4 a5 H) := by
  induction n with
  | zero => intro _ _ _ _ _; exact s_none
  | succ n ih => intro a0 a3 a4 a5 H; exact v_14_again_22 l (F_14_again_22  n) ih a0 a3 a4 a5 H
theorem v_14_again (l : Launch) (a0 : Nat) (a1 : Int32) (a2 : Int32) (a3 : Int32) (H : jH) : JV l mi_14_again jeV 0 [(0, .ref a0), (1, .int a1), (2, .int a2), (3, .int a3)] [] H (F_14_again a0 a1 a2 a3 H) := by
  unfold F_14_again
  refine s_42 1 rfl rfl ?_
  refine s_27 2 rfl rfl ?_
  refine s_182I 0 64 5 64 (m_14_has l _ _ _) rfl k_14_has jc_14 jw_1971 jw_1973 jps_79 rfl rfl rfl rfl rfl (fun x4 h5 => ?_)
  refine s_154 0 4 9 8 rfl rfl ?_ ?_
  · refine s_42 10 rfl rfl ?_
    refine s_180I 0 44 13 44 f_14_2 jw_1392 rfl rfl ?_
    refine s_28 14 rfl rfl ?_
    refine s_100 15 rfl ?_
    refine s_4 16 rfl ?_
    refine s_100 17 rfl ?_
    refine s_54L 4 19 rfl rfl (fun x6 => ?_)
    refine s_3 20 rfl ?_
    refine s_54 5 22 rfl rfl ?_
    exact s_jmp (w_14_again_22 l jfuel _ _ _ _ _) ⟨rfl, rfl, rfl, rfl, trivial⟩
  · exact s_177 rfl rfl
theorem m_14_again (l : Launch) (a0 : Nat) (a1 : Int32) (a2 : Int32) (a3 : Int32) (H : jH) : JMet l y_14_again prog_18_method_20_code mi_14_again jeV [.ref a0, .int a1, .int a2, .int a3] H (F_14_again a0 a1 a2 a3 H) := jmet_of n_14_again (by decide) ⟨rfl, rfl⟩ (Nat.le_of_ble_eq_true rfl) (v_14_again l a0 a1 a2 a3 H)
def mi_14_reads : jM := (13987018721546358334120342310014896779298437136505570177384630266882444273697946663520007081547394205532151369817342741893380885711453067896307474304564803647037487846691593208667567392220377193558186636986250581095842586605699071817988855999496030609185189193183404533504600329075128643969373432392551577022897943220265673073058566276124096911371180158326337723391844439088520627493674, 160, 5, "CoinNodeModel$Scripts", some FieldType.boolean, "reads", 2, 42)
def y_14_reads : MethodName := ⟨"CoinNodeModel$Scripts", "reads", "(I)Z"⟩
theorem n_14_reads : jn_is prog_18_method_12_code mi_14_reads.1 mi_14_reads.2.1 := by unfold jn_is; decide +kernel
theorem k_14_reads : jmok y_14_reads prog_18_method_12_code mi_14_reads 1 := ⟨jw_2024, jw_18, ⟨by decide, by decide⟩, by decide +kernel⟩
theorem v_14_reads_99 (l : Launch) (k50 : Nat → Int32 → Int32 → jH → Option (Int32 × jH)) (hk50 : ∀ a0 a2 a3 H, JV l mi_14_reads jeI 50 [(0, .ref a0), (2, .int a2), (3, .int a3)] [] H (k50 a0 a2 a3 H)) (a0 : Nat) (a2 : Int32) (a3 : Int32) (s0 : Nat) (s1 : Int64) (s2 : Int32) (H : jH) : JV l mi_14_reads jeI 99 [(0, .ref a0), (2, .int a2), (3, .int a3)] [.int s2, .long s1, .ref s0] H (B_14_reads_99 k50 a0 a2 a3 s0 s1 s2 H) := by
  unfold B_14_reads_99
  refine s_133 100 rfl ?_
  refine s_97 101 rfl ?_
  refine s_181L 0 72 104 72 f_14_11 rfl rfl jw_1402 rfl rfl (fun h1 => ?_)
  refine s_132L 3 255 107 (-1) ji_255 rfl rfl rfl (fun x2 => ?_)
  refine s_167 255 199 50 rfl rfl ?_
  exact s_jmp (hk50 _ _ _ _) ⟨rfl, rfl, rfl, trivial⟩
theorem v_14_reads_155 (l : Launch)  (s0 : Nat) (s1 : Int64) (H : jH) : JV l mi_14_reads jeI 155 [] [.long s1, .ref s0] H (B_14_reads_155  s0 s1 H) := by
  unfold B_14_reads_155
  refine s_181L 0 72 158 72 f_14_11 rfl rfl jw_1402 rfl rfl (fun h3 => ?_)
  refine s_4 159 rfl ?_
  exact s_172Z rfl rfl
theorem v_14_reads_151 (l : Launch)  (a0 : Nat) (s0 : Nat) (H : jH) : JV l mi_14_reads jeI 151 [(0, .ref a0)] [.ref s0] H (B_14_reads_151  a0 s0 H) := by
  unfold B_14_reads_151
  refine s_42 152 rfl rfl ?_
  refine s_180L 0 72 155 72 f_14_11 jw_1402 rfl rfl ?_
  exact s_jmp (v_14_reads_155 l _ _ _) trivial
theorem v_14_reads_50 (l : Launch) (k50 : Nat → Int32 → Int32 → jH → Option (Int32 × jH)) (hk50 : ∀ a0 a2 a3 H, JV l mi_14_reads jeI 50 [(0, .ref a0), (2, .int a2), (3, .int a3)] [] H (k50 a0 a2 a3 H)) (a0 : Nat) (a2 : Int32) (a3 : Int32) (H : jH) : JV l mi_14_reads jeI 50 [(0, .ref a0), (2, .int a2), (3, .int a3)] [] H (B_14_reads_50 k50 a0 a2 a3 H) := by
  unfold B_14_reads_50
  refine s_29 51 rfl rfl ?_
  refine s_155 0 59 110 54 rfl rfl ?_ ?_
  · refine s_42 111 rfl rfl ?_
    refine s_42 112 rfl rfl ?_
    refine s_180R 0 13 115 13 f_14_1 jw_1391 rfl rfl ?_
    refine s_28 116 rfl rfl ?_
    refine s_46 117 rfl ?_
    refine s_158 0 34 151 120 rfl rfl ?_ ?_
    · exact s_jmp (v_14_reads_151 l _ _ _) ⟨rfl, trivial⟩
    · refine s_42 121 rfl rfl ?_
      refine s_180R 0 7 124 7 f_14_0 jw_1390 rfl rfl ?_
      refine s_16 120 126 120 jbp_120 rfl ?_
      refine s_28 127 rfl rfl ?_
      refine s_104 128 rfl ?_
      refine s_42 129 rfl rfl ?_
      refine s_180R 0 13 132 13 f_14_1 jw_1391 rfl rfl ?_
      refine s_28 133 rfl rfl ?_
      refine s_46 134 rfl ?_
      refine s_96 135 rfl ?_
      refine s_4 136 rfl ?_
      refine s_100 137 rfl ?_
      refine s_46 138 rfl ?_
      refine s_16 127 140 127 jbp_127 rfl ?_
      refine s_164 0 11 151 143 rfl rfl ?_ ?_
      · exact s_jmp (v_14_reads_151 l _ _ _) ⟨rfl, trivial⟩
      · refine s_42 144 rfl rfl ?_
        refine s_180L 0 72 147 72 f_14_11 jw_1402 rfl rfl ?_
        refine s_117 148 rfl ?_
        refine s_167 0 7 155 rfl rfl ?_
        exact s_jmp (v_14_reads_155 l _ _ _) trivial
  · refine s_42 55 rfl rfl ?_
    refine s_180R 0 7 58 7 f_14_0 jw_1390 rfl rfl ?_
    refine s_16 120 60 120 jbp_120 rfl ?_
    refine s_28 61 rfl rfl ?_
    refine s_104 62 rfl ?_
    refine s_29 63 rfl rfl ?_
    refine s_96 64 rfl ?_
    refine s_46 65 rfl ?_
    refine s_54L 4 67 rfl rfl (fun x4 => ?_)
    refine s_42 68 rfl rfl ?_
    refine s_42 69 rfl rfl ?_
    refine s_180L 0 72 72 72 f_14_11 jw_1402 rfl rfl ?_
    refine s_20 0 51 75 51 256 rfl jw_1984 rfl ?_
    refine s_105 76 rfl ?_
    refine s_29 77 rfl rfl ?_
    refine s_42 78 rfl rfl ?_
    refine s_180R 0 13 81 13 f_14_1 jw_1391 rfl rfl ?_
    refine s_28 82 rfl rfl ?_
    refine s_46 83 rfl ?_
    refine s_4 84 rfl ?_
    refine s_100 85 rfl ?_
    refine s_160 0 12 97 88 rfl rfl ?_ ?_
    · refine s_21 4 99 rfl rfl ?_
      exact s_jmp (v_14_reads_99 l k50 hk50 _ _ _ _ _ _ _) ⟨rfl, rfl, rfl, trivial⟩
    · refine s_21 4 90 rfl rfl ?_
      refine s_17 0 128 93 128 jsp_0_128 rfl ?_
      refine s_112 94 rfl ?_
      refine s_167 0 5 99 rfl rfl ?_
      exact s_jmp (v_14_reads_99 l k50 hk50 _ _ _ _ _ _ _) ⟨rfl, rfl, rfl, trivial⟩
theorem w_14_reads_50 (l : Launch)  (n : Nat) : ∀ a0 a2 a3 H, JV l mi_14_reads jeI 50 [(0, .ref a0), (2, .int a2), (3, .int a3)] [] H (F_14_reads_50  n a0 a2 a3 H) := by
  induction n with
  | zero => intro _ _ _ _; exact s_none
  | succ n ih => intro a0 a2 a3 H; exact v_14_reads_50 l (F_14_reads_50  n) ih a0 a2 a3 H
theorem v_14_reads (l : Launch) (a0 : Nat) (a1 : Int32) (H : jH) : JV l mi_14_reads jeI 0 [(0, .ref a0), (1, .int a1)] [] H (F_14_reads a0 a1 H) := by
  unfold F_14_reads
  refine s_42 1 rfl rfl ?_
  refine s_27 2 rfl rfl ?_
  refine s_4 3 rfl ?_
  refine s_96 4 rfl ?_
  refine s_182I 0 64 7 64 (m_14_has l _ _ _) rfl k_14_has jc_14 jw_1971 jw_1973 jps_79 rfl rfl rfl rfl rfl (fun x5 h6 => ?_)
  refine s_154 0 5 12 10 rfl rfl ?_ ?_
  · refine s_42 13 rfl rfl ?_
    refine s_27 14 rfl rfl ?_
    refine s_182I 0 68 17 68 (m_14_top l _ _ _) rfl k_14_top jc_14 jw_2009 jw_2011 jps_88 rfl rfl rfl rfl rfl (fun x7 h8 => ?_)
    refine s_61 18 rfl rfl ?_
    refine s_42 19 rfl rfl ?_
    refine s_180R 0 13 22 13 f_14_1 jw_1391 rfl rfl ?_
    refine s_28 23 rfl rfl ?_
    refine s_46 24 rfl ?_
    refine s_7 25 rfl ?_
    refine s_164 0 11 36 28 rfl rfl ?_ ?_
    · refine s_42 37 rfl rfl ?_
      refine s_9 38 rfl ?_
      refine s_181L 0 72 41 72 f_14_11 rfl rfl jw_1402 rfl rfl (fun h9 => ?_)
      refine s_42 42 rfl rfl ?_
      refine s_180R 0 13 45 13 f_14_1 jw_1391 rfl rfl ?_
      refine s_28 46 rfl rfl ?_
      refine s_46 47 rfl ?_
      refine s_4 48 rfl ?_
      refine s_100 49 rfl ?_
      refine s_62L 50 rfl rfl (fun x10 => ?_)
      exact s_jmp (w_14_reads_50 l jfuel _ _ _ _) ⟨rfl, rfl, rfl, trivial⟩
    · refine s_42 29 rfl rfl ?_
      refine s_16 6 31 6 jbp_6 rfl ?_
      refine s_182V 0 60 34 60 (m_14_fails l _ _ _) rfl k_14_fails jc_14 jw_1959 jw_1961 jps_76 rfl rfl rfl rfl rfl (fun x11 h12 => ?_)
      refine s_3 35 rfl ?_
      exact s_172Z rfl rfl
  · refine s_3 11 rfl ?_
    exact s_172Z rfl rfl
theorem m_14_reads (l : Launch) (a0 : Nat) (a1 : Int32) (H : jH) : JMet l y_14_reads prog_18_method_12_code mi_14_reads jeI [.ref a0, .int a1] H (F_14_reads a0 a1 H) := jmet_of n_14_reads (by decide) ⟨rfl, rfl⟩ (Nat.le_of_ble_eq_true rfl) (v_14_reads l a0 a1 H)
def mi_14_takeOut : jM := (378436851223509901521850663431176745171275243817701983262292957837885041012267509943632193731828522, 41, 3, "CoinNodeModel$Scripts", none, "takeOut", 1, 23)
def y_14_takeOut : MethodName := ⟨"CoinNodeModel$Scripts", "takeOut", "(I)V"⟩
theorem n_14_takeOut : jn_is prog_18_method_22_code mi_14_takeOut.1 mi_14_takeOut.2.1 := by unfold jn_is; decide +kernel
theorem k_14_takeOut : jmok y_14_takeOut prog_18_method_22_code mi_14_takeOut 1 := ⟨jw_2016, jw_18, ⟨by decide, by decide⟩, by decide +kernel⟩
theorem v_14_takeOut_6 (l : Launch) (k6 : Nat → Int32 → jH → Option (Unit × jH)) (hk6 : ∀ a0 a2 H, JV l mi_14_takeOut jeV 6 [(0, .ref a0), (2, .int a2)] [] H (k6 a0 a2 H)) (a0 : Nat) (a2 : Int32) (H : jH) : JV l mi_14_takeOut jeV 6 [(0, .ref a0), (2, .int a2)] [] H (B_14_takeOut_6 k6 a0 a2 H) := by
  unfold B_14_takeOut_6
  refine s_28 7 rfl rfl ?_
  refine s_42 8 rfl rfl ?_
  refine s_180I 0 44 11 44 f_14_2 jw_1392 rfl rfl ?_
  refine s_4 12 rfl ?_
  refine s_100 13 rfl ?_
  refine s_162 0 17 30 16 rfl rfl ?_ ?_
  · refine s_42 31 rfl rfl ?_
    refine s_89 32 rfl rfl ?_
    refine s_180I 0 44 35 44 f_14_2 jw_1392 rfl rfl ?_
    refine s_4 36 rfl ?_
    refine s_100 37 rfl ?_
    refine s_181I 0 44 40 44 f_14_2 rfl rfl jw_1392 rfl rfl (fun h1 => ?_)
    exact s_177 rfl rfl
  · refine s_42 17 rfl rfl ?_
    refine s_28 18 rfl rfl ?_
    refine s_28 19 rfl rfl ?_
    refine s_4 20 rfl ?_
    refine s_96 21 rfl ?_
    refine s_182V 0 47 24 47 (m_14_copy l _ _ _ _) rfl k_14_copy jc_14 jw_1993 jw_1995 jps_84 rfl rfl rfl rfl rfl (fun x2 h3 => ?_)
    refine s_132L 2 1 27 1 ji_1 rfl rfl rfl (fun x4 => ?_)
    refine s_167 255 235 6 rfl rfl ?_
    exact s_jmp (hk6 _ _ _) ⟨rfl, rfl, trivial⟩
theorem w_14_takeOut_6 (l : Launch)  (n : Nat) : ∀ a0 a2 H, JV l mi_14_takeOut jeV 6 [(0, .ref a0), (2, .int a2)] [] H (F_14_takeOut_6  n a0 a2 H) := by
  induction n with
  | zero => intro _ _ _; exact s_none
  | succ n ih => intro a0 a2 H; exact v_14_takeOut_6 l (F_14_takeOut_6  n) ih a0 a2 H
theorem v_14_takeOut (l : Launch) (a0 : Nat) (a1 : Int32) (H : jH) : JV l mi_14_takeOut jeV 0 [(0, .ref a0), (1, .int a1)] [] H (F_14_takeOut a0 a1 H) := by
  unfold F_14_takeOut
  refine s_42 1 rfl rfl ?_
  refine s_27 2 rfl rfl ?_
  refine s_182I 0 68 5 68 (m_14_top l _ _ _) rfl k_14_top jc_14 jw_2009 jw_2011 jps_88 rfl rfl rfl rfl rfl (fun x5 h6 => ?_)
  refine s_61 6 rfl rfl ?_
  exact s_jmp (w_14_takeOut_6 l jfuel _ _ _) ⟨rfl, rfl, trivial⟩
theorem m_14_takeOut (l : Launch) (a0 : Nat) (a1 : Int32) (H : jH) : JMet l y_14_takeOut prog_18_method_22_code mi_14_takeOut jeV [.ref a0, .int a1] H (F_14_takeOut a0 a1 H) := jmet_of n_14_takeOut (by decide) ⟨rfl, rfl⟩ (Nat.le_of_ble_eq_true rfl) (v_14_takeOut l a0 a1 H)
def mi_14_pick : jM := (3477824638492669519419645050109060450952325487835911992372421640590796780049534871501121295923000874812252901034761977565990516197558300244143128910561313856387063508760767758975597929527132158385573987114, 85, 3, "CoinNodeModel$Scripts", none, "pick", 3, 66)
def y_14_pick : MethodName := ⟨"CoinNodeModel$Scripts", "pick", "(Z)V"⟩
theorem n_14_pick : jn_is prog_18_method_23_code mi_14_pick.1 mi_14_pick.2.1 := by unfold jn_is; decide +kernel
theorem k_14_pick : jmok y_14_pick prog_18_method_23_code mi_14_pick 1 := ⟨jw_2020, jw_18, ⟨by decide, by decide⟩, by decide +kernel⟩
theorem v_14_pick_43 (l : Launch)  (a0 : Nat) (H : jH) : JV l mi_14_pick jeV 43 [(0, .ref a0)] [] H (B_14_pick_43  a0 H) := by
  unfold B_14_pick_43
  refine s_42 44 rfl rfl ?_
  refine s_16 7 46 7 jbp_7 rfl ?_
  refine s_182V 0 60 49 60 (m_14_fails l _ _ _) rfl k_14_fails jc_14 jw_1959 jw_1961 jps_76 rfl rfl rfl rfl rfl (fun x1 h2 => ?_)
  exact s_177 rfl rfl
theorem v_14_pick_77 (l : Launch)  (a0 : Nat) (H : jH) : JV l mi_14_pick jeV 77 [(0, .ref a0)] [] H (B_14_pick_77  a0 H) := by
  unfold B_14_pick_77
  refine s_42 78 rfl rfl ?_
  refine s_17 0 134 81 134 jsp_0_134 rfl ?_
  refine s_182V 0 123 84 123 (m_14_push l _ _ _) rfl k_14_push jc_14 jw_1997 jw_1999 jps_85 rfl rfl rfl rfl rfl (fun x3 h4 => ?_)
  exact s_177 rfl rfl
theorem v_14_pick (l : Launch) (a0 : Nat) (a1 : Int32) (H : jH) : JV l mi_14_pick jeV 0 [(0, .ref a0), (1, .int a1)] [] H (F_14_pick a0 a1 H) := by
  unfold F_14_pick
  refine s_42 1 rfl rfl ?_
  refine s_3 2 rfl ?_
  refine s_182I 0 108 5 108 (m_14_reads l _ _ _) rfl k_14_reads jc_14 jw_2021 jw_2023 jps_91 rfl rfl rfl rfl rfl (fun x5 h6 => ?_)
  refine s_154 0 4 9 8 rfl rfl ?_ ?_
  · refine s_42 10 rfl rfl ?_
    refine s_89 11 rfl rfl ?_
    refine s_180I 0 44 14 44 f_14_2 jw_1392 rfl rfl ?_
    refine s_4 15 rfl ?_
    refine s_100 16 rfl ?_
    refine s_181I 0 44 19 44 f_14_2 rfl rfl jw_1392 rfl rfl (fun h7 => ?_)
    refine s_42 20 rfl rfl ?_
    refine s_180L 0 72 23 72 f_14_11 jw_1402 rfl rfl ?_
    refine s_9 24 rfl ?_
    refine s_148_155 0 18 43 25 28 rfl rfl rfl ?_ ?_
    · exact s_jmp (v_14_pick_43 l _ _) ⟨rfl, trivial⟩
    · refine s_42 29 rfl rfl ?_
      refine s_180L 0 72 32 72 f_14_11 jw_1402 rfl rfl ?_
      refine s_42 33 rfl rfl ?_
      refine s_180I 0 44 36 44 f_14_2 jw_1392 rfl rfl ?_
      refine s_4 37 rfl ?_
      refine s_100 38 rfl ?_
      refine s_133 39 rfl ?_
      refine s_148_158 0 10 50 40 43 rfl rfl rfl ?_ ?_
      · refine s_42 51 rfl rfl ?_
        refine s_180L 0 72 54 72 f_14_11 jw_1402 rfl rfl ?_
        refine s_136 55 rfl ?_
        refine s_61L 56 rfl rfl (fun x8 => ?_)
        refine s_42 57 rfl rfl ?_
        refine s_17 0 134 60 134 jsp_0_134 rfl ?_
        refine s_42 61 rfl rfl ?_
        refine s_28 62 rfl rfl ?_
        refine s_182I 0 68 65 68 (m_14_top l _ _ _) rfl k_14_top jc_14 jw_2009 jw_2011 jps_88 rfl rfl rfl rfl rfl (fun x9 h10 => ?_)
        refine s_182V 0 47 68 47 (m_14_copy l _ _ _ _) rfl k_14_copy jc_14 jw_1993 jw_1995 jps_84 rfl rfl rfl rfl rfl (fun x11 h12 => ?_)
        refine s_27 69 rfl rfl ?_
        refine s_153 0 8 77 72 rfl rfl ?_ ?_
        · exact s_jmp (v_14_pick_77 l _ _) ⟨rfl, trivial⟩
        · refine s_42 73 rfl rfl ?_
          refine s_28 74 rfl rfl ?_
          refine s_182V 0 126 77 126 (m_14_takeOut l _ _ _) rfl k_14_takeOut jc_14 jw_2013 jw_2015 jps_89 rfl rfl rfl rfl rfl (fun x13 h14 => ?_)
          exact s_jmp (v_14_pick_77 l _ _) ⟨rfl, trivial⟩
      · exact s_jmp (v_14_pick_43 l _ _) ⟨rfl, trivial⟩
  · exact s_177 rfl rfl
theorem m_14_pick (l : Launch) (a0 : Nat) (a1 : Int32) (H : jH) : JMet l y_14_pick prog_18_method_23_code mi_14_pick jeV [.ref a0, .int a1] H (F_14_pick a0 a1 H) := jmet_of n_14_pick (by decide) ⟨rfl, rfl⟩ (Nat.le_of_ble_eq_true rfl) (v_14_pick l a0 a1 H)
def mi_14_turn : jM := (13604686522361064319727718296288716998629526380573408813185809221432588331027466926298180525084396347585096992876987735705059530117977201873771386017562518697580278814369048180203586565480253863564286762, 84, 5, "CoinNodeModel$Scripts", none, "turn", 2, 42)
def y_14_turn : MethodName := ⟨"CoinNodeModel$Scripts", "turn", "(II)V"⟩
theorem n_14_turn : jn_is prog_18_method_21_code mi_14_turn.1 mi_14_turn.2.1 := by unfold jn_is; decide +kernel
theorem k_14_turn : jmok y_14_turn prog_18_method_21_code mi_14_turn 2 := ⟨jw_2008, jw_18, ⟨by decide, by decide⟩, by decide +kernel⟩
theorem v_14_turn_37 (l : Launch) (k11 : Nat → Int32 → Int32 → Int32 → jH → Option (Unit × jH)) (hk11 : ∀ a0 a1 a2 a3 H, JV l mi_14_turn jeV 11 [(0, .ref a0), (1, .int a1), (2, .int a2), (3, .int a3)] [] H (k11 a0 a1 a2 a3 H)) (k37 : Nat → Int32 → Int32 → Int32 → Int32 → jH → Option (Unit × jH)) (hk37 : ∀ a0 a1 a2 a3 a4 H, JV l mi_14_turn jeV 37 [(0, .ref a0), (1, .int a1), (2, .int a2), (3, .int a3), (4, .int a4)] [] H (k37 a0 a1 a2 a3 a4 H)) (a0 : Nat) (a1 : Int32) (a2 : Int32) (a3 : Int32) (a4 : Int32) (H : jH) : JV l mi_14_turn jeV 37 [(0, .ref a0), (1, .int a1), (2, .int a2), (3, .int a3), (4, .int a4)] [] H (B_14_turn_37 k11 k37 a0 a1 a2 a3 a4 H) := by
  unfold B_14_turn_37
  refine s_21 4 39 rfl rfl ?_
  refine s_42 40 rfl rfl ?_
  refine s_180I 0 44 43 44 f_14_2 jw_1392 rfl rfl ?_
  refine s_4 44 rfl ?_
  refine s_100 45 rfl ?_
  refine s_162 0 19 64 48 rfl rfl ?_ ?_
  · refine s_42 65 rfl rfl ?_
    refine s_42 66 rfl rfl ?_
    refine s_180I 0 44 69 44 f_14_2 jw_1392 rfl rfl ?_
    refine s_4 70 rfl ?_
    refine s_100 71 rfl ?_
    refine s_17 0 139 74 139 jsp_0_139 rfl ?_
    refine s_182V 0 47 77 47 (m_14_copy l _ _ _ _) rfl k_14_copy jc_14 jw_1993 jw_1995 jps_84 rfl rfl rfl rfl rfl (fun x1 h2 => ?_)
    refine s_132L 3 1 80 1 ji_1 rfl rfl rfl (fun x3 => ?_)
    refine s_167 255 187 11 rfl rfl ?_
    exact s_jmp (hk11 _ _ _ _ _) ⟨rfl, rfl, rfl, rfl, trivial⟩
  · refine s_42 49 rfl rfl ?_
    refine s_21 4 51 rfl rfl ?_
    refine s_21 4 53 rfl rfl ?_
    refine s_4 54 rfl ?_
    refine s_96 55 rfl ?_
    refine s_182V 0 47 58 47 (m_14_copy l _ _ _ _) rfl k_14_copy jc_14 jw_1993 jw_1995 jps_84 rfl rfl rfl rfl rfl (fun x4 h5 => ?_)
    refine s_132L 4 1 61 1 ji_1 rfl rfl rfl (fun x6 => ?_)
    refine s_167 255 232 37 rfl rfl ?_
    exact s_jmp (hk37 _ _ _ _ _ _) ⟨rfl, rfl, rfl, rfl, rfl, trivial⟩
theorem w_14_turn_37 (l : Launch) (k11 : Nat → Int32 → Int32 → Int32 → jH → Option (Unit × jH)) (hk11 : ∀ a0 a1 a2 a3 H, JV l mi_14_turn jeV 11 [(0, .ref a0), (1, .int a1), (2, .int a2), (3, .int a3)] [] H (k11 a0 a1 a2 a3 H)) (n : Nat) : ∀ a0 a1 a2 a3 a4 H, JV l mi_14_turn jeV 37 [(0, .ref a0), (1, .int a1), (2, .int a2), (3, .int a3), (4, .int a4)] [] H (F_14_turn_37 k11 n a0 a1 a2 a3 a4 H) := by
  induction n with
  | zero => intro _ _ _ _ _ _; exact s_none
  | succ n ih => intro a0 a1 a2 a3 a4 H; exact v_14_turn_37 l k11 hk11 (F_14_turn_37 k11 n) ih a0 a1 a2 a3 a4 H
theorem v_14_turn_11 (l : Launch) (k11 : Nat → Int32 → Int32 → Int32 → jH → Option (Unit × jH)) (hk11 : ∀ a0 a1 a2 a3 H, JV l mi_14_turn jeV 11 [(0, .ref a0), (1, .int a1), (2, .int a2), (3, .int a3)] [] H (k11 a0 a1 a2 a3 H)) (a0 : Nat) (a1 : Int32) (a2 : Int32) (a3 : Int32) (H : jH) : JV l mi_14_turn jeV 11 [(0, .ref a0), (1, .int a1), (2, .int a2), (3, .int a3)] [] H (B_14_turn_11 k11 a0 a1 a2 a3 H) := by
  unfold B_14_turn_11
  refine s_29 12 rfl rfl ?_
  refine s_28 13 rfl rfl ?_
  refine s_162 0 70 83 16 rfl rfl ?_ ?_
  · exact s_177 rfl rfl
  · refine s_42 17 rfl rfl ?_
    refine s_17 0 139 20 139 jsp_0_139 rfl ?_
    refine s_42 21 rfl rfl ?_
    refine s_180I 0 44 24 44 f_14_2 jw_1392 rfl rfl ?_
    refine s_27 25 rfl rfl ?_
    refine s_100 26 rfl ?_
    refine s_182V 0 47 29 47 (m_14_copy l _ _ _ _) rfl k_14_copy jc_14 jw_1993 jw_1995 jps_84 rfl rfl rfl rfl rfl (fun x7 h8 => ?_)
    refine s_42 30 rfl rfl ?_
    refine s_180I 0 44 33 44 f_14_2 jw_1392 rfl rfl ?_
    refine s_27 34 rfl rfl ?_
    refine s_100 35 rfl ?_
    refine s_54L 4 37 rfl rfl (fun x9 => ?_)
    exact s_jmp (w_14_turn_37 l k11 hk11 jfuel _ _ _ _ _ _) ⟨rfl, rfl, rfl, rfl, rfl, trivial⟩
theorem w_14_turn_11 (l : Launch)  (n : Nat) : ∀ a0 a1 a2 a3 H, JV l mi_14_turn jeV 11 [(0, .ref a0), (1, .int a1), (2, .int a2), (3, .int a3)] [] H (F_14_turn_11  n a0 a1 a2 a3 H) := by
  induction n with
  | zero => intro _ _ _ _ _; exact s_none
  | succ n ih => intro a0 a1 a2 a3 H; exact v_14_turn_11 l (F_14_turn_11  n) ih a0 a1 a2 a3 H
theorem v_14_turn (l : Launch) (a0 : Nat) (a1 : Int32) (a2 : Int32) (H : jH) : JV l mi_14_turn jeV 0 [(0, .ref a0), (1, .int a1), (2, .int a2)] [] H (F_14_turn a0 a1 a2 H) := by
  unfold F_14_turn
  refine s_42 1 rfl rfl ?_
  refine s_27 2 rfl rfl ?_
  refine s_182I 0 64 5 64 (m_14_has l _ _ _) rfl k_14_has jc_14 jw_1971 jw_1973 jps_79 rfl rfl rfl rfl rfl (fun x10 h11 => ?_)
  refine s_154 0 4 9 8 rfl rfl ?_ ?_
  · refine s_3 10 rfl ?_
    refine s_62 11 rfl rfl ?_
    exact s_jmp (w_14_turn_11 l jfuel _ _ _ _ _) ⟨rfl, rfl, rfl, rfl, trivial⟩
  · exact s_177 rfl rfl
theorem m_14_turn (l : Launch) (a0 : Nat) (a1 : Int32) (a2 : Int32) (H : jH) : JMet l y_14_turn prog_18_method_21_code mi_14_turn jeV [.ref a0, .int a1, .int a2] H (F_14_turn a0 a1 a2 H) := jmet_of n_14_turn (by decide) ⟨rfl, rfl⟩ (Nat.le_of_ble_eq_true rfl) (v_14_turn l a0 a1 a2 H)
def mi_14_moves : jM := (49039456060945681540148336379996775611151015439591306623312039611018809514291659133865916991136510140169149145317951167326106850764802413506201233129122353169934846340968251609696073676505991722895941172897232409853291134760523735127998654352769894761853566637516719541673398954096288815509972337480810493836538167747026253561421231970153295071093741360497645744401862907038144017566913169217711254829498682680104219099574214825806245764961692275988954636527075601470178193576512469766070368928120615416943096753344530197936614927972956746715575672477589405138843310162331718950393872902431234593539510870766221071759007179176416884027330311641027530462924176615904446327293439198727731557462999711477222307046796810911987511431277544744585120620119302958202233727167719285480333695197577546402525402621411845462810203320100725779607419543665821276231048067036431416679986379256118689625798478276560205880572880866433817145207254256761956455086800207958064068369108317158062084651106035837713279177922015083928295102921364241312000698058311351555584340028422220720667, 443, 2, "CoinNodeModel$Scripts", none, "moves", 4, 88)
def y_14_moves : MethodName := ⟨"CoinNodeModel$Scripts", "moves", "(I)V"⟩
theorem n_14_moves : jn_is prog_18_method_24_code mi_14_moves.1 mi_14_moves.2.1 := by unfold jn_is; decide +kernel
theorem k_14_moves : jmok y_14_moves prog_18_method_24_code mi_14_moves 1 := ⟨jw_1992, jw_18, ⟨by decide, by decide⟩, by decide +kernel⟩
theorem v_14_moves_442 (l : Launch)   (H : jH) : JV l mi_14_moves jeV 442 [] [] H (B_14_moves_442   H) := by
  unfold B_14_moves_442
  exact s_177 rfl rfl
theorem v_14_moves_199 (l : Launch)  (s0 : Nat) (s1 : Int32) (H : jH) : JV l mi_14_moves jeV 199 [] [.int s1, .ref s0] H (B_14_moves_199  s0 s1 H) := by
  unfold B_14_moves_199
  refine s_181I 0 44 202 44 f_14_2 rfl rfl jw_1392 rfl rfl (fun h1 => ?_)
  refine s_167 0 240 442 rfl rfl ?_
  exact s_jmp (v_14_moves_442 l _) trivial
theorem v_14_moves_320 (l : Launch)  (s0 : Nat) (s1 : Int32) (H : jH) : JV l mi_14_moves jeV 320 [] [.int s1, .ref s0] H (B_14_moves_320  s0 s1 H) := by
  unfold B_14_moves_320
  refine s_181I 0 44 323 44 f_14_2 rfl rfl jw_1392 rfl rfl (fun h2 => ?_)
  refine s_167 0 119 442 rfl rfl ?_
  exact s_jmp (v_14_moves_442 l _) trivial
theorem v_14_moves (l : Launch) (a0 : Nat) (a1 : Int32) (H : jH) : JV l mi_14_moves jeV 0 [(0, .ref a0), (1, .int a1)] [] H (F_14_moves a0 a1 H) := by
  unfold F_14_moves
  refine s_27 1 rfl rfl ?_
  refine s_sw1 91 92 418 107 125 91 #[91, 137, 176, 204, 214, 224, 234, 244, 253, 285, 297, 325, 335, 351, 361, 369, 377, 386, 395] 107 n_14_moves (by decide +kernel) (by decide) ?_ (fun q0 => ?_)
  · refine s_42 93 rfl rfl ?_
    refine s_4 94 rfl ?_
    refine s_182I 0 64 97 64 (m_14_has l _ _ _) rfl k_14_has jc_14 jw_1971 jw_1973 jps_79 rfl rfl rfl rfl rfl (fun x3 h4 => ?_)
    refine s_153 1 89 442 100 rfl rfl ?_ ?_
    · exact s_jmp (v_14_moves_442 l _) trivial
    · refine s_42 101 rfl rfl ?_
      refine s_89 102 rfl rfl ?_
      refine s_180I 0 44 105 44 f_14_2 jw_1392 rfl rfl ?_
      refine s_4 106 rfl ?_
      refine s_100 107 rfl ?_
      refine s_181I 0 44 110 44 f_14_2 rfl rfl jw_1392 rfl rfl (fun h5 => ?_)
      refine s_42 111 rfl rfl ?_
      refine s_16 70 113 70 jbp_70 rfl ?_
      refine s_42 114 rfl rfl ?_
      refine s_180I 0 129 117 129 f_14_3 jw_1393 rfl rfl ?_
      refine s_96 118 rfl ?_
      refine s_42 119 rfl rfl ?_
      refine s_180I 0 44 122 44 f_14_2 jw_1392 rfl rfl ?_
      refine s_182V 0 47 125 47 (m_14_copy l _ _ _ _) rfl k_14_copy jc_14 jw_1993 jw_1995 jps_84 rfl rfl rfl rfl rfl (fun x6 h7 => ?_)
      refine s_42 126 rfl rfl ?_
      refine s_89 127 rfl rfl ?_
      refine s_180I 0 129 130 129 f_14_3 jw_1393 rfl rfl ?_
      refine s_4 131 rfl ?_
      refine s_96 132 rfl ?_
      refine s_181I 0 129 135 129 f_14_3 rfl rfl jw_1393 rfl rfl (fun h8 => ?_)
      refine s_167 1 51 442 rfl rfl ?_
      exact s_jmp (v_14_moves_442 l _) trivial
  refine s_sw1 91 138 418 107 125 137 #[91, 137, 176, 204, 214, 224, 234, 244, 253, 285, 297, 325, 335, 351, 361, 369, 377, 386, 395] 108 n_14_moves (by decide +kernel) (by decide) ?_ (fun q1 => ?_)
  · refine s_42 139 rfl rfl ?_
    refine s_180I 0 129 142 129 f_14_3 jw_1393 rfl rfl ?_
    refine s_154 0 11 153 145 rfl rfl ?_ ?_
    · refine s_42 154 rfl rfl ?_
      refine s_89 155 rfl rfl ?_
      refine s_180I 0 129 158 129 f_14_3 jw_1393 rfl rfl ?_
      refine s_4 159 rfl ?_
      refine s_100 160 rfl ?_
      refine s_181I 0 129 163 129 f_14_3 rfl rfl jw_1393 rfl rfl (fun h9 => ?_)
      refine s_42 164 rfl rfl ?_
      refine s_16 70 166 70 jbp_70 rfl ?_
      refine s_42 167 rfl rfl ?_
      refine s_180I 0 129 170 129 f_14_3 jw_1393 rfl rfl ?_
      refine s_96 171 rfl ?_
      refine s_182V 0 123 174 123 (m_14_push l _ _ _) rfl k_14_push jc_14 jw_1997 jw_1999 jps_85 rfl rfl rfl rfl rfl (fun x10 h11 => ?_)
      refine s_167 1 12 442 rfl rfl ?_
      exact s_jmp (v_14_moves_442 l _) trivial
    · refine s_42 146 rfl rfl ?_
      refine s_8 147 rfl ?_
      refine s_182V 0 60 150 60 (m_14_fails l _ _ _) rfl k_14_fails jc_14 jw_1959 jw_1961 jps_76 rfl rfl rfl rfl rfl (fun x12 h13 => ?_)
      refine s_167 1 36 442 rfl rfl ?_
      exact s_jmp (v_14_moves_442 l _) trivial
  refine s_sw1 91 177 418 107 125 176 #[91, 137, 176, 204, 214, 224, 234, 244, 253, 285, 297, 325, 335, 351, 361, 369, 377, 386, 395] 109 n_14_moves (by decide +kernel) (by decide) ?_ (fun q2 => ?_)
  · refine s_42 178 rfl rfl ?_
    refine s_42 179 rfl rfl ?_
    refine s_5 180 rfl ?_
    refine s_182I 0 64 183 64 (m_14_has l _ _ _) rfl k_14_has jc_14 jw_1971 jw_1973 jps_79 rfl rfl rfl rfl rfl (fun x14 h15 => ?_)
    refine s_153 0 12 195 186 rfl rfl ?_ ?_
    · refine s_42 196 rfl rfl ?_
      refine s_180I 0 44 199 44 f_14_2 jw_1392 rfl rfl ?_
      exact s_jmp (v_14_moves_199 l _ _ _) trivial
    · refine s_42 187 rfl rfl ?_
      refine s_180I 0 44 190 44 f_14_2 jw_1392 rfl rfl ?_
      refine s_5 191 rfl ?_
      refine s_100 192 rfl ?_
      refine s_167 0 7 199 rfl rfl ?_
      exact s_jmp (v_14_moves_199 l _ _ _) trivial
  refine s_sw1 91 205 418 107 125 204 #[91, 137, 176, 204, 214, 224, 234, 244, 253, 285, 297, 325, 335, 351, 361, 369, 377, 386, 395] 110 n_14_moves (by decide +kernel) (by decide) ?_ (fun q3 => ?_)
  · refine s_42 206 rfl rfl ?_
    refine s_5 207 rfl ?_
    refine s_4 208 rfl ?_
    refine s_5 209 rfl ?_
    refine s_182V 0 132 212 132 (m_14_again l _ _ _ _ _) rfl k_14_again jc_14 jw_2001 jw_2003 jps_86 rfl rfl rfl rfl rfl (fun x16 h17 => ?_)
    refine s_167 0 230 442 rfl rfl ?_
    exact s_jmp (v_14_moves_442 l _) trivial
  refine s_sw1 91 215 418 107 125 214 #[91, 137, 176, 204, 214, 224, 234, 244, 253, 285, 297, 325, 335, 351, 361, 369, 377, 386, 395] 111 n_14_moves (by decide +kernel) (by decide) ?_ (fun q4 => ?_)
  · refine s_42 216 rfl rfl ?_
    refine s_6 217 rfl ?_
    refine s_5 218 rfl ?_
    refine s_6 219 rfl ?_
    refine s_182V 0 132 222 132 (m_14_again l _ _ _ _ _) rfl k_14_again jc_14 jw_2001 jw_2003 jps_86 rfl rfl rfl rfl rfl (fun x18 h19 => ?_)
    refine s_167 0 220 442 rfl rfl ?_
    exact s_jmp (v_14_moves_442 l _) trivial
  refine s_sw1 91 225 418 107 125 224 #[91, 137, 176, 204, 214, 224, 234, 244, 253, 285, 297, 325, 335, 351, 361, 369, 377, 386, 395] 112 n_14_moves (by decide +kernel) (by decide) ?_ (fun q5 => ?_)
  · refine s_42 226 rfl rfl ?_
    refine s_7 227 rfl ?_
    refine s_6 228 rfl ?_
    refine s_5 229 rfl ?_
    refine s_182V 0 132 232 132 (m_14_again l _ _ _ _ _) rfl k_14_again jc_14 jw_2001 jw_2003 jps_86 rfl rfl rfl rfl rfl (fun x20 h21 => ?_)
    refine s_167 0 210 442 rfl rfl ?_
    exact s_jmp (v_14_moves_442 l _) trivial
  refine s_sw1 91 235 418 107 125 234 #[91, 137, 176, 204, 214, 224, 234, 244, 253, 285, 297, 325, 335, 351, 361, 369, 377, 386, 395] 113 n_14_moves (by decide +kernel) (by decide) ?_ (fun q6 => ?_)
  · refine s_42 236 rfl rfl ?_
    refine s_16 6 238 6 jbp_6 rfl ?_
    refine s_5 239 rfl ?_
    refine s_182V 0 136 242 136 (m_14_turn l _ _ _ _) rfl k_14_turn jc_14 jw_2005 jw_2007 jps_87 rfl rfl rfl rfl rfl (fun x22 h23 => ?_)
    refine s_167 0 200 442 rfl rfl ?_
    exact s_jmp (v_14_moves_442 l _) trivial
  refine s_sw1 91 245 418 107 125 244 #[91, 137, 176, 204, 214, 224, 234, 244, 253, 285, 297, 325, 335, 351, 361, 369, 377, 386, 395] 114 n_14_moves (by decide +kernel) (by decide) ?_ (fun q7 => ?_)
  · refine s_42 246 rfl rfl ?_
    refine s_7 247 rfl ?_
    refine s_5 248 rfl ?_
    refine s_182V 0 136 251 136 (m_14_turn l _ _ _ _) rfl k_14_turn jc_14 jw_2005 jw_2007 jps_87 rfl rfl rfl rfl rfl (fun x24 h25 => ?_)
    refine s_167 0 191 442 rfl rfl ?_
    exact s_jmp (v_14_moves_442 l _) trivial
  refine s_sw1 91 254 418 107 125 253 #[91, 137, 176, 204, 214, 224, 234, 244, 253, 285, 297, 325, 335, 351, 361, 369, 377, 386, 395] 115 n_14_moves (by decide +kernel) (by decide) ?_ (fun q8 => ?_)
  · refine s_42 255 rfl rfl ?_
    refine s_4 256 rfl ?_
    refine s_182I 0 64 259 64 (m_14_has l _ _ _) rfl k_14_has jc_14 jw_1971 jw_1973 jps_79 rfl rfl rfl rfl rfl (fun x26 h27 => ?_)
    refine s_153 0 183 442 262 rfl rfl ?_ ?_
    · exact s_jmp (v_14_moves_442 l _) trivial
    · refine s_42 263 rfl rfl ?_
      refine s_42 264 rfl rfl ?_
      refine s_3 265 rfl ?_
      refine s_182I 0 68 268 68 (m_14_top l _ _ _) rfl k_14_top jc_14 jw_2009 jw_2011 jps_88 rfl rfl rfl rfl rfl (fun x28 h29 => ?_)
      refine s_182I 0 76 271 76 (m_14_isTrueRow l _ _ _) rfl k_14_isTrueRow jc_14 jw_1975 jw_1977 jps_80 rfl rfl rfl rfl rfl (fun x30 h31 => ?_)
      refine s_153 0 171 442 274 rfl rfl ?_ ?_
      · exact s_jmp (v_14_moves_442 l _) trivial
      · refine s_42 275 rfl rfl ?_
        refine s_42 276 rfl rfl ?_
        refine s_3 277 rfl ?_
        refine s_182I 0 68 280 68 (m_14_top l _ _ _) rfl k_14_top jc_14 jw_2009 jw_2011 jps_88 rfl rfl rfl rfl rfl (fun x32 h33 => ?_)
        refine s_182V 0 123 283 123 (m_14_push l _ _ _) rfl k_14_push jc_14 jw_1997 jw_1999 jps_85 rfl rfl rfl rfl rfl (fun x34 h35 => ?_)
        refine s_167 0 159 442 rfl rfl ?_
        exact s_jmp (v_14_moves_442 l _) trivial
  refine s_sw1 91 286 418 107 125 285 #[91, 137, 176, 204, 214, 224, 234, 244, 253, 285, 297, 325, 335, 351, 361, 369, 377, 386, 395] 116 n_14_moves (by decide +kernel) (by decide) ?_ (fun q9 => ?_)
  · refine s_42 287 rfl rfl ?_
    refine s_42 288 rfl rfl ?_
    refine s_180I 0 44 291 44 f_14_2 jw_1392 rfl rfl ?_
    refine s_133 292 rfl ?_
    refine s_182V 0 53 295 53 (m_14_pushNumber l _ _ _) rfl k_14_pushNumber jc_14 jw_1980 jw_1982 jps_81 rfl rfl rfl rfl rfl (fun x36 h37 => ?_)
    refine s_167 0 147 442 rfl rfl ?_
    exact s_jmp (v_14_moves_442 l _) trivial
  refine s_sw1 91 298 418 107 125 297 #[91, 137, 176, 204, 214, 224, 234, 244, 253, 285, 297, 325, 335, 351, 361, 369, 377, 386, 395] 117 n_14_moves (by decide +kernel) (by decide) ?_ (fun q10 => ?_)
  · refine s_42 299 rfl rfl ?_
    refine s_42 300 rfl rfl ?_
    refine s_4 301 rfl ?_
    refine s_182I 0 64 304 64 (m_14_has l _ _ _) rfl k_14_has jc_14 jw_1971 jw_1973 jps_79 rfl rfl rfl rfl rfl (fun x38 h39 => ?_)
    refine s_153 0 12 316 307 rfl rfl ?_ ?_
    · refine s_42 317 rfl rfl ?_
      refine s_180I 0 44 320 44 f_14_2 jw_1392 rfl rfl ?_
      exact s_jmp (v_14_moves_320 l _ _ _) trivial
    · refine s_42 308 rfl rfl ?_
      refine s_180I 0 44 311 44 f_14_2 jw_1392 rfl rfl ?_
      refine s_4 312 rfl ?_
      refine s_100 313 rfl ?_
      refine s_167 0 7 320 rfl rfl ?_
      exact s_jmp (v_14_moves_320 l _ _ _) trivial
  refine s_sw1 91 326 418 107 125 325 #[91, 137, 176, 204, 214, 224, 234, 244, 253, 285, 297, 325, 335, 351, 361, 369, 377, 386, 395] 118 n_14_moves (by decide +kernel) (by decide) ?_ (fun q11 => ?_)
  · refine s_42 327 rfl rfl ?_
    refine s_4 328 rfl ?_
    refine s_3 329 rfl ?_
    refine s_4 330 rfl ?_
    refine s_182V 0 132 333 132 (m_14_again l _ _ _ _ _) rfl k_14_again jc_14 jw_2001 jw_2003 jps_86 rfl rfl rfl rfl rfl (fun x40 h41 => ?_)
    refine s_167 0 109 442 rfl rfl ?_
    exact s_jmp (v_14_moves_442 l _) trivial
  refine s_sw1 91 336 418 107 125 335 #[91, 137, 176, 204, 214, 224, 234, 244, 253, 285, 297, 325, 335, 351, 361, 369, 377, 386, 395] 119 n_14_moves (by decide +kernel) (by decide) ?_ (fun q12 => ?_)
  · refine s_42 337 rfl rfl ?_
    refine s_5 338 rfl ?_
    refine s_182I 0 64 341 64 (m_14_has l _ _ _) rfl k_14_has jc_14 jw_1971 jw_1973 jps_79 rfl rfl rfl rfl rfl (fun x42 h43 => ?_)
    refine s_153 0 101 442 344 rfl rfl ?_ ?_
    · exact s_jmp (v_14_moves_442 l _) trivial
    · refine s_42 345 rfl rfl ?_
      refine s_4 346 rfl ?_
      refine s_182V 0 126 349 126 (m_14_takeOut l _ _ _) rfl k_14_takeOut jc_14 jw_2013 jw_2015 jps_89 rfl rfl rfl rfl rfl (fun x44 h45 => ?_)
      refine s_167 0 93 442 rfl rfl ?_
      exact s_jmp (v_14_moves_442 l _) trivial
  refine s_sw1 91 352 418 107 125 351 #[91, 137, 176, 204, 214, 224, 234, 244, 253, 285, 297, 325, 335, 351, 361, 369, 377, 386, 395] 120 n_14_moves (by decide +kernel) (by decide) ?_ (fun q13 => ?_)
  · refine s_42 353 rfl rfl ?_
    refine s_5 354 rfl ?_
    refine s_4 355 rfl ?_
    refine s_4 356 rfl ?_
    refine s_182V 0 132 359 132 (m_14_again l _ _ _ _ _) rfl k_14_again jc_14 jw_2001 jw_2003 jps_86 rfl rfl rfl rfl rfl (fun x46 h47 => ?_)
    refine s_167 0 83 442 rfl rfl ?_
    exact s_jmp (v_14_moves_442 l _) trivial
  refine s_sw1 91 362 418 107 125 361 #[91, 137, 176, 204, 214, 224, 234, 244, 253, 285, 297, 325, 335, 351, 361, 369, 377, 386, 395] 121 n_14_moves (by decide +kernel) (by decide) ?_ (fun q14 => ?_)
  · refine s_42 363 rfl rfl ?_
    refine s_3 364 rfl ?_
    refine s_182V 0 139 367 139 (m_14_pick l _ _ _) rfl k_14_pick jc_14 jw_2017 jw_2019 jps_90 rfl rfl rfl rfl rfl (fun x48 h49 => ?_)
    refine s_167 0 75 442 rfl rfl ?_
    exact s_jmp (v_14_moves_442 l _) trivial
  refine s_sw1 91 370 418 107 125 369 #[91, 137, 176, 204, 214, 224, 234, 244, 253, 285, 297, 325, 335, 351, 361, 369, 377, 386, 395] 122 n_14_moves (by decide +kernel) (by decide) ?_ (fun q15 => ?_)
  · refine s_42 371 rfl rfl ?_
    refine s_4 372 rfl ?_
    refine s_182V 0 139 375 139 (m_14_pick l _ _ _) rfl k_14_pick jc_14 jw_2017 jw_2019 jps_90 rfl rfl rfl rfl rfl (fun x50 h51 => ?_)
    refine s_167 0 67 442 rfl rfl ?_
    exact s_jmp (v_14_moves_442 l _) trivial
  refine s_sw1 91 378 418 107 125 377 #[91, 137, 176, 204, 214, 224, 234, 244, 253, 285, 297, 325, 335, 351, 361, 369, 377, 386, 395] 123 n_14_moves (by decide +kernel) (by decide) ?_ (fun q16 => ?_)
  · refine s_42 379 rfl rfl ?_
    refine s_6 380 rfl ?_
    refine s_4 381 rfl ?_
    refine s_182V 0 136 384 136 (m_14_turn l _ _ _ _) rfl k_14_turn jc_14 jw_2005 jw_2007 jps_87 rfl rfl rfl rfl rfl (fun x52 h53 => ?_)
    refine s_167 0 58 442 rfl rfl ?_
    exact s_jmp (v_14_moves_442 l _) trivial
  refine s_sw1 91 387 418 107 125 386 #[91, 137, 176, 204, 214, 224, 234, 244, 253, 285, 297, 325, 335, 351, 361, 369, 377, 386, 395] 124 n_14_moves (by decide +kernel) (by decide) ?_ (fun q17 => ?_)
  · refine s_42 388 rfl rfl ?_
    refine s_5 389 rfl ?_
    refine s_4 390 rfl ?_
    refine s_182V 0 136 393 136 (m_14_turn l _ _ _ _) rfl k_14_turn jc_14 jw_2005 jw_2007 jps_87 rfl rfl rfl rfl rfl (fun x54 h55 => ?_)
    refine s_167 0 49 442 rfl rfl ?_
    exact s_jmp (v_14_moves_442 l _) trivial
  refine s_sw1 91 396 418 107 125 395 #[91, 137, 176, 204, 214, 224, 234, 244, 253, 285, 297, 325, 335, 351, 361, 369, 377, 386, 395] 125 n_14_moves (by decide +kernel) (by decide) ?_ (fun q18 => ?_)
  · refine s_42 397 rfl rfl ?_
    refine s_5 398 rfl ?_
    refine s_4 399 rfl ?_
    refine s_182V 0 136 402 136 (m_14_turn l _ _ _ _) rfl k_14_turn jc_14 jw_2005 jw_2007 jps_87 rfl rfl rfl rfl rfl (fun x56 h57 => ?_)
    refine s_42 403 rfl rfl ?_
    refine s_180I 0 57 406 57 f_14_6 jw_1396 rfl rfl ?_
    refine s_154 0 36 442 409 rfl rfl ?_ ?_
    · exact s_jmp (v_14_moves_442 l _) trivial
    · refine s_42 410 rfl rfl ?_
      refine s_5 411 rfl ?_
      refine s_4 412 rfl ?_
      refine s_4 413 rfl ?_
      refine s_182V 0 132 416 132 (m_14_again l _ _ _ _ _) rfl k_14_again jc_14 jw_2001 jw_2003 jps_86 rfl rfl rfl rfl rfl (fun x58 h59 => ?_)
      refine s_167 0 26 442 rfl rfl ?_
      exact s_jmp (v_14_moves_442 l _) trivial
  refine s_sw0 91 419 418 107 125 #[91, 137, 176, 204, 214, 224, 234, 244, 253, 285, 297, 325, 335, 351, 361, 369, 377, 386, 395] n_14_moves (by decide +kernel) (by have r0 := jne_int q0 (z := 107) rfl; have r1 := jne_int q1 (z := 108) rfl; have r2 := jne_int q2 (z := 109) rfl; have r3 := jne_int q3 (z := 110) rfl; have r4 := jne_int q4 (z := 111) rfl; have r5 := jne_int q5 (z := 112) rfl; have r6 := jne_int q6 (z := 113) rfl; have r7 := jne_int q7 (z := 114) rfl; have r8 := jne_int q8 (z := 115) rfl; have r9 := jne_int q9 (z := 116) rfl; have r10 := jne_int q10 (z := 117) rfl; have r11 := jne_int q11 (z := 118) rfl; have r12 := jne_int q12 (z := 119) rfl; have r13 := jne_int q13 (z := 120) rfl; have r14 := jne_int q14 (z := 121) rfl; have r15 := jne_int q15 (z := 122) rfl; have r16 := jne_int q16 (z := 123) rfl; have r17 := jne_int q17 (z := 124) rfl; have r18 := jne_int q18 (z := 125) rfl; omega) (by decide) ?_
  refine s_42 420 rfl rfl ?_
  refine s_4 421 rfl ?_
  refine s_182I 0 64 424 64 (m_14_has l _ _ _) rfl k_14_has jc_14 jw_1971 jw_1973 jps_79 rfl rfl rfl rfl rfl (fun x60 h61 => ?_)
  refine s_153 0 18 442 427 rfl rfl ?_ ?_
  · exact s_jmp (v_14_moves_442 l _) trivial
  · refine s_42 428 rfl rfl ?_
    refine s_42 429 rfl rfl ?_
    refine s_180R 0 13 432 13 f_14_1 jw_1391 rfl rfl ?_
    refine s_42 433 rfl rfl ?_
    refine s_3 434 rfl ?_
    refine s_182I 0 68 437 68 (m_14_top l _ _ _) rfl k_14_top jc_14 jw_2009 jw_2011 jps_88 rfl rfl rfl rfl rfl (fun x62 h63 => ?_)
    refine s_46 438 rfl ?_
    refine s_133 439 rfl ?_
    refine s_182V 0 53 442 53 (m_14_pushNumber l _ _ _) rfl k_14_pushNumber jc_14 jw_1980 jw_1982 jps_81 rfl rfl rfl rfl rfl (fun x64 h65 => ?_)
    exact s_jmp (v_14_moves_442 l _) trivial
theorem m_14_moves (l : Launch) (a0 : Nat) (a1 : Int32) (H : jH) : JMet l y_14_moves prog_18_method_24_code mi_14_moves jeV [.ref a0, .int a1] H (F_14_moves a0 a1 H) := jmet_of n_14_moves (by decide) ⟨rfl, rfl⟩ (Nat.le_of_ble_eq_true rfl) (v_14_moves l a0 a1 H)
def mi_14_numberOfOne : jM := (6745852618348778811782343189616358476722266549748697384216099785433966149553940609888115085175153047771895593693032582810625342813452775321319574074427219856156611711746368740307834477285115852883197333727590708135867155192645855999354129803454107182250481688676245305904396689574496437034, 120, 4, "CoinNodeModel$Scripts", none, "numberOfOne", 3, 66)
def y_14_numberOfOne : MethodName := ⟨"CoinNodeModel$Scripts", "numberOfOne", "(I)V"⟩
theorem n_14_numberOfOne : jn_is prog_18_method_26_code mi_14_numberOfOne.1 mi_14_numberOfOne.2.1 := by unfold jn_is; decide +kernel
theorem k_14_numberOfOne : jmok y_14_numberOfOne prog_18_method_26_code mi_14_numberOfOne 1 := ⟨jw_2044, jw_18, ⟨by decide, by decide⟩, by decide +kernel⟩
theorem v_14_numberOfOne_116 (l : Launch)  (s0 : Nat) (s1 : Int64) (H : jH) : JV l mi_14_numberOfOne jeV 116 [] [.long s1, .ref s0] H (B_14_numberOfOne_116  s0 s1 H) := by
  unfold B_14_numberOfOne_116
  refine s_182V 0 53 119 53 (m_14_pushNumber l _ _ _) rfl k_14_pushNumber jc_14 jw_1980 jw_1982 jps_81 rfl rfl rfl rfl rfl (fun x1 h2 => ?_)
  exact s_177 rfl rfl
theorem v_14_numberOfOne_108 (l : Launch)  (s0 : Nat) (s1 : Int32) (s2 : Int32) (H : jH) : JV l mi_14_numberOfOne jeV 108 [] [.int s2, .int s1, .ref s0] H (B_14_numberOfOne_108  s0 s1 s2 H) := by
  unfold B_14_numberOfOne_108
  refine s_160 0 7 115 111 rfl rfl ?_ ?_
  · refine s_9 116 rfl ?_
    exact s_jmp (v_14_numberOfOne_116 l _ _ _) trivial
  · refine s_10 112 rfl ?_
    refine s_167 0 4 116 rfl rfl ?_
    exact s_jmp (v_14_numberOfOne_116 l _ _ _) trivial
theorem v_14_numberOfOne_96 (l : Launch)  (a1 : Int32) (s0 : Nat) (s1 : Int32) (H : jH) : JV l mi_14_numberOfOne jeV 96 [(1, .int a1)] [.int s1, .ref s0] H (B_14_numberOfOne_96  a1 s0 s1 H) := by
  unfold B_14_numberOfOne_96
  refine s_27 97 rfl rfl ?_
  refine s_17 0 145 100 145 jsp_0_145 rfl ?_
  refine s_160 0 7 107 103 rfl rfl ?_ ?_
  · refine s_3 108 rfl ?_
    exact s_jmp (v_14_numberOfOne_108 l _ _ _ _) trivial
  · refine s_4 104 rfl ?_
    refine s_167 0 4 108 rfl rfl ?_
    exact s_jmp (v_14_numberOfOne_108 l _ _ _ _) trivial
theorem v_14_numberOfOne (l : Launch) (a0 : Nat) (a1 : Int32) (H : jH) : JV l mi_14_numberOfOne jeV 0 [(0, .ref a0), (1, .int a1)] [] H (F_14_numberOfOne a0 a1 H) := by
  unfold F_14_numberOfOne
  refine s_42 1 rfl rfl ?_
  refine s_3 2 rfl ?_
  refine s_182I 0 108 5 108 (m_14_reads l _ _ _) rfl k_14_reads jc_14 jw_2021 jw_2023 jps_91 rfl rfl rfl rfl rfl (fun x3 h4 => ?_)
  refine s_154 0 4 9 8 rfl rfl ?_ ?_
  · refine s_42 10 rfl rfl ?_
    refine s_89 11 rfl rfl ?_
    refine s_180I 0 44 14 44 f_14_2 jw_1392 rfl rfl ?_
    refine s_4 15 rfl ?_
    refine s_100 16 rfl ?_
    refine s_181I 0 44 19 44 f_14_2 rfl rfl jw_1392 rfl rfl (fun h5 => ?_)
    refine s_42 20 rfl rfl ?_
    refine s_180L 0 72 23 72 f_14_11 jw_1402 rfl rfl ?_
    refine s_65L 24 rfl rfl (fun x6 => ?_)
    refine s_42 25 rfl rfl ?_
    refine s_27 26 rfl rfl ?_
    refine s_17 0 139 29 139 jsp_0_139 rfl ?_
    refine s_160 0 9 38 32 rfl rfl ?_ ?_
    · refine s_27 39 rfl rfl ?_
      refine s_17 0 140 42 140 jsp_0_140 rfl ?_
      refine s_160 0 9 51 45 rfl rfl ?_ ?_
      · refine s_27 52 rfl rfl ?_
        refine s_17 0 143 55 143 jsp_0_143 rfl ?_
        refine s_160 0 8 63 58 rfl rfl ?_ ?_
        · refine s_27 64 rfl rfl ?_
          refine s_17 0 144 67 144 jsp_0_144 rfl ?_
          refine s_160 0 18 85 70 rfl rfl ?_ ?_
          · refine s_32 86 rfl rfl ?_
            refine s_9 87 rfl ?_
            refine s_148_154 0 7 95 88 91 rfl rfl rfl ?_ ?_
            · refine s_3 96 rfl ?_
              exact s_jmp (v_14_numberOfOne_96 l _ _ _ _) ⟨rfl, trivial⟩
            · refine s_4 92 rfl ?_
              refine s_167 0 4 96 rfl rfl ?_
              exact s_jmp (v_14_numberOfOne_96 l _ _ _ _) ⟨rfl, trivial⟩
          · refine s_32 71 rfl rfl ?_
            refine s_9 72 rfl ?_
            refine s_148_156 0 8 81 73 76 rfl rfl rfl ?_ ?_
            · refine s_32 82 rfl rfl ?_
              refine s_167 0 34 116 rfl rfl ?_
              exact s_jmp (v_14_numberOfOne_116 l _ _ _) trivial
            · refine s_32 77 rfl rfl ?_
              refine s_117 78 rfl ?_
              refine s_167 0 38 116 rfl rfl ?_
              exact s_jmp (v_14_numberOfOne_116 l _ _ _) trivial
        · refine s_32 59 rfl rfl ?_
          refine s_117 60 rfl ?_
          refine s_167 0 56 116 rfl rfl ?_
          exact s_jmp (v_14_numberOfOne_116 l _ _ _) trivial
      · refine s_32 46 rfl rfl ?_
        refine s_10 47 rfl ?_
        refine s_101 48 rfl ?_
        refine s_167 0 68 116 rfl rfl ?_
        exact s_jmp (v_14_numberOfOne_116 l _ _ _) trivial
    · refine s_32 33 rfl rfl ?_
      refine s_10 34 rfl ?_
      refine s_97 35 rfl ?_
      refine s_167 0 81 116 rfl rfl ?_
      exact s_jmp (v_14_numberOfOne_116 l _ _ _) trivial
  · exact s_177 rfl rfl
theorem m_14_numberOfOne (l : Launch) (a0 : Nat) (a1 : Int32) (H : jH) : JMet l y_14_numberOfOne prog_18_method_26_code mi_14_numberOfOne jeV [.ref a0, .int a1] H (F_14_numberOfOne a0 a1 H) := jmet_of n_14_numberOfOne (by decide) ⟨rfl, rfl⟩ (Nat.le_of_ble_eq_true rfl) (v_14_numberOfOne l a0 a1 H)
def mi_14_numberOfTwo : jM := (33554157451363974002452934241229203343886668117947908432803549930333892937941551738711672347777348458335135655698725852040607950931296495920606855118476851445153950468881162576628750673841329498056283330258421310196687315489977109735488795441096992991485781844397941818976751019558488850362367400781423006330128390088999597986099961136065090787497237020442812512559039005828472206453820983767960410277449384566547022541845685240789798519572806842497854876573764203154279188060193321471241742553360267988181771014682307273221020026490095030767688892778758715668229063061370711973906265571914945556607871553188428616646884648688845917477986874262055847361167039056976081182043474739944646927143504393746624858478181433492106791135254447456819707398642727232269795878407575081629658750846577753081013168938944357721250740801074680028019684211432698037032261617733109278225923103329290593495662534353368036679793849968008979108954720667750345190710272212502166914778834532383746515209846427970259861903269267169467702838058, 423, 6, "CoinNodeModel$Scripts", none, "numberOfTwo", 3, 66)
def y_14_numberOfTwo : MethodName := ⟨"CoinNodeModel$Scripts", "numberOfTwo", "(I)V"⟩
theorem n_14_numberOfTwo : jn_is prog_18_method_27_code mi_14_numberOfTwo.1 mi_14_numberOfTwo.2.1 := by unfold jn_is; decide +kernel
theorem k_14_numberOfTwo : jmok y_14_numberOfTwo prog_18_method_27_code mi_14_numberOfTwo 1 := ⟨jw_2048, jw_18, ⟨by decide, by decide⟩, by decide +kernel⟩
theorem v_14_numberOfTwo_82 (l : Launch)   (H : jH) : JV l mi_14_numberOfTwo jeV 82 [] [] H (B_14_numberOfTwo_82   H) := by
  unfold B_14_numberOfTwo_82
  exact s_177 rfl rfl
theorem v_14_numberOfTwo_79 (l : Launch)  (s0 : Nat) (s1 : Int32) (H : jH) : JV l mi_14_numberOfTwo jeV 79 [] [.int s1, .ref s0] H (B_14_numberOfTwo_79  s0 s1 H) := by
  unfold B_14_numberOfTwo_79
  refine s_182V 0 101 82 101 (m_14_pushTruth l _ _ _) rfl k_14_pushTruth jc_14 jw_2033 jw_2035 jps_94 rfl rfl rfl rfl rfl (fun x1 h2 => ?_)
  exact s_jmp (v_14_numberOfTwo_82 l _) trivial
theorem v_14_numberOfTwo_78 (l : Launch)  (s0 : Nat) (H : jH) : JV l mi_14_numberOfTwo jeV 78 [] [.ref s0] H (B_14_numberOfTwo_78  s0 H) := by
  unfold B_14_numberOfTwo_78
  refine s_3 79 rfl ?_
  exact s_jmp (v_14_numberOfTwo_79 l _ _ _) trivial
theorem v_14_numberOfTwo_422 (l : Launch)   (H : jH) : JV l mi_14_numberOfTwo jeV 422 [] [] H (B_14_numberOfTwo_422   H) := by
  unfold B_14_numberOfTwo_422
  exact s_177 rfl rfl
theorem v_14_numberOfTwo_217 (l : Launch)  (s0 : Nat) (s1 : Int32) (H : jH) : JV l mi_14_numberOfTwo jeV 217 [] [.int s1, .ref s0] H (B_14_numberOfTwo_217  s0 s1 H) := by
  unfold B_14_numberOfTwo_217
  refine s_182V 0 101 220 101 (m_14_pushTruth l _ _ _) rfl k_14_pushTruth jc_14 jw_2033 jw_2035 jps_94 rfl rfl rfl rfl rfl (fun x3 h4 => ?_)
  refine s_167 0 202 422 rfl rfl ?_
  exact s_jmp (v_14_numberOfTwo_422 l _) trivial
theorem v_14_numberOfTwo_216 (l : Launch)  (s0 : Nat) (H : jH) : JV l mi_14_numberOfTwo jeV 216 [] [.ref s0] H (B_14_numberOfTwo_216  s0 H) := by
  unfold B_14_numberOfTwo_216
  refine s_3 217 rfl ?_
  exact s_jmp (v_14_numberOfTwo_217 l _ _ _) trivial
theorem v_14_numberOfTwo_242 (l : Launch)  (s0 : Nat) (s1 : Int32) (H : jH) : JV l mi_14_numberOfTwo jeV 242 [] [.int s1, .ref s0] H (B_14_numberOfTwo_242  s0 s1 H) := by
  unfold B_14_numberOfTwo_242
  refine s_182V 0 101 245 101 (m_14_pushTruth l _ _ _) rfl k_14_pushTruth jc_14 jw_2033 jw_2035 jps_94 rfl rfl rfl rfl rfl (fun x5 h6 => ?_)
  refine s_167 0 177 422 rfl rfl ?_
  exact s_jmp (v_14_numberOfTwo_422 l _) trivial
theorem v_14_numberOfTwo_237 (l : Launch)  (s0 : Nat) (H : jH) : JV l mi_14_numberOfTwo jeV 237 [] [.ref s0] H (B_14_numberOfTwo_237  s0 H) := by
  unfold B_14_numberOfTwo_237
  refine s_4 238 rfl ?_
  refine s_167 0 4 242 rfl rfl ?_
  exact s_jmp (v_14_numberOfTwo_242 l _ _ _) trivial
theorem v_14_numberOfTwo_261 (l : Launch)  (s0 : Nat) (s1 : Int32) (H : jH) : JV l mi_14_numberOfTwo jeV 261 [] [.int s1, .ref s0] H (B_14_numberOfTwo_261  s0 s1 H) := by
  unfold B_14_numberOfTwo_261
  refine s_182V 0 101 264 101 (m_14_pushTruth l _ _ _) rfl k_14_pushTruth jc_14 jw_2033 jw_2035 jps_94 rfl rfl rfl rfl rfl (fun x7 h8 => ?_)
  refine s_167 0 158 422 rfl rfl ?_
  exact s_jmp (v_14_numberOfTwo_422 l _) trivial
theorem v_14_numberOfTwo_280 (l : Launch)  (a0 : Nat) (s0 : Nat) (s1 : Int32) (H : jH) : JV l mi_14_numberOfTwo jeV 280 [(0, .ref a0)] [.int s1, .ref s0] H (B_14_numberOfTwo_280  a0 s0 s1 H) := by
  unfold B_14_numberOfTwo_280
  refine s_182V 0 101 283 101 (m_14_pushTruth l _ _ _) rfl k_14_pushTruth jc_14 jw_2033 jw_2035 jps_94 rfl rfl rfl rfl rfl (fun x9 h10 => ?_)
  refine s_42 284 rfl rfl ?_
  refine s_182V 0 105 287 105 (m_14_mustBeTrue l _ _) rfl k_14_mustBeTrue jc_14 jw_2037 jw_2039 jps_95 rfl rfl rfl rfl rfl (fun x11 h12 => ?_)
  refine s_167 0 135 422 rfl rfl ?_
  exact s_jmp (v_14_numberOfTwo_422 l _) trivial
theorem v_14_numberOfTwo_303 (l : Launch)  (s0 : Nat) (s1 : Int32) (H : jH) : JV l mi_14_numberOfTwo jeV 303 [] [.int s1, .ref s0] H (B_14_numberOfTwo_303  s0 s1 H) := by
  unfold B_14_numberOfTwo_303
  refine s_182V 0 101 306 101 (m_14_pushTruth l _ _ _) rfl k_14_pushTruth jc_14 jw_2033 jw_2035 jps_94 rfl rfl rfl rfl rfl (fun x13 h14 => ?_)
  refine s_167 0 116 422 rfl rfl ?_
  exact s_jmp (v_14_numberOfTwo_422 l _) trivial
theorem v_14_numberOfTwo_322 (l : Launch)  (s0 : Nat) (s1 : Int32) (H : jH) : JV l mi_14_numberOfTwo jeV 322 [] [.int s1, .ref s0] H (B_14_numberOfTwo_322  s0 s1 H) := by
  unfold B_14_numberOfTwo_322
  refine s_182V 0 101 325 101 (m_14_pushTruth l _ _ _) rfl k_14_pushTruth jc_14 jw_2033 jw_2035 jps_94 rfl rfl rfl rfl rfl (fun x15 h16 => ?_)
  refine s_167 0 97 422 rfl rfl ?_
  exact s_jmp (v_14_numberOfTwo_422 l _) trivial
theorem v_14_numberOfTwo_341 (l : Launch)  (s0 : Nat) (s1 : Int32) (H : jH) : JV l mi_14_numberOfTwo jeV 341 [] [.int s1, .ref s0] H (B_14_numberOfTwo_341  s0 s1 H) := by
  unfold B_14_numberOfTwo_341
  refine s_182V 0 101 344 101 (m_14_pushTruth l _ _ _) rfl k_14_pushTruth jc_14 jw_2033 jw_2035 jps_94 rfl rfl rfl rfl rfl (fun x17 h18 => ?_)
  refine s_167 0 78 422 rfl rfl ?_
  exact s_jmp (v_14_numberOfTwo_422 l _) trivial
theorem v_14_numberOfTwo_360 (l : Launch)  (s0 : Nat) (s1 : Int32) (H : jH) : JV l mi_14_numberOfTwo jeV 360 [] [.int s1, .ref s0] H (B_14_numberOfTwo_360  s0 s1 H) := by
  unfold B_14_numberOfTwo_360
  refine s_182V 0 101 363 101 (m_14_pushTruth l _ _ _) rfl k_14_pushTruth jc_14 jw_2033 jw_2035 jps_94 rfl rfl rfl rfl rfl (fun x19 h20 => ?_)
  refine s_167 0 59 422 rfl rfl ?_
  exact s_jmp (v_14_numberOfTwo_422 l _) trivial
theorem v_14_numberOfTwo_379 (l : Launch)  (s0 : Nat) (s1 : Int32) (H : jH) : JV l mi_14_numberOfTwo jeV 379 [] [.int s1, .ref s0] H (B_14_numberOfTwo_379  s0 s1 H) := by
  unfold B_14_numberOfTwo_379
  refine s_182V 0 101 382 101 (m_14_pushTruth l _ _ _) rfl k_14_pushTruth jc_14 jw_2033 jw_2035 jps_94 rfl rfl rfl rfl rfl (fun x21 h22 => ?_)
  refine s_167 0 40 422 rfl rfl ?_
  exact s_jmp (v_14_numberOfTwo_422 l _) trivial
theorem v_14_numberOfTwo_399 (l : Launch)  (s0 : Nat) (s1 : Int64) (H : jH) : JV l mi_14_numberOfTwo jeV 399 [] [.long s1, .ref s0] H (B_14_numberOfTwo_399  s0 s1 H) := by
  unfold B_14_numberOfTwo_399
  refine s_182V 0 53 402 53 (m_14_pushNumber l _ _ _) rfl k_14_pushNumber jc_14 jw_1980 jw_1982 jps_81 rfl rfl rfl rfl rfl (fun x23 h24 => ?_)
  refine s_167 0 20 422 rfl rfl ?_
  exact s_jmp (v_14_numberOfTwo_422 l _) trivial
theorem v_14_numberOfTwo_419 (l : Launch)  (s0 : Nat) (s1 : Int64) (H : jH) : JV l mi_14_numberOfTwo jeV 419 [] [.long s1, .ref s0] H (B_14_numberOfTwo_419  s0 s1 H) := by
  unfold B_14_numberOfTwo_419
  refine s_182V 0 53 422 53 (m_14_pushNumber l _ _ _) rfl k_14_pushNumber jc_14 jw_1980 jw_1982 jps_81 rfl rfl rfl rfl rfl (fun x25 h26 => ?_)
  exact s_jmp (v_14_numberOfTwo_422 l _) trivial
theorem v_14_numberOfTwo (l : Launch) (a0 : Nat) (a1 : Int32) (H : jH) : JV l mi_14_numberOfTwo jeV 0 [(0, .ref a0), (1, .int a1)] [] H (F_14_numberOfTwo a0 a1 H) := by
  unfold F_14_numberOfTwo
  refine s_42 1 rfl rfl ?_
  refine s_3 2 rfl ?_
  refine s_182I 0 108 5 108 (m_14_reads l _ _ _) rfl k_14_reads jc_14 jw_2021 jw_2023 jps_91 rfl rfl rfl rfl rfl (fun x27 h28 => ?_)
  refine s_154 0 4 9 8 rfl rfl ?_ ?_
  · refine s_42 10 rfl rfl ?_
    refine s_180L 0 72 13 72 f_14_11 jw_1402 rfl rfl ?_
    refine s_65L 14 rfl rfl (fun x29 => ?_)
    refine s_42 15 rfl rfl ?_
    refine s_4 16 rfl ?_
    refine s_182I 0 108 19 108 (m_14_reads l _ _ _) rfl k_14_reads jc_14 jw_2021 jw_2023 jps_91 rfl rfl rfl rfl rfl (fun x30 h31 => ?_)
    refine s_154 0 4 23 22 rfl rfl ?_ ?_
    · refine s_42 24 rfl rfl ?_
      refine s_180L 0 72 27 72 f_14_11 jw_1402 rfl rfl ?_
      refine s_55L 4 29 rfl rfl (fun x32 => ?_)
      refine s_27 30 rfl rfl ?_
      refine s_17 0 165 33 165 jsp_0_165 rfl ?_
      refine s_160 0 50 83 36 rfl rfl ?_ ?_
      · refine s_42 84 rfl rfl ?_
        refine s_89 85 rfl rfl ?_
        refine s_180I 0 44 88 44 f_14_2 jw_1392 rfl rfl ?_
        refine s_5 89 rfl ?_
        refine s_100 90 rfl ?_
        refine s_181I 0 44 93 44 f_14_2 rfl rfl jw_1392 rfl rfl (fun h33 => ?_)
        refine s_27 94 rfl rfl ?_
        refine s_sw1 82 176 311 147 163 82 #[82, 93, 311, 311, 311, 311, 311, 104, 129, 154, 173, 196, 215, 234, 253, 272, 291] 147 n_14_numberOfTwo (by decide +kernel) (by decide) ?_ (fun q0 => ?_)
        · refine s_42 177 rfl rfl ?_
          refine s_22 4 179 rfl rfl ?_
          refine s_32 180 rfl rfl ?_
          refine s_97 181 rfl ?_
          refine s_182V 0 53 184 53 (m_14_pushNumber l _ _ _) rfl k_14_pushNumber jc_14 jw_1980 jw_1982 jps_81 rfl rfl rfl rfl rfl (fun x34 h35 => ?_)
          refine s_167 0 238 422 rfl rfl ?_
          exact s_jmp (v_14_numberOfTwo_422 l _) trivial
        refine s_sw1 82 187 311 147 163 93 #[82, 93, 311, 311, 311, 311, 311, 104, 129, 154, 173, 196, 215, 234, 253, 272, 291] 148 n_14_numberOfTwo (by decide +kernel) (by decide) ?_ (fun q1 => ?_)
        · refine s_42 188 rfl rfl ?_
          refine s_22 4 190 rfl rfl ?_
          refine s_32 191 rfl rfl ?_
          refine s_101 192 rfl ?_
          refine s_182V 0 53 195 53 (m_14_pushNumber l _ _ _) rfl k_14_pushNumber jc_14 jw_1980 jw_1982 jps_81 rfl rfl rfl rfl rfl (fun x36 h37 => ?_)
          refine s_167 0 227 422 rfl rfl ?_
          exact s_jmp (v_14_numberOfTwo_422 l _) trivial
        refine s_sw1 82 405 311 147 163 311 #[82, 93, 311, 311, 311, 311, 311, 104, 129, 154, 173, 196, 215, 234, 253, 272, 291] 149 n_14_numberOfTwo (by decide +kernel) (by decide) ?_ (fun q2 => ?_)
        · refine s_42 406 rfl rfl ?_
          refine s_22 4 408 rfl rfl ?_
          refine s_32 409 rfl rfl ?_
          refine s_148_158 0 8 418 410 413 rfl rfl rfl ?_ ?_
          · refine s_32 419 rfl rfl ?_
            exact s_jmp (v_14_numberOfTwo_419 l _ _ _) trivial
          · refine s_22 4 415 rfl rfl ?_
            refine s_167 0 4 419 rfl rfl ?_
            exact s_jmp (v_14_numberOfTwo_419 l _ _ _) trivial
        refine s_sw1 82 405 311 147 163 311 #[82, 93, 311, 311, 311, 311, 311, 104, 129, 154, 173, 196, 215, 234, 253, 272, 291] 150 n_14_numberOfTwo (by decide +kernel) (by decide) ?_ (fun q3 => ?_)
        · refine s_42 406 rfl rfl ?_
          refine s_22 4 408 rfl rfl ?_
          refine s_32 409 rfl rfl ?_
          refine s_148_158 0 8 418 410 413 rfl rfl rfl ?_ ?_
          · refine s_32 419 rfl rfl ?_
            exact s_jmp (v_14_numberOfTwo_419 l _ _ _) trivial
          · refine s_22 4 415 rfl rfl ?_
            refine s_167 0 4 419 rfl rfl ?_
            exact s_jmp (v_14_numberOfTwo_419 l _ _ _) trivial
        refine s_sw1 82 405 311 147 163 311 #[82, 93, 311, 311, 311, 311, 311, 104, 129, 154, 173, 196, 215, 234, 253, 272, 291] 151 n_14_numberOfTwo (by decide +kernel) (by decide) ?_ (fun q4 => ?_)
        · refine s_42 406 rfl rfl ?_
          refine s_22 4 408 rfl rfl ?_
          refine s_32 409 rfl rfl ?_
          refine s_148_158 0 8 418 410 413 rfl rfl rfl ?_ ?_
          · refine s_32 419 rfl rfl ?_
            exact s_jmp (v_14_numberOfTwo_419 l _ _ _) trivial
          · refine s_22 4 415 rfl rfl ?_
            refine s_167 0 4 419 rfl rfl ?_
            exact s_jmp (v_14_numberOfTwo_419 l _ _ _) trivial
        refine s_sw1 82 405 311 147 163 311 #[82, 93, 311, 311, 311, 311, 311, 104, 129, 154, 173, 196, 215, 234, 253, 272, 291] 152 n_14_numberOfTwo (by decide +kernel) (by decide) ?_ (fun q5 => ?_)
        · refine s_42 406 rfl rfl ?_
          refine s_22 4 408 rfl rfl ?_
          refine s_32 409 rfl rfl ?_
          refine s_148_158 0 8 418 410 413 rfl rfl rfl ?_ ?_
          · refine s_32 419 rfl rfl ?_
            exact s_jmp (v_14_numberOfTwo_419 l _ _ _) trivial
          · refine s_22 4 415 rfl rfl ?_
            refine s_167 0 4 419 rfl rfl ?_
            exact s_jmp (v_14_numberOfTwo_419 l _ _ _) trivial
        refine s_sw1 82 405 311 147 163 311 #[82, 93, 311, 311, 311, 311, 311, 104, 129, 154, 173, 196, 215, 234, 253, 272, 291] 153 n_14_numberOfTwo (by decide +kernel) (by decide) ?_ (fun q6 => ?_)
        · refine s_42 406 rfl rfl ?_
          refine s_22 4 408 rfl rfl ?_
          refine s_32 409 rfl rfl ?_
          refine s_148_158 0 8 418 410 413 rfl rfl rfl ?_ ?_
          · refine s_32 419 rfl rfl ?_
            exact s_jmp (v_14_numberOfTwo_419 l _ _ _) trivial
          · refine s_22 4 415 rfl rfl ?_
            refine s_167 0 4 419 rfl rfl ?_
            exact s_jmp (v_14_numberOfTwo_419 l _ _ _) trivial
        refine s_sw1 82 198 311 147 163 104 #[82, 93, 311, 311, 311, 311, 311, 104, 129, 154, 173, 196, 215, 234, 253, 272, 291] 154 n_14_numberOfTwo (by decide +kernel) (by decide) ?_ (fun q7 => ?_)
        · refine s_42 199 rfl rfl ?_
          refine s_22 4 201 rfl rfl ?_
          refine s_9 202 rfl ?_
          refine s_148_153 0 13 216 203 206 rfl rfl rfl ?_ ?_
          · exact s_jmp (v_14_numberOfTwo_216 l _ _) trivial
          · refine s_32 207 rfl rfl ?_
            refine s_9 208 rfl ?_
            refine s_148_153 0 7 216 209 212 rfl rfl rfl ?_ ?_
            · exact s_jmp (v_14_numberOfTwo_216 l _ _) trivial
            · refine s_4 213 rfl ?_
              refine s_167 0 4 217 rfl rfl ?_
              exact s_jmp (v_14_numberOfTwo_217 l _ _ _) trivial
        refine s_sw1 82 223 311 147 163 129 #[82, 93, 311, 311, 311, 311, 311, 104, 129, 154, 173, 196, 215, 234, 253, 272, 291] 155 n_14_numberOfTwo (by decide +kernel) (by decide) ?_ (fun q8 => ?_)
        · refine s_42 224 rfl rfl ?_
          refine s_22 4 226 rfl rfl ?_
          refine s_9 227 rfl ?_
          refine s_148_154 0 9 237 228 231 rfl rfl rfl ?_ ?_
          · exact s_jmp (v_14_numberOfTwo_237 l _ _) trivial
          · refine s_32 232 rfl rfl ?_
            refine s_9 233 rfl ?_
            refine s_148_153 0 7 241 234 237 rfl rfl rfl ?_ ?_
            · refine s_3 242 rfl ?_
              exact s_jmp (v_14_numberOfTwo_242 l _ _ _) trivial
            · exact s_jmp (v_14_numberOfTwo_237 l _ _) trivial
        refine s_sw1 82 248 311 147 163 154 #[82, 93, 311, 311, 311, 311, 311, 104, 129, 154, 173, 196, 215, 234, 253, 272, 291] 156 n_14_numberOfTwo (by decide +kernel) (by decide) ?_ (fun q9 => ?_)
        · refine s_42 249 rfl rfl ?_
          refine s_22 4 251 rfl rfl ?_
          refine s_32 252 rfl rfl ?_
          refine s_148_154 0 7 260 253 256 rfl rfl rfl ?_ ?_
          · refine s_3 261 rfl ?_
            exact s_jmp (v_14_numberOfTwo_261 l _ _ _) trivial
          · refine s_4 257 rfl ?_
            refine s_167 0 4 261 rfl rfl ?_
            exact s_jmp (v_14_numberOfTwo_261 l _ _ _) trivial
        refine s_sw1 82 267 311 147 163 173 #[82, 93, 311, 311, 311, 311, 311, 104, 129, 154, 173, 196, 215, 234, 253, 272, 291] 157 n_14_numberOfTwo (by decide +kernel) (by decide) ?_ (fun q10 => ?_)
        · refine s_42 268 rfl rfl ?_
          refine s_22 4 270 rfl rfl ?_
          refine s_32 271 rfl rfl ?_
          refine s_148_154 0 7 279 272 275 rfl rfl rfl ?_ ?_
          · refine s_3 280 rfl ?_
            exact s_jmp (v_14_numberOfTwo_280 l _ _ _ _) ⟨rfl, trivial⟩
          · refine s_4 276 rfl ?_
            refine s_167 0 4 280 rfl rfl ?_
            exact s_jmp (v_14_numberOfTwo_280 l _ _ _ _) ⟨rfl, trivial⟩
        refine s_sw1 82 290 311 147 163 196 #[82, 93, 311, 311, 311, 311, 311, 104, 129, 154, 173, 196, 215, 234, 253, 272, 291] 158 n_14_numberOfTwo (by decide +kernel) (by decide) ?_ (fun q11 => ?_)
        · refine s_42 291 rfl rfl ?_
          refine s_22 4 293 rfl rfl ?_
          refine s_32 294 rfl rfl ?_
          refine s_148_153 0 7 302 295 298 rfl rfl rfl ?_ ?_
          · refine s_3 303 rfl ?_
            exact s_jmp (v_14_numberOfTwo_303 l _ _ _) trivial
          · refine s_4 299 rfl ?_
            refine s_167 0 4 303 rfl rfl ?_
            exact s_jmp (v_14_numberOfTwo_303 l _ _ _) trivial
        refine s_sw1 82 309 311 147 163 215 #[82, 93, 311, 311, 311, 311, 311, 104, 129, 154, 173, 196, 215, 234, 253, 272, 291] 159 n_14_numberOfTwo (by decide +kernel) (by decide) ?_ (fun q12 => ?_)
        · refine s_42 310 rfl rfl ?_
          refine s_22 4 312 rfl rfl ?_
          refine s_32 313 rfl rfl ?_
          refine s_148_156 0 7 321 314 317 rfl rfl rfl ?_ ?_
          · refine s_3 322 rfl ?_
            exact s_jmp (v_14_numberOfTwo_322 l _ _ _) trivial
          · refine s_4 318 rfl ?_
            refine s_167 0 4 322 rfl rfl ?_
            exact s_jmp (v_14_numberOfTwo_322 l _ _ _) trivial
        refine s_sw1 82 328 311 147 163 234 #[82, 93, 311, 311, 311, 311, 311, 104, 129, 154, 173, 196, 215, 234, 253, 272, 291] 160 n_14_numberOfTwo (by decide +kernel) (by decide) ?_ (fun q13 => ?_)
        · refine s_42 329 rfl rfl ?_
          refine s_22 4 331 rfl rfl ?_
          refine s_32 332 rfl rfl ?_
          refine s_148_158 0 7 340 333 336 rfl rfl rfl ?_ ?_
          · refine s_3 341 rfl ?_
            exact s_jmp (v_14_numberOfTwo_341 l _ _ _) trivial
          · refine s_4 337 rfl ?_
            refine s_167 0 4 341 rfl rfl ?_
            exact s_jmp (v_14_numberOfTwo_341 l _ _ _) trivial
        refine s_sw1 82 347 311 147 163 253 #[82, 93, 311, 311, 311, 311, 311, 104, 129, 154, 173, 196, 215, 234, 253, 272, 291] 161 n_14_numberOfTwo (by decide +kernel) (by decide) ?_ (fun q14 => ?_)
        · refine s_42 348 rfl rfl ?_
          refine s_22 4 350 rfl rfl ?_
          refine s_32 351 rfl rfl ?_
          refine s_148_157 0 7 359 352 355 rfl rfl rfl ?_ ?_
          · refine s_3 360 rfl ?_
            exact s_jmp (v_14_numberOfTwo_360 l _ _ _) trivial
          · refine s_4 356 rfl ?_
            refine s_167 0 4 360 rfl rfl ?_
            exact s_jmp (v_14_numberOfTwo_360 l _ _ _) trivial
        refine s_sw1 82 366 311 147 163 272 #[82, 93, 311, 311, 311, 311, 311, 104, 129, 154, 173, 196, 215, 234, 253, 272, 291] 162 n_14_numberOfTwo (by decide +kernel) (by decide) ?_ (fun q15 => ?_)
        · refine s_42 367 rfl rfl ?_
          refine s_22 4 369 rfl rfl ?_
          refine s_32 370 rfl rfl ?_
          refine s_148_155 0 7 378 371 374 rfl rfl rfl ?_ ?_
          · refine s_3 379 rfl ?_
            exact s_jmp (v_14_numberOfTwo_379 l _ _ _) trivial
          · refine s_4 375 rfl ?_
            refine s_167 0 4 379 rfl rfl ?_
            exact s_jmp (v_14_numberOfTwo_379 l _ _ _) trivial
        refine s_sw1 82 385 311 147 163 291 #[82, 93, 311, 311, 311, 311, 311, 104, 129, 154, 173, 196, 215, 234, 253, 272, 291] 163 n_14_numberOfTwo (by decide +kernel) (by decide) ?_ (fun q16 => ?_)
        · refine s_42 386 rfl rfl ?_
          refine s_22 4 388 rfl rfl ?_
          refine s_32 389 rfl rfl ?_
          refine s_148_156 0 8 398 390 393 rfl rfl rfl ?_ ?_
          · refine s_32 399 rfl rfl ?_
            exact s_jmp (v_14_numberOfTwo_399 l _ _ _) trivial
          · refine s_22 4 395 rfl rfl ?_
            refine s_167 0 4 399 rfl rfl ?_
            exact s_jmp (v_14_numberOfTwo_399 l _ _ _) trivial
        refine s_sw0 82 405 311 147 163 #[82, 93, 311, 311, 311, 311, 311, 104, 129, 154, 173, 196, 215, 234, 253, 272, 291] n_14_numberOfTwo (by decide +kernel) (by have r0 := jne_int q0 (z := 147) rfl; have r1 := jne_int q1 (z := 148) rfl; have r2 := jne_int q2 (z := 149) rfl; have r3 := jne_int q3 (z := 150) rfl; have r4 := jne_int q4 (z := 151) rfl; have r5 := jne_int q5 (z := 152) rfl; have r6 := jne_int q6 (z := 153) rfl; have r7 := jne_int q7 (z := 154) rfl; have r8 := jne_int q8 (z := 155) rfl; have r9 := jne_int q9 (z := 156) rfl; have r10 := jne_int q10 (z := 157) rfl; have r11 := jne_int q11 (z := 158) rfl; have r12 := jne_int q12 (z := 159) rfl; have r13 := jne_int q13 (z := 160) rfl; have r14 := jne_int q14 (z := 161) rfl; have r15 := jne_int q15 (z := 162) rfl; have r16 := jne_int q16 (z := 163) rfl; omega) (by decide) ?_
        refine s_42 406 rfl rfl ?_
        refine s_22 4 408 rfl rfl ?_
        refine s_32 409 rfl rfl ?_
        refine s_148_158 0 8 418 410 413 rfl rfl rfl ?_ ?_
        · refine s_32 419 rfl rfl ?_
          exact s_jmp (v_14_numberOfTwo_419 l _ _ _) trivial
        · refine s_22 4 415 rfl rfl ?_
          refine s_167 0 4 419 rfl rfl ?_
          exact s_jmp (v_14_numberOfTwo_419 l _ _ _) trivial
      · refine s_42 37 rfl rfl ?_
        refine s_5 38 rfl ?_
        refine s_182I 0 108 41 108 (m_14_reads l _ _ _) rfl k_14_reads jc_14 jw_2021 jw_2023 jps_91 rfl rfl rfl rfl rfl (fun x38 h39 => ?_)
        refine s_153 0 41 82 44 rfl rfl ?_ ?_
        · exact s_jmp (v_14_numberOfTwo_82 l _) trivial
        · refine s_42 45 rfl rfl ?_
          refine s_89 46 rfl rfl ?_
          refine s_180I 0 44 49 44 f_14_2 jw_1392 rfl rfl ?_
          refine s_6 50 rfl ?_
          refine s_100 51 rfl ?_
          refine s_181I 0 44 54 44 f_14_2 rfl rfl jw_1392 rfl rfl (fun h40 => ?_)
          refine s_42 55 rfl rfl ?_
          refine s_22 4 57 rfl rfl ?_
          refine s_42 58 rfl rfl ?_
          refine s_180L 0 72 61 72 f_14_11 jw_1402 rfl rfl ?_
          refine s_148_157 0 16 78 62 65 rfl rfl rfl ?_ ?_
          · exact s_jmp (v_14_numberOfTwo_78 l _ _) trivial
          · refine s_42 66 rfl rfl ?_
            refine s_180L 0 72 69 72 f_14_11 jw_1402 rfl rfl ?_
            refine s_32 70 rfl rfl ?_
            refine s_148_156 0 7 78 71 74 rfl rfl rfl ?_ ?_
            · exact s_jmp (v_14_numberOfTwo_78 l _ _) trivial
            · refine s_4 75 rfl ?_
              refine s_167 0 4 79 rfl rfl ?_
              exact s_jmp (v_14_numberOfTwo_79 l _ _ _) trivial
    · exact s_177 rfl rfl
  · exact s_177 rfl rfl
theorem m_14_numberOfTwo (l : Launch) (a0 : Nat) (a1 : Int32) (H : jH) : JMet l y_14_numberOfTwo prog_18_method_27_code mi_14_numberOfTwo jeV [.ref a0, .int a1] H (F_14_numberOfTwo a0 a1 H) := jmet_of n_14_numberOfTwo (by decide) ⟨rfl, rfl⟩ (Nat.le_of_ble_eq_true rfl) (v_14_numberOfTwo l a0 a1 H)
def mi_13_compare : jM := (56550333658855050364439159726762903728218042469381948734413565994666059368688420268805134678509098078034418884044164960505692811729298688291501018887665761492930799518001440024530151856446811886785686796435851536, 88, 6, "CoinNodeModel$Points", some FieldType.int, "compare", 0, 0)
def y_13_compare : MethodName := ⟨"CoinNodeModel$Points", "compare", "(II)I"⟩
theorem n_13_compare : jn_is prog_17_method_6_code mi_13_compare.1 mi_13_compare.2.1 := by unfold jn_is; decide +kernel
theorem k_13_compare : jmok y_13_compare prog_17_method_6_code mi_13_compare 2 := ⟨jw_2127, jw_17, ⟨by decide, by decide⟩, by decide +kernel⟩
theorem v_13_compare_87 (l : Launch)  (s0 : Int32) (H : jH) : JV l mi_13_compare jeI 87 [] [.int s0] H (B_13_compare_87  s0 H) := by
  unfold B_13_compare_87
  exact s_172 rfl rfl
theorem v_13_compare_38 (l : Launch)  (a0 : Nat) (a1 : Int32) (a2 : Int32) (a3 : Int32) (H : jH) : JV l mi_13_compare jeI 38 [(0, .ref a0), (1, .int a1), (2, .int a2), (3, .int a3)] [] H (B_13_compare_38  a0 a1 a2 a3 H) := by
  unfold B_13_compare_38
  refine s_42 39 rfl rfl ?_
  refine s_180R 0 7 42 7 f_13_0 jw_1326 rfl rfl ?_
  refine s_16 10 44 10 jbp_10 rfl ?_
  refine s_27 45 rfl rfl ?_
  refine s_104 46 rfl ?_
  refine s_29 47 rfl rfl ?_
  refine s_96 48 rfl ?_
  refine s_46 49 rfl ?_
  refine s_54L 4 51 rfl rfl (fun x1 => ?_)
  refine s_42 52 rfl rfl ?_
  refine s_180R 0 7 55 7 f_13_0 jw_1326 rfl rfl ?_
  refine s_16 10 57 10 jbp_10 rfl ?_
  refine s_28 58 rfl rfl ?_
  refine s_104 59 rfl ?_
  refine s_29 60 rfl rfl ?_
  refine s_96 61 rfl ?_
  refine s_46 62 rfl ?_
  refine s_54L 5 64 rfl rfl (fun x2 => ?_)
  refine s_21 4 66 rfl rfl ?_
  refine s_21 5 68 rfl rfl ?_
  refine s_162 0 7 75 71 rfl rfl ?_ ?_
  · refine s_21 4 77 rfl rfl ?_
    refine s_21 5 79 rfl rfl ?_
    refine s_164 0 7 86 82 rfl rfl ?_ ?_
    · refine s_3 87 rfl ?_
      exact s_jmp (v_13_compare_87 l _ _) trivial
    · refine s_4 83 rfl ?_
      refine s_167 0 4 87 rfl rfl ?_
      exact s_jmp (v_13_compare_87 l _ _) trivial
  · refine s_2 72 rfl ?_
    refine s_167 0 15 87 rfl rfl ?_
    exact s_jmp (v_13_compare_87 l _ _) trivial
theorem v_13_compare_3 (l : Launch) (k3 : Nat → Int32 → Int32 → Int32 → jH → Option (Int32 × jH)) (hk3 : ∀ a0 a1 a2 a3 H, JV l mi_13_compare jeI 3 [(0, .ref a0), (1, .int a1), (2, .int a2), (3, .int a3)] [] H (k3 a0 a1 a2 a3 H)) (a0 : Nat) (a1 : Int32) (a2 : Int32) (a3 : Int32) (H : jH) : JV l mi_13_compare jeI 3 [(0, .ref a0), (1, .int a1), (2, .int a2), (3, .int a3)] [] H (B_13_compare_3 k3 a0 a1 a2 a3 H) := by
  unfold B_13_compare_3
  refine s_29 4 rfl rfl ?_
  refine s_158 0 34 38 7 rfl rfl ?_ ?_
  · exact s_jmp (v_13_compare_38 l _ _ _ _ _) ⟨rfl, rfl, rfl, rfl, trivial⟩
  · refine s_42 8 rfl rfl ?_
    refine s_180R 0 7 11 7 f_13_0 jw_1326 rfl rfl ?_
    refine s_16 10 13 10 jbp_10 rfl ?_
    refine s_27 14 rfl rfl ?_
    refine s_104 15 rfl ?_
    refine s_29 16 rfl rfl ?_
    refine s_96 17 rfl ?_
    refine s_46 18 rfl ?_
    refine s_42 19 rfl rfl ?_
    refine s_180R 0 7 22 7 f_13_0 jw_1326 rfl rfl ?_
    refine s_16 10 24 10 jbp_10 rfl ?_
    refine s_28 25 rfl rfl ?_
    refine s_104 26 rfl ?_
    refine s_29 27 rfl rfl ?_
    refine s_96 28 rfl ?_
    refine s_46 29 rfl ?_
    refine s_160 0 9 38 32 rfl rfl ?_ ?_
    · exact s_jmp (v_13_compare_38 l _ _ _ _ _) ⟨rfl, rfl, rfl, rfl, trivial⟩
    · refine s_132L 3 255 35 (-1) ji_255 rfl rfl rfl (fun x3 => ?_)
      refine s_167 255 224 3 rfl rfl ?_
      exact s_jmp (hk3 _ _ _ _ _) ⟨rfl, rfl, rfl, rfl, trivial⟩
theorem w_13_compare_3 (l : Launch)  (n : Nat) : ∀ a0 a1 a2 a3 H, JV l mi_13_compare jeI 3 [(0, .ref a0), (1, .int a1), (2, .int a2), (3, .int a3)] [] H (F_13_compare_3  n a0 a1 a2 a3 H) := by
  induction n with
  | zero => intro _ _ _ _ _; exact s_none
  | succ n ih => intro a0 a1 a2 a3 H; exact v_13_compare_3 l (F_13_compare_3  n) ih a0 a1 a2 a3 H
theorem v_13_compare (l : Launch) (a0 : Nat) (a1 : Int32) (a2 : Int32) (H : jH) : JV l mi_13_compare jeI 0 [(0, .ref a0), (1, .int a1), (2, .int a2)] [] H (F_13_compare a0 a1 a2 H) := by
  unfold F_13_compare
  refine s_16 9 2 9 jbp_9 rfl ?_
  refine s_62 3 rfl rfl ?_
  exact s_jmp (w_13_compare_3 l jfuel _ _ _ _ _) ⟨rfl, rfl, rfl, rfl, trivial⟩
theorem m_13_compare (l : Launch) (a0 : Nat) (a1 : Int32) (a2 : Int32) (H : jH) : JMet l y_13_compare prog_17_method_6_code mi_13_compare jeI [.ref a0, .int a1, .int a2] H (F_13_compare a0 a1 a2 H) := jmet_of n_13_compare (by decide) ⟨rfl, rfl⟩ (Nat.le_of_ble_eq_true rfl) (v_13_compare l a0 a1 a2 H)
def mi_13_copy : jM := (88465253376085672046602117543957530377991122833740099352122938831135646094186635983666691, 37, 4, "CoinNodeModel$Points", none, "copy", 0, 0)
def y_13_copy : MethodName := ⟨"CoinNodeModel$Points", "copy", "(II)V"⟩
theorem n_13_copy : jn_is prog_17_method_4_code mi_13_copy.1 mi_13_copy.2.1 := by unfold jn_is; decide +kernel
theorem k_13_copy : jmok y_13_copy prog_17_method_4_code mi_13_copy 2 := ⟨jw_2161, jw_17, ⟨by decide, by decide⟩, by decide +kernel⟩
theorem v_13_copy_2 (l : Launch) (k2 : Nat → Int32 → Int32 → Int32 → jH → Option (Unit × jH)) (hk2 : ∀ a0 a1 a2 a3 H, JV l mi_13_copy jeV 2 [(0, .ref a0), (1, .int a1), (2, .int a2), (3, .int a3)] [] H (k2 a0 a1 a2 a3 H)) (a0 : Nat) (a1 : Int32) (a2 : Int32) (a3 : Int32) (H : jH) : JV l mi_13_copy jeV 2 [(0, .ref a0), (1, .int a1), (2, .int a2), (3, .int a3)] [] H (B_13_copy_2 k2 a0 a1 a2 a3 H) := by
  unfold B_13_copy_2
  refine s_29 3 rfl rfl ?_
  refine s_16 10 5 10 jbp_10 rfl ?_
  refine s_162 0 31 36 8 rfl rfl ?_ ?_
  · exact s_177 rfl rfl
  · refine s_42 9 rfl rfl ?_
    refine s_180R 0 7 12 7 f_13_0 jw_1326 rfl rfl ?_
    refine s_16 10 14 10 jbp_10 rfl ?_
    refine s_27 15 rfl rfl ?_
    refine s_104 16 rfl ?_
    refine s_29 17 rfl rfl ?_
    refine s_96 18 rfl ?_
    refine s_42 19 rfl rfl ?_
    refine s_180R 0 7 22 7 f_13_0 jw_1326 rfl rfl ?_
    refine s_16 10 24 10 jbp_10 rfl ?_
    refine s_28 25 rfl rfl ?_
    refine s_104 26 rfl ?_
    refine s_29 27 rfl rfl ?_
    refine s_96 28 rfl ?_
    refine s_46 29 rfl ?_
    refine s_79 30 rfl (fun h1 => ?_)
    refine s_132L 3 1 33 1 ji_1 rfl rfl rfl (fun x2 => ?_)
    refine s_167 255 225 2 rfl rfl ?_
    exact s_jmp (hk2 _ _ _ _ _) ⟨rfl, rfl, rfl, rfl, trivial⟩
theorem w_13_copy_2 (l : Launch)  (n : Nat) : ∀ a0 a1 a2 a3 H, JV l mi_13_copy jeV 2 [(0, .ref a0), (1, .int a1), (2, .int a2), (3, .int a3)] [] H (F_13_copy_2  n a0 a1 a2 a3 H) := by
  induction n with
  | zero => intro _ _ _ _ _; exact s_none
  | succ n ih => intro a0 a1 a2 a3 H; exact v_13_copy_2 l (F_13_copy_2  n) ih a0 a1 a2 a3 H
theorem v_13_copy (l : Launch) (a0 : Nat) (a1 : Int32) (a2 : Int32) (H : jH) : JV l mi_13_copy jeV 0 [(0, .ref a0), (1, .int a1), (2, .int a2)] [] H (F_13_copy a0 a1 a2 H) := by
  unfold F_13_copy
  refine s_3 1 rfl ?_
  refine s_62 2 rfl rfl ?_
  exact s_jmp (w_13_copy_2 l jfuel _ _ _ _ _) ⟨rfl, rfl, rfl, rfl, trivial⟩
theorem m_13_copy (l : Launch) (a0 : Nat) (a1 : Int32) (a2 : Int32) (H : jH) : JMet l y_13_copy prog_17_method_4_code mi_13_copy jeV [.ref a0, .int a1, .int a2] H (F_13_copy a0 a1 a2 H) := jmet_of n_13_copy (by decide) ⟨rfl, rfl⟩ (Nat.le_of_ble_eq_true rfl) (v_13_copy l a0 a1 a2 H)
def mi_13_copyPoint : jM := (72926066796385397123627625327010751230858242590332064866873645866, 27, 3, "CoinNodeModel$Points", none, "copyPoint", 1, 23)
def y_13_copyPoint : MethodName := ⟨"CoinNodeModel$Points", "copyPoint", "(II)V"⟩
theorem n_13_copyPoint : jn_is prog_17_method_21_code mi_13_copyPoint.1 mi_13_copyPoint.2.1 := by unfold jn_is; decide +kernel
theorem k_13_copyPoint : jmok y_13_copyPoint prog_17_method_21_code mi_13_copyPoint 2 := ⟨jw_2246, jw_17, ⟨by decide, by decide⟩, by decide +kernel⟩
theorem v_13_copyPoint (l : Launch) (a0 : Nat) (a1 : Int32) (a2 : Int32) (H : jH) : JV l mi_13_copyPoint jeV 0 [(0, .ref a0), (1, .int a1), (2, .int a2)] [] H (F_13_copyPoint a0 a1 a2 H) := by
  unfold F_13_copyPoint
  refine s_42 1 rfl rfl ?_
  refine s_27 2 rfl rfl ?_
  refine s_28 3 rfl rfl ?_
  refine s_182V 0 70 6 70 (m_13_copy l _ _ _ _) rfl k_13_copy jc_13 jw_2158 jw_2160 jps_112 rfl rfl rfl rfl rfl (fun x1 h2 => ?_)
  refine s_42 7 rfl rfl ?_
  refine s_27 8 rfl rfl ?_
  refine s_4 9 rfl ?_
  refine s_96 10 rfl ?_
  refine s_28 11 rfl rfl ?_
  refine s_4 12 rfl ?_
  refine s_96 13 rfl ?_
  refine s_182V 0 70 16 70 (m_13_copy l _ _ _ _) rfl k_13_copy jc_13 jw_2158 jw_2160 jps_112 rfl rfl rfl rfl rfl (fun x3 h4 => ?_)
  refine s_42 17 rfl rfl ?_
  refine s_27 18 rfl rfl ?_
  refine s_5 19 rfl ?_
  refine s_96 20 rfl ?_
  refine s_28 21 rfl rfl ?_
  refine s_5 22 rfl ?_
  refine s_96 23 rfl ?_
  refine s_182V 0 70 26 70 (m_13_copy l _ _ _ _) rfl k_13_copy jc_13 jw_2158 jw_2160 jps_112 rfl rfl rfl rfl rfl (fun x5 h6 => ?_)
  exact s_177 rfl rfl
theorem m_13_copyPoint (l : Launch) (a0 : Nat) (a1 : Int32) (a2 : Int32) (H : jH) : JMet l y_13_copyPoint prog_17_method_21_code mi_13_copyPoint jeV [.ref a0, .int a1, .int a2] H (F_13_copyPoint a0 a1 a2 H) := jmet_of n_13_copyPoint (by decide) ⟨rfl, rfl⟩ (Nat.le_of_ble_eq_true rfl) (v_13_copyPoint l a0 a1 a2 H)
def mi_13_add : jM := (737560161311986776275385241856708774106486464426488082994077797054044085032727295876225196783271945330593272205049402292556953853157228735851910189168357231496251207912939381676324355, 76, 7, "CoinNodeModel$Points", none, "add", 0, 0)
def y_13_add : MethodName := ⟨"CoinNodeModel$Points", "add", "(III)V"⟩
theorem n_13_add : jn_is prog_17_method_8_code mi_13_add.1 mi_13_add.2.1 := by unfold jn_is; decide +kernel
theorem k_13_add : jmok y_13_add prog_17_method_8_code mi_13_add 3 := ⟨jw_2153, jw_17, ⟨by decide, by decide⟩, by decide +kernel⟩
theorem v_13_add_6 (l : Launch) (k6 : Nat → Int32 → Int32 → Int32 → Int32 → Int32 → jH → Option (Unit × jH)) (hk6 : ∀ a0 a1 a2 a3 a4 a5 H, JV l mi_13_add jeV 6 [(0, .ref a0), (1, .int a1), (2, .int a2), (3, .int a3), (4, .int a4), (5, .int a5)] [] H (k6 a0 a1 a2 a3 a4 a5 H)) (a0 : Nat) (a1 : Int32) (a2 : Int32) (a3 : Int32) (a4 : Int32) (a5 : Int32) (H : jH) : JV l mi_13_add jeV 6 [(0, .ref a0), (1, .int a1), (2, .int a2), (3, .int a3), (4, .int a4), (5, .int a5)] [] H (B_13_add_6 k6 a0 a1 a2 a3 a4 a5 H) := by
  unfold B_13_add_6
  refine s_21 5 8 rfl rfl ?_
  refine s_16 10 10 10 jbp_10 rfl ?_
  refine s_162 0 65 75 13 rfl rfl ?_ ?_
  · exact s_177 rfl rfl
  · refine s_42 14 rfl rfl ?_
    refine s_180R 0 7 17 7 f_13_0 jw_1326 rfl rfl ?_
    refine s_16 10 19 10 jbp_10 rfl ?_
    refine s_27 20 rfl rfl ?_
    refine s_104 21 rfl ?_
    refine s_21 5 23 rfl rfl ?_
    refine s_96 24 rfl ?_
    refine s_46 25 rfl ?_
    refine s_29 26 rfl rfl ?_
    refine s_42 27 rfl rfl ?_
    refine s_180R 0 7 30 7 f_13_0 jw_1326 rfl rfl ?_
    refine s_16 10 32 10 jbp_10 rfl ?_
    refine s_28 33 rfl rfl ?_
    refine s_104 34 rfl ?_
    refine s_21 5 36 rfl rfl ?_
    refine s_96 37 rfl ?_
    refine s_46 38 rfl ?_
    refine s_104 39 rfl ?_
    refine s_96 40 rfl ?_
    refine s_21 4 42 rfl rfl ?_
    refine s_96 43 rfl ?_
    refine s_54L 6 45 rfl rfl (fun x1 => ?_)
    refine s_42 46 rfl rfl ?_
    refine s_180R 0 7 49 7 f_13_0 jw_1326 rfl rfl ?_
    refine s_16 10 51 10 jbp_10 rfl ?_
    refine s_27 52 rfl rfl ?_
    refine s_104 53 rfl ?_
    refine s_21 5 55 rfl rfl ?_
    refine s_96 56 rfl ?_
    refine s_21 6 58 rfl rfl ?_
    refine s_18 60 60 67108863 jw_1324 rfl ?_
    refine s_126 61 rfl ?_
    refine s_79 62 rfl (fun h2 => ?_)
    refine s_21 6 64 rfl rfl ?_
    refine s_16 26 66 26 jbp_26 rfl ?_
    refine s_122 67 rfl ?_
    refine s_54L 4 69 rfl rfl (fun x3 => ?_)
    refine s_132L 5 1 72 1 ji_1 rfl rfl rfl (fun x4 => ?_)
    refine s_167 255 190 6 rfl rfl ?_
    exact s_jmp (hk6 _ _ _ _ _ _ _) ⟨rfl, rfl, rfl, rfl, rfl, rfl, trivial⟩
theorem w_13_add_6 (l : Launch)  (n : Nat) : ∀ a0 a1 a2 a3 a4 a5 H, JV l mi_13_add jeV 6 [(0, .ref a0), (1, .int a1), (2, .int a2), (3, .int a3), (4, .int a4), (5, .int a5)] [] H (F_13_add_6  n a0 a1 a2 a3 a4 a5 H) := by
  induction n with
  | zero => intro _ _ _ _ _ _ _; exact s_none
  | succ n ih => intro a0 a1 a2 a3 a4 a5 H; exact v_13_add_6 l (F_13_add_6  n) ih a0 a1 a2 a3 a4 a5 H
theorem v_13_add (l : Launch) (a0 : Nat) (a1 : Int32) (a2 : Int32) (a3 : Int32) (H : jH) : JV l mi_13_add jeV 0 [(0, .ref a0), (1, .int a1), (2, .int a2), (3, .int a3)] [] H (F_13_add a0 a1 a2 a3 H) := by
  unfold F_13_add
  refine s_3 1 rfl ?_
  refine s_54 4 3 rfl rfl ?_
  refine s_3 4 rfl ?_
  refine s_54 5 6 rfl rfl ?_
  exact s_jmp (w_13_add_6 l jfuel _ _ _ _ _ _ _) ⟨rfl, rfl, rfl, rfl, rfl, rfl, trivial⟩
theorem m_13_add (l : Launch) (a0 : Nat) (a1 : Int32) (a2 : Int32) (a3 : Int32) (H : jH) : JMet l y_13_add prog_17_method_8_code mi_13_add jeV [.ref a0, .int a1, .int a2, .int a3] H (F_13_add a0 a1 a2 a3 H) := jmet_of n_13_add (by decide) ⟨rfl, rfl⟩ (Nat.le_of_ble_eq_true rfl) (v_13_add l a0 a1 a2 a3 H)
def mi_13_carry : jM := (1631680872949273203182953494440847882348411018111663329877822885295468144412166756981958443863667821965950985, 45, 6, "CoinNodeModel$Points", none, "carry", 0, 0)
def y_13_carry : MethodName := ⟨"CoinNodeModel$Points", "carry", "()V"⟩
theorem n_13_carry : jn_is prog_17_method_13_code mi_13_carry.1 mi_13_carry.2.1 := by unfold jn_is; decide +kernel
theorem k_13_carry : jmok y_13_carry prog_17_method_13_code mi_13_carry 0 := ⟨jw_2139, jw_17, ⟨by decide, by decide⟩, by decide +kernel⟩
theorem v_13_carry_4 (l : Launch) (k4 : Nat → Int64 → Int32 → jH → Option (Unit × jH)) (hk4 : ∀ a0 a1 a3 H, JV l mi_13_carry jeV 4 [(0, .ref a0), (1, .long a1), (3, .int a3)] [] H (k4 a0 a1 a3 H)) (a0 : Nat) (a1 : Int64) (a3 : Int32) (H : jH) : JV l mi_13_carry jeV 4 [(0, .ref a0), (1, .long a1), (3, .int a3)] [] H (B_13_carry_4 k4 a0 a1 a3 H) := by
  unfold B_13_carry_4
  refine s_29 5 rfl rfl ?_
  refine s_16 22 7 22 jbp_22 rfl ?_
  refine s_162 0 37 44 10 rfl rfl ?_ ?_
  · exact s_177 rfl rfl
  · refine s_42 11 rfl rfl ?_
    refine s_180R 0 13 14 13 f_13_1 jw_1327 rfl rfl ?_
    refine s_29 15 rfl rfl ?_
    refine s_47 16 rfl ?_
    refine s_31 17 rfl rfl ?_
    refine s_97 18 rfl ?_
    refine s_55L 4 20 rfl rfl (fun x1 => ?_)
    refine s_42 21 rfl rfl ?_
    refine s_180R 0 13 24 13 f_13_1 jw_1327 rfl rfl ?_
    refine s_29 25 rfl rfl ?_
    refine s_22 4 27 rfl rfl ?_
    refine s_20 0 82 30 82 67108863 rfl jw_2140 rfl ?_
    refine s_127 31 rfl ?_
    refine s_80 32 rfl (fun h2 => ?_)
    refine s_22 4 34 rfl rfl ?_
    refine s_16 26 36 26 jbp_26 rfl ?_
    refine s_123 37 rfl ?_
    refine s_64L 38 rfl rfl (fun x3 => ?_)
    refine s_132L 3 1 41 1 ji_1 rfl rfl rfl (fun x4 => ?_)
    refine s_167 255 219 4 rfl rfl ?_
    exact s_jmp (hk4 _ _ _ _) ⟨rfl, rfl, rfl, trivial⟩
theorem w_13_carry_4 (l : Launch)  (n : Nat) : ∀ a0 a1 a3 H, JV l mi_13_carry jeV 4 [(0, .ref a0), (1, .long a1), (3, .int a3)] [] H (F_13_carry_4  n a0 a1 a3 H) := by
  induction n with
  | zero => intro _ _ _ _; exact s_none
  | succ n ih => intro a0 a1 a3 H; exact v_13_carry_4 l (F_13_carry_4  n) ih a0 a1 a3 H
theorem v_13_carry (l : Launch) (a0 : Nat) (H : jH) : JV l mi_13_carry jeV 0 [(0, .ref a0)] [] H (F_13_carry a0 H) := by
  unfold F_13_carry
  refine s_9 1 rfl ?_
  refine s_64 2 rfl rfl ?_
  refine s_3 3 rfl ?_
  refine s_62 4 rfl rfl ?_
  exact s_jmp (w_13_carry_4 l jfuel _ _ _ _) ⟨rfl, rfl, rfl, trivial⟩
theorem m_13_carry (l : Launch) (a0 : Nat) (H : jH) : JMet l y_13_carry prog_17_method_13_code mi_13_carry jeV [.ref a0] H (F_13_carry a0 H) := jmet_of n_13_carry (by decide) ⟨rfl, rfl⟩ (Nat.le_of_ble_eq_true rfl) (v_13_carry l a0 H)
def mi_13_fold : jM := (19166850087833428658229186106452189112650897886122167164394390099093821221926895433556560065087160618343181301049412564341625284683037119291904460251522681462931111632087421146315546997450537556563452082988621091980372859689605566638364344785879469870665698984404402125005656593771365569327415787884790695411636661486315753385368577563701579437227695751321681871944256507457480364679446414502243290834571203403991794597123, 175, 6, "CoinNodeModel$Points", none, "fold", 1, 25)
def y_13_fold : MethodName := ⟨"CoinNodeModel$Points", "fold", "(I)V"⟩
theorem n_13_fold : jn_is prog_17_method_15_code mi_13_fold.1 mi_13_fold.2.1 := by unfold jn_is; decide +kernel
theorem k_13_fold : jmok y_13_fold prog_17_method_15_code mi_13_fold 1 := ⟨jw_2149, jw_17, ⟨by decide, by decide⟩, by decide +kernel⟩
theorem v_13_fold_49 (l : Launch) (k2 : Nat → Int32 → Int32 → jH → Option (Unit × jH)) (hk2 : ∀ a0 a1 a2 H, JV l mi_13_fold jeV 2 [(0, .ref a0), (1, .int a1), (2, .int a2)] [] H (k2 a0 a1 a2 H)) (a0 : Nat) (a1 : Int32) (a2 : Int32) (s0 : Nat) (s1 : Int32) (s2 : Int64) (H : jH) : JV l mi_13_fold jeV 49 [(0, .ref a0), (1, .int a1), (2, .int a2)] [.long s2, .int s1, .ref s0] H (B_13_fold_49 k2 a0 a1 a2 s0 s1 s2 H) := by
  unfold B_13_fold_49
  refine s_80 50 rfl (fun h1 => ?_)
  refine s_132L 2 1 53 1 ji_1 rfl rfl rfl (fun x2 => ?_)
  refine s_167 255 205 2 rfl rfl ?_
  exact s_jmp (hk2 _ _ _ _) ⟨rfl, rfl, rfl, trivial⟩
theorem v_13_fold_138 (l : Launch) (k58 : Nat → Int32 → Int32 → jH → Option (Unit × jH)) (hk58 : ∀ a0 a1 a2 H, JV l mi_13_fold jeV 58 [(0, .ref a0), (1, .int a1), (2, .int a2)] [] H (k58 a0 a1 a2 H)) (a0 : Nat) (a1 : Int32) (a2 : Int32) (H : jH) : JV l mi_13_fold jeV 138 [(0, .ref a0), (1, .int a1), (2, .int a2)] [] H (B_13_fold_138 k58 a0 a1 a2 H) := by
  unfold B_13_fold_138
  refine s_132L 2 1 141 1 ji_1 rfl rfl rfl (fun x3 => ?_)
  refine s_167 255 173 58 rfl rfl ?_
  exact s_jmp (hk58 _ _ _ _) ⟨rfl, rfl, rfl, trivial⟩
theorem v_13_fold_96 (l : Launch) (k58 : Nat → Int32 → Int32 → jH → Option (Unit × jH)) (hk58 : ∀ a0 a1 a2 H, JV l mi_13_fold jeV 58 [(0, .ref a0), (1, .int a1), (2, .int a2)] [] H (k58 a0 a1 a2 H)) (k96 : Nat → Int32 → Int32 → Int64 → Int32 → jH → Option (Unit × jH)) (hk96 : ∀ a0 a1 a2 a3 a5 H, JV l mi_13_fold jeV 96 [(0, .ref a0), (1, .int a1), (2, .int a2), (3, .long a3), (5, .int a5)] [] H (k96 a0 a1 a2 a3 a5 H)) (a0 : Nat) (a1 : Int32) (a2 : Int32) (a3 : Int64) (a5 : Int32) (H : jH) : JV l mi_13_fold jeV 96 [(0, .ref a0), (1, .int a1), (2, .int a2), (3, .long a3), (5, .int a5)] [] H (B_13_fold_96 k58 k96 a0 a1 a2 a3 a5 H) := by
  unfold B_13_fold_96
  refine s_21 5 98 rfl rfl ?_
  refine s_8 99 rfl ?_
  refine s_162 0 39 138 102 rfl rfl ?_ ?_
  · exact s_jmp (v_13_fold_138 l k58 hk58 _ _ _ _) ⟨rfl, rfl, rfl, trivial⟩
  · refine s_33 103 rfl rfl ?_
    refine s_9 104 rfl ?_
    refine s_148_158 0 33 138 105 108 rfl rfl rfl ?_ ?_
    · exact s_jmp (v_13_fold_138 l k58 hk58 _ _ _ _) ⟨rfl, rfl, rfl, trivial⟩
    · refine s_42 109 rfl rfl ?_
      refine s_180R 0 17 112 17 f_13_2 jw_1328 rfl rfl ?_
      refine s_28 113 rfl rfl ?_
      refine s_21 5 115 rfl rfl ?_
      refine s_96 116 rfl ?_
      refine s_92 117 rfl rfl rfl ?_
      refine s_47 118 rfl ?_
      refine s_33 119 rfl rfl ?_
      refine s_42 120 rfl rfl ?_
      refine s_180R 0 20 123 20 f_13_3 jw_1329 rfl rfl ?_
      refine s_27 124 rfl rfl ?_
      refine s_21 5 126 rfl rfl ?_
      refine s_96 127 rfl ?_
      refine s_46 128 rfl ?_
      refine s_133 129 rfl ?_
      refine s_105 130 rfl ?_
      refine s_97 131 rfl ?_
      refine s_80 132 rfl (fun h4 => ?_)
      refine s_132L 5 1 135 1 ji_1 rfl rfl rfl (fun x5 => ?_)
      refine s_167 255 217 96 rfl rfl ?_
      exact s_jmp (hk96 _ _ _ _ _ _) ⟨rfl, rfl, rfl, rfl, rfl, trivial⟩
theorem w_13_fold_96 (l : Launch) (k58 : Nat → Int32 → Int32 → jH → Option (Unit × jH)) (hk58 : ∀ a0 a1 a2 H, JV l mi_13_fold jeV 58 [(0, .ref a0), (1, .int a1), (2, .int a2)] [] H (k58 a0 a1 a2 H)) (n : Nat) : ∀ a0 a1 a2 a3 a5 H, JV l mi_13_fold jeV 96 [(0, .ref a0), (1, .int a1), (2, .int a2), (3, .long a3), (5, .int a5)] [] H (F_13_fold_96 k58 n a0 a1 a2 a3 a5 H) := by
  induction n with
  | zero => intro _ _ _ _ _ _; exact s_none
  | succ n ih => intro a0 a1 a2 a3 a5 H; exact v_13_fold_96 l k58 hk58 (F_13_fold_96 k58 n) ih a0 a1 a2 a3 a5 H
theorem v_13_fold_146 (l : Launch) (k146 : Nat → Int32 → jH → Option (Unit × jH)) (hk146 : ∀ a0 a2 H, JV l mi_13_fold jeV 146 [(0, .ref a0), (2, .int a2)] [] H (k146 a0 a2 H)) (a0 : Nat) (a2 : Int32) (H : jH) : JV l mi_13_fold jeV 146 [(0, .ref a0), (2, .int a2)] [] H (B_13_fold_146 k146 a0 a2 H) := by
  unfold B_13_fold_146
  refine s_28 147 rfl rfl ?_
  refine s_16 22 149 22 jbp_22 rfl ?_
  refine s_162 0 21 170 152 rfl rfl ?_ ?_
  · refine s_42 171 rfl rfl ?_
    refine s_182V 0 86 174 86 (m_13_carry l _ _) rfl k_13_carry jc_13 jw_2136 jw_2138 jps_107 rfl rfl rfl rfl rfl (fun x6 h7 => ?_)
    exact s_177 rfl rfl
  · refine s_42 153 rfl rfl ?_
    refine s_180R 0 13 156 13 f_13_1 jw_1327 rfl rfl ?_
    refine s_28 157 rfl rfl ?_
    refine s_42 158 rfl rfl ?_
    refine s_180R 0 17 161 17 f_13_2 jw_1328 rfl rfl ?_
    refine s_28 162 rfl rfl ?_
    refine s_47 163 rfl ?_
    refine s_80 164 rfl (fun h8 => ?_)
    refine s_132L 2 1 167 1 ji_1 rfl rfl rfl (fun x9 => ?_)
    refine s_167 255 235 146 rfl rfl ?_
    exact s_jmp (hk146 _ _ _) ⟨rfl, rfl, trivial⟩
theorem w_13_fold_146 (l : Launch)  (n : Nat) : ∀ a0 a2 H, JV l mi_13_fold jeV 146 [(0, .ref a0), (2, .int a2)] [] H (F_13_fold_146  n a0 a2 H) := by
  induction n with
  | zero => intro _ _ _; exact s_none
  | succ n ih => intro a0 a2 H; exact v_13_fold_146 l (F_13_fold_146  n) ih a0 a2 H
theorem v_13_fold_58 (l : Launch) (k58 : Nat → Int32 → Int32 → jH → Option (Unit × jH)) (hk58 : ∀ a0 a1 a2 H, JV l mi_13_fold jeV 58 [(0, .ref a0), (1, .int a1), (2, .int a2)] [] H (k58 a0 a1 a2 H)) (a0 : Nat) (a1 : Int32) (a2 : Int32) (H : jH) : JV l mi_13_fold jeV 58 [(0, .ref a0), (1, .int a1), (2, .int a2)] [] H (B_13_fold_58 k58 a0 a1 a2 H) := by
  unfold B_13_fold_58
  refine s_28 59 rfl rfl ?_
  refine s_16 12 61 12 jbp_12 rfl ?_
  refine s_162 0 83 144 64 rfl rfl ?_ ?_
  · refine s_3 145 rfl ?_
    refine s_61 146 rfl rfl ?_
    exact s_jmp (w_13_fold_146 l jfuel _ _ _) ⟨rfl, rfl, trivial⟩
  · refine s_42 65 rfl rfl ?_
    refine s_180R 0 13 68 13 f_13_1 jw_1327 rfl rfl ?_
    refine s_16 9 70 9 jbp_9 rfl ?_
    refine s_28 71 rfl rfl ?_
    refine s_96 72 rfl ?_
    refine s_47 73 rfl ?_
    refine s_16 22 75 22 jbp_22 rfl ?_
    refine s_123 76 rfl ?_
    refine s_42 77 rfl rfl ?_
    refine s_180R 0 13 80 13 f_13_1 jw_1327 rfl rfl ?_
    refine s_16 10 82 10 jbp_10 rfl ?_
    refine s_28 83 rfl rfl ?_
    refine s_96 84 rfl ?_
    refine s_47 85 rfl ?_
    refine s_20 0 84 88 84 4194303 rfl jw_2145 rfl ?_
    refine s_127 89 rfl ?_
    refine s_7 90 rfl ?_
    refine s_121 91 rfl ?_
    refine s_129 92 rfl ?_
    refine s_66L 93 rfl rfl (fun x10 => ?_)
    refine s_3 94 rfl ?_
    refine s_54 5 96 rfl rfl ?_
    exact s_jmp (w_13_fold_96 l k58 hk58 jfuel _ _ _ _ _ _) ⟨rfl, rfl, rfl, rfl, rfl, trivial⟩
theorem w_13_fold_58 (l : Launch)  (n : Nat) : ∀ a0 a1 a2 H, JV l mi_13_fold jeV 58 [(0, .ref a0), (1, .int a1), (2, .int a2)] [] H (F_13_fold_58  n a0 a1 a2 H) := by
  induction n with
  | zero => intro _ _ _ _; exact s_none
  | succ n ih => intro a0 a1 a2 H; exact v_13_fold_58 l (F_13_fold_58  n) ih a0 a1 a2 H
theorem v_13_fold_2 (l : Launch) (k2 : Nat → Int32 → Int32 → jH → Option (Unit × jH)) (hk2 : ∀ a0 a1 a2 H, JV l mi_13_fold jeV 2 [(0, .ref a0), (1, .int a1), (2, .int a2)] [] H (k2 a0 a1 a2 H)) (a0 : Nat) (a1 : Int32) (a2 : Int32) (H : jH) : JV l mi_13_fold jeV 2 [(0, .ref a0), (1, .int a1), (2, .int a2)] [] H (B_13_fold_2 k2 a0 a1 a2 H) := by
  unfold B_13_fold_2
  refine s_28 3 rfl rfl ?_
  refine s_16 22 5 22 jbp_22 rfl ?_
  refine s_162 0 51 56 8 rfl rfl ?_ ?_
  · refine s_3 57 rfl ?_
    refine s_61 58 rfl rfl ?_
    exact s_jmp (w_13_fold_58 l jfuel _ _ _ _) ⟨rfl, rfl, rfl, trivial⟩
  · refine s_42 9 rfl rfl ?_
    refine s_180R 0 17 12 17 f_13_2 jw_1328 rfl rfl ?_
    refine s_28 13 rfl rfl ?_
    refine s_28 14 rfl rfl ?_
    refine s_16 9 16 9 jbp_9 rfl ?_
    refine s_162 0 12 28 19 rfl rfl ?_ ?_
    · refine s_28 29 rfl rfl ?_
      refine s_16 9 31 9 jbp_9 rfl ?_
      refine s_160 0 17 48 34 rfl rfl ?_ ?_
      · refine s_9 49 rfl ?_
        exact s_jmp (v_13_fold_49 l k2 hk2 _ _ _ _ _ _ _) ⟨rfl, rfl, rfl, trivial⟩
      · refine s_42 35 rfl rfl ?_
        refine s_180R 0 13 38 13 f_13_1 jw_1327 rfl rfl ?_
        refine s_16 9 40 9 jbp_9 rfl ?_
        refine s_47 41 rfl ?_
        refine s_20 0 84 44 84 4194303 rfl jw_2145 rfl ?_
        refine s_127 45 rfl ?_
        refine s_167 0 4 49 rfl rfl ?_
        exact s_jmp (v_13_fold_49 l k2 hk2 _ _ _ _ _ _ _) ⟨rfl, rfl, rfl, trivial⟩
    · refine s_42 20 rfl rfl ?_
      refine s_180R 0 13 23 13 f_13_1 jw_1327 rfl rfl ?_
      refine s_28 24 rfl rfl ?_
      refine s_47 25 rfl ?_
      refine s_167 0 24 49 rfl rfl ?_
      exact s_jmp (v_13_fold_49 l k2 hk2 _ _ _ _ _ _ _) ⟨rfl, rfl, rfl, trivial⟩
theorem w_13_fold_2 (l : Launch)  (n : Nat) : ∀ a0 a1 a2 H, JV l mi_13_fold jeV 2 [(0, .ref a0), (1, .int a1), (2, .int a2)] [] H (F_13_fold_2  n a0 a1 a2 H) := by
  induction n with
  | zero => intro _ _ _ _; exact s_none
  | succ n ih => intro a0 a1 a2 H; exact v_13_fold_2 l (F_13_fold_2  n) ih a0 a1 a2 H
theorem v_13_fold (l : Launch) (a0 : Nat) (a1 : Int32) (H : jH) : JV l mi_13_fold jeV 0 [(0, .ref a0), (1, .int a1)] [] H (F_13_fold a0 a1 H) := by
  unfold F_13_fold
  refine s_3 1 rfl ?_
  refine s_61 2 rfl rfl ?_
  exact s_jmp (w_13_fold_2 l jfuel _ _ _ _) ⟨rfl, rfl, rfl, trivial⟩
theorem m_13_fold (l : Launch) (a0 : Nat) (a1 : Int32) (H : jH) : JMet l y_13_fold prog_17_method_15_code mi_13_fold jeV [.ref a0, .int a1] H (F_13_fold a0 a1 H) := jmet_of n_13_fold (by decide) ⟨rfl, rfl⟩ (Nat.le_of_ble_eq_true rfl) (v_13_fold l a0 a1 H)
def mi_13_isWide : jM := (32024431851409630086400644199710897435555798793055661557632184378305736810952427084732154235310714464818451613284936082198400189985869313066, 58, 3, "CoinNodeModel$Points", some FieldType.boolean, "isWide", 0, 0)
def y_13_isWide : MethodName := ⟨"CoinNodeModel$Points", "isWide", "()Z"⟩
theorem n_13_isWide : jn_is prog_17_method_14_code mi_13_isWide.1 mi_13_isWide.2.1 := by unfold jn_is; decide +kernel
theorem k_13_isWide : jmok y_13_isWide prog_17_method_14_code mi_13_isWide 0 := ⟨jw_2144, jw_17, ⟨by decide, by decide⟩, by decide +kernel⟩
theorem v_13_isWide_49 (l : Launch) (k23 : Nat → Int32 → Int32 → jH → Option (Int32 × jH)) (hk23 : ∀ a0 a1 a2 H, JV l mi_13_isWide jeI 23 [(0, .ref a0), (1, .int a1), (2, .int a2)] [] H (k23 a0 a1 a2 H)) (a0 : Nat) (a2 : Int32) (s0 : Int32) (H : jH) : JV l mi_13_isWide jeI 49 [(0, .ref a0), (2, .int a2)] [.int s0] H (B_13_isWide_49 k23 a0 a2 s0 H) := by
  unfold B_13_isWide_49
  refine s_60 50 rfl rfl ?_
  refine s_132L 2 1 53 1 ji_1 rfl rfl rfl (fun x1 => ?_)
  refine s_167 255 226 23 rfl rfl ?_
  exact s_jmp (hk23 _ _ _ _) ⟨rfl, rfl, rfl, trivial⟩
theorem v_13_isWide_56 (l : Launch)  (a1 : Int32) (H : jH) : JV l mi_13_isWide jeI 56 [(1, .int a1)] [] H (B_13_isWide_56  a1 H) := by
  unfold B_13_isWide_56
  refine s_27 57 rfl rfl ?_
  exact s_172Z rfl rfl
theorem v_13_isWide_23 (l : Launch) (k23 : Nat → Int32 → Int32 → jH → Option (Int32 × jH)) (hk23 : ∀ a0 a1 a2 H, JV l mi_13_isWide jeI 23 [(0, .ref a0), (1, .int a1), (2, .int a2)] [] H (k23 a0 a1 a2 H)) (a0 : Nat) (a1 : Int32) (a2 : Int32) (H : jH) : JV l mi_13_isWide jeI 23 [(0, .ref a0), (1, .int a1), (2, .int a2)] [] H (B_13_isWide_23 k23 a0 a1 a2 H) := by
  unfold B_13_isWide_23
  refine s_28 24 rfl rfl ?_
  refine s_16 22 26 22 jbp_22 rfl ?_
  refine s_162 0 30 56 29 rfl rfl ?_ ?_
  · exact s_jmp (v_13_isWide_56 l _ _) ⟨rfl, trivial⟩
  · refine s_27 30 rfl rfl ?_
    refine s_154 0 26 56 33 rfl rfl ?_ ?_
    · exact s_jmp (v_13_isWide_56 l _ _) ⟨rfl, trivial⟩
    · refine s_42 34 rfl rfl ?_
      refine s_180R 0 13 37 13 f_13_1 jw_1327 rfl rfl ?_
      refine s_28 38 rfl rfl ?_
      refine s_47 39 rfl ?_
      refine s_9 40 rfl ?_
      refine s_148_158 0 7 48 41 44 rfl rfl rfl ?_ ?_
      · refine s_3 49 rfl ?_
        exact s_jmp (v_13_isWide_49 l k23 hk23 _ _ _ _) ⟨rfl, rfl, trivial⟩
      · refine s_4 45 rfl ?_
        refine s_167 0 4 49 rfl rfl ?_
        exact s_jmp (v_13_isWide_49 l k23 hk23 _ _ _ _) ⟨rfl, rfl, trivial⟩
theorem w_13_isWide_23 (l : Launch)  (n : Nat) : ∀ a0 a1 a2 H, JV l mi_13_isWide jeI 23 [(0, .ref a0), (1, .int a1), (2, .int a2)] [] H (F_13_isWide_23  n a0 a1 a2 H) := by
  induction n with
  | zero => intro _ _ _ _; exact s_none
  | succ n ih => intro a0 a1 a2 H; exact v_13_isWide_23 l (F_13_isWide_23  n) ih a0 a1 a2 H
theorem v_13_isWide_19 (l : Launch)  (a0 : Nat) (s0 : Int32) (H : jH) : JV l mi_13_isWide jeI 19 [(0, .ref a0)] [.int s0] H (B_13_isWide_19  a0 s0 H) := by
  unfold B_13_isWide_19
  refine s_60 20 rfl rfl ?_
  refine s_16 10 22 10 jbp_10 rfl ?_
  refine s_61 23 rfl rfl ?_
  exact s_jmp (w_13_isWide_23 l jfuel _ _ _ _) ⟨rfl, rfl, rfl, trivial⟩
theorem v_13_isWide (l : Launch) (a0 : Nat) (H : jH) : JV l mi_13_isWide jeI 0 [(0, .ref a0)] [] H (F_13_isWide a0 H) := by
  unfold F_13_isWide
  refine s_42 1 rfl rfl ?_
  refine s_180R 0 13 4 13 f_13_1 jw_1327 rfl rfl ?_
  refine s_16 9 6 9 jbp_9 rfl ?_
  refine s_47 7 rfl ?_
  refine s_20 0 84 10 84 4194303 rfl jw_2145 rfl ?_
  refine s_148_158 0 7 18 11 14 rfl rfl rfl ?_ ?_
  · refine s_3 19 rfl ?_
    exact s_jmp (v_13_isWide_19 l _ _ _) ⟨rfl, trivial⟩
  · refine s_4 15 rfl ?_
    refine s_167 0 4 19 rfl rfl ?_
    exact s_jmp (v_13_isWide_19 l _ _ _) ⟨rfl, trivial⟩
theorem m_13_isWide (l : Launch) (a0 : Nat) (H : jH) : JMet l y_13_isWide prog_17_method_14_code mi_13_isWide jeI [.ref a0] H (F_13_isWide a0 H) := jmet_of n_13_isWide (by decide) ⟨rfl, rfl⟩ (Nat.le_of_ble_eq_true rfl) (v_13_isWide l a0 H)
def mi_13_multiply : jM := (388647146473194407498021081613988242366472897260657125578558551549188641161447974544204988299055439972403124679009265169081998049072045605277489289012159215341948854612414531922987476595013724978042162682680612395235402887473194219102933123691248771974146797176829061654300855969486462312986830371659631084359251840453538060186262539073120675094613394351938482477661580047230718615148550683870724174158003403682698365955608189839689135326269646081177091, 188, 9, "CoinNodeModel$Points", none, "multiply", 2, 50)
def y_13_multiply : MethodName := ⟨"CoinNodeModel$Points", "multiply", "(IIII)V"⟩
theorem n_13_multiply : jn_is prog_17_method_16_code mi_13_multiply.1 mi_13_multiply.2.1 := by unfold jn_is; decide +kernel
theorem k_13_multiply : jmok y_13_multiply prog_17_method_16_code mi_13_multiply 4 := ⟨jw_2135, jw_17, ⟨by decide, by decide⟩, by decide +kernel⟩
theorem v_13_multiply_101 (l : Launch) (k27 : Nat → Int32 → Int32 → Int32 → Int32 → Int32 → jH → Option (Unit × jH)) (hk27 : ∀ a0 a1 a2 a3 a4 a5 H, JV l mi_13_multiply jeV 27 [(0, .ref a0), (1, .int a1), (2, .int a2), (3, .int a3), (4, .int a4), (5, .int a5)] [] H (k27 a0 a1 a2 a3 a4 a5 H)) (a0 : Nat) (a1 : Int32) (a2 : Int32) (a3 : Int32) (a4 : Int32) (a5 : Int32) (H : jH) : JV l mi_13_multiply jeV 101 [(0, .ref a0), (1, .int a1), (2, .int a2), (3, .int a3), (4, .int a4), (5, .int a5)] [] H (B_13_multiply_101 k27 a0 a1 a2 a3 a4 a5 H) := by
  unfold B_13_multiply_101
  refine s_132L 5 1 104 1 ji_1 rfl rfl rfl (fun x1 => ?_)
  refine s_167 255 179 27 rfl rfl ?_
  exact s_jmp (hk27 _ _ _ _ _ _ _) ⟨rfl, rfl, rfl, rfl, rfl, rfl, trivial⟩
theorem v_13_multiply_52 (l : Launch) (k27 : Nat → Int32 → Int32 → Int32 → Int32 → Int32 → jH → Option (Unit × jH)) (hk27 : ∀ a0 a1 a2 a3 a4 a5 H, JV l mi_13_multiply jeV 27 [(0, .ref a0), (1, .int a1), (2, .int a2), (3, .int a3), (4, .int a4), (5, .int a5)] [] H (k27 a0 a1 a2 a3 a4 a5 H)) (k52 : Nat → Int32 → Int32 → Int32 → Int32 → Int32 → Int64 → Int32 → jH → Option (Unit × jH)) (hk52 : ∀ a0 a1 a2 a3 a4 a5 a6 a8 H, JV l mi_13_multiply jeV 52 [(0, .ref a0), (1, .int a1), (2, .int a2), (3, .int a3), (4, .int a4), (5, .int a5), (6, .long a6), (8, .int a8)] [] H (k52 a0 a1 a2 a3 a4 a5 a6 a8 H)) (a0 : Nat) (a1 : Int32) (a2 : Int32) (a3 : Int32) (a4 : Int32) (a5 : Int32) (a6 : Int64) (a8 : Int32) (H : jH) : JV l mi_13_multiply jeV 52 [(0, .ref a0), (1, .int a1), (2, .int a2), (3, .int a3), (4, .int a4), (5, .int a5), (6, .long a6), (8, .int a8)] [] H (B_13_multiply_52 k27 k52 a0 a1 a2 a3 a4 a5 a6 a8 H) := by
  unfold B_13_multiply_52
  refine s_21 8 54 rfl rfl ?_
  refine s_16 10 56 10 jbp_10 rfl ?_
  refine s_162 0 45 101 59 rfl rfl ?_ ?_
  · exact s_jmp (v_13_multiply_101 l k27 hk27 _ _ _ _ _ _ _) ⟨rfl, rfl, rfl, rfl, rfl, rfl, trivial⟩
  · refine s_22 6 61 rfl rfl ?_
    refine s_9 62 rfl ?_
    refine s_148_158 0 38 101 63 66 rfl rfl rfl ?_ ?_
    · exact s_jmp (v_13_multiply_101 l k27 hk27 _ _ _ _ _ _ _) ⟨rfl, rfl, rfl, rfl, rfl, rfl, trivial⟩
    · refine s_42 67 rfl rfl ?_
      refine s_180R 0 13 70 13 f_13_1 jw_1327 rfl rfl ?_
      refine s_21 5 72 rfl rfl ?_
      refine s_21 8 74 rfl rfl ?_
      refine s_96 75 rfl ?_
      refine s_92 76 rfl rfl rfl ?_
      refine s_47 77 rfl ?_
      refine s_22 6 79 rfl rfl ?_
      refine s_42 80 rfl rfl ?_
      refine s_180R 0 7 83 7 f_13_0 jw_1326 rfl rfl ?_
      refine s_16 10 85 10 jbp_10 rfl ?_
      refine s_29 86 rfl rfl ?_
      refine s_104 87 rfl ?_
      refine s_21 8 89 rfl rfl ?_
      refine s_96 90 rfl ?_
      refine s_46 91 rfl ?_
      refine s_133 92 rfl ?_
      refine s_105 93 rfl ?_
      refine s_97 94 rfl ?_
      refine s_80 95 rfl (fun h2 => ?_)
      refine s_132L 8 1 98 1 ji_1 rfl rfl rfl (fun x3 => ?_)
      refine s_167 255 210 52 rfl rfl ?_
      exact s_jmp (hk52 _ _ _ _ _ _ _ _ _) ⟨rfl, rfl, rfl, rfl, rfl, rfl, rfl, rfl, trivial⟩
theorem w_13_multiply_52 (l : Launch) (k27 : Nat → Int32 → Int32 → Int32 → Int32 → Int32 → jH → Option (Unit × jH)) (hk27 : ∀ a0 a1 a2 a3 a4 a5 H, JV l mi_13_multiply jeV 27 [(0, .ref a0), (1, .int a1), (2, .int a2), (3, .int a3), (4, .int a4), (5, .int a5)] [] H (k27 a0 a1 a2 a3 a4 a5 H)) (n : Nat) : ∀ a0 a1 a2 a3 a4 a5 a6 a8 H, JV l mi_13_multiply jeV 52 [(0, .ref a0), (1, .int a1), (2, .int a2), (3, .int a3), (4, .int a4), (5, .int a5), (6, .long a6), (8, .int a8)] [] H (F_13_multiply_52 k27 n a0 a1 a2 a3 a4 a5 a6 a8 H) := by
  induction n with
  | zero => intro _ _ _ _ _ _ _ _ _; exact s_none
  | succ n ih => intro a0 a1 a2 a3 a4 a5 a6 a8 H; exact v_13_multiply_52 l k27 hk27 (F_13_multiply_52 k27 n) ih a0 a1 a2 a3 a4 a5 a6 a8 H
theorem v_13_multiply_187 (l : Launch)   (H : jH) : JV l mi_13_multiply jeV 187 [] [] H (B_13_multiply_187   H) := by
  unfold B_13_multiply_187
  exact s_177 rfl rfl
theorem v_13_multiply_136 (l : Launch) (k136 : Nat → Int32 → Int32 → Int32 → jH → Option (Unit × jH)) (hk136 : ∀ a0 a1 a4 a5 H, JV l mi_13_multiply jeV 136 [(0, .ref a0), (1, .int a1), (4, .int a4), (5, .int a5)] [] H (k136 a0 a1 a4 a5 H)) (a0 : Nat) (a1 : Int32) (a4 : Int32) (a5 : Int32) (H : jH) : JV l mi_13_multiply jeV 136 [(0, .ref a0), (1, .int a1), (4, .int a4), (5, .int a5)] [] H (B_13_multiply_136 k136 a0 a1 a4 a5 H) := by
  unfold B_13_multiply_136
  refine s_21 5 138 rfl rfl ?_
  refine s_16 10 140 10 jbp_10 rfl ?_
  refine s_162 0 29 169 143 rfl rfl ?_ ?_
  · refine s_42 170 rfl rfl ?_
    refine s_27 171 rfl rfl ?_
    refine s_21 4 173 rfl rfl ?_
    refine s_182I 0 78 176 78 (m_13_compare l _ _ _ _) rfl k_13_compare jc_13 jw_2124 jw_2126 jps_104 rfl rfl rfl rfl rfl (fun x4 h5 => ?_)
    refine s_155 0 11 187 179 rfl rfl ?_ ?_
    · exact s_jmp (v_13_multiply_187 l _) trivial
    · refine s_42 180 rfl rfl ?_
      refine s_27 181 rfl rfl ?_
      refine s_21 4 183 rfl rfl ?_
      refine s_2 184 rfl ?_
      refine s_182V 0 74 187 74 (m_13_add l _ _ _ _ _) rfl k_13_add jc_13 jw_2150 jw_2152 jps_110 rfl rfl rfl rfl rfl (fun x6 h7 => ?_)
      exact s_jmp (v_13_multiply_187 l _) trivial
  · refine s_42 144 rfl rfl ?_
    refine s_180R 0 7 147 7 f_13_0 jw_1326 rfl rfl ?_
    refine s_16 10 149 10 jbp_10 rfl ?_
    refine s_27 150 rfl rfl ?_
    refine s_104 151 rfl ?_
    refine s_21 5 153 rfl rfl ?_
    refine s_96 154 rfl ?_
    refine s_42 155 rfl rfl ?_
    refine s_180R 0 13 158 13 f_13_1 jw_1327 rfl rfl ?_
    refine s_21 5 160 rfl rfl ?_
    refine s_47 161 rfl ?_
    refine s_136 162 rfl ?_
    refine s_79 163 rfl (fun h8 => ?_)
    refine s_132L 5 1 166 1 ji_1 rfl rfl rfl (fun x9 => ?_)
    refine s_167 255 226 136 rfl rfl ?_
    exact s_jmp (hk136 _ _ _ _ _) ⟨rfl, rfl, rfl, rfl, trivial⟩
theorem w_13_multiply_136 (l : Launch)  (n : Nat) : ∀ a0 a1 a4 a5 H, JV l mi_13_multiply jeV 136 [(0, .ref a0), (1, .int a1), (4, .int a4), (5, .int a5)] [] H (F_13_multiply_136  n a0 a1 a4 a5 H) := by
  induction n with
  | zero => intro _ _ _ _ _; exact s_none
  | succ n ih => intro a0 a1 a4 a5 H; exact v_13_multiply_136 l (F_13_multiply_136  n) ih a0 a1 a4 a5 H
theorem v_13_multiply_111 (l : Launch) (k111 : Nat → Int32 → Int32 → jH → Option (Unit × jH)) (hk111 : ∀ a0 a1 a4 H, JV l mi_13_multiply jeV 111 [(0, .ref a0), (1, .int a1), (4, .int a4)] [] H (k111 a0 a1 a4 H)) (a0 : Nat) (a1 : Int32) (a4 : Int32) (H : jH) : JV l mi_13_multiply jeV 111 [(0, .ref a0), (1, .int a1), (4, .int a4)] [] H (B_13_multiply_111 k111 a0 a1 a4 H) := by
  unfold B_13_multiply_111
  refine s_42 112 rfl rfl ?_
  refine s_182I 0 89 115 89 (m_13_isWide l _ _) rfl k_13_isWide jc_13 jw_2141 jw_2143 jps_108 rfl rfl rfl rfl rfl (fun x10 h11 => ?_)
  refine s_153 0 18 133 118 rfl rfl ?_ ?_
  · refine s_3 134 rfl ?_
    refine s_54 5 136 rfl rfl ?_
    exact s_jmp (w_13_multiply_136 l jfuel _ _ _ _ _) ⟨rfl, rfl, rfl, rfl, trivial⟩
  · refine s_42 119 rfl rfl ?_
    refine s_16 10 121 10 jbp_10 rfl ?_
    refine s_21 4 123 rfl rfl ?_
    refine s_16 8 125 8 jbp_8 rfl ?_
    refine s_100 126 rfl ?_
    refine s_104 127 rfl ?_
    refine s_182V 0 93 130 93 (m_13_fold l _ _ _) rfl k_13_fold jc_13 jw_2146 jw_2148 jps_109 rfl rfl rfl rfl rfl (fun x12 h13 => ?_)
    refine s_167 255 237 111 rfl rfl ?_
    exact s_jmp (hk111 _ _ _ _) ⟨rfl, rfl, rfl, trivial⟩
theorem w_13_multiply_111 (l : Launch)  (n : Nat) : ∀ a0 a1 a4 H, JV l mi_13_multiply jeV 111 [(0, .ref a0), (1, .int a1), (4, .int a4)] [] H (F_13_multiply_111  n a0 a1 a4 H) := by
  induction n with
  | zero => intro _ _ _ _; exact s_none
  | succ n ih => intro a0 a1 a4 H; exact v_13_multiply_111 l (F_13_multiply_111  n) ih a0 a1 a4 H
theorem v_13_multiply_27 (l : Launch) (k27 : Nat → Int32 → Int32 → Int32 → Int32 → Int32 → jH → Option (Unit × jH)) (hk27 : ∀ a0 a1 a2 a3 a4 a5 H, JV l mi_13_multiply jeV 27 [(0, .ref a0), (1, .int a1), (2, .int a2), (3, .int a3), (4, .int a4), (5, .int a5)] [] H (k27 a0 a1 a2 a3 a4 a5 H)) (a0 : Nat) (a1 : Int32) (a2 : Int32) (a3 : Int32) (a4 : Int32) (a5 : Int32) (H : jH) : JV l mi_13_multiply jeV 27 [(0, .ref a0), (1, .int a1), (2, .int a2), (3, .int a3), (4, .int a4), (5, .int a5)] [] H (B_13_multiply_27 k27 a0 a1 a2 a3 a4 a5 H) := by
  unfold B_13_multiply_27
  refine s_21 5 29 rfl rfl ?_
  refine s_16 10 31 10 jbp_10 rfl ?_
  refine s_162 0 76 107 34 rfl rfl ?_ ?_
  · refine s_42 108 rfl rfl ?_
    refine s_182V 0 86 111 86 (m_13_carry l _ _) rfl k_13_carry jc_13 jw_2136 jw_2138 jps_107 rfl rfl rfl rfl rfl (fun x14 h15 => ?_)
    exact s_jmp (w_13_multiply_111 l jfuel _ _ _ _) ⟨rfl, rfl, rfl, trivial⟩
  · refine s_42 35 rfl rfl ?_
    refine s_180R 0 7 38 7 f_13_0 jw_1326 rfl rfl ?_
    refine s_16 10 40 10 jbp_10 rfl ?_
    refine s_28 41 rfl rfl ?_
    refine s_104 42 rfl ?_
    refine s_21 5 44 rfl rfl ?_
    refine s_96 45 rfl ?_
    refine s_46 46 rfl ?_
    refine s_133 47 rfl ?_
    refine s_55L 6 49 rfl rfl (fun x16 => ?_)
    refine s_3 50 rfl ?_
    refine s_54 8 52 rfl rfl ?_
    exact s_jmp (w_13_multiply_52 l k27 hk27 jfuel _ _ _ _ _ _ _ _ _) ⟨rfl, rfl, rfl, rfl, rfl, rfl, rfl, rfl, trivial⟩
theorem w_13_multiply_27 (l : Launch)  (n : Nat) : ∀ a0 a1 a2 a3 a4 a5 H, JV l mi_13_multiply jeV 27 [(0, .ref a0), (1, .int a1), (2, .int a2), (3, .int a3), (4, .int a4), (5, .int a5)] [] H (F_13_multiply_27  n a0 a1 a2 a3 a4 a5 H) := by
  induction n with
  | zero => intro _ _ _ _ _ _ _; exact s_none
  | succ n ih => intro a0 a1 a2 a3 a4 a5 H; exact v_13_multiply_27 l (F_13_multiply_27  n) ih a0 a1 a2 a3 a4 a5 H
theorem v_13_multiply_3 (l : Launch) (k3 : Nat → Int32 → Int32 → Int32 → Int32 → Int32 → jH → Option (Unit × jH)) (hk3 : ∀ a0 a1 a2 a3 a4 a5 H, JV l mi_13_multiply jeV 3 [(0, .ref a0), (1, .int a1), (2, .int a2), (3, .int a3), (4, .int a4), (5, .int a5)] [] H (k3 a0 a1 a2 a3 a4 a5 H)) (a0 : Nat) (a1 : Int32) (a2 : Int32) (a3 : Int32) (a4 : Int32) (a5 : Int32) (H : jH) : JV l mi_13_multiply jeV 3 [(0, .ref a0), (1, .int a1), (2, .int a2), (3, .int a3), (4, .int a4), (5, .int a5)] [] H (B_13_multiply_3 k3 a0 a1 a2 a3 a4 a5 H) := by
  unfold B_13_multiply_3
  refine s_21 5 5 rfl rfl ?_
  refine s_16 22 7 22 jbp_22 rfl ?_
  refine s_162 0 17 24 10 rfl rfl ?_ ?_
  · refine s_3 25 rfl ?_
    refine s_54 5 27 rfl rfl ?_
    exact s_jmp (w_13_multiply_27 l jfuel _ _ _ _ _ _ _) ⟨rfl, rfl, rfl, rfl, rfl, rfl, trivial⟩
  · refine s_42 11 rfl rfl ?_
    refine s_180R 0 13 14 13 f_13_1 jw_1327 rfl rfl ?_
    refine s_21 5 16 rfl rfl ?_
    refine s_9 17 rfl ?_
    refine s_80 18 rfl (fun h17 => ?_)
    refine s_132L 5 1 21 1 ji_1 rfl rfl rfl (fun x18 => ?_)
    refine s_167 255 238 3 rfl rfl ?_
    exact s_jmp (hk3 _ _ _ _ _ _ _) ⟨rfl, rfl, rfl, rfl, rfl, rfl, trivial⟩
theorem w_13_multiply_3 (l : Launch)  (n : Nat) : ∀ a0 a1 a2 a3 a4 a5 H, JV l mi_13_multiply jeV 3 [(0, .ref a0), (1, .int a1), (2, .int a2), (3, .int a3), (4, .int a4), (5, .int a5)] [] H (F_13_multiply_3  n a0 a1 a2 a3 a4 a5 H) := by
  induction n with
  | zero => intro _ _ _ _ _ _ _; exact s_none
  | succ n ih => intro a0 a1 a2 a3 a4 a5 H; exact v_13_multiply_3 l (F_13_multiply_3  n) ih a0 a1 a2 a3 a4 a5 H
theorem v_13_multiply (l : Launch) (a0 : Nat) (a1 : Int32) (a2 : Int32) (a3 : Int32) (a4 : Int32) (H : jH) : JV l mi_13_multiply jeV 0 [(0, .ref a0), (1, .int a1), (2, .int a2), (3, .int a3), (4, .int a4)] [] H (F_13_multiply a0 a1 a2 a3 a4 H) := by
  unfold F_13_multiply
  refine s_3 1 rfl ?_
  refine s_54 5 3 rfl rfl ?_
  exact s_jmp (w_13_multiply_3 l jfuel _ _ _ _ _ _ _) ⟨rfl, rfl, rfl, rfl, rfl, rfl, trivial⟩
theorem m_13_multiply (l : Launch) (a0 : Nat) (a1 : Int32) (a2 : Int32) (a3 : Int32) (a4 : Int32) (H : jH) : JMet l y_13_multiply prog_17_method_16_code mi_13_multiply jeV [.ref a0, .int a1, .int a2, .int a3, .int a4] H (F_13_multiply a0 a1 a2 a3 a4 H) := jmet_of n_13_multiply (by decide) ⟨rfl, rfl⟩ (Nat.le_of_ble_eq_true rfl) (v_13_multiply l a0 a1 a2 a3 a4 H)
def mi_13_bit : jM := (303918508289415431957624825152374880512107357421288894364301060880837162026, 31, 3, "CoinNodeModel$Points", some FieldType.boolean, "bit", 0, 0)
def y_13_bit : MethodName := ⟨"CoinNodeModel$Points", "bit", "(II)Z"⟩
theorem n_13_bit : jn_is prog_17_method_10_code mi_13_bit.1 mi_13_bit.2.1 := by unfold jn_is; decide +kernel
theorem k_13_bit : jmok y_13_bit prog_17_method_10_code mi_13_bit 2 := ⟨jw_2174, jw_17, ⟨by decide, by decide⟩, by decide +kernel⟩
theorem v_13_bit_30 (l : Launch)  (s0 : Int32) (H : jH) : JV l mi_13_bit jeI 30 [] [.int s0] H (B_13_bit_30  s0 H) := by
  unfold B_13_bit_30
  exact s_172Z rfl rfl
theorem v_13_bit (l : Launch) (a0 : Nat) (a1 : Int32) (a2 : Int32) (H : jH) : JV l mi_13_bit jeI 0 [(0, .ref a0), (1, .int a1), (2, .int a2)] [] H (F_13_bit a0 a1 a2 H) := by
  unfold F_13_bit
  refine s_42 1 rfl rfl ?_
  refine s_180R 0 7 4 7 f_13_0 jw_1326 rfl rfl ?_
  refine s_16 10 6 10 jbp_10 rfl ?_
  refine s_27 7 rfl rfl ?_
  refine s_104 8 rfl ?_
  refine s_28 9 rfl rfl ?_
  refine s_16 26 11 26 jbp_26 rfl ?_
  refine s_108 12 rfl ?_
  refine s_96 13 rfl ?_
  refine s_46 14 rfl ?_
  refine s_28 15 rfl rfl ?_
  refine s_16 26 17 26 jbp_26 rfl ?_
  refine s_112 18 rfl ?_
  refine s_122 19 rfl ?_
  refine s_4 20 rfl ?_
  refine s_126 21 rfl ?_
  refine s_4 22 rfl ?_
  refine s_160 0 7 29 25 rfl rfl ?_ ?_
  · refine s_3 30 rfl ?_
    exact s_jmp (v_13_bit_30 l _ _) trivial
  · refine s_4 26 rfl ?_
    refine s_167 0 4 30 rfl rfl ?_
    exact s_jmp (v_13_bit_30 l _ _) trivial
theorem m_13_bit (l : Launch) (a0 : Nat) (a1 : Int32) (a2 : Int32) (H : jH) : JMet l y_13_bit prog_17_method_10_code mi_13_bit jeI [.ref a0, .int a1, .int a2] H (F_13_bit a0 a1 a2 H) := jmet_of n_13_bit (by decide) ⟨rfl, rfl⟩ (Nat.le_of_ble_eq_true rfl) (v_13_bit l a0 a1 a2 H)
def mi_13_power : jM := (171269973252482853979705656437767721967793495574164462558486797869599490316136147261710060373240004597743656461092698686140272939226586367292313321371634855538107764769034282, 72, 5, "CoinNodeModel$Points", none, "power", 3, 78)
def y_13_power : MethodName := ⟨"CoinNodeModel$Points", "power", "(III)V"⟩
theorem n_13_power : jn_is prog_17_method_17_code mi_13_power.1 mi_13_power.2.1 := by unfold jn_is; decide +kernel
theorem k_13_power : jmok y_13_power prog_17_method_17_code mi_13_power 3 := ⟨jw_2170, jw_17, ⟨by decide, by decide⟩, by decide +kernel⟩
theorem v_13_power_58 (l : Launch) (k20 : Nat → Int32 → Int32 → Int32 → jH → Option (Unit × jH)) (hk20 : ∀ a0 a1 a3 a4 H, JV l mi_13_power jeV 20 [(0, .ref a0), (1, .int a1), (3, .int a3), (4, .int a4)] [] H (k20 a0 a1 a3 a4 H)) (a0 : Nat) (a1 : Int32) (a3 : Int32) (a4 : Int32) (H : jH) : JV l mi_13_power jeV 58 [(0, .ref a0), (1, .int a1), (3, .int a3), (4, .int a4)] [] H (B_13_power_58 k20 a0 a1 a3 a4 H) := by
  unfold B_13_power_58
  refine s_132L 4 255 61 (-1) ji_255 rfl rfl rfl (fun x1 => ?_)
  refine s_167 255 215 20 rfl rfl ?_
  exact s_jmp (hk20 _ _ _ _ _) ⟨rfl, rfl, rfl, rfl, trivial⟩
theorem v_13_power_20 (l : Launch) (k20 : Nat → Int32 → Int32 → Int32 → jH → Option (Unit × jH)) (hk20 : ∀ a0 a1 a3 a4 H, JV l mi_13_power jeV 20 [(0, .ref a0), (1, .int a1), (3, .int a3), (4, .int a4)] [] H (k20 a0 a1 a3 a4 H)) (a0 : Nat) (a1 : Int32) (a3 : Int32) (a4 : Int32) (H : jH) : JV l mi_13_power jeV 20 [(0, .ref a0), (1, .int a1), (3, .int a3), (4, .int a4)] [] H (B_13_power_20 k20 a0 a1 a3 a4 H) := by
  unfold B_13_power_20
  refine s_21 4 22 rfl rfl ?_
  refine s_155 0 42 64 25 rfl rfl ?_ ?_
  · refine s_42 65 rfl rfl ?_
    refine s_27 66 rfl rfl ?_
    refine s_16 38 68 38 jbp_38 rfl ?_
    refine s_182V 0 70 71 70 (m_13_copy l _ _ _ _) rfl k_13_copy jc_13 jw_2158 jw_2160 jps_112 rfl rfl rfl rfl rfl (fun x2 h3 => ?_)
    exact s_177 rfl rfl
  · refine s_42 26 rfl rfl ?_
    refine s_16 38 28 38 jbp_38 rfl ?_
    refine s_16 38 30 38 jbp_38 rfl ?_
    refine s_16 38 32 38 jbp_38 rfl ?_
    refine s_29 33 rfl rfl ?_
    refine s_182V 0 96 36 96 (m_13_multiply l _ _ _ _ _ _) rfl k_13_multiply jc_13 jw_2132 jw_2134 jps_106 rfl rfl rfl rfl rfl (fun x4 h5 => ?_)
    refine s_42 37 rfl rfl ?_
    refine s_16 39 39 39 jbp_39 rfl ?_
    refine s_21 4 41 rfl rfl ?_
    refine s_182I 0 100 44 100 (m_13_bit l _ _ _ _) rfl k_13_bit jc_13 jw_2171 jw_2173 jps_115 rfl rfl rfl rfl rfl (fun x6 h7 => ?_)
    refine s_153 0 14 58 47 rfl rfl ?_ ?_
    · exact s_jmp (v_13_power_58 l k20 hk20 _ _ _ _ _) ⟨rfl, rfl, rfl, rfl, trivial⟩
    · refine s_42 48 rfl rfl ?_
      refine s_16 38 50 38 jbp_38 rfl ?_
      refine s_16 38 52 38 jbp_38 rfl ?_
      refine s_16 44 54 44 jbp_44 rfl ?_
      refine s_29 55 rfl rfl ?_
      refine s_182V 0 96 58 96 (m_13_multiply l _ _ _ _ _ _) rfl k_13_multiply jc_13 jw_2132 jw_2134 jps_106 rfl rfl rfl rfl rfl (fun x8 h9 => ?_)
      exact s_jmp (v_13_power_58 l k20 hk20 _ _ _ _ _) ⟨rfl, rfl, rfl, rfl, trivial⟩
theorem w_13_power_20 (l : Launch)  (n : Nat) : ∀ a0 a1 a3 a4 H, JV l mi_13_power jeV 20 [(0, .ref a0), (1, .int a1), (3, .int a3), (4, .int a4)] [] H (F_13_power_20  n a0 a1 a3 a4 H) := by
  induction n with
  | zero => intro _ _ _ _ _; exact s_none
  | succ n ih => intro a0 a1 a3 a4 H; exact v_13_power_20 l (F_13_power_20  n) ih a0 a1 a3 a4 H
theorem v_13_power (l : Launch) (a0 : Nat) (a1 : Int32) (a2 : Int32) (a3 : Int32) (H : jH) : JV l mi_13_power jeV 0 [(0, .ref a0), (1, .int a1), (2, .int a2), (3, .int a3)] [] H (F_13_power a0 a1 a2 a3 H) := by
  unfold F_13_power
  refine s_42 1 rfl rfl ?_
  refine s_16 44 3 44 jbp_44 rfl ?_
  refine s_28 4 rfl rfl ?_
  refine s_182V 0 70 7 70 (m_13_copy l _ _ _ _) rfl k_13_copy jc_13 jw_2158 jw_2160 jps_112 rfl rfl rfl rfl rfl (fun x10 h11 => ?_)
  refine s_42 8 rfl rfl ?_
  refine s_16 38 10 38 jbp_38 rfl ?_
  refine s_16 20 12 20 jbp_20 rfl ?_
  refine s_182V 0 70 15 70 (m_13_copy l _ _ _ _) rfl k_13_copy jc_13 jw_2158 jw_2160 jps_112 rfl rfl rfl rfl rfl (fun x12 h13 => ?_)
  refine s_17 0 255 18 255 jsp_0_255 rfl ?_
  refine s_54 4 20 rfl rfl ?_
  exact s_jmp (w_13_power_20 l jfuel _ _ _ _ _) ⟨rfl, rfl, rfl, rfl, trivial⟩
theorem m_13_power (l : Launch) (a0 : Nat) (a1 : Int32) (a2 : Int32) (a3 : Int32) (H : jH) : JMet l y_13_power prog_17_method_17_code mi_13_power jeV [.ref a0, .int a1, .int a2, .int a3] H (F_13_power a0 a1 a2 a3 H) := jmet_of n_13_power (by decide) ⟨rfl, rfl⟩ (Nat.le_of_ble_eq_true rfl) (v_13_power l a0 a1 a2 a3 H)
def mi_13_divide : jM := (27300512799053421075454084224893694617932687054039227757076470292408406269757764439327336460653662890199990661484586, 48, 5, "CoinNodeModel$Points", none, "divide", 4, 102)
def y_13_divide : MethodName := ⟨"CoinNodeModel$Points", "divide", "(IIII)V"⟩
theorem n_13_divide : jn_is prog_17_method_18_code mi_13_divide.1 mi_13_divide.2.1 := by unfold jn_is; decide +kernel
theorem k_13_divide : jmok y_13_divide prog_17_method_18_code mi_13_divide 4 := ⟨jw_2230, jw_17, ⟨by decide, by decide⟩, by decide +kernel⟩
theorem v_13_divide (l : Launch) (a0 : Nat) (a1 : Int32) (a2 : Int32) (a3 : Int32) (a4 : Int32) (H : jH) : JV l mi_13_divide jeV 0 [(0, .ref a0), (1, .int a1), (2, .int a2), (3, .int a3), (4, .int a4)] [] H (F_13_divide a0 a1 a2 a3 a4 H) := by
  unfold F_13_divide
  refine s_42 1 rfl rfl ?_
  refine s_16 39 3 39 jbp_39 rfl ?_
  refine s_21 4 5 rfl rfl ?_
  refine s_182V 0 70 8 70 (m_13_copy l _ _ _ _) rfl k_13_copy jc_13 jw_2158 jw_2160 jps_112 rfl rfl rfl rfl rfl (fun x1 h2 => ?_)
  refine s_42 9 rfl rfl ?_
  refine s_180R 0 7 12 7 f_13_0 jw_1326 rfl rfl ?_
  refine s_17 1 134 15 390 jsp_1_134 rfl ?_
  refine s_92 16 rfl rfl rfl ?_
  refine s_46 17 rfl ?_
  refine s_5 18 rfl ?_
  refine s_100 19 rfl ?_
  refine s_79 20 rfl (fun h3 => ?_)
  refine s_42 21 rfl rfl ?_
  refine s_16 45 23 45 jbp_45 rfl ?_
  refine s_28 24 rfl rfl ?_
  refine s_182V 0 70 27 70 (m_13_copy l _ _ _ _) rfl k_13_copy jc_13 jw_2158 jw_2160 jps_112 rfl rfl rfl rfl rfl (fun x4 h5 => ?_)
  refine s_42 28 rfl rfl ?_
  refine s_16 46 30 46 jbp_46 rfl ?_
  refine s_29 31 rfl rfl ?_
  refine s_21 4 33 rfl rfl ?_
  refine s_182V 0 104 36 104 (m_13_power l _ _ _ _ _) rfl k_13_power jc_13 jw_2167 jw_2169 jps_114 rfl rfl rfl rfl rfl (fun x6 h7 => ?_)
  refine s_42 37 rfl rfl ?_
  refine s_27 38 rfl rfl ?_
  refine s_16 45 40 45 jbp_45 rfl ?_
  refine s_16 46 42 46 jbp_46 rfl ?_
  refine s_21 4 44 rfl rfl ?_
  refine s_182V 0 96 47 96 (m_13_multiply l _ _ _ _ _ _) rfl k_13_multiply jc_13 jw_2132 jw_2134 jps_106 rfl rfl rfl rfl rfl (fun x8 h9 => ?_)
  exact s_177 rfl rfl
theorem m_13_divide (l : Launch) (a0 : Nat) (a1 : Int32) (a2 : Int32) (a3 : Int32) (a4 : Int32) (H : jH) : JMet l y_13_divide prog_17_method_18_code mi_13_divide jeV [.ref a0, .int a1, .int a2, .int a3, .int a4] H (F_13_divide a0 a1 a2 a3 a4 H) := jmet_of n_13_divide (by decide) ⟨rfl, rfl⟩ (Nat.le_of_ble_eq_true rfl) (v_13_divide l a0 a1 a2 a3 a4 H)
def mi_13_isNothing : jM := (94113457780001220563026465632877791925720488303250035537288660764195667693497842260773747157306129668, 42, 4, "CoinNodeModel$Points", some FieldType.boolean, "isNothing", 0, 0)
def y_13_isNothing : MethodName := ⟨"CoinNodeModel$Points", "isNothing", "(I)Z"⟩
theorem n_13_isNothing : jn_is prog_17_method_7_code mi_13_isNothing.1 mi_13_isNothing.2.1 := by unfold jn_is; decide +kernel
theorem k_13_isNothing : jmok y_13_isNothing prog_17_method_7_code mi_13_isNothing 1 := ⟨jw_2226, jw_17, ⟨by decide, by decide⟩, by decide +kernel⟩
theorem v_13_isNothing_33 (l : Launch) (k4 : Nat → Int32 → Int32 → Int32 → jH → Option (Int32 × jH)) (hk4 : ∀ a0 a1 a2 a3 H, JV l mi_13_isNothing jeI 4 [(0, .ref a0), (1, .int a1), (2, .int a2), (3, .int a3)] [] H (k4 a0 a1 a2 a3 H)) (a0 : Nat) (a1 : Int32) (a3 : Int32) (s0 : Int32) (H : jH) : JV l mi_13_isNothing jeI 33 [(0, .ref a0), (1, .int a1), (3, .int a3)] [.int s0] H (B_13_isNothing_33 k4 a0 a1 a3 s0 H) := by
  unfold B_13_isNothing_33
  refine s_61 34 rfl rfl ?_
  refine s_132L 3 1 37 1 ji_1 rfl rfl rfl (fun x1 => ?_)
  refine s_167 255 223 4 rfl rfl ?_
  exact s_jmp (hk4 _ _ _ _ _) ⟨rfl, rfl, rfl, rfl, trivial⟩
theorem v_13_isNothing_40 (l : Launch)  (a2 : Int32) (H : jH) : JV l mi_13_isNothing jeI 40 [(2, .int a2)] [] H (B_13_isNothing_40  a2 H) := by
  unfold B_13_isNothing_40
  refine s_28 41 rfl rfl ?_
  exact s_172Z rfl rfl
theorem v_13_isNothing_4 (l : Launch) (k4 : Nat → Int32 → Int32 → Int32 → jH → Option (Int32 × jH)) (hk4 : ∀ a0 a1 a2 a3 H, JV l mi_13_isNothing jeI 4 [(0, .ref a0), (1, .int a1), (2, .int a2), (3, .int a3)] [] H (k4 a0 a1 a2 a3 H)) (a0 : Nat) (a1 : Int32) (a2 : Int32) (a3 : Int32) (H : jH) : JV l mi_13_isNothing jeI 4 [(0, .ref a0), (1, .int a1), (2, .int a2), (3, .int a3)] [] H (B_13_isNothing_4 k4 a0 a1 a2 a3 H) := by
  unfold B_13_isNothing_4
  refine s_29 5 rfl rfl ?_
  refine s_16 10 7 10 jbp_10 rfl ?_
  refine s_162 0 33 40 10 rfl rfl ?_ ?_
  · exact s_jmp (v_13_isNothing_40 l _ _) ⟨rfl, trivial⟩
  · refine s_28 11 rfl rfl ?_
    refine s_153 0 29 40 14 rfl rfl ?_ ?_
    · exact s_jmp (v_13_isNothing_40 l _ _) ⟨rfl, trivial⟩
    · refine s_42 15 rfl rfl ?_
      refine s_180R 0 7 18 7 f_13_0 jw_1326 rfl rfl ?_
      refine s_16 10 20 10 jbp_10 rfl ?_
      refine s_27 21 rfl rfl ?_
      refine s_104 22 rfl ?_
      refine s_29 23 rfl rfl ?_
      refine s_96 24 rfl ?_
      refine s_46 25 rfl ?_
      refine s_154 0 7 32 28 rfl rfl ?_ ?_
      · refine s_3 33 rfl ?_
        exact s_jmp (v_13_isNothing_33 l k4 hk4 _ _ _ _ _) ⟨rfl, rfl, rfl, trivial⟩
      · refine s_4 29 rfl ?_
        refine s_167 0 4 33 rfl rfl ?_
        exact s_jmp (v_13_isNothing_33 l k4 hk4 _ _ _ _ _) ⟨rfl, rfl, rfl, trivial⟩
theorem w_13_isNothing_4 (l : Launch)  (n : Nat) : ∀ a0 a1 a2 a3 H, JV l mi_13_isNothing jeI 4 [(0, .ref a0), (1, .int a1), (2, .int a2), (3, .int a3)] [] H (F_13_isNothing_4  n a0 a1 a2 a3 H) := by
  induction n with
  | zero => intro _ _ _ _ _; exact s_none
  | succ n ih => intro a0 a1 a2 a3 H; exact v_13_isNothing_4 l (F_13_isNothing_4  n) ih a0 a1 a2 a3 H
theorem v_13_isNothing (l : Launch) (a0 : Nat) (a1 : Int32) (H : jH) : JV l mi_13_isNothing jeI 0 [(0, .ref a0), (1, .int a1)] [] H (F_13_isNothing a0 a1 H) := by
  unfold F_13_isNothing
  refine s_4 1 rfl ?_
  refine s_61 2 rfl rfl ?_
  refine s_3 3 rfl ?_
  refine s_62 4 rfl rfl ?_
  exact s_jmp (w_13_isNothing_4 l jfuel _ _ _ _ _) ⟨rfl, rfl, rfl, rfl, trivial⟩
theorem m_13_isNothing (l : Launch) (a0 : Nat) (a1 : Int32) (H : jH) : JMet l y_13_isNothing prog_17_method_7_code mi_13_isNothing jeI [.ref a0, .int a1] H (F_13_isNothing a0 a1 H) := jmet_of n_13_isNothing (by decide) ⟨rfl, rfl⟩ (Nat.le_of_ble_eq_true rfl) (v_13_isNothing l a0 a1 H)
def mi_13_isNone : jM := (12426276580140325674, 8, 2, "CoinNodeModel$Points", some FieldType.boolean, "isNone", 1, 23)
def y_13_isNone : MethodName := ⟨"CoinNodeModel$Points", "isNone", "(I)Z"⟩
theorem n_13_isNone : jn_is prog_17_method_20_code mi_13_isNone.1 mi_13_isNone.2.1 := by unfold jn_is; decide +kernel
theorem k_13_isNone : jmok y_13_isNone prog_17_method_20_code mi_13_isNone 1 := ⟨jw_2238, jw_17, ⟨by decide, by decide⟩, by decide +kernel⟩
theorem v_13_isNone (l : Launch) (a0 : Nat) (a1 : Int32) (H : jH) : JV l mi_13_isNone jeI 0 [(0, .ref a0), (1, .int a1)] [] H (F_13_isNone a0 a1 H) := by
  unfold F_13_isNone
  refine s_42 1 rfl rfl ?_
  refine s_27 2 rfl rfl ?_
  refine s_5 3 rfl ?_
  refine s_96 4 rfl ?_
  refine s_182I 0 115 7 115 (m_13_isNothing l _ _ _) rfl k_13_isNothing jc_13 jw_2223 jw_2225 jps_124 rfl rfl rfl rfl rfl (fun x1 h2 => ?_)
  exact s_172Z rfl rfl
theorem m_13_isNone (l : Launch) (a0 : Nat) (a1 : Int32) (H : jH) : JMet l y_13_isNone prog_17_method_20_code mi_13_isNone jeI [.ref a0, .int a1] H (F_13_isNone a0 a1 H) := jmet_of n_13_isNone (by decide) ⟨rfl, rfl⟩ (Nat.le_of_ble_eq_true rfl) (v_13_isNone l a0 a1 H)
