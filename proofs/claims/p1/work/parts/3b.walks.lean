def mi_14_fit : jM := (4925893814295550295361394119944034772863534489104049999922980576263242065684998451492134011965662364780333458736764541591499878856038879535969686604372744702791379270593458105664594114243907394598161126826777656620096775326360616934192881563054544827434, 105, 4, "CoinNodeModel$Scripts", some FieldType.boolean, "fit", 8, 193)
def y_14_fit : MethodName := ⟨"CoinNodeModel$Scripts", "fit", "(II)Z"⟩
theorem n_14_fit : jn_is prog_18_method_15_code mi_14_fit.1 mi_14_fit.2.1 := by unfold jn_is; decide +kernel
theorem k_14_fit : jmok y_14_fit prog_18_method_15_code mi_14_fit 2 := ⟨jw_2097, jw_18, ⟨by decide, by decide⟩, by decide +kernel⟩
theorem v_14_fit_27 (l : Launch) (k27 : Nat → Int32 → Int32 → Int32 → jH → Option (Int32 × jH)) (hk27 : ∀ a0 a1 a2 a3 H, JV l mi_14_fit jeI 27 [(0, .ref a0), (1, .int a1), (2, .int a2), (3, .int a3)] [] H (k27 a0 a1 a2 a3 H)) (a0 : Nat) (a1 : Int32) (a2 : Int32) (a3 : Int32) (H : jH) : JV l mi_14_fit jeI 27 [(0, .ref a0), (1, .int a1), (2, .int a2), (3, .int a3)] [] H (B_14_fit_27 k27 a0 a1 a2 a3 H) := by
  unfold B_14_fit_27
  refine s_29 28 rfl rfl ?_
  refine s_16 120 30 120 jbp_120 rfl ?_
  refine s_162 0 45 75 33 rfl rfl ?_ ?_
  · refine s_42 76 rfl rfl ?_
    refine s_180R 0 36 79 36 f_14_16 jw_1407 rfl rfl ?_
    refine s_42 80 rfl rfl ?_
    refine s_180R 0 22 83 22 f_14_12 jw_1403 rfl rfl ?_
    refine s_42 84 rfl rfl ?_
    refine s_180R 0 13 87 13 f_14_1 jw_1391 rfl rfl ?_
    refine s_27 88 rfl rfl ?_
    refine s_46 89 rfl ?_
    refine s_42 90 rfl rfl ?_
    refine s_180R 0 26 93 26 f_14_13 jw_1404 rfl rfl ?_
    refine s_42 94 rfl rfl ?_
    refine s_180R 0 13 97 13 f_14_1 jw_1391 rfl rfl ?_
    refine s_28 98 rfl rfl ?_
    refine s_46 99 rfl ?_
    refine s_185 104 91 ⟨"CoinNodeModel$Asker", "fits", "([BI[BI)Z"⟩ (m_15_fits l _ _ _ _ _ _) rfl k_15_fits jc_15 jw_2099 jw_2105 jw_2103 ⟨by decide, by decide, by decide +kernel⟩ (fun U h => h.2.2.2.2) n_14_fit (cnt := 5) (by decide +kernel) rfl rfl rfl rfl (fun x1 h2 => ?_)
    exact s_172Z rfl rfl
  · refine s_42 34 rfl rfl ?_
    refine s_180R 0 22 37 22 f_14_12 jw_1403 rfl rfl ?_
    refine s_29 38 rfl rfl ?_
    refine s_42 39 rfl rfl ?_
    refine s_180R 0 7 42 7 f_14_0 jw_1390 rfl rfl ?_
    refine s_16 120 44 120 jbp_120 rfl ?_
    refine s_27 45 rfl rfl ?_
    refine s_104 46 rfl ?_
    refine s_29 47 rfl rfl ?_
    refine s_96 48 rfl ?_
    refine s_46 49 rfl ?_
    refine s_145 50 rfl ?_
    refine s_84B 51 rfl (fun h3 => ?_)
    refine s_42 52 rfl rfl ?_
    refine s_180R 0 26 55 26 f_14_13 jw_1404 rfl rfl ?_
    refine s_29 56 rfl rfl ?_
    refine s_42 57 rfl rfl ?_
    refine s_180R 0 7 60 7 f_14_0 jw_1390 rfl rfl ?_
    refine s_16 120 62 120 jbp_120 rfl ?_
    refine s_28 63 rfl rfl ?_
    refine s_104 64 rfl ?_
    refine s_29 65 rfl rfl ?_
    refine s_96 66 rfl ?_
    refine s_46 67 rfl ?_
    refine s_145 68 rfl ?_
    refine s_84B 69 rfl (fun h4 => ?_)
    refine s_132L 3 1 72 1 ji_1 rfl rfl rfl (fun x5 => ?_)
    refine s_167 255 211 27 rfl rfl ?_
    exact s_jmp (hk27 _ _ _ _ _) ⟨rfl, rfl, rfl, rfl, trivial⟩
theorem w_14_fit_27 (l : Launch)  (n : Nat) : ∀ a0 a1 a2 a3 H, JV l mi_14_fit jeI 27 [(0, .ref a0), (1, .int a1), (2, .int a2), (3, .int a3)] [] H (F_14_fit_27  n a0 a1 a2 a3 H) := by
  induction n with
  | zero => intro _ _ _ _ _; exact s_none
  | succ n ih => intro a0 a1 a2 a3 H; exact v_14_fit_27 l (F_14_fit_27  n) ih a0 a1 a2 a3 H
theorem v_14_fit (l : Launch) (a0 : Nat) (a1 : Int32) (a2 : Int32) (H : jH) : JV l mi_14_fit jeI 0 [(0, .ref a0), (1, .int a1), (2, .int a2)] [] H (F_14_fit a0 a1 a2 H) := by
  unfold F_14_fit
  refine s_42 1 rfl rfl ?_
  refine s_180I 0 88 4 88 f_14_8 jw_1398 rfl rfl ?_
  refine s_154 0 11 15 7 rfl rfl ?_ ?_
  · refine s_42 16 rfl rfl ?_
    refine s_89 17 rfl rfl ?_
    refine s_180I 0 88 20 88 f_14_8 jw_1398 rfl rfl ?_
    refine s_4 21 rfl ?_
    refine s_100 22 rfl ?_
    refine s_181I 0 88 25 88 f_14_8 rfl rfl jw_1398 rfl rfl (fun h6 => ?_)
    refine s_3 26 rfl ?_
    refine s_62 27 rfl rfl ?_
    exact s_jmp (w_14_fit_27 l jfuel _ _ _ _ _) ⟨rfl, rfl, rfl, rfl, trivial⟩
  · refine s_42 8 rfl rfl ?_
    refine s_16 13 10 13 jbp_13 rfl ?_
    refine s_182V 0 60 13 60 (m_14_fails l _ _ _) rfl k_14_fails jc_14 jw_1959 jw_1961 jps_76 rfl rfl rfl rfl rfl (fun x7 h8 => ?_)
    refine s_3 14 rfl ?_
    exact s_172Z rfl rfl
theorem m_14_fit (l : Launch) (a0 : Nat) (a1 : Int32) (a2 : Int32) (H : jH) : JMet l y_14_fit prog_18_method_15_code mi_14_fit jeI [.ref a0, .int a1, .int a2] H (F_14_fit a0 a1 a2 H) := jmet_of n_14_fit (by decide) ⟨rfl, rfl⟩ (Nat.le_of_ble_eq_true rfl) (v_14_fit l a0 a1 a2 H)
def mi_14_one : jM := (503705388819242324256214473865729597886880219381365309947124293823044852590946684694037194694969489698215945491219603949849572422321450, 56, 3, "CoinNodeModel$Scripts", none, "one", 9, 216)
def y_14_one : MethodName := ⟨"CoinNodeModel$Scripts", "one", "(Z)V"⟩
theorem n_14_one : jn_is prog_18_method_16_code mi_14_one.1 mi_14_one.2.1 := by unfold jn_is; decide +kernel
theorem k_14_one : jmok y_14_one prog_18_method_16_code mi_14_one 1 := ⟨jw_2093, jw_18, ⟨by decide, by decide⟩, by decide +kernel⟩
theorem v_14_one_55 (l : Launch)   (H : jH) : JV l mi_14_one jeV 55 [] [] H (B_14_one_55   H) := by
  unfold B_14_one_55
  exact s_177 rfl rfl
theorem v_14_one (l : Launch) (a0 : Nat) (a1 : Int32) (H : jH) : JV l mi_14_one jeV 0 [(0, .ref a0), (1, .int a1)] [] H (F_14_one a0 a1 H) := by
  unfold F_14_one
  refine s_42 1 rfl rfl ?_
  refine s_5 2 rfl ?_
  refine s_182I 0 64 5 64 (m_14_has l _ _ _) rfl k_14_has jc_14 jw_1971 jw_1973 jps_79 rfl rfl rfl rfl rfl (fun x1 h2 => ?_)
  refine s_154 0 4 9 8 rfl rfl ?_ ?_
  · refine s_42 10 rfl rfl ?_
    refine s_42 11 rfl rfl ?_
    refine s_4 12 rfl ?_
    refine s_182I 0 68 15 68 (m_14_top l _ _ _) rfl k_14_top jc_14 jw_2009 jw_2011 jps_88 rfl rfl rfl rfl rfl (fun x3 h4 => ?_)
    refine s_42 16 rfl rfl ?_
    refine s_3 17 rfl ?_
    refine s_182I 0 68 20 68 (m_14_top l _ _ _) rfl k_14_top jc_14 jw_2009 jw_2011 jps_88 rfl rfl rfl rfl rfl (fun x5 h6 => ?_)
    refine s_182I 0 97 23 97 (m_14_fit l _ _ _ _) rfl k_14_fit jc_14 jw_2094 jw_2096 jps_102 rfl rfl rfl rfl rfl (fun x7 h8 => ?_)
    refine s_61 24 rfl rfl ?_
    refine s_42 25 rfl rfl ?_
    refine s_180I 0 57 28 57 f_14_6 jw_1396 rfl rfl ?_
    refine s_158 0 4 32 31 rfl rfl ?_ ?_
    · refine s_42 33 rfl rfl ?_
      refine s_89 34 rfl rfl ?_
      refine s_180I 0 44 37 44 f_14_2 jw_1392 rfl rfl ?_
      refine s_5 38 rfl ?_
      refine s_100 39 rfl ?_
      refine s_181I 0 44 42 44 f_14_2 rfl rfl jw_1392 rfl rfl (fun h9 => ?_)
      refine s_42 43 rfl rfl ?_
      refine s_28 44 rfl rfl ?_
      refine s_182V 0 101 47 101 (m_14_pushTruth l _ _ _) rfl k_14_pushTruth jc_14 jw_2033 jw_2035 jps_94 rfl rfl rfl rfl rfl (fun x10 h11 => ?_)
      refine s_27 48 rfl rfl ?_
      refine s_153 0 7 55 51 rfl rfl ?_ ?_
      · exact s_jmp (v_14_one_55 l _) trivial
      · refine s_42 52 rfl rfl ?_
        refine s_182V 0 105 55 105 (m_14_mustBeTrue l _ _) rfl k_14_mustBeTrue jc_14 jw_2037 jw_2039 jps_95 rfl rfl rfl rfl rfl (fun x12 h13 => ?_)
        exact s_jmp (v_14_one_55 l _) trivial
    · exact s_177 rfl rfl
  · exact s_177 rfl rfl
theorem m_14_one (l : Launch) (a0 : Nat) (a1 : Int32) (H : jH) : JMet l y_14_one prog_18_method_16_code mi_14_one jeV [.ref a0, .int a1] H (F_14_one a0 a1 H) := jmet_of n_14_one (by decide) ⟨rfl, rfl⟩ (Nat.le_of_ble_eq_true rfl) (v_14_one l a0 a1 H)
def mi_14_several : jM := (20369005851023523313922136749984091590362385635963943761169643032852393155826311437048363300846512653321507350463114087614400843480443104725481557363894599147547949961653042579659279391564779582511548189591405128106968021094997165389501334808125823639625770832473360306009289424504663486063051108961573441062635546330182123193876709875003827629230698868779655029681211603778113291711255679932128510834852798057957557059584349219784973572831725043474668870608743865719429694332365118257459928403121642572555744877616194255746891563556393316716327122962849355922225746471352607200739237232718814808114594602, 251, 6, "CoinNodeModel$Scripts", none, "several", 9, 216)
def y_14_several : MethodName := ⟨"CoinNodeModel$Scripts", "several", "(Z)V"⟩
theorem n_14_several : jn_is prog_18_method_17_code mi_14_several.1 mi_14_several.2.1 := by unfold jn_is; decide +kernel
theorem k_14_several : jmok y_14_several prog_18_method_17_code mi_14_several 1 := ⟨jw_2258, jw_18, ⟨by decide, by decide⟩, by decide +kernel⟩
theorem v_14_several_29 (l : Launch)  (a0 : Nat) (H : jH) : JV l mi_14_several jeV 29 [(0, .ref a0)] [] H (B_14_several_29  a0 H) := by
  unfold B_14_several_29
  refine s_42 30 rfl rfl ?_
  refine s_16 7 32 7 jbp_7 rfl ?_
  refine s_182V 0 60 35 60 (m_14_fails l _ _ _) rfl k_14_fails jc_14 jw_1959 jw_1961 jps_76 rfl rfl rfl rfl rfl (fun x1 h2 => ?_)
  exact s_177 rfl rfl
theorem v_14_several_87 (l : Launch)   (H : jH) : JV l mi_14_several jeV 87 [] [] H (B_14_several_87   H) := by
  unfold B_14_several_87
  exact s_177 rfl rfl
theorem v_14_several_107 (l : Launch)  (a0 : Nat) (H : jH) : JV l mi_14_several jeV 107 [(0, .ref a0)] [] H (B_14_several_107  a0 H) := by
  unfold B_14_several_107
  refine s_42 108 rfl rfl ?_
  refine s_16 7 110 7 jbp_7 rfl ?_
  refine s_182V 0 60 113 60 (m_14_fails l _ _ _) rfl k_14_fails jc_14 jw_1959 jw_1961 jps_76 rfl rfl rfl rfl rfl (fun x3 h4 => ?_)
  exact s_177 rfl rfl
theorem v_14_several_198 (l : Launch) (k139 : Nat → Int32 → Int32 → Int32 → Int32 → Int32 → jH → Option (Unit × jH)) (hk139 : ∀ a0 a1 a2 a3 a4 a5 H, JV l mi_14_several jeV 139 [(0, .ref a0), (1, .int a1), (2, .int a2), (3, .int a3), (4, .int a4), (5, .int a5)] [] H (k139 a0 a1 a2 a3 a4 a5 H)) (a0 : Nat) (a1 : Int32) (a2 : Int32) (a3 : Int32) (a4 : Int32) (s0 : Int32) (H : jH) : JV l mi_14_several jeV 198 [(0, .ref a0), (1, .int a1), (2, .int a2), (3, .int a3), (4, .int a4)] [.int s0] H (B_14_several_198 k139 a0 a1 a2 a3 a4 s0 H) := by
  unfold B_14_several_198
  refine s_54 5 200 rfl rfl ?_
  refine s_132L 4 255 203 (-1) ji_255 rfl rfl rfl (fun x5 => ?_)
  refine s_167 255 192 139 rfl rfl ?_
  exact s_jmp (hk139 _ _ _ _ _ _ _) ⟨rfl, rfl, rfl, rfl, rfl, rfl, trivial⟩
theorem v_14_several_250 (l : Launch)   (H : jH) : JV l mi_14_several jeV 250 [] [] H (B_14_several_250   H) := by
  unfold B_14_several_250
  exact s_177 rfl rfl
theorem v_14_several_239 (l : Launch)  (a0 : Nat) (a1 : Int32) (s0 : Nat) (s1 : Int32) (H : jH) : JV l mi_14_several jeV 239 [(0, .ref a0), (1, .int a1)] [.int s1, .ref s0] H (B_14_several_239  a0 a1 s0 s1 H) := by
  unfold B_14_several_239
  refine s_182V 0 101 242 101 (m_14_pushTruth l _ _ _) rfl k_14_pushTruth jc_14 jw_2033 jw_2035 jps_94 rfl rfl rfl rfl rfl (fun x6 h7 => ?_)
  refine s_27 243 rfl rfl ?_
  refine s_153 0 7 250 246 rfl rfl ?_ ?_
  · exact s_jmp (v_14_several_250 l _) trivial
  · refine s_42 247 rfl rfl ?_
    refine s_182V 0 105 250 105 (m_14_mustBeTrue l _ _) rfl k_14_mustBeTrue jc_14 jw_2037 jw_2039 jps_95 rfl rfl rfl rfl rfl (fun x8 h9 => ?_)
    exact s_jmp (v_14_several_250 l _) trivial
theorem v_14_several_206 (l : Launch)  (a0 : Nat) (a1 : Int32) (a2 : Int32) (a3 : Int32) (a5 : Int32) (H : jH) : JV l mi_14_several jeV 206 [(0, .ref a0), (1, .int a1), (2, .int a2), (3, .int a3), (5, .int a5)] [] H (B_14_several_206  a0 a1 a2 a3 a5 H) := by
  unfold B_14_several_206
  refine s_42 207 rfl rfl ?_
  refine s_180I 0 57 210 57 f_14_6 jw_1396 rfl rfl ?_
  refine s_158 0 4 214 213 rfl rfl ?_ ?_
  · refine s_42 215 rfl rfl ?_
    refine s_89 216 rfl rfl ?_
    refine s_180I 0 44 219 44 f_14_2 jw_1392 rfl rfl ?_
    refine s_28 220 rfl rfl ?_
    refine s_29 221 rfl rfl ?_
    refine s_96 222 rfl ?_
    refine s_6 223 rfl ?_
    refine s_96 224 rfl ?_
    refine s_100 225 rfl ?_
    refine s_181I 0 44 228 44 f_14_2 rfl rfl jw_1392 rfl rfl (fun h10 => ?_)
    refine s_42 229 rfl rfl ?_
    refine s_21 5 231 rfl rfl ?_
    refine s_154 0 7 238 234 rfl rfl ?_ ?_
    · refine s_3 239 rfl ?_
      exact s_jmp (v_14_several_239 l _ _ _ _ _) ⟨rfl, rfl, trivial⟩
    · refine s_4 235 rfl ?_
      refine s_167 0 4 239 rfl rfl ?_
      exact s_jmp (v_14_several_239 l _ _ _ _ _) ⟨rfl, rfl, trivial⟩
  · exact s_177 rfl rfl
theorem v_14_several_139 (l : Launch) (k139 : Nat → Int32 → Int32 → Int32 → Int32 → Int32 → jH → Option (Unit × jH)) (hk139 : ∀ a0 a1 a2 a3 a4 a5 H, JV l mi_14_several jeV 139 [(0, .ref a0), (1, .int a1), (2, .int a2), (3, .int a3), (4, .int a4), (5, .int a5)] [] H (k139 a0 a1 a2 a3 a4 a5 H)) (a0 : Nat) (a1 : Int32) (a2 : Int32) (a3 : Int32) (a4 : Int32) (a5 : Int32) (H : jH) : JV l mi_14_several jeV 139 [(0, .ref a0), (1, .int a1), (2, .int a2), (3, .int a3), (4, .int a4), (5, .int a5)] [] H (B_14_several_139 k139 a0 a1 a2 a3 a4 a5 H) := by
  unfold B_14_several_139
  refine s_21 5 141 rfl rfl ?_
  refine s_158 0 65 206 144 rfl rfl ?_ ?_
  · exact s_jmp (v_14_several_206 l _ _ _ _ _ _) ⟨rfl, rfl, rfl, rfl, rfl, trivial⟩
  · refine s_21 5 146 rfl rfl ?_
    refine s_21 4 148 rfl rfl ?_
    refine s_163 0 58 206 151 rfl rfl ?_ ?_
    · exact s_jmp (v_14_several_206 l _ _ _ _ _ _) ⟨rfl, rfl, rfl, rfl, rfl, trivial⟩
    · refine s_42 152 rfl rfl ?_
      refine s_180I 0 57 155 57 f_14_6 jw_1396 rfl rfl ?_
      refine s_154 0 51 206 158 rfl rfl ?_ ?_
      · exact s_jmp (v_14_several_206 l _ _ _ _ _ _) ⟨rfl, rfl, rfl, rfl, rfl, trivial⟩
      · refine s_42 159 rfl rfl ?_
        refine s_42 160 rfl rfl ?_
        refine s_28 161 rfl rfl ?_
        refine s_4 162 rfl ?_
        refine s_96 163 rfl ?_
        refine s_29 164 rfl rfl ?_
        refine s_96 165 rfl ?_
        refine s_21 5 167 rfl rfl ?_
        refine s_100 168 rfl ?_
        refine s_4 169 rfl ?_
        refine s_96 170 rfl ?_
        refine s_182I 0 68 173 68 (m_14_top l _ _ _) rfl k_14_top jc_14 jw_2009 jw_2011 jps_88 rfl rfl rfl rfl rfl (fun x11 h12 => ?_)
        refine s_42 174 rfl rfl ?_
        refine s_28 175 rfl rfl ?_
        refine s_21 4 177 rfl rfl ?_
        refine s_100 178 rfl ?_
        refine s_4 179 rfl ?_
        refine s_96 180 rfl ?_
        refine s_182I 0 68 183 68 (m_14_top l _ _ _) rfl k_14_top jc_14 jw_2009 jw_2011 jps_88 rfl rfl rfl rfl rfl (fun x13 h14 => ?_)
        refine s_182I 0 97 186 97 (m_14_fit l _ _ _ _) rfl k_14_fit jc_14 jw_2094 jw_2096 jps_102 rfl rfl rfl rfl rfl (fun x15 h16 => ?_)
        refine s_153 0 10 196 189 rfl rfl ?_ ?_
        · refine s_21 5 198 rfl rfl ?_
          exact s_jmp (v_14_several_198 l k139 hk139 _ _ _ _ _ _ _) ⟨rfl, rfl, rfl, rfl, rfl, trivial⟩
        · refine s_21 5 191 rfl rfl ?_
          refine s_4 192 rfl ?_
          refine s_100 193 rfl ?_
          refine s_167 0 5 198 rfl rfl ?_
          exact s_jmp (v_14_several_198 l k139 hk139 _ _ _ _ _ _ _) ⟨rfl, rfl, rfl, rfl, rfl, trivial⟩
theorem w_14_several_139 (l : Launch)  (n : Nat) : ∀ a0 a1 a2 a3 a4 a5 H, JV l mi_14_several jeV 139 [(0, .ref a0), (1, .int a1), (2, .int a2), (3, .int a3), (4, .int a4), (5, .int a5)] [] H (F_14_several_139  n a0 a1 a2 a3 a4 a5 H) := by
  induction n with
  | zero => intro _ _ _ _ _ _ _; exact s_none
  | succ n ih => intro a0 a1 a2 a3 a4 a5 H; exact v_14_several_139 l (F_14_several_139  n) ih a0 a1 a2 a3 a4 a5 H
theorem v_14_several (l : Launch) (a0 : Nat) (a1 : Int32) (H : jH) : JV l mi_14_several jeV 0 [(0, .ref a0), (1, .int a1)] [] H (F_14_several a0 a1 H) := by
  unfold F_14_several
  refine s_42 1 rfl rfl ?_
  refine s_3 2 rfl ?_
  refine s_182I 0 108 5 108 (m_14_reads l _ _ _) rfl k_14_reads jc_14 jw_2021 jw_2023 jps_91 rfl rfl rfl rfl rfl (fun x17 h18 => ?_)
  refine s_154 0 4 9 8 rfl rfl ?_ ?_
  · refine s_42 10 rfl rfl ?_
    refine s_180L 0 72 13 72 f_14_11 jw_1402 rfl rfl ?_
    refine s_9 14 rfl ?_
    refine s_148_155 0 14 29 15 18 rfl rfl rfl ?_ ?_
    · exact s_jmp (v_14_several_29 l _ _) ⟨rfl, trivial⟩
    · refine s_42 19 rfl rfl ?_
      refine s_180L 0 72 22 72 f_14_11 jw_1402 rfl rfl ?_
      refine s_20 0 111 25 111 8 rfl jw_2259 rfl ?_
      refine s_148_158 0 10 36 26 29 rfl rfl rfl ?_ ?_
      · refine s_42 37 rfl rfl ?_
        refine s_180L 0 72 40 72 f_14_11 jw_1402 rfl rfl ?_
        refine s_136 41 rfl ?_
        refine s_61L 42 rfl rfl (fun x19 => ?_)
        refine s_42 43 rfl rfl ?_
        refine s_89 44 rfl rfl ?_
        refine s_180I 0 113 47 113 f_14_7 jw_1397 rfl rfl ?_
        refine s_28 48 rfl rfl ?_
        refine s_96 49 rfl ?_
        refine s_181I 0 113 52 113 f_14_7 rfl rfl jw_1397 rfl rfl (fun h20 => ?_)
        refine s_42 53 rfl rfl ?_
        refine s_180I 0 113 56 113 f_14_7 jw_1397 rfl rfl ?_
        refine s_16 100 58 100 jbp_100 rfl ?_
        refine s_164 0 9 67 61 rfl rfl ?_ ?_
        · refine s_42 68 rfl rfl ?_
          refine s_28 69 rfl rfl ?_
          refine s_4 70 rfl ?_
          refine s_96 71 rfl ?_
          refine s_182I 0 64 74 64 (m_14_has l _ _ _) rfl k_14_has jc_14 jw_1971 jw_1973 jps_79 rfl rfl rfl rfl rfl (fun x21 h22 => ?_)
          refine s_153 0 13 87 77 rfl rfl ?_ ?_
          · exact s_jmp (v_14_several_87 l _) trivial
          · refine s_42 78 rfl rfl ?_
            refine s_28 79 rfl rfl ?_
            refine s_4 80 rfl ?_
            refine s_96 81 rfl ?_
            refine s_182I 0 108 84 108 (m_14_reads l _ _ _) rfl k_14_reads jc_14 jw_2021 jw_2023 jps_91 rfl rfl rfl rfl rfl (fun x23 h24 => ?_)
            refine s_154 0 4 88 87 rfl rfl ?_ ?_
            · refine s_42 89 rfl rfl ?_
              refine s_180L 0 72 92 72 f_14_11 jw_1402 rfl rfl ?_
              refine s_9 93 rfl ?_
              refine s_148_155 0 13 107 94 97 rfl rfl rfl ?_ ?_
              · exact s_jmp (v_14_several_107 l _ _) ⟨rfl, trivial⟩
              · refine s_42 98 rfl rfl ?_
                refine s_180L 0 72 101 72 f_14_11 jw_1402 rfl rfl ?_
                refine s_28 102 rfl rfl ?_
                refine s_133 103 rfl ?_
                refine s_148_158 0 10 114 104 107 rfl rfl rfl ?_ ?_
                · refine s_42 115 rfl rfl ?_
                  refine s_180L 0 72 118 72 f_14_11 jw_1402 rfl rfl ?_
                  refine s_136 119 rfl ?_
                  refine s_62L 120 rfl rfl (fun x25 => ?_)
                  refine s_42 121 rfl rfl ?_
                  refine s_28 122 rfl rfl ?_
                  refine s_29 123 rfl rfl ?_
                  refine s_96 124 rfl ?_
                  refine s_6 125 rfl ?_
                  refine s_96 126 rfl ?_
                  refine s_182I 0 64 129 64 (m_14_has l _ _ _) rfl k_14_has jc_14 jw_1971 jw_1973 jps_79 rfl rfl rfl rfl rfl (fun x26 h27 => ?_)
                  refine s_154 0 4 133 132 rfl rfl ?_ ?_
                  · refine s_28 134 rfl rfl ?_
                    refine s_54 4 136 rfl rfl ?_
                    refine s_29 137 rfl rfl ?_
                    refine s_54 5 139 rfl rfl ?_
                    exact s_jmp (w_14_several_139 l jfuel _ _ _ _ _ _ _) ⟨rfl, rfl, rfl, rfl, rfl, rfl, trivial⟩
                  · exact s_177 rfl rfl
                · exact s_jmp (v_14_several_107 l _ _) ⟨rfl, trivial⟩
            · exact s_jmp (v_14_several_87 l _) trivial
        · refine s_42 62 rfl rfl ?_
          refine s_6 63 rfl ?_
          refine s_182V 0 60 66 60 (m_14_fails l _ _ _) rfl k_14_fails jc_14 jw_1959 jw_1961 jps_76 rfl rfl rfl rfl rfl (fun x28 h29 => ?_)
          exact s_177 rfl rfl
      · exact s_jmp (v_14_several_29 l _ _) ⟨rfl, trivial⟩
  · exact s_177 rfl rfl
theorem m_14_several (l : Launch) (a0 : Nat) (a1 : Int32) (H : jH) : JMet l y_14_several prog_18_method_17_code mi_14_several jeV [.ref a0, .int a1] H (F_14_several a0 a1 H) := jmet_of n_14_several (by decide) ⟨rfl, rfl⟩ (Nat.le_of_ble_eq_true rfl) (v_14_several l a0 a1 H)
def mi_14_operation : jM := (6924345948912195240152908229831303386482157852154532470561470162063326884722004926004236872739853168242627336476212713677736883020204518549801266638237839341335090085181451615573565415455611398508289253791427945507665828257277551950785447085796487537305561181759299149073776615251086742086112452456912916521727362444069910390918811697400181676234230360901762308037841859020374785292341671899514291136290580380168428023059835572082912043685682700602676650274422233980873118178657126727477113415806250744680122085263419570565016831102132265691279824599687252365088967967172984808317915898684710977963467361723095343004407051849685993855008837659, 267, 2, "CoinNodeModel$Scripts", none, "operation", 10, 241)
def y_14_operation : MethodName := ⟨"CoinNodeModel$Scripts", "operation", "(I)V"⟩
theorem n_14_operation : jn_is prog_18_method_29_code mi_14_operation.1 mi_14_operation.2.1 := by unfold jn_is; decide +kernel
theorem k_14_operation : jmok y_14_operation prog_18_method_29_code mi_14_operation 1 := ⟨jw_1988, jw_18, ⟨by decide, by decide⟩, by decide +kernel⟩
theorem v_14_operation_266 (l : Launch)   (H : jH) : JV l mi_14_operation jeV 266 [] [] H (B_14_operation_266   H) := by
  unfold B_14_operation_266
  exact s_177 rfl rfl
theorem v_14_operation_19 (l : Launch)  (a0 : Nat) (a1 : Int32) (H : jH) : JV l mi_14_operation jeV 19 [(0, .ref a0), (1, .int a1)] [] H (B_14_operation_19  a0 a1 H) := by
  unfold B_14_operation_19
  refine s_42 20 rfl rfl ?_
  refine s_27 21 rfl rfl ?_
  refine s_182V 0 149 24 149 (m_14_moves l _ _ _) rfl k_14_moves jc_14 jw_1989 jw_1991 jps_83 rfl rfl rfl rfl rfl (fun x1 h2 => ?_)
  refine s_167 0 242 266 rfl rfl ?_
  exact s_jmp (v_14_operation_266 l _) trivial
theorem v_14_operation_54 (l : Launch)  (s0 : Nat) (s1 : Int32) (H : jH) : JV l mi_14_operation jeV 54 [] [.int s1, .ref s0] H (B_14_operation_54  s0 s1 H) := by
  unfold B_14_operation_54
  refine s_182V 0 152 57 152 (m_14_equal l _ _ _) rfl k_14_equal jc_14 jw_2025 jw_2027 jps_92 rfl rfl rfl rfl rfl (fun x3 h4 => ?_)
  refine s_167 0 209 266 rfl rfl ?_
  exact s_jmp (v_14_operation_266 l _) trivial
theorem v_14_operation_41 (l : Launch)  (a0 : Nat) (a1 : Int32) (H : jH) : JV l mi_14_operation jeV 41 [(0, .ref a0), (1, .int a1)] [] H (B_14_operation_41  a0 a1 H) := by
  unfold B_14_operation_41
  refine s_42 42 rfl rfl ?_
  refine s_27 43 rfl rfl ?_
  refine s_17 0 136 46 136 jsp_0_136 rfl ?_
  refine s_160 0 7 53 49 rfl rfl ?_ ?_
  · refine s_3 54 rfl ?_
    exact s_jmp (v_14_operation_54 l _ _ _) trivial
  · refine s_4 50 rfl ?_
    refine s_167 0 4 54 rfl rfl ?_
    exact s_jmp (v_14_operation_54 l _ _ _) trivial
theorem v_14_operation_88 (l : Launch)  (a0 : Nat) (a1 : Int32) (H : jH) : JV l mi_14_operation jeV 88 [(0, .ref a0), (1, .int a1)] [] H (B_14_operation_88  a0 a1 H) := by
  unfold B_14_operation_88
  refine s_42 89 rfl rfl ?_
  refine s_27 90 rfl rfl ?_
  refine s_182V 0 155 93 155 (m_14_numberOfOne l _ _ _) rfl k_14_numberOfOne jc_14 jw_2041 jw_2043 jps_96 rfl rfl rfl rfl rfl (fun x5 h6 => ?_)
  refine s_167 0 173 266 rfl rfl ?_
  exact s_jmp (v_14_operation_266 l _) trivial
theorem v_14_operation_124 (l : Launch)  (a0 : Nat) (a1 : Int32) (H : jH) : JV l mi_14_operation jeV 124 [(0, .ref a0), (1, .int a1)] [] H (B_14_operation_124  a0 a1 H) := by
  unfold B_14_operation_124
  refine s_42 125 rfl rfl ?_
  refine s_27 126 rfl rfl ?_
  refine s_182V 0 158 129 158 (m_14_numberOfTwo l _ _ _) rfl k_14_numberOfTwo jc_14 jw_2045 jw_2047 jps_97 rfl rfl rfl rfl rfl (fun x7 h8 => ?_)
  refine s_167 0 137 266 rfl rfl ?_
  exact s_jmp (v_14_operation_266 l _) trivial
theorem v_14_operation_153 (l : Launch)  (a0 : Nat) (a1 : Int32) (H : jH) : JV l mi_14_operation jeV 153 [(0, .ref a0), (1, .int a1)] [] H (B_14_operation_153  a0 a1 H) := by
  unfold B_14_operation_153
  refine s_42 154 rfl rfl ?_
  refine s_27 155 rfl rfl ?_
  refine s_182V 0 161 158 161 (m_14_digest l _ _ _) rfl k_14_digest jc_14 jw_2049 jw_2051 jps_98 rfl rfl rfl rfl rfl (fun x9 h10 => ?_)
  refine s_167 0 108 266 rfl rfl ?_
  exact s_jmp (v_14_operation_266 l _) trivial
theorem v_14_operation_188 (l : Launch)  (s0 : Nat) (s1 : Int32) (H : jH) : JV l mi_14_operation jeV 188 [] [.int s1, .ref s0] H (B_14_operation_188  s0 s1 H) := by
  unfold B_14_operation_188
  refine s_182V 0 164 191 164 (m_14_one l _ _ _) rfl k_14_one jc_14 jw_2090 jw_2092 jps_101 rfl rfl rfl rfl rfl (fun x11 h12 => ?_)
  refine s_167 0 75 266 rfl rfl ?_
  exact s_jmp (v_14_operation_266 l _) trivial
theorem v_14_operation_175 (l : Launch)  (a0 : Nat) (a1 : Int32) (H : jH) : JV l mi_14_operation jeV 175 [(0, .ref a0), (1, .int a1)] [] H (B_14_operation_175  a0 a1 H) := by
  unfold B_14_operation_175
  refine s_42 176 rfl rfl ?_
  refine s_27 177 rfl rfl ?_
  refine s_17 0 173 180 173 jsp_0_173 rfl ?_
  refine s_160 0 7 187 183 rfl rfl ?_ ?_
  · refine s_3 188 rfl ?_
    exact s_jmp (v_14_operation_188 l _ _ _) trivial
  · refine s_4 184 rfl ?_
    refine s_167 0 4 188 rfl rfl ?_
    exact s_jmp (v_14_operation_188 l _ _ _) trivial
theorem v_14_operation_221 (l : Launch)  (s0 : Nat) (s1 : Int32) (H : jH) : JV l mi_14_operation jeV 221 [] [.int s1, .ref s0] H (B_14_operation_221  s0 s1 H) := by
  unfold B_14_operation_221
  refine s_182V 0 167 224 167 (m_14_several l _ _ _) rfl k_14_several jc_14 jw_2255 jw_2257 jps_132 rfl rfl rfl rfl rfl (fun x13 h14 => ?_)
  refine s_167 0 42 266 rfl rfl ?_
  exact s_jmp (v_14_operation_266 l _) trivial
theorem v_14_operation_208 (l : Launch)  (a0 : Nat) (a1 : Int32) (H : jH) : JV l mi_14_operation jeV 208 [(0, .ref a0), (1, .int a1)] [] H (B_14_operation_208  a0 a1 H) := by
  unfold B_14_operation_208
  refine s_42 209 rfl rfl ?_
  refine s_27 210 rfl rfl ?_
  refine s_17 0 175 213 175 jsp_0_175 rfl ?_
  refine s_160 0 7 220 216 rfl rfl ?_ ?_
  · refine s_3 221 rfl ?_
    exact s_jmp (v_14_operation_221 l _ _ _) trivial
  · refine s_4 217 rfl ?_
    refine s_167 0 4 221 rfl rfl ?_
    exact s_jmp (v_14_operation_221 l _ _ _) trivial
theorem v_14_operation_161 (l : Launch)  (a0 : Nat) (a1 : Int32) (H : jH) : JV l mi_14_operation jeV 161 [(0, .ref a0), (1, .int a1)] [] H (B_14_operation_161  a0 a1 H) := by
  unfold B_14_operation_161
  refine s_27 162 rfl rfl ?_
  refine s_17 0 172 165 172 jsp_0_172 rfl ?_
  refine s_159 0 10 175 168 rfl rfl ?_ ?_
  · exact s_jmp (v_14_operation_175 l _ _ _) ⟨rfl, rfl, trivial⟩
  · refine s_27 169 rfl rfl ?_
    refine s_17 0 173 172 173 jsp_0_173 rfl ?_
    refine s_160 0 22 194 175 rfl rfl ?_ ?_
    · refine s_27 195 rfl rfl ?_
      refine s_17 0 174 198 174 jsp_0_174 rfl ?_
      refine s_159 0 10 208 201 rfl rfl ?_ ?_
      · exact s_jmp (v_14_operation_208 l _ _ _) ⟨rfl, rfl, trivial⟩
      · refine s_27 202 rfl rfl ?_
        refine s_17 0 175 205 175 jsp_0_175 rfl ?_
        refine s_160 0 22 227 208 rfl rfl ?_ ?_
        · refine s_27 228 rfl rfl ?_
          refine s_16 105 230 105 jbp_105 rfl ?_
          refine s_160 0 10 240 233 rfl rfl ?_ ?_
          · refine s_27 241 rfl rfl ?_
            refine s_16 106 243 106 jbp_106 rfl ?_
            refine s_160 0 12 255 246 rfl rfl ?_ ?_
            · refine s_27 256 rfl rfl ?_
              refine s_16 97 258 97 jbp_97 rfl ?_
              refine s_159 0 8 266 261 rfl rfl ?_ ?_
              · exact s_jmp (v_14_operation_266 l _) trivial
              · refine s_42 262 rfl rfl ?_
                refine s_7 263 rfl ?_
                refine s_182V 0 60 266 60 (m_14_fails l _ _ _) rfl k_14_fails jc_14 jw_1959 jw_1961 jps_76 rfl rfl rfl rfl rfl (fun x15 h16 => ?_)
                exact s_jmp (v_14_operation_266 l _) trivial
            · refine s_42 247 rfl rfl ?_
              refine s_16 9 249 9 jbp_9 rfl ?_
              refine s_182V 0 60 252 60 (m_14_fails l _ _ _) rfl k_14_fails jc_14 jw_1959 jw_1961 jps_76 rfl rfl rfl rfl rfl (fun x17 h18 => ?_)
              refine s_167 0 14 266 rfl rfl ?_
              exact s_jmp (v_14_operation_266 l _) trivial
          · refine s_42 234 rfl rfl ?_
            refine s_182V 0 105 237 105 (m_14_mustBeTrue l _ _) rfl k_14_mustBeTrue jc_14 jw_2037 jw_2039 jps_95 rfl rfl rfl rfl rfl (fun x19 h20 => ?_)
            refine s_167 0 29 266 rfl rfl ?_
            exact s_jmp (v_14_operation_266 l _) trivial
        · exact s_jmp (v_14_operation_208 l _ _ _) ⟨rfl, rfl, trivial⟩
    · exact s_jmp (v_14_operation_175 l _ _ _) ⟨rfl, rfl, trivial⟩
theorem v_14_operation_132 (l : Launch)  (a0 : Nat) (a1 : Int32) (H : jH) : JV l mi_14_operation jeV 132 [(0, .ref a0), (1, .int a1)] [] H (B_14_operation_132  a0 a1 H) := by
  unfold B_14_operation_132
  refine s_27 133 rfl rfl ?_
  refine s_17 0 166 136 166 jsp_0_166 rfl ?_
  refine s_159 0 17 153 139 rfl rfl ?_ ?_
  · exact s_jmp (v_14_operation_153 l _ _ _) ⟨rfl, rfl, trivial⟩
  · refine s_27 140 rfl rfl ?_
    refine s_17 0 168 143 168 jsp_0_168 rfl ?_
    refine s_161 0 18 161 146 rfl rfl ?_ ?_
    · exact s_jmp (v_14_operation_161 l _ _ _) ⟨rfl, rfl, trivial⟩
    · refine s_27 147 rfl rfl ?_
      refine s_17 0 170 150 170 jsp_0_170 rfl ?_
      refine s_163 0 11 161 153 rfl rfl ?_ ?_
      · exact s_jmp (v_14_operation_161 l _ _ _) ⟨rfl, rfl, trivial⟩
      · exact s_jmp (v_14_operation_153 l _ _ _) ⟨rfl, rfl, trivial⟩
theorem v_14_operation_96 (l : Launch)  (a0 : Nat) (a1 : Int32) (H : jH) : JV l mi_14_operation jeV 96 [(0, .ref a0), (1, .int a1)] [] H (B_14_operation_96  a0 a1 H) := by
  unfold B_14_operation_96
  refine s_27 97 rfl rfl ?_
  refine s_17 0 147 100 147 jsp_0_147 rfl ?_
  refine s_159 0 24 124 103 rfl rfl ?_ ?_
  · exact s_jmp (v_14_operation_124 l _ _ _) ⟨rfl, rfl, trivial⟩
  · refine s_27 104 rfl rfl ?_
    refine s_17 0 148 107 148 jsp_0_148 rfl ?_
    refine s_159 0 17 124 110 rfl rfl ?_ ?_
    · exact s_jmp (v_14_operation_124 l _ _ _) ⟨rfl, rfl, trivial⟩
    · refine s_27 111 rfl rfl ?_
      refine s_17 0 154 114 154 jsp_0_154 rfl ?_
      refine s_161 0 18 132 117 rfl rfl ?_ ?_
      · exact s_jmp (v_14_operation_132 l _ _ _) ⟨rfl, rfl, trivial⟩
      · refine s_27 118 rfl rfl ?_
        refine s_17 0 165 121 165 jsp_0_165 rfl ?_
        refine s_163 0 11 132 124 rfl rfl ?_ ?_
        · exact s_jmp (v_14_operation_132 l _ _ _) ⟨rfl, rfl, trivial⟩
        · exact s_jmp (v_14_operation_124 l _ _ _) ⟨rfl, rfl, trivial⟩
theorem v_14_operation_12 (l : Launch)  (a0 : Nat) (a1 : Int32) (H : jH) : JV l mi_14_operation jeV 12 [(0, .ref a0), (1, .int a1)] [] H (B_14_operation_12  a0 a1 H) := by
  unfold B_14_operation_12
  refine s_27 13 rfl rfl ?_
  refine s_17 0 130 16 130 jsp_0_130 rfl ?_
  refine s_160 0 11 27 19 rfl rfl ?_ ?_
  · refine s_27 28 rfl rfl ?_
    refine s_17 0 135 31 135 jsp_0_135 rfl ?_
    refine s_159 0 10 41 34 rfl rfl ?_ ?_
    · exact s_jmp (v_14_operation_41 l _ _ _) ⟨rfl, rfl, trivial⟩
    · refine s_27 35 rfl rfl ?_
      refine s_17 0 136 38 136 jsp_0_136 rfl ?_
      refine s_160 0 22 60 41 rfl rfl ?_ ?_
      · refine s_27 61 rfl rfl ?_
        refine s_17 0 139 64 139 jsp_0_139 rfl ?_
        refine s_159 0 24 88 67 rfl rfl ?_ ?_
        · exact s_jmp (v_14_operation_88 l _ _ _) ⟨rfl, rfl, trivial⟩
        · refine s_27 68 rfl rfl ?_
          refine s_17 0 140 71 140 jsp_0_140 rfl ?_
          refine s_159 0 17 88 74 rfl rfl ?_ ?_
          · exact s_jmp (v_14_operation_88 l _ _ _) ⟨rfl, rfl, trivial⟩
          · refine s_27 75 rfl rfl ?_
            refine s_17 0 143 78 143 jsp_0_143 rfl ?_
            refine s_161 0 18 96 81 rfl rfl ?_ ?_
            · exact s_jmp (v_14_operation_96 l _ _ _) ⟨rfl, rfl, trivial⟩
            · refine s_27 82 rfl rfl ?_
              refine s_17 0 146 85 146 jsp_0_146 rfl ?_
              refine s_163 0 11 96 88 rfl rfl ?_ ?_
              · exact s_jmp (v_14_operation_96 l _ _ _) ⟨rfl, rfl, trivial⟩
              · exact s_jmp (v_14_operation_88 l _ _ _) ⟨rfl, rfl, trivial⟩
      · exact s_jmp (v_14_operation_41 l _ _ _) ⟨rfl, rfl, trivial⟩
  · exact s_jmp (v_14_operation_19 l _ _ _) ⟨rfl, rfl, trivial⟩
theorem v_14_operation (l : Launch) (a0 : Nat) (a1 : Int32) (H : jH) : JV l mi_14_operation jeV 0 [(0, .ref a0), (1, .int a1)] [] H (F_14_operation a0 a1 H) := by
  unfold F_14_operation
  refine s_27 1 rfl rfl ?_
  refine s_16 107 3 107 jbp_107 rfl ?_
  refine s_161 0 9 12 6 rfl rfl ?_ ?_
  · exact s_jmp (v_14_operation_12 l _ _ _) ⟨rfl, rfl, trivial⟩
  · refine s_27 7 rfl rfl ?_
    refine s_16 125 9 125 jbp_125 rfl ?_
    refine s_164 0 10 19 12 rfl rfl ?_ ?_
    · exact s_jmp (v_14_operation_19 l _ _ _) ⟨rfl, rfl, trivial⟩
    · exact s_jmp (v_14_operation_12 l _ _ _) ⟨rfl, rfl, trivial⟩
theorem m_14_operation (l : Launch) (a0 : Nat) (a1 : Int32) (H : jH) : JMet l y_14_operation prog_18_method_29_code mi_14_operation jeV [.ref a0, .int a1] H (F_14_operation a0 a1 H) := jmet_of n_14_operation (by decide) ⟨rfl, rfl⟩ (Nat.le_of_ble_eq_true rfl) (v_14_operation l a0 a1 H)
def mi_14_pushes : jM := (1149401847550104543770476874606918501205925762748194055716192619208250838995476958582006143653633285231270545201057558987498376014858729921030289228608730676163619492925576971484120210857238550279011392138834872540741938646904094151948806134811, 101, 5, "CoinNodeModel$Scripts", some FieldType.int, "pushes", 1, 21)
def y_14_pushes : MethodName := ⟨"CoinNodeModel$Scripts", "pushes", "(IIZ)I"⟩
theorem n_14_pushes : jn_is prog_18_method_30_code mi_14_pushes.1 mi_14_pushes.2.1 := by unfold jn_is; decide +kernel
theorem k_14_pushes : jmok y_14_pushes prog_18_method_30_code mi_14_pushes 3 := ⟨jw_1966, jw_18, ⟨by decide, by decide⟩, by decide +kernel⟩
theorem v_14_pushes_97 (l : Launch)  (a1 : Int32) (a2 : Int32) (H : jH) : JV l mi_14_pushes jeI 97 [(1, .int a1), (2, .int a2)] [] H (B_14_pushes_97  a1 a2 H) := by
  unfold B_14_pushes_97
  refine s_27 98 rfl rfl ?_
  refine s_28 99 rfl rfl ?_
  refine s_96 100 rfl ?_
  exact s_172 rfl rfl
theorem v_14_pushes_51 (l : Launch) (k51 : Nat → Int32 → Int32 → Int32 → jH → Option (Int32 × jH)) (hk51 : ∀ a0 a1 a2 a4 H, JV l mi_14_pushes jeI 51 [(0, .ref a0), (1, .int a1), (2, .int a2), (4, .int a4)] [] H (k51 a0 a1 a2 a4 H)) (a0 : Nat) (a1 : Int32) (a2 : Int32) (a4 : Int32) (H : jH) : JV l mi_14_pushes jeI 51 [(0, .ref a0), (1, .int a1), (2, .int a2), (4, .int a4)] [] H (B_14_pushes_51 k51 a0 a1 a2 a4 H) := by
  unfold B_14_pushes_51
  refine s_21 4 53 rfl rfl ?_
  refine s_28 54 rfl rfl ?_
  refine s_162 0 33 87 57 rfl rfl ?_ ?_
  · refine s_42 88 rfl rfl ?_
    refine s_89 89 rfl rfl ?_
    refine s_180I 0 44 92 44 f_14_2 jw_1392 rfl rfl ?_
    refine s_4 93 rfl ?_
    refine s_96 94 rfl ?_
    refine s_181I 0 44 97 44 f_14_2 rfl rfl jw_1392 rfl rfl (fun h1 => ?_)
    exact s_jmp (v_14_pushes_97 l _ _ _) ⟨rfl, rfl, trivial⟩
  · refine s_42 58 rfl rfl ?_
    refine s_180R 0 7 61 7 f_14_0 jw_1390 rfl rfl ?_
    refine s_16 120 63 120 jbp_120 rfl ?_
    refine s_42 64 rfl rfl ?_
    refine s_180I 0 44 67 44 f_14_2 jw_1392 rfl rfl ?_
    refine s_104 68 rfl ?_
    refine s_21 4 70 rfl rfl ?_
    refine s_96 71 rfl ?_
    refine s_42 72 rfl rfl ?_
    refine s_180R 0 16 75 16 f_14_4 jw_1394 rfl rfl ?_
    refine s_27 76 rfl rfl ?_
    refine s_21 4 78 rfl rfl ?_
    refine s_96 79 rfl ?_
    refine s_46 80 rfl ?_
    refine s_79 81 rfl (fun h2 => ?_)
    refine s_132L 4 1 84 1 ji_1 rfl rfl rfl (fun x3 => ?_)
    refine s_167 255 223 51 rfl rfl ?_
    exact s_jmp (hk51 _ _ _ _ _) ⟨rfl, rfl, rfl, rfl, trivial⟩
theorem w_14_pushes_51 (l : Launch)  (n : Nat) : ∀ a0 a1 a2 a4 H, JV l mi_14_pushes jeI 51 [(0, .ref a0), (1, .int a1), (2, .int a2), (4, .int a4)] [] H (F_14_pushes_51  n a0 a1 a2 a4 H) := by
  induction n with
  | zero => intro _ _ _ _ _; exact s_none
  | succ n ih => intro a0 a1 a2 a4 H; exact v_14_pushes_51 l (F_14_pushes_51  n) ih a0 a1 a2 a4 H
theorem v_14_pushes (l : Launch) (a0 : Nat) (a1 : Int32) (a2 : Int32) (a3 : Int32) (H : jH) : JV l mi_14_pushes jeI 0 [(0, .ref a0), (1, .int a1), (2, .int a2), (3, .int a3)] [] H (F_14_pushes a0 a1 a2 a3 H) := by
  unfold F_14_pushes
  refine s_27 1 rfl rfl ?_
  refine s_28 2 rfl rfl ?_
  refine s_96 3 rfl ?_
  refine s_42 4 rfl rfl ?_
  refine s_180I 0 40 7 40 f_14_5 jw_1395 rfl rfl ?_
  refine s_164 0 13 20 10 rfl rfl ?_ ?_
  · refine s_28 21 rfl rfl ?_
    refine s_16 120 23 120 jbp_120 rfl ?_
    refine s_164 0 11 34 26 rfl rfl ?_ ?_
    · refine s_29 35 rfl rfl ?_
      refine s_153 0 62 97 38 rfl rfl ?_ ?_
      · exact s_jmp (v_14_pushes_97 l _ _ _) ⟨rfl, rfl, trivial⟩
      · refine s_42 39 rfl rfl ?_
        refine s_180R 0 13 42 13 f_14_1 jw_1391 rfl rfl ?_
        refine s_42 43 rfl rfl ?_
        refine s_180I 0 44 46 44 f_14_2 jw_1392 rfl rfl ?_
        refine s_28 47 rfl rfl ?_
        refine s_79 48 rfl (fun h4 => ?_)
        refine s_3 49 rfl ?_
        refine s_54 4 51 rfl rfl ?_
        exact s_jmp (w_14_pushes_51 l jfuel _ _ _ _ _) ⟨rfl, rfl, rfl, rfl, trivial⟩
    · refine s_42 27 rfl rfl ?_
      refine s_5 28 rfl ?_
      refine s_182V 0 60 31 60 (m_14_fails l _ _ _) rfl k_14_fails jc_14 jw_1959 jw_1961 jps_76 rfl rfl rfl rfl rfl (fun x5 h6 => ?_)
      refine s_167 0 66 97 rfl rfl ?_
      exact s_jmp (v_14_pushes_97 l _ _ _) ⟨rfl, rfl, trivial⟩
  · refine s_42 11 rfl rfl ?_
    refine s_4 12 rfl ?_
    refine s_182V 0 60 15 60 (m_14_fails l _ _ _) rfl k_14_fails jc_14 jw_1959 jw_1961 jps_76 rfl rfl rfl rfl rfl (fun x7 h8 => ?_)
    refine s_42 16 rfl rfl ?_
    refine s_180I 0 40 19 40 f_14_5 jw_1395 rfl rfl ?_
    exact s_172 rfl rfl
theorem m_14_pushes (l : Launch) (a0 : Nat) (a1 : Int32) (a2 : Int32) (a3 : Int32) (H : jH) : JMet l y_14_pushes prog_18_method_30_code mi_14_pushes jeI [.ref a0, .int a1, .int a2, .int a3] H (F_14_pushes a0 a1 a2 a3 H) := jmet_of n_14_pushes (by decide) ⟨rfl, rfl⟩ (Nat.le_of_ble_eq_true rfl) (v_14_pushes l a0 a1 a2 a3 H)
def mi_14_next : jM := (102760280116404101896560978850546006985199461076571464738440867837679060069148750264046232984223794821400112829607022035335859773604087470364969598989984073122559863787714110039295867266243116188080634807329362594081644632536214726896738086542778974190554908232437315431901828091236752478314910536167629749811962259668473088396146913861668478216608652768271387107376396548715583640257865214735391379407202478681792420109554941694826825301141274967882726114250994032501875086685244682708776181025467328927815943547992820484548727018717579842096603325572937163909556935820574631374115573731597903358777532043685951117544130596130256427463722, 265, 6, "CoinNodeModel$Scripts", some FieldType.int, "next", 11, 262)
def y_14_next : MethodName := ⟨"CoinNodeModel$Scripts", "next", "(I)I"⟩
theorem n_14_next : jn_is prog_18_method_31_code mi_14_next.1 mi_14_next.2.1 := by unfold jn_is; decide +kernel
theorem k_14_next : jmok y_14_next prog_18_method_31_code mi_14_next 1 := ⟨jw_1954, jw_18, ⟨by decide, by decide⟩, by decide +kernel⟩
theorem v_14_next_98 (l : Launch)  (a0 : Nat) (a1 : Int32) (a3 : Int32) (a4 : Int32) (s0 : Int32) (H : jH) : JV l mi_14_next jeI 98 [(0, .ref a0), (1, .int a1), (3, .int a3), (4, .int a4)] [.int s0] H (B_14_next_98  a0 a1 a3 a4 s0 H) := by
  unfold B_14_next_98
  refine s_54 5 100 rfl rfl ?_
  refine s_42 101 rfl rfl ?_
  refine s_27 102 rfl rfl ?_
  refine s_4 103 rfl ?_
  refine s_96 104 rfl ?_
  refine s_21 4 106 rfl rfl ?_
  refine s_96 107 rfl ?_
  refine s_21 5 109 rfl rfl ?_
  refine s_29 110 rfl rfl ?_
  refine s_182I 0 170 113 170 (m_14_pushes l _ _ _ _ _) rfl k_14_pushes jc_14 jw_1963 jw_1965 jps_77 rfl rfl rfl rfl rfl (fun x1 h2 => ?_)
  exact s_172 rfl rfl
theorem v_14_next_97 (l : Launch)  (a0 : Nat) (a1 : Int32) (a3 : Int32) (a4 : Int32) (s0 : Int32) (s1 : Int32) (H : jH) : JV l mi_14_next jeI 97 [(0, .ref a0), (1, .int a1), (3, .int a3), (4, .int a4)] [.int s1, .int s0] H (B_14_next_97  a0 a1 a3 a4 s0 s1 H) := by
  unfold B_14_next_97
  refine s_96 98 rfl ?_
  exact s_jmp (v_14_next_98 l _ _ _ _ _ _) ⟨rfl, rfl, rfl, rfl, trivial⟩
theorem v_14_next_32 (l : Launch)  (a0 : Nat) (a1 : Int32) (a2 : Int32) (a3 : Int32) (s0 : Int32) (H : jH) : JV l mi_14_next jeI 32 [(0, .ref a0), (1, .int a1), (2, .int a2), (3, .int a3)] [.int s0] H (B_14_next_32  a0 a1 a2 a3 s0 H) := by
  unfold B_14_next_32
  refine s_54 4 34 rfl rfl ?_
  refine s_27 35 rfl rfl ?_
  refine s_4 36 rfl ?_
  refine s_96 37 rfl ?_
  refine s_21 4 39 rfl rfl ?_
  refine s_96 40 rfl ?_
  refine s_42 41 rfl rfl ?_
  refine s_180I 0 40 44 40 f_14_5 jw_1395 rfl rfl ?_
  refine s_164 0 13 57 47 rfl rfl ?_ ?_
  · refine s_28 58 rfl rfl ?_
    refine s_16 76 60 76 jbp_76 rfl ?_
    refine s_162 0 7 67 63 rfl rfl ?_ ?_
    · refine s_42 68 rfl rfl ?_
      refine s_180R 0 16 71 16 f_14_4 jw_1394 rfl rfl ?_
      refine s_27 72 rfl rfl ?_
      refine s_4 73 rfl ?_
      refine s_96 74 rfl ?_
      refine s_46 75 rfl ?_
      refine s_21 4 77 rfl rfl ?_
      refine s_5 78 rfl ?_
      refine s_160 0 18 96 81 rfl rfl ?_ ?_
      · refine s_3 97 rfl ?_
        exact s_jmp (v_14_next_97 l _ _ _ _ _ _ _) ⟨rfl, rfl, rfl, rfl, trivial⟩
      · refine s_17 1 0 84 256 jsp_1_0 rfl ?_
        refine s_42 85 rfl rfl ?_
        refine s_180R 0 16 88 16 f_14_4 jw_1394 rfl rfl ?_
        refine s_27 89 rfl rfl ?_
        refine s_5 90 rfl ?_
        refine s_96 91 rfl ?_
        refine s_46 92 rfl ?_
        refine s_104 93 rfl ?_
        refine s_167 0 4 97 rfl rfl ?_
        exact s_jmp (v_14_next_97 l _ _ _ _ _ _ _) ⟨rfl, rfl, rfl, rfl, trivial⟩
    · refine s_28 64 rfl rfl ?_
      refine s_167 0 34 98 rfl rfl ?_
      exact s_jmp (v_14_next_98 l _ _ _ _ _ _) ⟨rfl, rfl, rfl, rfl, trivial⟩
  · refine s_42 48 rfl rfl ?_
    refine s_4 49 rfl ?_
    refine s_182V 0 60 52 60 (m_14_fails l _ _ _) rfl k_14_fails jc_14 jw_1959 jw_1961 jps_76 rfl rfl rfl rfl rfl (fun x3 h4 => ?_)
    refine s_42 53 rfl rfl ?_
    refine s_180I 0 40 56 40 f_14_5 jw_1395 rfl rfl ?_
    exact s_172 rfl rfl
theorem v_14_next_261 (l : Launch)  (a1 : Int32) (H : jH) : JV l mi_14_next jeI 261 [(1, .int a1)] [] H (B_14_next_261  a1 H) := by
  unfold B_14_next_261
  refine s_27 262 rfl rfl ?_
  refine s_4 263 rfl ?_
  refine s_96 264 rfl ?_
  exact s_172 rfl rfl
theorem v_14_next_178 (l : Launch)  (a0 : Nat) (a1 : Int32) (a2 : Int32) (H : jH) : JV l mi_14_next jeI 178 [(0, .ref a0), (1, .int a1), (2, .int a2)] [] H (B_14_next_178  a0 a1 a2 H) := by
  unfold B_14_next_178
  refine s_42 179 rfl rfl ?_
  refine s_28 180 rfl rfl ?_
  refine s_182V 0 174 183 174 (m_14_flow l _ _ _) rfl k_14_flow jc_14 jw_1967 jw_1969 jps_78 rfl rfl rfl rfl rfl (fun x5 h6 => ?_)
  refine s_167 0 78 261 rfl rfl ?_
  exact s_jmp (v_14_next_261 l _ _) ⟨rfl, trivial⟩
theorem v_14_next_252 (l : Launch)  (a0 : Nat) (a1 : Int32) (a2 : Int32) (a3 : Int32) (H : jH) : JV l mi_14_next jeI 252 [(0, .ref a0), (1, .int a1), (2, .int a2), (3, .int a3)] [] H (B_14_next_252  a0 a1 a2 a3 H) := by
  unfold B_14_next_252
  refine s_29 253 rfl rfl ?_
  refine s_153 0 8 261 256 rfl rfl ?_ ?_
  · exact s_jmp (v_14_next_261 l _ _) ⟨rfl, trivial⟩
  · refine s_42 257 rfl rfl ?_
    refine s_28 258 rfl rfl ?_
    refine s_182V 0 179 261 179 (m_14_operation l _ _ _) rfl k_14_operation jc_14 jw_1985 jw_1987 jps_82 rfl rfl rfl rfl rfl (fun x7 h8 => ?_)
    exact s_jmp (v_14_next_261 l _ _) ⟨rfl, trivial⟩
theorem v_14_next_234 (l : Launch)  (a0 : Nat) (a1 : Int32) (a2 : Int32) (a3 : Int32) (H : jH) : JV l mi_14_next jeI 234 [(0, .ref a0), (1, .int a1), (2, .int a2), (3, .int a3)] [] H (B_14_next_234  a0 a1 a2 a3 H) := by
  unfold B_14_next_234
  refine s_29 235 rfl rfl ?_
  refine s_153 0 17 252 238 rfl rfl ?_ ?_
  · exact s_jmp (v_14_next_252 l _ _ _ _ _) ⟨rfl, rfl, rfl, rfl, trivial⟩
  · refine s_28 239 rfl rfl ?_
    refine s_16 97 241 97 jbp_97 rfl ?_
    refine s_162 0 11 252 244 rfl rfl ?_ ?_
    · exact s_jmp (v_14_next_252 l _ _ _ _ _) ⟨rfl, rfl, rfl, rfl, trivial⟩
    · refine s_42 245 rfl rfl ?_
      refine s_7 246 rfl ?_
      refine s_182V 0 60 249 60 (m_14_fails l _ _ _) rfl k_14_fails jc_14 jw_1959 jw_1961 jps_76 rfl rfl rfl rfl rfl (fun x9 h10 => ?_)
      refine s_167 0 12 261 rfl rfl ?_
      exact s_jmp (v_14_next_261 l _ _) ⟨rfl, trivial⟩
theorem v_14_next_206 (l : Launch)  (a0 : Nat) (a1 : Int32) (a2 : Int32) (a3 : Int32) (H : jH) : JV l mi_14_next jeI 206 [(0, .ref a0), (1, .int a1), (2, .int a2), (3, .int a3)] [] H (B_14_next_206  a0 a1 a2 a3 H) := by
  unfold B_14_next_206
  refine s_29 207 rfl rfl ?_
  refine s_153 0 27 234 210 rfl rfl ?_ ?_
  · exact s_jmp (v_14_next_234 l _ _ _ _ _) ⟨rfl, rfl, rfl, rfl, trivial⟩
  · refine s_28 211 rfl rfl ?_
    refine s_16 80 213 80 jbp_80 rfl ?_
    refine s_164 0 21 234 216 rfl rfl ?_ ?_
    · exact s_jmp (v_14_next_234 l _ _ _ _ _) ⟨rfl, rfl, rfl, rfl, trivial⟩
    · refine s_28 217 rfl rfl ?_
      refine s_16 97 219 97 jbp_97 rfl ?_
      refine s_162 0 15 234 222 rfl rfl ?_ ?_
      · exact s_jmp (v_14_next_234 l _ _ _ _ _) ⟨rfl, rfl, rfl, rfl, trivial⟩
      · refine s_42 223 rfl rfl ?_
        refine s_28 224 rfl rfl ?_
        refine s_16 80 226 80 jbp_80 rfl ?_
        refine s_100 227 rfl ?_
        refine s_133 228 rfl ?_
        refine s_182V 0 53 231 53 (m_14_pushNumber l _ _ _) rfl k_14_pushNumber jc_14 jw_1980 jw_1982 jps_81 rfl rfl rfl rfl rfl (fun x11 h12 => ?_)
        refine s_167 0 30 261 rfl rfl ?_
        exact s_jmp (v_14_next_261 l _ _) ⟨rfl, trivial⟩
theorem v_14_next_134 (l : Launch)  (a0 : Nat) (a1 : Int32) (a2 : Int32) (a3 : Int32) (s0 : Nat) (s1 : Int32) (H : jH) : JV l mi_14_next jeI 134 [(0, .ref a0), (1, .int a1), (2, .int a2), (3, .int a3)] [.int s1, .ref s0] H (B_14_next_134  a0 a1 a2 a3 s0 s1 H) := by
  unfold B_14_next_134
  refine s_181I 0 113 137 113 f_14_7 rfl rfl jw_1397 rfl rfl (fun h13 => ?_)
  refine s_42 138 rfl rfl ?_
  refine s_180I 0 113 141 113 f_14_7 jw_1397 rfl rfl ?_
  refine s_16 100 143 100 jbp_100 rfl ?_
  refine s_164 0 11 154 146 rfl rfl ?_ ?_
  · refine s_28 155 rfl rfl ?_
    refine s_16 99 157 99 jbp_99 rfl ?_
    refine s_159 0 21 178 160 rfl rfl ?_ ?_
    · exact s_jmp (v_14_next_178 l _ _ _ _) ⟨rfl, rfl, rfl, trivial⟩
    · refine s_28 161 rfl rfl ?_
      refine s_16 100 163 100 jbp_100 rfl ?_
      refine s_159 0 15 178 166 rfl rfl ?_ ?_
      · exact s_jmp (v_14_next_178 l _ _ _ _) ⟨rfl, rfl, rfl, trivial⟩
      · refine s_28 167 rfl rfl ?_
        refine s_16 103 169 103 jbp_103 rfl ?_
        refine s_159 0 9 178 172 rfl rfl ?_ ?_
        · exact s_jmp (v_14_next_178 l _ _ _ _) ⟨rfl, rfl, rfl, trivial⟩
        · refine s_28 173 rfl rfl ?_
          refine s_16 104 175 104 jbp_104 rfl ?_
          refine s_160 0 11 186 178 rfl rfl ?_ ?_
          · refine s_29 187 rfl rfl ?_
            refine s_153 0 19 206 190 rfl rfl ?_ ?_
            · exact s_jmp (v_14_next_206 l _ _ _ _ _) ⟨rfl, rfl, rfl, rfl, trivial⟩
            · refine s_28 191 rfl rfl ?_
              refine s_16 79 193 79 jbp_79 rfl ?_
              refine s_160 0 13 206 196 rfl rfl ?_ ?_
              · exact s_jmp (v_14_next_206 l _ _ _ _ _) ⟨rfl, rfl, rfl, rfl, trivial⟩
              · refine s_42 197 rfl rfl ?_
                refine s_20 0 177 200 177 (-1) rfl jw_1979 rfl ?_
                refine s_182V 0 53 203 53 (m_14_pushNumber l _ _ _) rfl k_14_pushNumber jc_14 jw_1980 jw_1982 jps_81 rfl rfl rfl rfl rfl (fun x14 h15 => ?_)
                refine s_167 0 58 261 rfl rfl ?_
                exact s_jmp (v_14_next_261 l _ _) ⟨rfl, trivial⟩
          · exact s_jmp (v_14_next_178 l _ _ _ _) ⟨rfl, rfl, rfl, trivial⟩
  · refine s_42 147 rfl rfl ?_
    refine s_6 148 rfl ?_
    refine s_182V 0 60 151 60 (m_14_fails l _ _ _) rfl k_14_fails jc_14 jw_1959 jw_1961 jps_76 rfl rfl rfl rfl rfl (fun x16 h17 => ?_)
    refine s_167 0 110 261 rfl rfl ?_
    exact s_jmp (v_14_next_261 l _ _) ⟨rfl, trivial⟩
theorem v_14_next (l : Launch) (a0 : Nat) (a1 : Int32) (H : jH) : JV l mi_14_next jeI 0 [(0, .ref a0), (1, .int a1)] [] H (F_14_next a0 a1 H) := by
  unfold F_14_next
  refine s_42 1 rfl rfl ?_
  refine s_180R 0 16 4 16 f_14_4 jw_1394 rfl rfl ?_
  refine s_27 5 rfl rfl ?_
  refine s_46 6 rfl ?_
  refine s_61L 7 rfl rfl (fun x18 => ?_)
  refine s_42 8 rfl rfl ?_
  refine s_182I 0 119 11 119 (m_14_isDone l _ _) rfl k_14_isDone jc_14 jw_1955 jw_1957 jps_75 rfl rfl rfl rfl rfl (fun x19 h20 => ?_)
  refine s_62 12 rfl rfl ?_
  refine s_28 13 rfl rfl ?_
  refine s_16 78 15 78 jbp_78 rfl ?_
  refine s_162 0 99 114 18 rfl rfl ?_ ?_
  · refine s_42 115 rfl rfl ?_
    refine s_28 116 rfl rfl ?_
    refine s_16 96 118 96 jbp_96 rfl ?_
    refine s_164 0 12 130 121 rfl rfl ?_ ?_
    · refine s_42 131 rfl rfl ?_
      refine s_180I 0 113 134 113 f_14_7 jw_1397 rfl rfl ?_
      exact s_jmp (v_14_next_134 l _ _ _ _ _ _ _) ⟨rfl, rfl, rfl, rfl, trivial⟩
    · refine s_42 122 rfl rfl ?_
      refine s_180I 0 113 125 113 f_14_7 jw_1397 rfl rfl ?_
      refine s_4 126 rfl ?_
      refine s_96 127 rfl ?_
      refine s_167 0 7 134 rfl rfl ?_
      exact s_jmp (v_14_next_134 l _ _ _ _ _ _ _) ⟨rfl, rfl, rfl, rfl, trivial⟩
  · refine s_28 19 rfl rfl ?_
    refine s_16 76 21 76 jbp_76 rfl ?_
    refine s_162 0 7 28 24 rfl rfl ?_ ?_
    · refine s_28 29 rfl rfl ?_
      refine s_16 75 31 75 jbp_75 rfl ?_
      refine s_100 32 rfl ?_
      exact s_jmp (v_14_next_32 l _ _ _ _ _ _) ⟨rfl, rfl, rfl, rfl, trivial⟩
    · refine s_3 25 rfl ?_
      refine s_167 0 7 32 rfl rfl ?_
      exact s_jmp (v_14_next_32 l _ _ _ _ _ _) ⟨rfl, rfl, rfl, rfl, trivial⟩
theorem m_14_next (l : Launch) (a0 : Nat) (a1 : Int32) (H : jH) : JMet l y_14_next prog_18_method_31_code mi_14_next jeI [.ref a0, .int a1] H (F_14_next a0 a1 H) := jmet_of n_14_next (by decide) ⟨rfl, rfl⟩ (Nat.le_of_ble_eq_true rfl) (v_14_next l a0 a1 H)
def mi_14_run : jM := (8704090616401727012658094960427665232226349958950283081787292290237113910044423491047902152657040347360635920246166560261055362263168168313261186740990608137921566579556675276243823214634289443946136843020032307775572558715624322883205716025330946086411005207356101637559987726811729816317907529736989954767270727734250505002, 135, 2, "CoinNodeModel$Scripts", some FieldType.int, "run", 12, 287)
def y_14_run : MethodName := ⟨"CoinNodeModel$Scripts", "run", "()I"⟩
theorem n_14_run : jn_is prog_18_method_32_code mi_14_run.1 mi_14_run.2.1 := by unfold jn_is; decide +kernel
theorem k_14_run : jmok y_14_run prog_18_method_32_code mi_14_run 0 := ⟨jw_1950, jw_18, ⟨by decide, by decide⟩, by decide +kernel⟩
theorem v_14_run_134 (l : Launch)  (s0 : Int32) (H : jH) : JV l mi_14_run jeI 134 [] [.int s0] H (B_14_run_134  s0 H) := by
  unfold B_14_run_134
  exact s_172 rfl rfl
theorem v_14_run_114 (l : Launch)  (a0 : Nat) (s0 : Nat) (s1 : Int32) (H : jH) : JV l mi_14_run jeI 114 [(0, .ref a0)] [.int s1, .ref s0] H (B_14_run_114  a0 s0 s1 H) := by
  unfold B_14_run_114
  refine s_181I 0 44 117 44 f_14_2 rfl rfl jw_1392 rfl rfl (fun h1 => ?_)
  refine s_42 118 rfl rfl ?_
  refine s_180I 0 57 121 57 f_14_6 jw_1396 rfl rfl ?_
  refine s_158 0 12 133 124 rfl rfl ?_ ?_
  · refine s_4 134 rfl ?_
    exact s_jmp (v_14_run_134 l _ _) trivial
  · refine s_2 125 rfl ?_
    refine s_42 126 rfl rfl ?_
    refine s_180I 0 57 129 57 f_14_6 jw_1396 rfl rfl ?_
    refine s_100 130 rfl ?_
    refine s_167 0 4 134 rfl rfl ?_
    exact s_jmp (v_14_run_134 l _ _) trivial
theorem v_14_run_93 (l : Launch)  (a0 : Nat) (H : jH) : JV l mi_14_run jeI 93 [(0, .ref a0)] [] H (B_14_run_93  a0 H) := by
  unfold B_14_run_93
  refine s_42 94 rfl rfl ?_
  refine s_3 95 rfl ?_
  refine s_181I 0 40 98 40 f_14_5 rfl rfl jw_1395 rfl rfl (fun h2 => ?_)
  refine s_42 99 rfl rfl ?_
  refine s_42 100 rfl rfl ?_
  refine s_180I 0 57 103 57 f_14_6 jw_1396 rfl rfl ?_
  refine s_158 0 7 110 106 rfl rfl ?_ ?_
  · refine s_42 111 rfl rfl ?_
    refine s_180I 0 44 114 44 f_14_2 jw_1392 rfl rfl ?_
    exact s_jmp (v_14_run_114 l _ _ _ _) ⟨rfl, trivial⟩
  · refine s_3 107 rfl ?_
    refine s_167 0 7 114 rfl rfl ?_
    exact s_jmp (v_14_run_114 l _ _ _ _) ⟨rfl, trivial⟩
theorem v_14_run_73 (l : Launch)  (a0 : Nat) (H : jH) : JV l mi_14_run jeI 73 [(0, .ref a0)] [] H (B_14_run_73  a0 H) := by
  unfold B_14_run_73
  refine s_42 74 rfl rfl ?_
  refine s_180I 0 57 77 57 f_14_6 jw_1396 rfl rfl ?_
  refine s_154 0 16 93 80 rfl rfl ?_ ?_
  · exact s_jmp (v_14_run_93 l _ _) ⟨rfl, trivial⟩
  · refine s_42 81 rfl rfl ?_
    refine s_180I 0 116 84 116 f_14_9 jw_1400 rfl rfl ?_
    refine s_158 0 9 93 87 rfl rfl ?_ ?_
    · exact s_jmp (v_14_run_93 l _ _) ⟨rfl, trivial⟩
    · refine s_42 88 rfl rfl ?_
      refine s_16 12 90 12 jbp_12 rfl ?_
      refine s_182V 0 60 93 60 (m_14_fails l _ _ _) rfl k_14_fails jc_14 jw_1959 jw_1961 jps_76 rfl rfl rfl rfl rfl (fun x3 h4 => ?_)
      exact s_jmp (v_14_run_93 l _ _) ⟨rfl, trivial⟩
theorem v_14_run_22 (l : Launch) (k22 : Nat → Int32 → jH → Option (Int32 × jH)) (hk22 : ∀ a0 a1 H, JV l mi_14_run jeI 22 [(0, .ref a0), (1, .int a1)] [] H (k22 a0 a1 H)) (a0 : Nat) (a1 : Int32) (H : jH) : JV l mi_14_run jeI 22 [(0, .ref a0), (1, .int a1)] [] H (B_14_run_22 k22 a0 a1 H) := by
  unfold B_14_run_22
  refine s_27 23 rfl rfl ?_
  refine s_42 24 rfl rfl ?_
  refine s_180I 0 40 27 40 f_14_5 jw_1395 rfl rfl ?_
  refine s_162 0 46 73 30 rfl rfl ?_ ?_
  · exact s_jmp (v_14_run_73 l _ _) ⟨rfl, trivial⟩
  · refine s_42 31 rfl rfl ?_
    refine s_180I 0 57 34 57 f_14_6 jw_1396 rfl rfl ?_
    refine s_154 0 39 73 37 rfl rfl ?_ ?_
    · exact s_jmp (v_14_run_73 l _ _) ⟨rfl, trivial⟩
    · refine s_42 38 rfl rfl ?_
      refine s_27 39 rfl rfl ?_
      refine s_182I 0 182 42 182 (m_14_next l _ _ _) rfl k_14_next jc_14 jw_1951 jw_1953 jps_74 rfl rfl rfl rfl rfl (fun x5 h6 => ?_)
      refine s_60 43 rfl rfl ?_
      refine s_42 44 rfl rfl ?_
      refine s_180I 0 57 47 57 f_14_6 jw_1396 rfl rfl ?_
      refine s_154 255 231 22 50 rfl rfl ?_ ?_
      · exact s_jmp (hk22 _ _ _) ⟨rfl, rfl, trivial⟩
      · refine s_42 51 rfl rfl ?_
        refine s_180I 0 44 54 44 f_14_2 jw_1392 rfl rfl ?_
        refine s_42 55 rfl rfl ?_
        refine s_180I 0 129 58 129 f_14_3 jw_1393 rfl rfl ?_
        refine s_96 59 rfl ?_
        refine s_16 60 61 60 jbp_60 rfl ?_
        refine s_164 255 217 22 64 rfl rfl ?_ ?_
        · exact s_jmp (hk22 _ _ _) ⟨rfl, rfl, trivial⟩
        · refine s_42 65 rfl rfl ?_
          refine s_16 11 67 11 jbp_11 rfl ?_
          refine s_182V 0 60 70 60 (m_14_fails l _ _ _) rfl k_14_fails jc_14 jw_1959 jw_1961 jps_76 rfl rfl rfl rfl rfl (fun x7 h8 => ?_)
          refine s_167 255 208 22 rfl rfl ?_
          exact s_jmp (hk22 _ _ _) ⟨rfl, rfl, trivial⟩
theorem w_14_run_22 (l : Launch)  (n : Nat) : ∀ a0 a1 H, JV l mi_14_run jeI 22 [(0, .ref a0), (1, .int a1)] [] H (F_14_run_22  n a0 a1 H) := by
  induction n with
  | zero => intro _ _ _; exact s_none
  | succ n ih => intro a0 a1 H; exact v_14_run_22 l (F_14_run_22  n) ih a0 a1 H
theorem v_14_run (l : Launch) (a0 : Nat) (H : jH) : JV l mi_14_run jeI 0 [(0, .ref a0)] [] H (F_14_run a0 H) := by
  unfold F_14_run
  refine s_42 1 rfl rfl ?_
  refine s_3 2 rfl ?_
  refine s_181I 0 129 5 129 f_14_3 rfl rfl jw_1393 rfl rfl (fun h9 => ?_)
  refine s_42 6 rfl rfl ?_
  refine s_3 7 rfl ?_
  refine s_181I 0 116 10 116 f_14_9 rfl rfl jw_1400 rfl rfl (fun h10 => ?_)
  refine s_42 11 rfl rfl ?_
  refine s_3 12 rfl ?_
  refine s_181I 0 57 15 57 f_14_6 rfl rfl jw_1396 rfl rfl (fun h11 => ?_)
  refine s_42 16 rfl rfl ?_
  refine s_3 17 rfl ?_
  refine s_181I 0 113 20 113 f_14_7 rfl rfl jw_1397 rfl rfl (fun h12 => ?_)
  refine s_3 21 rfl ?_
  refine s_60 22 rfl rfl ?_
  exact s_jmp (w_14_run_22 l jfuel _ _ _) ⟨rfl, rfl, trivial⟩
theorem m_14_run (l : Launch) (a0 : Nat) (H : jH) : JMet l y_14_run prog_18_method_32_code mi_14_run jeI [.ref a0] H (F_14_run a0 H) := jmet_of n_14_run (by decide) ⟨rfl, rfl⟩ (Nat.le_of_ble_eq_true rfl) (v_14_run l a0 H)
def mi_18_fails : jM := (28123794955275085044927037059899360021110583319909145483144271995590286905992869459547071930784349855962907627150226912688132105606511906836839548029651247686464931673690888488023779010904160221396332210366441443543124697527835782229466274715072548339940618734052809881033599049913723148478112117802, 124, 6, "CoinNodeModel", some FieldType.boolean, "fails", 13, 308)
def y_18_fails : MethodName := ⟨"CoinNodeModel", "fails", "(LCoinNodeModel$Tx;I[BII)Z"⟩
theorem n_18_fails : jn_is prog_14_method_12_code mi_18_fails.1 mi_18_fails.2.1 := by unfold jn_is; decide +kernel
theorem k_18_fails : jmok y_18_fails prog_14_method_12_code mi_18_fails 5 := ⟨jw_1938, jw_14, ⟨by decide, by decide⟩, by decide +kernel⟩
theorem v_18_fails_123 (l : Launch)  (s0 : Int32) (H : jH) : JV l mi_18_fails jeI 123 [] [.int s0] H (B_18_fails_123  s0 H) := by
  unfold B_18_fails_123
  exact s_172Z rfl rfl
theorem v_18_fails_118 (l : Launch)   (H : jH) : JV l mi_18_fails jeI 118 [] [] H (B_18_fails_118   H) := by
  unfold B_18_fails_118
  refine s_4 119 rfl ?_
  refine s_167 0 4 123 rfl rfl ?_
  exact s_jmp (v_18_fails_123 l _ _) trivial
theorem v_18_fails (l : Launch) (a0 : Nat) (a1 : Nat) (a2 : Int32) (a3 : Nat) (a4 : Int32) (a5 : Int32) (H : jH) : JV l mi_18_fails jeI 0 [(0, .ref a0), (1, .ref a1), (2, .int a2), (3, .ref a3), (4, .int a4), (5, .int a5)] [] H (F_18_fails a0 a1 a2 a3 a4 a5 H) := by
  unfold F_18_fails
  refine s_42 1 rfl rfl ?_
  refine s_180R 0 21 4 21 f_18_1 jw_1611 rfl rfl ?_
  refine s_43 5 rfl rfl ?_
  refine s_181RN 1 9 8 265 f_15_2 rfl rfl jnf_0 rfl rfl (fun h1 => ?_)
  refine s_42 9 rfl rfl ?_
  refine s_180R 0 21 12 21 f_18_1 jw_1611 rfl rfl ?_
  refine s_28 13 rfl rfl ?_
  refine s_181IN 1 10 16 266 f_15_3 rfl rfl jnf_1 rfl rfl (fun h2 => ?_)
  refine s_42 17 rfl rfl ?_
  refine s_180R 0 21 20 21 f_18_1 jw_1611 rfl rfl ?_
  refine s_45 21 rfl rfl ?_
  refine s_181RN 1 13 24 269 f_15_4 rfl rfl jnf_2 rfl rfl (fun h3 => ?_)
  refine s_42 25 rfl rfl ?_
  refine s_180R 0 21 28 21 f_18_1 jw_1611 rfl rfl ?_
  refine s_21 4 30 rfl rfl ?_
  refine s_181IN 1 16 33 272 f_15_5 rfl rfl jnf_3 rfl rfl (fun h4 => ?_)
  refine s_42 34 rfl rfl ?_
  refine s_180R 0 21 37 21 f_18_1 jw_1611 rfl rfl ?_
  refine s_21 5 39 rfl rfl ?_
  refine s_181IN 1 19 42 275 f_15_6 rfl rfl jnf_4 rfl rfl (fun h5 => ?_)
  refine s_42 43 rfl rfl ?_
  refine s_180R 0 30 46 30 f_18_2 jw_1612 rfl rfl ?_
  refine s_182V 1 22 49 278 (m_14_clear l _ _) rfl k_14_clear jc_14 jw_1939 jw_1940 jw_1941 rfl rfl rfl rfl rfl (fun x6 h7 => ?_)
  refine s_42 50 rfl rfl ?_
  refine s_180R 0 30 53 30 f_18_2 jw_1612 rfl rfl ?_
  refine s_43 54 rfl rfl ?_
  refine s_180RN 0 197 57 197 f_17_0 jnf_7 rfl rfl ?_
  refine s_43 58 rfl rfl ?_
  refine s_180RN 1 25 61 281 f_17_9 jnf_18 rfl rfl ?_
  refine s_28 62 rfl rfl ?_
  refine s_46 63 rfl ?_
  refine s_43 64 rfl rfl ?_
  refine s_180RN 1 27 67 283 f_17_10 jnf_19 rfl rfl ?_
  refine s_28 68 rfl rfl ?_
  refine s_46 69 rfl ?_
  refine s_182V 1 30 72 286 (m_14_load l _ _ _ _ _) rfl k_14_load jc_14 jw_1943 jw_1944 jw_1945 rfl rfl rfl rfl rfl (fun x8 h9 => ?_)
  refine s_42 73 rfl rfl ?_
  refine s_180R 0 30 76 30 f_18_2 jw_1612 rfl rfl ?_
  refine s_182I 1 34 79 290 (m_14_run l _ _) rfl k_14_run jc_14 jw_1947 jw_1948 jw_1949 rfl rfl rfl rfl rfl (fun x10 h11 => ?_)
  refine s_4 80 rfl ?_
  refine s_159 0 5 85 83 rfl rfl ?_ ?_
  · refine s_42 86 rfl rfl ?_
    refine s_180R 0 30 89 30 f_18_2 jw_1612 rfl rfl ?_
    refine s_45 90 rfl rfl ?_
    refine s_21 4 92 rfl rfl ?_
    refine s_21 5 94 rfl rfl ?_
    refine s_182V 1 30 97 286 (m_14_load l _ _ _ _ _) rfl k_14_load jc_14 jw_1943 jw_1944 jw_1945 rfl rfl rfl rfl rfl (fun x12 h13 => ?_)
    refine s_42 98 rfl rfl ?_
    refine s_180R 0 30 101 30 f_18_2 jw_1612 rfl rfl ?_
    refine s_182I 1 34 104 290 (m_14_run l _ _) rfl k_14_run jc_14 jw_1947 jw_1948 jw_1949 rfl rfl rfl rfl rfl (fun x14 h15 => ?_)
    refine s_4 105 rfl ?_
    refine s_160 0 13 118 108 rfl rfl ?_ ?_
    · exact s_jmp (v_18_fails_118 l _) trivial
    · refine s_42 109 rfl rfl ?_
      refine s_180R 0 30 112 30 f_18_2 jw_1612 rfl rfl ?_
      refine s_182I 1 37 115 293 (m_14_isTrue l _ _) rfl k_14_isTrue jc_14 jw_2260 jw_2261 jw_2262 rfl rfl rfl rfl rfl (fun x16 h17 => ?_)
      refine s_154 0 7 122 118 rfl rfl ?_ ?_
      · refine s_3 123 rfl ?_
        exact s_jmp (v_18_fails_123 l _ _) trivial
      · exact s_jmp (v_18_fails_118 l _) trivial
  · refine s_4 84 rfl ?_
    exact s_172Z rfl rfl
theorem m_18_fails (l : Launch) (a0 : Nat) (a1 : Nat) (a2 : Int32) (a3 : Nat) (a4 : Int32) (a5 : Int32) (H : jH) : JMet l y_18_fails prog_14_method_12_code mi_18_fails jeI [.ref a0, .ref a1, .int a2, .ref a3, .int a4, .int a5] H (F_18_fails a0 a1 a2 a3 a4 a5 H) := jmet_of n_18_fails (by decide) ⟨rfl, rfl⟩ (Nat.le_of_ble_eq_true rfl) (v_18_fails l a0 a1 a2 a3 a4 a5 H)
def mi_17_sum : jM := (4667432950045170041026334185681794405875234422217224077630137388187657, 29, 4, "CoinNodeModel$Tx", some FieldType.long, "sum", 0, 0)
def y_17_sum : MethodName := ⟨"CoinNodeModel$Tx", "sum", "()J"⟩
theorem n_17_sum : jn_is prog_21_method_12_code mi_17_sum.1 mi_17_sum.2.1 := by unfold jn_is; decide +kernel
theorem k_17_sum : jmok y_17_sum prog_21_method_12_code mi_17_sum 0 := ⟨jw_1934, jw_20, ⟨by decide, by decide⟩, by decide +kernel⟩
theorem v_17_sum_4 (l : Launch) (k4 : Nat → Int64 → Int32 → jH → Option (Int64 × jH)) (hk4 : ∀ a0 a1 a3 H, JV l mi_17_sum jeL 4 [(0, .ref a0), (1, .long a1), (3, .int a3)] [] H (k4 a0 a1 a3 H)) (a0 : Nat) (a1 : Int64) (a3 : Int32) (H : jH) : JV l mi_17_sum jeL 4 [(0, .ref a0), (1, .long a1), (3, .int a3)] [] H (B_17_sum_4 k4 a0 a1 a3 H) := by
  unfold B_17_sum_4
  refine s_29 5 rfl rfl ?_
  refine s_42 6 rfl rfl ?_
  refine s_180I 0 82 9 82 f_17_5 jw_1528 rfl rfl ?_
  refine s_162 0 18 27 12 rfl rfl ?_ ?_
  · refine s_31 28 rfl rfl ?_
    exact s_173 rfl rfl
  · refine s_31 13 rfl rfl ?_
    refine s_42 14 rfl rfl ?_
    refine s_180R 0 28 17 28 f_17_12 jw_1541 rfl rfl ?_
    refine s_29 18 rfl rfl ?_
    refine s_47 19 rfl ?_
    refine s_97 20 rfl ?_
    refine s_64L 21 rfl rfl (fun x1 => ?_)
    refine s_132L 3 1 24 1 ji_1 rfl rfl rfl (fun x2 => ?_)
    refine s_167 255 236 4 rfl rfl ?_
    exact s_jmp (hk4 _ _ _ _) ⟨rfl, rfl, rfl, trivial⟩
theorem w_17_sum_4 (l : Launch)  (n : Nat) : ∀ a0 a1 a3 H, JV l mi_17_sum jeL 4 [(0, .ref a0), (1, .long a1), (3, .int a3)] [] H (F_17_sum_4  n a0 a1 a3 H) := by
  induction n with
  | zero => intro _ _ _ _; exact s_none
  | succ n ih => intro a0 a1 a3 H; exact v_17_sum_4 l (F_17_sum_4  n) ih a0 a1 a3 H
theorem v_17_sum (l : Launch) (a0 : Nat) (H : jH) : JV l mi_17_sum jeL 0 [(0, .ref a0)] [] H (F_17_sum a0 H) := by
  unfold F_17_sum
  refine s_9 1 rfl ?_
  refine s_64 2 rfl rfl ?_
  refine s_3 3 rfl ?_
  refine s_62 4 rfl rfl ?_
  exact s_jmp (w_17_sum_4 l jfuel _ _ _ _) ⟨rfl, rfl, rfl, trivial⟩
theorem m_17_sum (l : Launch) (a0 : Nat) (H : jH) : JMet l y_17_sum prog_21_method_12_code mi_17_sum jeL [.ref a0] H (F_17_sum a0 H) := jmet_of n_17_sum (by decide) ⟨rfl, rfl⟩ (Nat.le_of_ble_eq_true rfl) (v_17_sum l a0 H)
def mi_18_wrong : jM := (112748453137543702808246921805174247901565777183050705022953526840374838881318203369756385413691975943144009049834323429064386527133409144820721986408248489408810538513205885438493379633852772904880273219845241896410896433645940856865788767433423319056809912399828491623923310467821474052098011345903924213206645746625290468406435228314899679325107899072471694954807921447262276265097490139586415941238118874389271628430290017476924012080173537930068925602908862099283579767200996859739763449374895699560869755311091019907132245379272449281941276927987810316472577918159321952734386076015476109704978356887198627858844238466901411230151481408746175747, 270, 6, "CoinNodeModel", some FieldType.int, "wrong", 14, 333)
def y_18_wrong : MethodName := ⟨"CoinNodeModel", "wrong", "(I)I"⟩
theorem n_18_wrong : jn_is prog_14_method_13_code mi_18_wrong.1 mi_18_wrong.2.1 := by unfold jn_is; decide +kernel
theorem k_18_wrong : jmok y_18_wrong prog_14_method_13_code mi_18_wrong 1 := ⟨jw_2425, jw_14, ⟨by decide, by decide⟩, by decide +kernel⟩
theorem v_18_wrong_131 (l : Launch) (k59 : Nat → Int32 → Int64 → Int32 → jH → Option (Int32 × jH)) (hk59 : ∀ a0 a1 a2 a4 H, JV l mi_18_wrong jeI 59 [(0, .ref a0), (1, .int a1), (2, .long a2), (4, .int a4)] [] H (k59 a0 a1 a2 a4 H)) (a0 : Nat) (a1 : Int32) (a2 : Int64) (a4 : Int32) (a5 : Int32) (H : jH) : JV l mi_18_wrong jeI 131 [(0, .ref a0), (1, .int a1), (2, .long a2), (4, .int a4), (5, .int a5)] [] H (B_18_wrong_131 k59 a0 a1 a2 a4 a5 H) := by
  unfold B_18_wrong_131
  refine s_32 132 rfl rfl ?_
  refine s_42 133 rfl rfl ?_
  refine s_180R 0 90 136 90 f_18_22 jw_1632 rfl rfl ?_
  refine s_21 5 138 rfl rfl ?_
  refine s_47 139 rfl ?_
  refine s_97 140 rfl ?_
  refine s_65L 141 rfl rfl (fun x1 => ?_)
  refine s_132L 4 1 144 1 ji_1 rfl rfl rfl (fun x2 => ?_)
  refine s_167 255 171 59 rfl rfl ?_
  exact s_jmp (hk59 _ _ _ _ _) ⟨rfl, rfl, rfl, rfl, trivial⟩
theorem v_18_wrong_165 (l : Launch) (k165 : Nat → Int64 → Int32 → jH → Option (Int32 × jH)) (hk165 : ∀ a0 a2 a4 H, JV l mi_18_wrong jeI 165 [(0, .ref a0), (2, .long a2), (4, .int a4)] [] H (k165 a0 a2 a4 H)) (a0 : Nat) (a2 : Int64) (a4 : Int32) (H : jH) : JV l mi_18_wrong jeI 165 [(0, .ref a0), (2, .long a2), (4, .int a4)] [] H (B_18_wrong_165 k165 a0 a2 a4 H) := by
  unfold B_18_wrong_165
  refine s_21 4 167 rfl rfl ?_
  refine s_42 168 rfl rfl ?_
  refine s_180R 0 47 171 47 f_18_4 jw_1614 rfl rfl ?_
  refine s_180IN 0 194 174 194 f_17_4 jnf_12 rfl rfl ?_
  refine s_162 0 76 250 177 rfl rfl ?_ ?_
  · refine s_42 251 rfl rfl ?_
    refine s_89 252 rfl rfl ?_
    refine s_180L 1 49 255 305 f_18_19 jw_1629 rfl rfl ?_
    refine s_32 256 rfl rfl ?_
    refine s_42 257 rfl rfl ?_
    refine s_180R 0 47 260 47 f_18_4 jw_1614 rfl rfl ?_
    refine s_182L 1 41 263 297 (m_17_sum l _ _) rfl k_17_sum jc_17 jw_1931 jw_1932 jw_1933 rfl rfl rfl rfl rfl (fun x3 h4 => ?_)
    refine s_101 264 rfl ?_
    refine s_97 265 rfl ?_
    refine s_181L 1 49 268 305 f_18_19 rfl rfl jw_1629 rfl rfl (fun h5 => ?_)
    refine s_3 269 rfl ?_
    exact s_172 rfl rfl
  · refine s_42 178 rfl rfl ?_
    refine s_42 179 rfl rfl ?_
    refine s_180R 0 47 182 47 f_18_4 jw_1614 rfl rfl ?_
    refine s_180RN 0 197 185 197 f_17_0 jnf_7 rfl rfl ?_
    refine s_42 186 rfl rfl ?_
    refine s_180R 0 47 189 47 f_18_4 jw_1614 rfl rfl ?_
    refine s_180RN 0 200 192 200 f_17_7 jnf_16 rfl rfl ?_
    refine s_21 4 194 rfl rfl ?_
    refine s_46 195 rfl ?_
    refine s_42 196 rfl rfl ?_
    refine s_180R 0 47 199 47 f_18_4 jw_1614 rfl rfl ?_
    refine s_180RN 0 202 202 202 f_17_8 jnf_17 rfl rfl ?_
    refine s_21 4 204 rfl rfl ?_
    refine s_47 205 rfl ?_
    refine s_182I 0 205 208 205 (m_18_coin l _ _ _ _ _) rfl k_18_coin jc_18 jw_1872 jw_1874 jps_66 rfl rfl rfl rfl rfl (fun x6 h7 => ?_)
    refine s_54 5 210 rfl rfl ?_
    refine s_42 211 rfl rfl ?_
    refine s_42 212 rfl rfl ?_
    refine s_180R 0 47 215 47 f_18_4 jw_1614 rfl rfl ?_
    refine s_21 4 217 rfl rfl ?_
    refine s_42 218 rfl rfl ?_
    refine s_180R 0 55 221 55 f_18_6 jw_1616 rfl rfl ?_
    refine s_42 222 rfl rfl ?_
    refine s_180R 0 100 225 100 f_18_25 jw_1635 rfl rfl ?_
    refine s_21 5 227 rfl rfl ?_
    refine s_46 228 rfl ?_
    refine s_42 229 rfl rfl ?_
    refine s_180R 0 103 232 103 f_18_26 jw_1636 rfl rfl ?_
    refine s_21 5 234 rfl rfl ?_
    refine s_46 235 rfl ?_
    refine s_182I 1 45 238 301 (m_18_fails l _ _ _ _ _ _ _) rfl k_18_fails jc_18 jw_1935 jw_1937 jps_73 rfl rfl rfl rfl rfl (fun x8 h9 => ?_)
    refine s_153 0 6 244 241 rfl rfl ?_ ?_
    · refine s_132L 4 1 247 1 ji_1 rfl rfl rfl (fun x10 => ?_)
      refine s_167 255 174 165 rfl rfl ?_
      exact s_jmp (hk165 _ _ _ _) ⟨rfl, rfl, rfl, trivial⟩
    · refine s_16 34 243 34 jbp_34 rfl ?_
      exact s_172 rfl rfl
theorem w_18_wrong_165 (l : Launch)  (n : Nat) : ∀ a0 a2 a4 H, JV l mi_18_wrong jeI 165 [(0, .ref a0), (2, .long a2), (4, .int a4)] [] H (F_18_wrong_165  n a0 a2 a4 H) := by
  induction n with
  | zero => intro _ _ _ _; exact s_none
  | succ n ih => intro a0 a2 a4 H; exact v_18_wrong_165 l (F_18_wrong_165  n) ih a0 a2 a4 H
theorem v_18_wrong_59 (l : Launch) (k59 : Nat → Int32 → Int64 → Int32 → jH → Option (Int32 × jH)) (hk59 : ∀ a0 a1 a2 a4 H, JV l mi_18_wrong jeI 59 [(0, .ref a0), (1, .int a1), (2, .long a2), (4, .int a4)] [] H (k59 a0 a1 a2 a4 H)) (a0 : Nat) (a1 : Int32) (a2 : Int64) (a4 : Int32) (H : jH) : JV l mi_18_wrong jeI 59 [(0, .ref a0), (1, .int a1), (2, .long a2), (4, .int a4)] [] H (B_18_wrong_59 k59 a0 a1 a2 a4 H) := by
  unfold B_18_wrong_59
  refine s_21 4 61 rfl rfl ?_
  refine s_42 62 rfl rfl ?_
  refine s_180R 0 47 65 47 f_18_4 jw_1614 rfl rfl ?_
  refine s_180IN 0 194 68 194 f_17_4 jnf_12 rfl rfl ?_
  refine s_162 0 79 147 71 rfl rfl ?_ ?_
  · refine s_42 148 rfl rfl ?_
    refine s_180R 0 47 151 47 f_18_4 jw_1614 rfl rfl ?_
    refine s_182L 1 41 154 297 (m_17_sum l _ _) rfl k_17_sum jc_17 jw_1931 jw_1932 jw_1933 rfl rfl rfl rfl rfl (fun x11 h12 => ?_)
    refine s_32 155 rfl rfl ?_
    refine s_148_158 0 6 162 156 159 rfl rfl rfl ?_ ?_
    · refine s_3 163 rfl ?_
      refine s_54 4 165 rfl rfl ?_
      exact s_jmp (w_18_wrong_165 l jfuel _ _ _ _) ⟨rfl, rfl, rfl, trivial⟩
    · refine s_16 33 161 33 jbp_33 rfl ?_
      exact s_172 rfl rfl
  · refine s_42 72 rfl rfl ?_
    refine s_42 73 rfl rfl ?_
    refine s_180R 0 47 76 47 f_18_4 jw_1614 rfl rfl ?_
    refine s_180RN 0 197 79 197 f_17_0 jnf_7 rfl rfl ?_
    refine s_42 80 rfl rfl ?_
    refine s_180R 0 47 83 47 f_18_4 jw_1614 rfl rfl ?_
    refine s_180RN 0 200 86 200 f_17_7 jnf_16 rfl rfl ?_
    refine s_21 4 88 rfl rfl ?_
    refine s_46 89 rfl ?_
    refine s_42 90 rfl rfl ?_
    refine s_180R 0 47 93 47 f_18_4 jw_1614 rfl rfl ?_
    refine s_180RN 0 202 96 202 f_17_8 jnf_17 rfl rfl ?_
    refine s_21 4 98 rfl rfl ?_
    refine s_47 99 rfl ?_
    refine s_182I 0 205 102 205 (m_18_coin l _ _ _ _ _) rfl k_18_coin jc_18 jw_1872 jw_1874 jps_66 rfl rfl rfl rfl rfl (fun x13 h14 => ?_)
    refine s_54 5 104 rfl rfl ?_
    refine s_42 105 rfl rfl ?_
    refine s_180R 0 96 108 96 f_18_24 jw_1634 rfl rfl ?_
    refine s_21 5 110 rfl rfl ?_
    refine s_51Z 111 rfl ?_
    refine s_153 0 20 131 114 rfl rfl ?_ ?_
    · exact s_jmp (v_18_wrong_131 l k59 hk59 _ _ _ _ _ _) ⟨rfl, rfl, rfl, rfl, rfl, trivial⟩
    · refine s_27 115 rfl rfl ?_
      refine s_42 116 rfl rfl ?_
      refine s_180R 0 93 119 93 f_18_23 jw_1633 rfl rfl ?_
      refine s_21 5 121 rfl rfl ?_
      refine s_46 122 rfl ?_
      refine s_100 123 rfl ?_
      refine s_16 8 125 8 jbp_8 rfl ?_
      refine s_162 0 6 131 128 rfl rfl ?_ ?_
      · exact s_jmp (v_18_wrong_131 l k59 hk59 _ _ _ _ _ _) ⟨rfl, rfl, rfl, rfl, rfl, trivial⟩
      · refine s_16 32 130 32 jbp_32 rfl ?_
        exact s_172 rfl rfl
theorem w_18_wrong_59 (l : Launch)  (n : Nat) : ∀ a0 a1 a2 a4 H, JV l mi_18_wrong jeI 59 [(0, .ref a0), (1, .int a1), (2, .long a2), (4, .int a4)] [] H (F_18_wrong_59  n a0 a1 a2 a4 H) := by
  induction n with
  | zero => intro _ _ _ _ _; exact s_none
  | succ n ih => intro a0 a1 a2 a4 H; exact v_18_wrong_59 l (F_18_wrong_59  n) ih a0 a1 a2 a4 H
theorem v_18_wrong_2 (l : Launch) (k2 : Nat → Int32 → Int32 → jH → Option (Int32 × jH)) (hk2 : ∀ a0 a1 a2 H, JV l mi_18_wrong jeI 2 [(0, .ref a0), (1, .int a1), (2, .int a2)] [] H (k2 a0 a1 a2 H)) (a0 : Nat) (a1 : Int32) (a2 : Int32) (H : jH) : JV l mi_18_wrong jeI 2 [(0, .ref a0), (1, .int a1), (2, .int a2)] [] H (B_18_wrong_2 k2 a0 a1 a2 H) := by
  unfold B_18_wrong_2
  refine s_28 3 rfl rfl ?_
  refine s_42 4 rfl rfl ?_
  refine s_180R 0 47 7 47 f_18_4 jw_1614 rfl rfl ?_
  refine s_180IN 0 194 10 194 f_17_4 jnf_12 rfl rfl ?_
  refine s_162 0 44 54 13 rfl rfl ?_ ?_
  · refine s_9 55 rfl ?_
    refine s_65 56 rfl rfl ?_
    refine s_3 57 rfl ?_
    refine s_54 4 59 rfl rfl ?_
    exact s_jmp (w_18_wrong_59 l jfuel _ _ _ _ _) ⟨rfl, rfl, rfl, rfl, trivial⟩
  · refine s_42 14 rfl rfl ?_
    refine s_42 15 rfl rfl ?_
    refine s_180R 0 47 18 47 f_18_4 jw_1614 rfl rfl ?_
    refine s_180RN 0 197 21 197 f_17_0 jnf_7 rfl rfl ?_
    refine s_42 22 rfl rfl ?_
    refine s_180R 0 47 25 47 f_18_4 jw_1614 rfl rfl ?_
    refine s_180RN 0 200 28 200 f_17_7 jnf_16 rfl rfl ?_
    refine s_28 29 rfl rfl ?_
    refine s_46 30 rfl ?_
    refine s_42 31 rfl rfl ?_
    refine s_180R 0 47 34 47 f_18_4 jw_1614 rfl rfl ?_
    refine s_180RN 0 202 37 202 f_17_8 jnf_17 rfl rfl ?_
    refine s_28 38 rfl rfl ?_
    refine s_47 39 rfl ?_
    refine s_182I 0 205 42 205 (m_18_coin l _ _ _ _ _) rfl k_18_coin jc_18 jw_1872 jw_1874 jps_66 rfl rfl rfl rfl rfl (fun x15 h16 => ?_)
    refine s_156 0 6 48 45 rfl rfl ?_ ?_
    · refine s_132L 2 1 51 1 ji_1 rfl rfl rfl (fun x17 => ?_)
      refine s_167 255 207 2 rfl rfl ?_
      exact s_jmp (hk2 _ _ _ _) ⟨rfl, rfl, rfl, trivial⟩
    · refine s_16 31 47 31 jbp_31 rfl ?_
      exact s_172 rfl rfl
theorem w_18_wrong_2 (l : Launch)  (n : Nat) : ∀ a0 a1 a2 H, JV l mi_18_wrong jeI 2 [(0, .ref a0), (1, .int a1), (2, .int a2)] [] H (F_18_wrong_2  n a0 a1 a2 H) := by
  induction n with
  | zero => intro _ _ _ _; exact s_none
  | succ n ih => intro a0 a1 a2 H; exact v_18_wrong_2 l (F_18_wrong_2  n) ih a0 a1 a2 H
theorem v_18_wrong (l : Launch) (a0 : Nat) (a1 : Int32) (H : jH) : JV l mi_18_wrong jeI 0 [(0, .ref a0), (1, .int a1)] [] H (F_18_wrong a0 a1 H) := by
  unfold F_18_wrong
  refine s_3 1 rfl ?_
  refine s_61 2 rfl rfl ?_
  exact s_jmp (w_18_wrong_2 l jfuel _ _ _ _) ⟨rfl, rfl, rfl, trivial⟩
theorem m_18_wrong (l : Launch) (a0 : Nat) (a1 : Int32) (H : jH) : JMet l y_18_wrong prog_14_method_13_code mi_18_wrong jeI [.ref a0, .int a1] H (F_18_wrong a0 a1 H) := jmet_of n_18_wrong (by decide) ⟨rfl, rfl⟩ (Nat.le_of_ble_eq_true rfl) (v_18_wrong l a0 a1 H)
def mi_18_back : jM := (2301617154769920915509912321344966008497950329907011648321268781924696788579743791575354233834937572798639272675294395107000234415418257441555711865524927904689357289684117952152705258790717333595107818126663678787414196046934166291050803554405344547477766043150353819338238722944037915658876672865186984180986586433370448996906, 136, 2, "CoinNodeModel", none, "back", 0, 0)
def y_18_back : MethodName := ⟨"CoinNodeModel", "back", "()V"⟩
theorem n_18_back : jn_is prog_14_method_16_code mi_18_back.1 mi_18_back.2.1 := by unfold jn_is; decide +kernel
theorem k_18_back : jmok y_18_back prog_14_method_16_code mi_18_back 0 := ⟨jw_2431, jw_14, ⟨by decide, by decide⟩, by decide +kernel⟩
theorem v_18_back_49 (l : Launch) (k49 : Nat → Int32 → jH → Option (Unit × jH)) (hk49 : ∀ a0 a1 H, JV l mi_18_back jeV 49 [(0, .ref a0), (1, .int a1)] [] H (k49 a0 a1 H)) (a0 : Nat) (a1 : Int32) (H : jH) : JV l mi_18_back jeV 49 [(0, .ref a0), (1, .int a1)] [] H (B_18_back_49 k49 a0 a1 H) := by
  unfold B_18_back_49
  refine s_27 50 rfl rfl ?_
  refine s_42 51 rfl rfl ?_
  refine s_180I 0 183 54 183 f_18_17 jw_1627 rfl rfl ?_
  refine s_162 0 81 135 57 rfl rfl ?_ ?_
  · exact s_177 rfl rfl
  · refine s_42 58 rfl rfl ?_
    refine s_180R 0 86 61 86 f_18_21 jw_1631 rfl rfl ?_
    refine s_27 62 rfl rfl ?_
    refine s_42 63 rfl rfl ?_
    refine s_180R 0 109 66 109 f_18_30 jw_1640 rfl rfl ?_
    refine s_27 67 rfl rfl ?_
    refine s_47 68 rfl ?_
    refine s_80 69 rfl (fun h1 => ?_)
    refine s_42 70 rfl rfl ?_
    refine s_180R 0 90 73 90 f_18_22 jw_1632 rfl rfl ?_
    refine s_27 74 rfl rfl ?_
    refine s_42 75 rfl rfl ?_
    refine s_180R 0 112 78 112 f_18_31 jw_1641 rfl rfl ?_
    refine s_27 79 rfl rfl ?_
    refine s_47 80 rfl ?_
    refine s_80 81 rfl (fun h2 => ?_)
    refine s_42 82 rfl rfl ?_
    refine s_180R 0 93 85 93 f_18_23 jw_1633 rfl rfl ?_
    refine s_27 86 rfl rfl ?_
    refine s_42 87 rfl rfl ?_
    refine s_180R 0 115 90 115 f_18_32 jw_1642 rfl rfl ?_
    refine s_27 91 rfl rfl ?_
    refine s_46 92 rfl ?_
    refine s_79 93 rfl (fun h3 => ?_)
    refine s_42 94 rfl rfl ?_
    refine s_180R 0 96 97 96 f_18_24 jw_1634 rfl rfl ?_
    refine s_27 98 rfl rfl ?_
    refine s_42 99 rfl rfl ?_
    refine s_180R 0 118 102 118 f_18_33 jw_1643 rfl rfl ?_
    refine s_27 103 rfl rfl ?_
    refine s_51Z 104 rfl ?_
    refine s_84Z 105 rfl (fun h4 => ?_)
    refine s_42 106 rfl rfl ?_
    refine s_180R 0 100 109 100 f_18_25 jw_1635 rfl rfl ?_
    refine s_27 110 rfl rfl ?_
    refine s_42 111 rfl rfl ?_
    refine s_180R 0 121 114 121 f_18_34 jw_1644 rfl rfl ?_
    refine s_27 115 rfl rfl ?_
    refine s_46 116 rfl ?_
    refine s_79 117 rfl (fun h5 => ?_)
    refine s_42 118 rfl rfl ?_
    refine s_180R 0 103 121 103 f_18_26 jw_1636 rfl rfl ?_
    refine s_27 122 rfl rfl ?_
    refine s_42 123 rfl rfl ?_
    refine s_180R 0 124 126 124 f_18_35 jw_1645 rfl rfl ?_
    refine s_27 127 rfl rfl ?_
    refine s_46 128 rfl ?_
    refine s_79 129 rfl (fun h6 => ?_)
    refine s_132L 1 1 132 1 ji_1 rfl rfl rfl (fun x7 => ?_)
    refine s_167 255 173 49 rfl rfl ?_
    exact s_jmp (hk49 _ _ _) ⟨rfl, rfl, trivial⟩
theorem w_18_back_49 (l : Launch)  (n : Nat) : ∀ a0 a1 H, JV l mi_18_back jeV 49 [(0, .ref a0), (1, .int a1)] [] H (F_18_back_49  n a0 a1 H) := by
  induction n with
  | zero => intro _ _ _; exact s_none
  | succ n ih => intro a0 a1 H; exact v_18_back_49 l (F_18_back_49  n) ih a0 a1 H
theorem v_18_back_18 (l : Launch) (k18 : Nat → Int32 → jH → Option (Unit × jH)) (hk18 : ∀ a0 a1 H, JV l mi_18_back jeV 18 [(0, .ref a0), (1, .int a1)] [] H (k18 a0 a1 H)) (a0 : Nat) (a1 : Int32) (H : jH) : JV l mi_18_back jeV 18 [(0, .ref a0), (1, .int a1)] [] H (B_18_back_18 k18 a0 a1 H) := by
  unfold B_18_back_18
  refine s_27 19 rfl rfl ?_
  refine s_16 32 21 32 jbp_32 rfl ?_
  refine s_42 22 rfl rfl ?_
  refine s_180I 0 183 25 183 f_18_17 jw_1627 rfl rfl ?_
  refine s_104 26 rfl ?_
  refine s_162 0 21 47 29 rfl rfl ?_ ?_
  · refine s_3 48 rfl ?_
    refine s_60 49 rfl rfl ?_
    exact s_jmp (w_18_back_49 l jfuel _ _ _) ⟨rfl, rfl, trivial⟩
  · refine s_42 30 rfl rfl ?_
    refine s_180R 0 83 33 83 f_18_20 jw_1630 rfl rfl ?_
    refine s_27 34 rfl rfl ?_
    refine s_42 35 rfl rfl ?_
    refine s_180R 0 106 38 106 f_18_29 jw_1639 rfl rfl ?_
    refine s_27 39 rfl rfl ?_
    refine s_51B 40 rfl ?_
    refine s_84B 41 rfl (fun h8 => ?_)
    refine s_132L 1 1 44 1 ji_1 rfl rfl rfl (fun x9 => ?_)
    refine s_167 255 230 18 rfl rfl ?_
    exact s_jmp (hk18 _ _ _) ⟨rfl, rfl, trivial⟩
theorem w_18_back_18 (l : Launch)  (n : Nat) : ∀ a0 a1 H, JV l mi_18_back jeV 18 [(0, .ref a0), (1, .int a1)] [] H (F_18_back_18  n a0 a1 H) := by
  induction n with
  | zero => intro _ _ _; exact s_none
  | succ n ih => intro a0 a1 H; exact v_18_back_18 l (F_18_back_18  n) ih a0 a1 H
theorem v_18_back (l : Launch) (a0 : Nat) (H : jH) : JV l mi_18_back jeV 0 [(0, .ref a0)] [] H (F_18_back a0 H) := by
  unfold F_18_back
  refine s_42 1 rfl rfl ?_
  refine s_42 2 rfl rfl ?_
  refine s_180I 1 68 5 324 f_18_27 jw_1637 rfl rfl ?_
  refine s_181I 0 183 8 183 f_18_17 rfl rfl jw_1627 rfl rfl (fun h10 => ?_)
  refine s_42 9 rfl rfl ?_
  refine s_42 10 rfl rfl ?_
  refine s_180I 1 71 13 327 f_18_28 jw_1638 rfl rfl ?_
  refine s_181I 0 191 16 191 f_18_18 rfl rfl jw_1628 rfl rfl (fun h11 => ?_)
  refine s_3 17 rfl ?_
  refine s_60 18 rfl rfl ?_
  exact s_jmp (w_18_back_18 l jfuel _ _ _) ⟨rfl, rfl, trivial⟩
theorem m_18_back (l : Launch) (a0 : Nat) (H : jH) : JMet l y_18_back prog_14_method_16_code mi_18_back jeV [.ref a0] H (F_18_back a0 H) := jmet_of n_18_back (by decide) ⟨rfl, rfl⟩ (Nat.le_of_ble_eq_true rfl) (v_18_back l a0 H)
def mi_18_faultOf : jM := (4040427951388937651215229655738077112710585833725691727102196727893825443710185287894671635270731167149480749329902174999518477998817891389076610656380794078174095181354142467745688867825711424343990871438074557196764485236279327689098782928274064562686617042496492708341073285152599102353587465743948680161196837018457573283578189415897778491439050679517821284131891017100391854501565892062033709765024895638082378332355710391736413663542068282709034619253367876074752896225647263702739964132080499504294563327146816278097791974881308359642995414197293348581347997798996002786813053078094164858053489700507194490039111500232585014401769161800944113149031178362459406813140809298532365514375038245732815503875388813774535761313888577193126822866593389354, 313, 5, "CoinNodeModel", some FieldType.int, "faultOf", 15, 358)
def y_18_faultOf : MethodName := ⟨"CoinNodeModel", "faultOf", "(I)I"⟩
theorem n_18_faultOf : jn_is prog_14_method_17_code mi_18_faultOf.1 mi_18_faultOf.2.1 := by unfold jn_is; decide +kernel
theorem k_18_faultOf : jmok y_18_faultOf prog_14_method_17_code mi_18_faultOf 1 := ⟨jw_2421, jw_14, ⟨by decide, by decide⟩, by decide +kernel⟩
theorem v_18_faultOf_206 (l : Launch)   (H : jH) : JV l mi_18_faultOf jeI 206 [] [] H (B_18_faultOf_206   H) := by
  unfold B_18_faultOf_206
  refine s_16 37 208 37 jbp_37 rfl ?_
  exact s_172 rfl rfl
theorem v_18_faultOf_224 (l : Launch) (k21 : Nat → Int32 → Int32 → jH → Option (Int32 × jH)) (hk21 : ∀ a0 a1 a2 H, JV l mi_18_faultOf jeI 21 [(0, .ref a0), (1, .int a1), (2, .int a2)] [] H (k21 a0 a1 a2 H)) (a0 : Nat) (a1 : Int32) (a2 : Int32) (s0 : Nat) (s1 : Int32) (s2 : Int32) (H : jH) : JV l mi_18_faultOf jeI 224 [(0, .ref a0), (1, .int a1), (2, .int a2)] [.int s2, .int s1, .ref s0] H (B_18_faultOf_224 k21 a0 a1 a2 s0 s1 s2 H) := by
  unfold B_18_faultOf_224
  refine s_182V 1 5 227 261 (m_18_apply l _ _ _ _) rfl k_18_apply jc_18 jw_1868 jw_1870 jps_65 rfl rfl rfl rfl rfl (fun x1 h2 => ?_)
  refine s_132L 2 1 230 1 ji_1 rfl rfl rfl (fun x3 => ?_)
  refine s_167 255 47 21 rfl rfl ?_
  exact s_jmp (hk21 _ _ _ _) ⟨rfl, rfl, rfl, trivial⟩
theorem v_18_faultOf_170 (l : Launch) (k21 : Nat → Int32 → Int32 → jH → Option (Int32 × jH)) (hk21 : ∀ a0 a1 a2 H, JV l mi_18_faultOf jeI 21 [(0, .ref a0), (1, .int a1), (2, .int a2)] [] H (k21 a0 a1 a2 H)) (a0 : Nat) (a1 : Int32) (a2 : Int32) (s0 : Int32) (H : jH) : JV l mi_18_faultOf jeI 170 [(0, .ref a0), (1, .int a1), (2, .int a2)] [.int s0] H (B_18_faultOf_170 k21 a0 a1 a2 s0 H) := by
  unfold B_18_faultOf_170
  refine s_54 4 172 rfl rfl ?_
  refine s_42 173 rfl rfl ?_
  refine s_180I 0 183 176 183 f_18_17 jw_1627 rfl rfl ?_
  refine s_21 4 178 rfl rfl ?_
  refine s_100 179 rfl ?_
  refine s_42 180 rfl rfl ?_
  refine s_180R 0 47 183 47 f_18_4 jw_1614 rfl rfl ?_
  refine s_180IN 0 213 186 213 f_17_5 jnf_14 rfl rfl ?_
  refine s_96 187 rfl ?_
  refine s_17 5 220 190 1500 jsp_5_220 rfl ?_
  refine s_163 0 16 206 193 rfl rfl ?_ ?_
  · exact s_jmp (v_18_faultOf_206 l _) trivial
  · refine s_42 194 rfl rfl ?_
    refine s_180I 0 191 197 191 f_18_18 jw_1628 rfl rfl ?_
    refine s_21 4 199 rfl rfl ?_
    refine s_96 200 rfl ?_
    refine s_17 11 184 203 3000 jsp_11_184 rfl ?_
    refine s_164 0 6 209 206 rfl rfl ?_ ?_
    · refine s_42 210 rfl rfl ?_
      refine s_42 211 rfl rfl ?_
      refine s_27 212 rfl rfl ?_
      refine s_182I 0 250 215 250 (m_18_height l _ _ _) rfl k_18_height jc_18 jw_1821 jw_1823 jps_58 rfl rfl rfl rfl rfl (fun x4 h5 => ?_)
      refine s_28 216 rfl rfl ?_
      refine s_154 0 7 223 219 rfl rfl ?_ ?_
      · refine s_3 224 rfl ?_
        exact s_jmp (v_18_faultOf_224 l k21 hk21 _ _ _ _ _ _ _) ⟨rfl, rfl, rfl, trivial⟩
      · refine s_4 220 rfl ?_
        refine s_167 0 4 224 rfl rfl ?_
        exact s_jmp (v_18_faultOf_224 l k21 hk21 _ _ _ _ _ _ _) ⟨rfl, rfl, rfl, trivial⟩
    · exact s_jmp (v_18_faultOf_206 l _) trivial
theorem v_18_faultOf_119 (l : Launch) (k21 : Nat → Int32 → Int32 → jH → Option (Int32 × jH)) (hk21 : ∀ a0 a1 a2 H, JV l mi_18_faultOf jeI 21 [(0, .ref a0), (1, .int a1), (2, .int a2)] [] H (k21 a0 a1 a2 H)) (k119 : Nat → Int32 → Int32 → Int32 → jH → Option (Int32 × jH)) (hk119 : ∀ a0 a1 a2 a4 H, JV l mi_18_faultOf jeI 119 [(0, .ref a0), (1, .int a1), (2, .int a2), (4, .int a4)] [] H (k119 a0 a1 a2 a4 H)) (a0 : Nat) (a1 : Int32) (a2 : Int32) (a4 : Int32) (H : jH) : JV l mi_18_faultOf jeI 119 [(0, .ref a0), (1, .int a1), (2, .int a2), (4, .int a4)] [] H (B_18_faultOf_119 k21 k119 a0 a1 a2 a4 H) := by
  unfold B_18_faultOf_119
  refine s_21 4 121 rfl rfl ?_
  refine s_42 122 rfl rfl ?_
  refine s_180R 0 47 125 47 f_18_4 jw_1614 rfl rfl ?_
  refine s_180IN 0 213 128 213 f_17_5 jnf_14 rfl rfl ?_
  refine s_162 0 27 155 131 rfl rfl ?_ ?_
  · refine s_28 156 rfl rfl ?_
    refine s_154 0 7 163 159 rfl rfl ?_ ?_
    · refine s_42 164 rfl rfl ?_
      refine s_180R 0 47 167 47 f_18_4 jw_1614 rfl rfl ?_
      refine s_180IN 0 194 170 194 f_17_4 jnf_12 rfl rfl ?_
      exact s_jmp (v_18_faultOf_170 l k21 hk21 _ _ _ _ _) ⟨rfl, rfl, rfl, trivial⟩
    · refine s_3 160 rfl ?_
      refine s_167 0 10 170 rfl rfl ?_
      exact s_jmp (v_18_faultOf_170 l k21 hk21 _ _ _ _ _) ⟨rfl, rfl, rfl, trivial⟩
  · refine s_42 132 rfl rfl ?_
    refine s_42 133 rfl rfl ?_
    refine s_180R 0 161 136 161 f_18_49 jw_1659 rfl rfl ?_
    refine s_3 137 rfl ?_
    refine s_21 4 139 rfl rfl ?_
    refine s_133 140 rfl ?_
    refine s_182I 0 205 143 205 (m_18_coin l _ _ _ _ _) rfl k_18_coin jc_18 jw_1872 jw_1874 jps_66 rfl rfl rfl rfl rfl (fun x6 h7 => ?_)
    refine s_155 0 6 149 146 rfl rfl ?_ ?_
    · refine s_132L 4 1 152 1 ji_1 rfl rfl rfl (fun x8 => ?_)
      refine s_167 255 223 119 rfl rfl ?_
      exact s_jmp (hk119 _ _ _ _ _) ⟨rfl, rfl, rfl, rfl, trivial⟩
    · refine s_16 36 148 36 jbp_36 rfl ?_
      exact s_172 rfl rfl
theorem w_18_faultOf_119 (l : Launch) (k21 : Nat → Int32 → Int32 → jH → Option (Int32 × jH)) (hk21 : ∀ a0 a1 a2 H, JV l mi_18_faultOf jeI 21 [(0, .ref a0), (1, .int a1), (2, .int a2)] [] H (k21 a0 a1 a2 H)) (n : Nat) : ∀ a0 a1 a2 a4 H, JV l mi_18_faultOf jeI 119 [(0, .ref a0), (1, .int a1), (2, .int a2), (4, .int a4)] [] H (F_18_faultOf_119 k21 n a0 a1 a2 a4 H) := by
  induction n with
  | zero => intro _ _ _ _ _; exact s_none
  | succ n ih => intro a0 a1 a2 a4 H; exact v_18_faultOf_119 l k21 hk21 (F_18_faultOf_119 k21 n) ih a0 a1 a2 a4 H
theorem v_18_faultOf_109 (l : Launch) (k21 : Nat → Int32 → Int32 → jH → Option (Int32 × jH)) (hk21 : ∀ a0 a1 a2 H, JV l mi_18_faultOf jeI 21 [(0, .ref a0), (1, .int a1), (2, .int a2)] [] H (k21 a0 a1 a2 H)) (a0 : Nat) (a1 : Int32) (a2 : Int32) (s0 : Int32) (H : jH) : JV l mi_18_faultOf jeI 109 [(0, .ref a0), (1, .int a1), (2, .int a2)] [.int s0] H (B_18_faultOf_109 k21 a0 a1 a2 s0 H) := by
  unfold B_18_faultOf_109
  refine s_jmp (ls' := [(0, .ref a0), (1, .int a1), (2, .int a2)]) ?_ ⟨rfl, rfl, rfl, trivial⟩
  refine s_62 110 rfl rfl ?_
  refine s_29 111 rfl rfl ?_
  refine s_158 0 5 116 114 rfl rfl ?_ ?_
  · refine s_3 117 rfl ?_
    refine s_54 4 119 rfl rfl ?_
    exact s_jmp (w_18_faultOf_119 l k21 hk21 jfuel _ _ _ _ _) ⟨rfl, rfl, rfl, rfl, trivial⟩
  · refine s_29 115 rfl rfl ?_
    exact s_172 rfl rfl
theorem v_18_faultOf_57 (l : Launch) (k21 : Nat → Int32 → Int32 → jH → Option (Int32 × jH)) (hk21 : ∀ a0 a1 a2 H, JV l mi_18_faultOf jeI 21 [(0, .ref a0), (1, .int a1), (2, .int a2)] [] H (k21 a0 a1 a2 H)) (k57 : Nat → Int32 → Int32 → Int32 → jH → Option (Int32 × jH)) (hk57 : ∀ a0 a1 a2 a3 H, JV l mi_18_faultOf jeI 57 [(0, .ref a0), (1, .int a1), (2, .int a2), (3, .int a3)] [] H (k57 a0 a1 a2 a3 H)) (a0 : Nat) (a1 : Int32) (a2 : Int32) (a3 : Int32) (H : jH) : JV l mi_18_faultOf jeI 57 [(0, .ref a0), (1, .int a1), (2, .int a2), (3, .int a3)] [] H (B_18_faultOf_57 k21 k57 a0 a1 a2 a3 H) := by
  unfold B_18_faultOf_57
  refine s_29 58 rfl rfl ?_
  refine s_16 32 60 32 jbp_32 rfl ?_
  refine s_162 0 32 92 63 rfl rfl ?_ ?_
  · refine s_28 93 rfl rfl ?_
    refine s_154 0 7 100 96 rfl rfl ?_ ?_
    · refine s_42 101 rfl rfl ?_
      refine s_42 102 rfl rfl ?_
      refine s_27 103 rfl rfl ?_
      refine s_182I 0 250 106 250 (m_18_height l _ _ _) rfl k_18_height jc_18 jw_1821 jw_1823 jps_58 rfl rfl rfl rfl rfl (fun x9 h10 => ?_)
      refine s_182I 1 77 109 333 (m_18_wrong l _ _ _) rfl k_18_wrong jc_18 jw_2422 jw_2424 jps_157 rfl rfl rfl rfl rfl (fun x11 h12 => ?_)
      exact s_jmp (v_18_faultOf_109 l k21 hk21 _ _ _ _ _) ⟨rfl, rfl, rfl, trivial⟩
    · refine s_3 97 rfl ?_
      refine s_167 0 12 109 rfl rfl ?_
      exact s_jmp (v_18_faultOf_109 l k21 hk21 _ _ _ _ _) ⟨rfl, rfl, rfl, trivial⟩
  · refine s_42 64 rfl rfl ?_
    refine s_180R 0 161 67 161 f_18_49 jw_1659 rfl rfl ?_
    refine s_29 68 rfl rfl ?_
    refine s_42 69 rfl rfl ?_
    refine s_180R 0 73 72 73 f_18_11 jw_1621 rfl rfl ?_
    refine s_17 1 128 75 384 jsp_1_128 rfl ?_
    refine s_27 76 rfl rfl ?_
    refine s_104 77 rfl ?_
    refine s_16 32 79 32 jbp_32 rfl ?_
    refine s_28 80 rfl rfl ?_
    refine s_104 81 rfl ?_
    refine s_96 82 rfl ?_
    refine s_29 83 rfl rfl ?_
    refine s_96 84 rfl ?_
    refine s_51B 85 rfl ?_
    refine s_84B 86 rfl (fun h13 => ?_)
    refine s_132L 3 1 89 1 ji_1 rfl rfl rfl (fun x14 => ?_)
    refine s_167 255 224 57 rfl rfl ?_
    exact s_jmp (hk57 _ _ _ _ _) ⟨rfl, rfl, rfl, rfl, trivial⟩
theorem w_18_faultOf_57 (l : Launch) (k21 : Nat → Int32 → Int32 → jH → Option (Int32 × jH)) (hk21 : ∀ a0 a1 a2 H, JV l mi_18_faultOf jeI 21 [(0, .ref a0), (1, .int a1), (2, .int a2)] [] H (k21 a0 a1 a2 H)) (n : Nat) : ∀ a0 a1 a2 a3 H, JV l mi_18_faultOf jeI 57 [(0, .ref a0), (1, .int a1), (2, .int a2), (3, .int a3)] [] H (F_18_faultOf_57 k21 n a0 a1 a2 a3 H) := by
  induction n with
  | zero => intro _ _ _ _ _; exact s_none
  | succ n ih => intro a0 a1 a2 a3 H; exact v_18_faultOf_57 l k21 hk21 (F_18_faultOf_57 k21 n) ih a0 a1 a2 a3 H
theorem v_18_faultOf_312 (l : Launch)  (s0 : Int32) (H : jH) : JV l mi_18_faultOf jeI 312 [] [.int s0] H (B_18_faultOf_312  s0 H) := by
  unfold B_18_faultOf_312
  exact s_172 rfl rfl
theorem v_18_faultOf_264 (l : Launch) (k264 : Nat → Int32 → Int64 → Int32 → jH → Option (Int32 × jH)) (hk264 : ∀ a0 a1 a2 a4 H, JV l mi_18_faultOf jeI 264 [(0, .ref a0), (1, .int a1), (2, .long a2), (4, .int a4)] [] H (k264 a0 a1 a2 a4 H)) (a0 : Nat) (a1 : Int32) (a2 : Int64) (a4 : Int32) (H : jH) : JV l mi_18_faultOf jeI 264 [(0, .ref a0), (1, .int a1), (2, .long a2), (4, .int a4)] [] H (B_18_faultOf_264 k264 a0 a1 a2 a4 H) := by
  unfold B_18_faultOf_264
  refine s_21 4 266 rfl rfl ?_
  refine s_42 267 rfl rfl ?_
  refine s_27 268 rfl rfl ?_
  refine s_182I 0 250 271 250 (m_18_height l _ _ _) rfl k_18_height jc_18 jw_1821 jw_1823 jps_58 rfl rfl rfl rfl rfl (fun x15 h16 => ?_)
  refine s_16 32 273 32 jbp_32 rfl ?_
  refine s_108 274 rfl ?_
  refine s_162 0 15 289 277 rfl rfl ?_ ?_
  · refine s_42 290 rfl rfl ?_
    refine s_180R 0 47 293 47 f_18_4 jw_1614 rfl rfl ?_
    refine s_182L 1 41 296 297 (m_17_sum l _ _) rfl k_17_sum jc_17 jw_1931 jw_1932 jw_1933 rfl rfl rfl rfl rfl (fun x17 h18 => ?_)
    refine s_32 297 rfl rfl ?_
    refine s_42 298 rfl rfl ?_
    refine s_180L 1 49 301 305 f_18_19 jw_1629 rfl rfl ?_
    refine s_97 302 rfl ?_
    refine s_148_158 0 8 311 303 306 rfl rfl rfl ?_ ?_
    · refine s_3 312 rfl ?_
      exact s_jmp (v_18_faultOf_312 l _ _) trivial
    · refine s_16 35 308 35 jbp_35 rfl ?_
      refine s_167 0 4 312 rfl rfl ?_
      exact s_jmp (v_18_faultOf_312 l _ _) trivial
  · refine s_32 278 rfl rfl ?_
    refine s_20 1 82 281 338 2 rfl jw_2427 rfl ?_
    refine s_109 282 rfl ?_
    refine s_jmp (ls' := [(0, .ref a0), (1, .int a1), (2, .long a2), (4, .int a4)]) ?_ ⟨rfl, rfl, rfl, rfl, trivial⟩
    refine s_65L 283 rfl rfl (fun x19 => ?_)
    refine s_132L 4 1 286 1 ji_1 rfl rfl rfl (fun x20 => ?_)
    refine s_167 255 234 264 rfl rfl ?_
    exact s_jmp (hk264 _ _ _ _ _) ⟨rfl, rfl, rfl, rfl, trivial⟩
theorem w_18_faultOf_264 (l : Launch)  (n : Nat) : ∀ a0 a1 a2 a4 H, JV l mi_18_faultOf jeI 264 [(0, .ref a0), (1, .int a1), (2, .long a2), (4, .int a4)] [] H (F_18_faultOf_264  n a0 a1 a2 a4 H) := by
  induction n with
  | zero => intro _ _ _ _ _; exact s_none
  | succ n ih => intro a0 a1 a2 a4 H; exact v_18_faultOf_264 l (F_18_faultOf_264  n) ih a0 a1 a2 a4 H
theorem v_18_faultOf_21 (l : Launch) (k21 : Nat → Int32 → Int32 → jH → Option (Int32 × jH)) (hk21 : ∀ a0 a1 a2 H, JV l mi_18_faultOf jeI 21 [(0, .ref a0), (1, .int a1), (2, .int a2)] [] H (k21 a0 a1 a2 H)) (a0 : Nat) (a1 : Int32) (a2 : Int32) (H : jH) : JV l mi_18_faultOf jeI 21 [(0, .ref a0), (1, .int a1), (2, .int a2)] [] H (B_18_faultOf_21 k21 a0 a1 a2 H) := by
  unfold B_18_faultOf_21
  refine s_28 22 rfl rfl ?_
  refine s_42 23 rfl rfl ?_
  refine s_180I 0 232 26 232 f_18_14 jw_1624 rfl rfl ?_
  refine s_162 0 207 233 29 rfl rfl ?_ ?_
  · refine s_42 234 rfl rfl ?_
    refine s_180R 0 47 237 47 f_18_4 jw_1614 rfl rfl ?_
    refine s_42 238 rfl rfl ?_
    refine s_180R 0 55 241 55 f_18_6 jw_1616 rfl rfl ?_
    refine s_42 242 rfl rfl ?_
    refine s_180R 0 79 245 79 f_18_15 jw_1625 rfl rfl ?_
    refine s_3 246 rfl ?_
    refine s_46 247 rfl ?_
    refine s_42 248 rfl rfl ?_
    refine s_180R 0 79 251 79 f_18_15 jw_1625 rfl rfl ?_
    refine s_4 252 rfl ?_
    refine s_46 253 rfl ?_
    refine s_182I 0 235 256 235 (m_17_read l _ _ _ _ _) rfl k_17_read jc_17 jw_1846 jw_1847 jw_1848 rfl rfl rfl rfl rfl (fun x21 h22 => ?_)
    refine s_87 257 rfl rfl ?_
    refine s_20 1 80 260 336 5000000000 rfl jw_2426 rfl ?_
    refine s_jmp (ls' := [(0, .ref a0), (1, .int a1), (2, .int a2)]) ?_ ⟨rfl, rfl, rfl, trivial⟩
    refine s_65 261 rfl rfl ?_
    refine s_3 262 rfl ?_
    refine s_54 4 264 rfl rfl ?_
    exact s_jmp (w_18_faultOf_264 l jfuel _ _ _ _ _) ⟨rfl, rfl, rfl, rfl, trivial⟩
  · refine s_42 30 rfl rfl ?_
    refine s_180R 0 47 33 47 f_18_4 jw_1614 rfl rfl ?_
    refine s_42 34 rfl rfl ?_
    refine s_180R 0 55 37 55 f_18_6 jw_1616 rfl rfl ?_
    refine s_42 38 rfl rfl ?_
    refine s_180R 0 79 41 79 f_18_15 jw_1625 rfl rfl ?_
    refine s_28 42 rfl rfl ?_
    refine s_46 43 rfl ?_
    refine s_42 44 rfl rfl ?_
    refine s_180R 0 79 47 79 f_18_15 jw_1625 rfl rfl ?_
    refine s_28 48 rfl rfl ?_
    refine s_4 49 rfl ?_
    refine s_96 50 rfl ?_
    refine s_46 51 rfl ?_
    refine s_182I 0 235 54 235 (m_17_read l _ _ _ _ _) rfl k_17_read jc_17 jw_1846 jw_1847 jw_1848 rfl rfl rfl rfl rfl (fun x23 h24 => ?_)
    refine s_87 55 rfl rfl ?_
    refine s_3 56 rfl ?_
    refine s_jmp (ls' := [(0, .ref a0), (1, .int a1), (2, .int a2)]) ?_ ⟨rfl, rfl, rfl, trivial⟩
    refine s_62 57 rfl rfl ?_
    exact s_jmp (w_18_faultOf_57 l k21 hk21 jfuel _ _ _ _ _) ⟨rfl, rfl, rfl, rfl, trivial⟩
theorem w_18_faultOf_21 (l : Launch)  (n : Nat) : ∀ a0 a1 a2 H, JV l mi_18_faultOf jeI 21 [(0, .ref a0), (1, .int a1), (2, .int a2)] [] H (F_18_faultOf_21  n a0 a1 a2 H) := by
  induction n with
  | zero => intro _ _ _ _; exact s_none
  | succ n ih => intro a0 a1 a2 H; exact v_18_faultOf_21 l (F_18_faultOf_21  n) ih a0 a1 a2 H
theorem v_18_faultOf (l : Launch) (a0 : Nat) (a1 : Int32) (H : jH) : JV l mi_18_faultOf jeI 0 [(0, .ref a0), (1, .int a1)] [] H (F_18_faultOf a0 a1 H) := by
  unfold F_18_faultOf
  refine s_42 1 rfl rfl ?_
  refine s_27 2 rfl rfl ?_
  refine s_182V 1 2 5 258 (m_18_openBlock l _ _ _) rfl k_18_openBlock jc_18 jw_1838 jw_1840 jps_60 rfl rfl rfl rfl rfl (fun x25 h26 => ?_)
  refine s_42 6 rfl rfl ?_
  refine s_9 7 rfl ?_
  refine s_181L 1 49 10 305 f_18_19 rfl rfl jw_1629 rfl rfl (fun h27 => ?_)
  refine s_42 11 rfl rfl ?_
  refine s_180R 0 30 14 30 f_18_2 jw_1612 rfl rfl ?_
  refine s_16 24 16 24 jbp_24 rfl ?_
  refine s_181IN 1 74 19 330 f_14_8 rfl rfl jnf_5 rfl rfl (fun h28 => ?_)
  refine s_3 20 rfl ?_
  refine s_61 21 rfl rfl ?_
  exact s_jmp (w_18_faultOf_21 l jfuel _ _ _ _) ⟨rfl, rfl, rfl, trivial⟩
theorem m_18_faultOf (l : Launch) (a0 : Nat) (a1 : Int32) (H : jH) : JMet l y_18_faultOf prog_14_method_17_code mi_18_faultOf jeI [.ref a0, .int a1] H (F_18_faultOf a0 a1 H) := jmet_of n_18_faultOf (by decide) ⟨rfl, rfl⟩ (Nat.le_of_ble_eq_true rfl) (v_18_faultOf l a0 a1 H)
def mi_18_keep : jM := (2301617154769920915509912096328158499586464524977151323568198194792311986826094169028445096595522160472479428213365188888959588888268964229447355351166345484040904648108426121768113103150611315036944453823220056773381729781056049348620078337534036396497493045510999179071893530312903599744517894707800858259011612493815190137386, 136, 2, "CoinNodeModel", none, "keep", 0, 0)
def y_18_keep : MethodName := ⟨"CoinNodeModel", "keep", "()V"⟩
theorem n_18_keep : jn_is prog_14_method_15_code mi_18_keep.1 mi_18_keep.2.1 := by unfold jn_is; decide +kernel
theorem k_18_keep : jmok y_18_keep prog_14_method_15_code mi_18_keep 0 := ⟨jw_2417, jw_14, ⟨by decide, by decide⟩, by decide +kernel⟩
theorem v_18_keep_49 (l : Launch) (k49 : Nat → Int32 → jH → Option (Unit × jH)) (hk49 : ∀ a0 a1 H, JV l mi_18_keep jeV 49 [(0, .ref a0), (1, .int a1)] [] H (k49 a0 a1 H)) (a0 : Nat) (a1 : Int32) (H : jH) : JV l mi_18_keep jeV 49 [(0, .ref a0), (1, .int a1)] [] H (B_18_keep_49 k49 a0 a1 H) := by
  unfold B_18_keep_49
  refine s_27 50 rfl rfl ?_
  refine s_42 51 rfl rfl ?_
  refine s_180I 0 183 54 183 f_18_17 jw_1627 rfl rfl ?_
  refine s_162 0 81 135 57 rfl rfl ?_ ?_
  · exact s_177 rfl rfl
  · refine s_42 58 rfl rfl ?_
    refine s_180R 0 109 61 109 f_18_30 jw_1640 rfl rfl ?_
    refine s_27 62 rfl rfl ?_
    refine s_42 63 rfl rfl ?_
    refine s_180R 0 86 66 86 f_18_21 jw_1631 rfl rfl ?_
    refine s_27 67 rfl rfl ?_
    refine s_47 68 rfl ?_
    refine s_80 69 rfl (fun h1 => ?_)
    refine s_42 70 rfl rfl ?_
    refine s_180R 0 112 73 112 f_18_31 jw_1641 rfl rfl ?_
    refine s_27 74 rfl rfl ?_
    refine s_42 75 rfl rfl ?_
    refine s_180R 0 90 78 90 f_18_22 jw_1632 rfl rfl ?_
    refine s_27 79 rfl rfl ?_
    refine s_47 80 rfl ?_
    refine s_80 81 rfl (fun h2 => ?_)
    refine s_42 82 rfl rfl ?_
    refine s_180R 0 115 85 115 f_18_32 jw_1642 rfl rfl ?_
    refine s_27 86 rfl rfl ?_
    refine s_42 87 rfl rfl ?_
    refine s_180R 0 93 90 93 f_18_23 jw_1633 rfl rfl ?_
    refine s_27 91 rfl rfl ?_
    refine s_46 92 rfl ?_
    refine s_79 93 rfl (fun h3 => ?_)
    refine s_42 94 rfl rfl ?_
    refine s_180R 0 118 97 118 f_18_33 jw_1643 rfl rfl ?_
    refine s_27 98 rfl rfl ?_
    refine s_42 99 rfl rfl ?_
    refine s_180R 0 96 102 96 f_18_24 jw_1634 rfl rfl ?_
    refine s_27 103 rfl rfl ?_
    refine s_51Z 104 rfl ?_
    refine s_84Z 105 rfl (fun h4 => ?_)
    refine s_42 106 rfl rfl ?_
    refine s_180R 0 121 109 121 f_18_34 jw_1644 rfl rfl ?_
    refine s_27 110 rfl rfl ?_
    refine s_42 111 rfl rfl ?_
    refine s_180R 0 100 114 100 f_18_25 jw_1635 rfl rfl ?_
    refine s_27 115 rfl rfl ?_
    refine s_46 116 rfl ?_
    refine s_79 117 rfl (fun h5 => ?_)
    refine s_42 118 rfl rfl ?_
    refine s_180R 0 124 121 124 f_18_35 jw_1645 rfl rfl ?_
    refine s_27 122 rfl rfl ?_
    refine s_42 123 rfl rfl ?_
    refine s_180R 0 103 126 103 f_18_26 jw_1636 rfl rfl ?_
    refine s_27 127 rfl rfl ?_
    refine s_46 128 rfl ?_
    refine s_79 129 rfl (fun h6 => ?_)
    refine s_132L 1 1 132 1 ji_1 rfl rfl rfl (fun x7 => ?_)
    refine s_167 255 173 49 rfl rfl ?_
    exact s_jmp (hk49 _ _ _) ⟨rfl, rfl, trivial⟩
theorem w_18_keep_49 (l : Launch)  (n : Nat) : ∀ a0 a1 H, JV l mi_18_keep jeV 49 [(0, .ref a0), (1, .int a1)] [] H (F_18_keep_49  n a0 a1 H) := by
  induction n with
  | zero => intro _ _ _; exact s_none
  | succ n ih => intro a0 a1 H; exact v_18_keep_49 l (F_18_keep_49  n) ih a0 a1 H
theorem v_18_keep_18 (l : Launch) (k18 : Nat → Int32 → jH → Option (Unit × jH)) (hk18 : ∀ a0 a1 H, JV l mi_18_keep jeV 18 [(0, .ref a0), (1, .int a1)] [] H (k18 a0 a1 H)) (a0 : Nat) (a1 : Int32) (H : jH) : JV l mi_18_keep jeV 18 [(0, .ref a0), (1, .int a1)] [] H (B_18_keep_18 k18 a0 a1 H) := by
  unfold B_18_keep_18
  refine s_27 19 rfl rfl ?_
  refine s_16 32 21 32 jbp_32 rfl ?_
  refine s_42 22 rfl rfl ?_
  refine s_180I 0 183 25 183 f_18_17 jw_1627 rfl rfl ?_
  refine s_104 26 rfl ?_
  refine s_162 0 21 47 29 rfl rfl ?_ ?_
  · refine s_3 48 rfl ?_
    refine s_60 49 rfl rfl ?_
    exact s_jmp (w_18_keep_49 l jfuel _ _ _) ⟨rfl, rfl, trivial⟩
  · refine s_42 30 rfl rfl ?_
    refine s_180R 0 106 33 106 f_18_29 jw_1639 rfl rfl ?_
    refine s_27 34 rfl rfl ?_
    refine s_42 35 rfl rfl ?_
    refine s_180R 0 83 38 83 f_18_20 jw_1630 rfl rfl ?_
    refine s_27 39 rfl rfl ?_
    refine s_51B 40 rfl ?_
    refine s_84B 41 rfl (fun h8 => ?_)
    refine s_132L 1 1 44 1 ji_1 rfl rfl rfl (fun x9 => ?_)
    refine s_167 255 230 18 rfl rfl ?_
    exact s_jmp (hk18 _ _ _) ⟨rfl, rfl, trivial⟩
theorem w_18_keep_18 (l : Launch)  (n : Nat) : ∀ a0 a1 H, JV l mi_18_keep jeV 18 [(0, .ref a0), (1, .int a1)] [] H (F_18_keep_18  n a0 a1 H) := by
  induction n with
  | zero => intro _ _ _; exact s_none
  | succ n ih => intro a0 a1 H; exact v_18_keep_18 l (F_18_keep_18  n) ih a0 a1 H
theorem v_18_keep (l : Launch) (a0 : Nat) (H : jH) : JV l mi_18_keep jeV 0 [(0, .ref a0)] [] H (F_18_keep a0 H) := by
  unfold F_18_keep
  refine s_42 1 rfl rfl ?_
  refine s_42 2 rfl rfl ?_
  refine s_180I 0 183 5 183 f_18_17 jw_1627 rfl rfl ?_
  refine s_181I 1 68 8 324 f_18_27 rfl rfl jw_1637 rfl rfl (fun h10 => ?_)
  refine s_42 9 rfl rfl ?_
  refine s_42 10 rfl rfl ?_
  refine s_180I 0 191 13 191 f_18_18 jw_1628 rfl rfl ?_
  refine s_181I 1 71 16 327 f_18_28 rfl rfl jw_1638 rfl rfl (fun h11 => ?_)
  refine s_3 17 rfl ?_
  refine s_60 18 rfl rfl ?_
  exact s_jmp (w_18_keep_18 l jfuel _ _ _) ⟨rfl, rfl, trivial⟩
theorem m_18_keep (l : Launch) (a0 : Nat) (H : jH) : JMet l y_18_keep prog_14_method_15_code mi_18_keep jeV [.ref a0] H (F_18_keep a0 H) := jmet_of n_18_keep (by decide) ⟨rfl, rfl⟩ (Nat.le_of_ble_eq_true rfl) (v_18_keep l a0 H)
def mi_18_look : jM := (85594484697974984151776172512277689686753467920630586747433156966513960913706238963558954, 37, 3, "CoinNodeModel", some FieldType.int, "look", 16, 382)
def y_18_look : MethodName := ⟨"CoinNodeModel", "look", "(I)I"⟩
theorem n_18_look : jn_is prog_14_method_14_code mi_18_look.1 mi_18_look.2.1 := by unfold jn_is; decide +kernel
theorem k_18_look : jmok y_18_look prog_14_method_14_code mi_18_look 1 := ⟨jw_2409, jw_14, ⟨by decide, by decide⟩, by decide +kernel⟩
theorem v_18_look_35 (l : Launch)  (a2 : Int32) (H : jH) : JV l mi_18_look jeI 35 [(2, .int a2)] [] H (B_18_look_35  a2 H) := by
  unfold B_18_look_35
  refine s_28 36 rfl rfl ?_
  exact s_172 rfl rfl
theorem v_18_look (l : Launch) (a0 : Nat) (a1 : Int32) (H : jH) : JV l mi_18_look jeI 0 [(0, .ref a0), (1, .int a1)] [] H (F_18_look a0 a1 H) := by
  unfold F_18_look
  refine s_42 1 rfl rfl ?_
  refine s_42 2 rfl rfl ?_
  refine s_27 3 rfl rfl ?_
  refine s_182I 1 53 6 309 (m_18_parent l _ _ _) rfl k_18_parent jc_18 jw_2410 jw_2412 jps_154 rfl rfl rfl rfl rfl (fun x1 h2 => ?_)
  refine s_182V 1 56 9 312 (m_18_need l _ _ _) rfl k_18_need jc_18 jw_1817 jw_1819 jps_57 rfl rfl rfl rfl rfl (fun x3 h4 => ?_)
  refine s_42 10 rfl rfl ?_
  refine s_182V 1 59 13 315 (m_18_keep l _ _) rfl k_18_keep jc_18 jw_2414 jw_2416 jps_155 rfl rfl rfl rfl rfl (fun x5 h6 => ?_)
  refine s_42 14 rfl rfl ?_
  refine s_27 15 rfl rfl ?_
  refine s_182I 1 62 18 318 (m_18_faultOf l _ _ _) rfl k_18_faultOf jc_18 jw_2418 jw_2420 jps_156 rfl rfl rfl rfl rfl (fun x7 h8 => ?_)
  refine s_61 19 rfl rfl ?_
  refine s_28 20 rfl rfl ?_
  refine s_154 0 11 31 23 rfl rfl ?_ ?_
  · refine s_42 32 rfl rfl ?_
    refine s_182V 1 65 35 321 (m_18_back l _ _) rfl k_18_back jc_18 jw_2428 jw_2430 jps_158 rfl rfl rfl rfl rfl (fun x9 h10 => ?_)
    exact s_jmp (v_18_look_35 l _ _) ⟨rfl, trivial⟩
  · refine s_42 24 rfl rfl ?_
    refine s_27 25 rfl rfl ?_
    refine s_181I 0 247 28 247 f_18_16 rfl rfl jw_1626 rfl rfl (fun h11 => ?_)
    refine s_167 0 7 35 rfl rfl ?_
    exact s_jmp (v_18_look_35 l _ _) ⟨rfl, trivial⟩
theorem m_18_look (l : Launch) (a0 : Nat) (a1 : Int32) (H : jH) : JMet l y_18_look prog_14_method_14_code mi_18_look jeI [.ref a0, .int a1] H (F_18_look a0 a1 H) := jmet_of n_18_look (by decide) ⟨rfl, rfl⟩ (Nat.le_of_ble_eq_true rfl) (v_18_look l a0 a1 H)
def mi_16_fork : jM := (103481290615872317276728590914380728521763884249726486814410537086394939310279315372134145838566090983343954205482, 47, 4, "CoinNodeModel$Tree", some FieldType.int, "fork", 2, 44)
def y_16_fork : MethodName := ⟨"CoinNodeModel$Tree", "fork", "(II)I"⟩
theorem n_16_fork : jn_is prog_20_method_26_code mi_16_fork.1 mi_16_fork.2.1 := by unfold jn_is; decide +kernel
theorem k_16_fork : jmok y_16_fork prog_20_method_26_code mi_16_fork 2 := ⟨jw_2405, jw_19, ⟨by decide, by decide⟩, by decide +kernel⟩
theorem v_16_fork_16 (l : Launch)   (H : jH) : JV l mi_16_fork jeI 16 [] [] H (B_16_fork_16   H) := by
  unfold B_16_fork_16
  refine s_2 17 rfl ?_
  exact s_172 rfl rfl
theorem v_16_fork_20 (l : Launch) (k20 : Nat → Int32 → Int32 → jH → Option (Int32 × jH)) (hk20 : ∀ a0 a2 a3 H, JV l mi_16_fork jeI 20 [(0, .ref a0), (2, .int a2), (3, .int a3)] [] H (k20 a0 a2 a3 H)) (a0 : Nat) (a2 : Int32) (a3 : Int32) (H : jH) : JV l mi_16_fork jeI 20 [(0, .ref a0), (2, .int a2), (3, .int a3)] [] H (B_16_fork_20 k20 a0 a2 a3 H) := by
  unfold B_16_fork_20
  refine s_42 21 rfl rfl ?_
  refine s_28 22 rfl rfl ?_
  refine s_42 23 rfl rfl ?_
  refine s_180R 0 13 26 13 f_16_3 jw_1474 rfl rfl ?_
  refine s_29 27 rfl rfl ?_
  refine s_46 28 rfl ?_
  refine s_182I 0 108 31 108 (m_16_below l _ _ _ _) rfl k_16_below jc_16 jw_2331 jw_1835 jw_1836 rfl rfl rfl rfl rfl (fun x1 h2 => ?_)
  refine s_29 32 rfl rfl ?_
  refine s_159 0 13 45 35 rfl rfl ?_ ?_
  · refine s_29 46 rfl rfl ?_
    exact s_172 rfl rfl
  · refine s_42 36 rfl rfl ?_
    refine s_180R 0 7 39 7 f_16_2 jw_1473 rfl rfl ?_
    refine s_29 40 rfl rfl ?_
    refine s_46 41 rfl ?_
    refine s_62L 42 rfl rfl (fun x3 => ?_)
    refine s_167 255 234 20 rfl rfl ?_
    exact s_jmp (hk20 _ _ _ _) ⟨rfl, rfl, rfl, trivial⟩
theorem w_16_fork_20 (l : Launch)  (n : Nat) : ∀ a0 a2 a3 H, JV l mi_16_fork jeI 20 [(0, .ref a0), (2, .int a2), (3, .int a3)] [] H (F_16_fork_20  n a0 a2 a3 H) := by
  induction n with
  | zero => intro _ _ _ _; exact s_none
  | succ n ih => intro a0 a2 a3 H; exact v_16_fork_20 l (F_16_fork_20  n) ih a0 a2 a3 H
theorem v_16_fork (l : Launch) (a0 : Nat) (a1 : Int32) (a2 : Int32) (H : jH) : JV l mi_16_fork jeI 0 [(0, .ref a0), (1, .int a1), (2, .int a2)] [] H (F_16_fork a0 a1 a2 H) := by
  unfold F_16_fork
  refine s_42 1 rfl rfl ?_
  refine s_27 2 rfl rfl ?_
  refine s_182I 0 102 5 102 (m_16_isBlock l _ _ _) rfl k_16_isBlock jc_16 jw_1829 jw_1831 jps_59 rfl rfl rfl rfl rfl (fun x4 h5 => ?_)
  refine s_153 0 11 16 8 rfl rfl ?_ ?_
  · exact s_jmp (v_16_fork_16 l _) trivial
  · refine s_42 9 rfl rfl ?_
    refine s_28 10 rfl rfl ?_
    refine s_182I 0 102 13 102 (m_16_isBlock l _ _ _) rfl k_16_isBlock jc_16 jw_1829 jw_1831 jps_59 rfl rfl rfl rfl rfl (fun x6 h7 => ?_)
    refine s_154 0 5 18 16 rfl rfl ?_ ?_
    · refine s_27 19 rfl rfl ?_
      refine s_62 20 rfl rfl ?_
      exact s_jmp (w_16_fork_20 l jfuel _ _ _ _) ⟨rfl, rfl, rfl, trivial⟩
    · exact s_jmp (v_16_fork_16 l _) trivial
theorem m_16_fork (l : Launch) (a0 : Nat) (a1 : Int32) (a2 : Int32) (H : jH) : JMet l y_16_fork prog_20_method_26_code mi_16_fork jeI [.ref a0, .int a1, .int a2] H (F_16_fork a0 a1 a2 H) := jmet_of n_16_fork (by decide) ⟨rfl, rfl⟩ (Nat.le_of_ble_eq_true rfl) (v_16_fork l a0 a1 a2 H)
def mi_16_spoil : jM := (182831092260465602995519711372374974814504888924632975376369181300832363653069453246271355381974731101182282804141688497781946509853216778334352236412721903638479673523266805930741078826, 77, 4, "CoinNodeModel$Tree", some FieldType.int, "spoil", 2, 44)
def y_16_spoil : MethodName := ⟨"CoinNodeModel$Tree", "spoil", "(I)I"⟩
theorem n_16_spoil : jn_is prog_20_method_20_code mi_16_spoil.1 mi_16_spoil.2.1 := by unfold jn_is; decide +kernel
theorem k_16_spoil : jmok y_16_spoil prog_20_method_20_code mi_16_spoil 1 := ⟨jw_2435, jw_19, ⟨by decide, by decide⟩, by decide +kernel⟩
theorem v_16_spoil_21 (l : Launch)   (H : jH) : JV l mi_16_spoil jeI 21 [] [] H (B_16_spoil_21   H) := by
  unfold B_16_spoil_21
  refine s_3 22 rfl ?_
  exact s_172 rfl rfl
theorem v_16_spoil_69 (l : Launch) (k27 : Nat → Int32 → Int32 → Int32 → jH → Option (Int32 × jH)) (hk27 : ∀ a0 a1 a2 a3 H, JV l mi_16_spoil jeI 27 [(0, .ref a0), (1, .int a1), (2, .int a2), (3, .int a3)] [] H (k27 a0 a1 a2 a3 H)) (a0 : Nat) (a1 : Int32) (a2 : Int32) (a3 : Int32) (H : jH) : JV l mi_16_spoil jeI 69 [(0, .ref a0), (1, .int a1), (2, .int a2), (3, .int a3)] [] H (B_16_spoil_69 k27 a0 a1 a2 a3 H) := by
  unfold B_16_spoil_69
  refine s_132L 3 1 72 1 ji_1 rfl rfl rfl (fun x1 => ?_)
  refine s_167 255 211 27 rfl rfl ?_
  exact s_jmp (hk27 _ _ _ _ _) ⟨rfl, rfl, rfl, rfl, trivial⟩
theorem v_16_spoil_27 (l : Launch) (k27 : Nat → Int32 → Int32 → Int32 → jH → Option (Int32 × jH)) (hk27 : ∀ a0 a1 a2 a3 H, JV l mi_16_spoil jeI 27 [(0, .ref a0), (1, .int a1), (2, .int a2), (3, .int a3)] [] H (k27 a0 a1 a2 a3 H)) (a0 : Nat) (a1 : Int32) (a2 : Int32) (a3 : Int32) (H : jH) : JV l mi_16_spoil jeI 27 [(0, .ref a0), (1, .int a1), (2, .int a2), (3, .int a3)] [] H (B_16_spoil_27 k27 a0 a1 a2 a3 H) := by
  unfold B_16_spoil_27
  refine s_29 28 rfl rfl ?_
  refine s_42 29 rfl rfl ?_
  refine s_180I 0 54 32 54 f_16_1 jw_1472 rfl rfl ?_
  refine s_162 0 43 75 35 rfl rfl ?_ ?_
  · refine s_28 76 rfl rfl ?_
    exact s_172 rfl rfl
  · refine s_42 36 rfl rfl ?_
    refine s_180R 0 23 39 23 f_16_6 jw_1477 rfl rfl ?_
    refine s_29 40 rfl rfl ?_
    refine s_51Z 41 rfl ?_
    refine s_154 0 28 69 44 rfl rfl ?_ ?_
    · exact s_jmp (v_16_spoil_69 l k27 hk27 _ _ _ _ _) ⟨rfl, rfl, rfl, rfl, trivial⟩
    · refine s_42 45 rfl rfl ?_
      refine s_29 46 rfl rfl ?_
      refine s_42 47 rfl rfl ?_
      refine s_180R 0 13 50 13 f_16_3 jw_1474 rfl rfl ?_
      refine s_27 51 rfl rfl ?_
      refine s_46 52 rfl ?_
      refine s_182I 0 108 55 108 (m_16_below l _ _ _ _) rfl k_16_below jc_16 jw_2331 jw_1835 jw_1836 rfl rfl rfl rfl rfl (fun x2 h3 => ?_)
      refine s_27 56 rfl rfl ?_
      refine s_160 0 13 69 59 rfl rfl ?_ ?_
      · exact s_jmp (v_16_spoil_69 l k27 hk27 _ _ _ _ _) ⟨rfl, rfl, rfl, rfl, trivial⟩
      · refine s_42 60 rfl rfl ?_
        refine s_180R 0 23 63 23 f_16_6 jw_1477 rfl rfl ?_
        refine s_29 64 rfl rfl ?_
        refine s_4 65 rfl ?_
        refine s_84Z 66 rfl (fun h4 => ?_)
        refine s_132L 2 1 69 1 ji_1 rfl rfl rfl (fun x5 => ?_)
        exact s_jmp (v_16_spoil_69 l k27 hk27 _ _ _ _ _) ⟨rfl, rfl, rfl, rfl, trivial⟩
theorem w_16_spoil_27 (l : Launch)  (n : Nat) : ∀ a0 a1 a2 a3 H, JV l mi_16_spoil jeI 27 [(0, .ref a0), (1, .int a1), (2, .int a2), (3, .int a3)] [] H (F_16_spoil_27  n a0 a1 a2 a3 H) := by
  induction n with
  | zero => intro _ _ _ _ _; exact s_none
  | succ n ih => intro a0 a1 a2 a3 H; exact v_16_spoil_27 l (F_16_spoil_27  n) ih a0 a1 a2 a3 H
theorem v_16_spoil (l : Launch) (a0 : Nat) (a1 : Int32) (H : jH) : JV l mi_16_spoil jeI 0 [(0, .ref a0), (1, .int a1)] [] H (F_16_spoil a0 a1 H) := by
  unfold F_16_spoil
  refine s_42 1 rfl rfl ?_
  refine s_27 2 rfl rfl ?_
  refine s_182I 0 102 5 102 (m_16_isBlock l _ _ _) rfl k_16_isBlock jc_16 jw_1829 jw_1831 jps_59 rfl rfl rfl rfl rfl (fun x6 h7 => ?_)
  refine s_153 0 16 21 8 rfl rfl ?_ ?_
  · exact s_jmp (v_16_spoil_21 l _) trivial
  · refine s_27 9 rfl rfl ?_
    refine s_153 0 12 21 12 rfl rfl ?_ ?_
    · exact s_jmp (v_16_spoil_21 l _) trivial
    · refine s_42 13 rfl rfl ?_
      refine s_180R 0 23 16 23 f_16_6 jw_1477 rfl rfl ?_
      refine s_27 17 rfl rfl ?_
      refine s_51Z 18 rfl ?_
      refine s_153 0 5 23 21 rfl rfl ?_ ?_
      · refine s_3 24 rfl ?_
        refine s_61 25 rfl rfl ?_
        refine s_3 26 rfl ?_
        refine s_62 27 rfl rfl ?_
        exact s_jmp (w_16_spoil_27 l jfuel _ _ _ _ _) ⟨rfl, rfl, rfl, rfl, trivial⟩
      · exact s_jmp (v_16_spoil_21 l _) trivial
theorem m_16_spoil (l : Launch) (a0 : Nat) (a1 : Int32) (H : jH) : JMet l y_16_spoil prog_20_method_20_code mi_16_spoil jeI [.ref a0, .int a1] H (F_16_spoil a0 a1 H) := jmet_of n_16_spoil (by decide) ⟨rfl, rfl⟩ (Nat.le_of_ble_eq_true rfl) (v_16_spoil l a0 a1 H)
def mi_16_compare : jM := (949333420746194328140112718266438247378163589188115947342446474237354286728524607499321138574102668226695674701359444050848256885551602951477250903774151386813250604876648383054533278630044740920520541530339575992818474, 91, 7, "CoinNodeModel$Tree", some FieldType.int, "compare", 1, 21)
def y_16_compare : MethodName := ⟨"CoinNodeModel$Tree", "compare", "(II)I"⟩
theorem n_16_compare : jn_is prog_20_method_23_code mi_16_compare.1 mi_16_compare.2.1 := by unfold jn_is; decide +kernel
theorem k_16_compare : jmok y_16_compare prog_20_method_23_code mi_16_compare 2 := ⟨jw_2401, jw_19, ⟨by decide, by decide⟩, by decide +kernel⟩
theorem v_16_compare_16 (l : Launch)   (H : jH) : JV l mi_16_compare jeI 16 [] [] H (B_16_compare_16   H) := by
  unfold B_16_compare_16
  refine s_16 254 18 (-2) jbp_254 rfl ?_
  exact s_172 rfl rfl
theorem v_16_compare_82 (l : Launch) (k24 : Nat → Int32 → Int32 → Int32 → Int32 → jH → Option (Int32 × jH)) (hk24 : ∀ a0 a1 a2 a3 a4 H, JV l mi_16_compare jeI 24 [(0, .ref a0), (1, .int a1), (2, .int a2), (3, .int a3), (4, .int a4)] [] H (k24 a0 a1 a2 a3 a4 H)) (a0 : Nat) (a1 : Int32) (a2 : Int32) (a4 : Int32) (s0 : Int32) (H : jH) : JV l mi_16_compare jeI 82 [(0, .ref a0), (1, .int a1), (2, .int a2), (4, .int a4)] [.int s0] H (B_16_compare_82 k24 a0 a1 a2 a4 s0 H) := by
  unfold B_16_compare_82
  refine s_62 83 rfl rfl ?_
  refine s_132L 4 1 86 1 ji_1 rfl rfl rfl (fun x1 => ?_)
  refine s_167 255 194 24 rfl rfl ?_
  exact s_jmp (hk24 _ _ _ _ _ _) ⟨rfl, rfl, rfl, rfl, rfl, trivial⟩
theorem v_16_compare_24 (l : Launch) (k24 : Nat → Int32 → Int32 → Int32 → Int32 → jH → Option (Int32 × jH)) (hk24 : ∀ a0 a1 a2 a3 a4 H, JV l mi_16_compare jeI 24 [(0, .ref a0), (1, .int a1), (2, .int a2), (3, .int a3), (4, .int a4)] [] H (k24 a0 a1 a2 a3 a4 H)) (a0 : Nat) (a1 : Int32) (a2 : Int32) (a3 : Int32) (a4 : Int32) (H : jH) : JV l mi_16_compare jeI 24 [(0, .ref a0), (1, .int a1), (2, .int a2), (3, .int a3), (4, .int a4)] [] H (B_16_compare_24 k24 a0 a1 a2 a3 a4 H) := by
  unfold B_16_compare_24
  refine s_21 4 26 rfl rfl ?_
  refine s_16 40 28 40 jbp_40 rfl ?_
  refine s_162 0 61 89 31 rfl rfl ?_ ?_
  · refine s_29 90 rfl rfl ?_
    exact s_172 rfl rfl
  · refine s_42 32 rfl rfl ?_
    refine s_180R 0 27 35 27 f_16_7 jw_1478 rfl rfl ?_
    refine s_16 40 37 40 jbp_40 rfl ?_
    refine s_27 38 rfl rfl ?_
    refine s_104 39 rfl ?_
    refine s_21 4 41 rfl rfl ?_
    refine s_96 42 rfl ?_
    refine s_46 43 rfl ?_
    refine s_54L 5 45 rfl rfl (fun x2 => ?_)
    refine s_42 46 rfl rfl ?_
    refine s_180R 0 27 49 27 f_16_7 jw_1478 rfl rfl ?_
    refine s_16 40 51 40 jbp_40 rfl ?_
    refine s_28 52 rfl rfl ?_
    refine s_104 53 rfl ?_
    refine s_21 4 55 rfl rfl ?_
    refine s_96 56 rfl ?_
    refine s_46 57 rfl ?_
    refine s_54L 6 59 rfl rfl (fun x3 => ?_)
    refine s_21 5 61 rfl rfl ?_
    refine s_21 6 63 rfl rfl ?_
    refine s_162 0 7 70 66 rfl rfl ?_ ?_
    · refine s_21 5 72 rfl rfl ?_
      refine s_21 6 74 rfl rfl ?_
      refine s_164 0 7 81 77 rfl rfl ?_ ?_
      · refine s_29 82 rfl rfl ?_
        exact s_jmp (v_16_compare_82 l k24 hk24 _ _ _ _ _ _) ⟨rfl, rfl, rfl, rfl, trivial⟩
      · refine s_4 78 rfl ?_
        refine s_167 0 4 82 rfl rfl ?_
        exact s_jmp (v_16_compare_82 l k24 hk24 _ _ _ _ _ _) ⟨rfl, rfl, rfl, rfl, trivial⟩
    · refine s_2 67 rfl ?_
      refine s_167 0 15 82 rfl rfl ?_
      exact s_jmp (v_16_compare_82 l k24 hk24 _ _ _ _ _ _) ⟨rfl, rfl, rfl, rfl, trivial⟩
theorem w_16_compare_24 (l : Launch)  (n : Nat) : ∀ a0 a1 a2 a3 a4 H, JV l mi_16_compare jeI 24 [(0, .ref a0), (1, .int a1), (2, .int a2), (3, .int a3), (4, .int a4)] [] H (F_16_compare_24  n a0 a1 a2 a3 a4 H) := by
  induction n with
  | zero => intro _ _ _ _ _ _; exact s_none
  | succ n ih => intro a0 a1 a2 a3 a4 H; exact v_16_compare_24 l (F_16_compare_24  n) ih a0 a1 a2 a3 a4 H
theorem v_16_compare (l : Launch) (a0 : Nat) (a1 : Int32) (a2 : Int32) (H : jH) : JV l mi_16_compare jeI 0 [(0, .ref a0), (1, .int a1), (2, .int a2)] [] H (F_16_compare a0 a1 a2 H) := by
  unfold F_16_compare
  refine s_42 1 rfl rfl ?_
  refine s_27 2 rfl rfl ?_
  refine s_182I 0 102 5 102 (m_16_isBlock l _ _ _) rfl k_16_isBlock jc_16 jw_1829 jw_1831 jps_59 rfl rfl rfl rfl rfl (fun x4 h5 => ?_)
  refine s_153 0 11 16 8 rfl rfl ?_ ?_
  · exact s_jmp (v_16_compare_16 l _) trivial
  · refine s_42 9 rfl rfl ?_
    refine s_28 10 rfl rfl ?_
    refine s_182I 0 102 13 102 (m_16_isBlock l _ _ _) rfl k_16_isBlock jc_16 jw_1829 jw_1831 jps_59 rfl rfl rfl rfl rfl (fun x6 h7 => ?_)
    refine s_154 0 6 19 16 rfl rfl ?_ ?_
    · refine s_3 20 rfl ?_
      refine s_62 21 rfl rfl ?_
      refine s_3 22 rfl ?_
      refine s_54 4 24 rfl rfl ?_
      exact s_jmp (w_16_compare_24 l jfuel _ _ _ _ _ _) ⟨rfl, rfl, rfl, rfl, rfl, trivial⟩
    · exact s_jmp (v_16_compare_16 l _) trivial
theorem m_16_compare (l : Launch) (a0 : Nat) (a1 : Int32) (a2 : Int32) (H : jH) : JMet l y_16_compare prog_20_method_23_code mi_16_compare jeI [.ref a0, .int a1, .int a2] H (F_16_compare a0 a1 a2 H) := jmet_of n_16_compare (by decide) ⟨rfl, rfl⟩ (Nat.le_of_ble_eq_true rfl) (v_16_compare l a0 a1 a2 H)
def mi_16_tip : jM := (6167678491398411359232871360733712330647586275376912869854170249119895556627570715809608485391443333233667, 44, 3, "CoinNodeModel$Tree", some FieldType.int, "tip", 2, 47)
def y_16_tip : MethodName := ⟨"CoinNodeModel$Tree", "tip", "()I"⟩
theorem n_16_tip : jn_is prog_20_method_24_code mi_16_tip.1 mi_16_tip.2.1 := by unfold jn_is; decide +kernel
theorem k_16_tip : jmok y_16_tip prog_20_method_24_code mi_16_tip 0 := ⟨jw_2397, jw_19, ⟨by decide, by decide⟩, by decide +kernel⟩
theorem v_16_tip_35 (l : Launch) (k4 : Nat → Int32 → Int32 → jH → Option (Int32 × jH)) (hk4 : ∀ a0 a1 a2 H, JV l mi_16_tip jeI 4 [(0, .ref a0), (1, .int a1), (2, .int a2)] [] H (k4 a0 a1 a2 H)) (a0 : Nat) (a2 : Int32) (s0 : Int32) (H : jH) : JV l mi_16_tip jeI 35 [(0, .ref a0), (2, .int a2)] [.int s0] H (B_16_tip_35 k4 a0 a2 s0 H) := by
  unfold B_16_tip_35
  refine s_60 36 rfl rfl ?_
  refine s_132L 2 1 39 1 ji_1 rfl rfl rfl (fun x1 => ?_)
  refine s_167 255 221 4 rfl rfl ?_
  exact s_jmp (hk4 _ _ _ _) ⟨rfl, rfl, rfl, trivial⟩
theorem v_16_tip_34 (l : Launch) (k4 : Nat → Int32 → Int32 → jH → Option (Int32 × jH)) (hk4 : ∀ a0 a1 a2 H, JV l mi_16_tip jeI 4 [(0, .ref a0), (1, .int a1), (2, .int a2)] [] H (k4 a0 a1 a2 H)) (a0 : Nat) (a1 : Int32) (a2 : Int32) (H : jH) : JV l mi_16_tip jeI 34 [(0, .ref a0), (1, .int a1), (2, .int a2)] [] H (B_16_tip_34 k4 a0 a1 a2 H) := by
  unfold B_16_tip_34
  refine s_27 35 rfl rfl ?_
  exact s_jmp (v_16_tip_35 l k4 hk4 _ _ _ _) ⟨rfl, rfl, trivial⟩
theorem v_16_tip_4 (l : Launch) (k4 : Nat → Int32 → Int32 → jH → Option (Int32 × jH)) (hk4 : ∀ a0 a1 a2 H, JV l mi_16_tip jeI 4 [(0, .ref a0), (1, .int a1), (2, .int a2)] [] H (k4 a0 a1 a2 H)) (a0 : Nat) (a1 : Int32) (a2 : Int32) (H : jH) : JV l mi_16_tip jeI 4 [(0, .ref a0), (1, .int a1), (2, .int a2)] [] H (B_16_tip_4 k4 a0 a1 a2 H) := by
  unfold B_16_tip_4
  refine s_28 5 rfl rfl ?_
  refine s_42 6 rfl rfl ?_
  refine s_180I 0 54 9 54 f_16_1 jw_1472 rfl rfl ?_
  refine s_162 0 33 42 12 rfl rfl ?_ ?_
  · refine s_27 43 rfl rfl ?_
    exact s_172 rfl rfl
  · refine s_42 13 rfl rfl ?_
    refine s_180R 0 23 16 23 f_16_6 jw_1477 rfl rfl ?_
    refine s_28 17 rfl rfl ?_
    refine s_51Z 18 rfl ?_
    refine s_154 0 16 34 21 rfl rfl ?_ ?_
    · exact s_jmp (v_16_tip_34 l k4 hk4 _ _ _ _) ⟨rfl, rfl, rfl, trivial⟩
    · refine s_42 22 rfl rfl ?_
      refine s_28 23 rfl rfl ?_
      refine s_27 24 rfl rfl ?_
      refine s_182I 0 129 27 129 (m_16_compare l _ _ _ _) rfl k_16_compare jc_16 jw_2398 jw_2399 jw_2400 rfl rfl rfl rfl rfl (fun x2 h3 => ?_)
      refine s_158 0 7 34 30 rfl rfl ?_ ?_
      · exact s_jmp (v_16_tip_34 l k4 hk4 _ _ _ _) ⟨rfl, rfl, rfl, trivial⟩
      · refine s_28 31 rfl rfl ?_
        refine s_167 0 4 35 rfl rfl ?_
        exact s_jmp (v_16_tip_35 l k4 hk4 _ _ _ _) ⟨rfl, rfl, trivial⟩
theorem w_16_tip_4 (l : Launch)  (n : Nat) : ∀ a0 a1 a2 H, JV l mi_16_tip jeI 4 [(0, .ref a0), (1, .int a1), (2, .int a2)] [] H (F_16_tip_4  n a0 a1 a2 H) := by
  induction n with
  | zero => intro _ _ _ _; exact s_none
  | succ n ih => intro a0 a1 a2 H; exact v_16_tip_4 l (F_16_tip_4  n) ih a0 a1 a2 H
theorem v_16_tip (l : Launch) (a0 : Nat) (H : jH) : JV l mi_16_tip jeI 0 [(0, .ref a0)] [] H (F_16_tip a0 H) := by
  unfold F_16_tip
  refine s_3 1 rfl ?_
  refine s_60 2 rfl rfl ?_
  refine s_4 3 rfl ?_
  refine s_61 4 rfl rfl ?_
  exact s_jmp (w_16_tip_4 l jfuel _ _ _ _) ⟨rfl, rfl, rfl, trivial⟩
theorem m_16_tip (l : Launch) (a0 : Nat) (H : jH) : JMet l y_16_tip prog_20_method_24_code mi_16_tip jeI [.ref a0] H (F_16_tip a0 H) := jmet_of n_16_tip (by decide) ⟨rfl, rfl⟩ (Nat.le_of_ble_eq_true rfl) (v_16_tip l a0 H)
def mi_18_choose : jM := (3055943713986678814470531306831327159906707196402668686340815839567357151037483069485792939221884490377885380785944142419411170664942092965189969679684583697313968739417182720483375133582598840777446921719079689648892425728239787674513585524761594674640741120286329311731869798230770704444611928981041059767358404933454323948170781295433196046826754175911088731178, 151, 6, "CoinNodeModel", none, "choose", 17, 404)
def y_18_choose : MethodName := ⟨"CoinNodeModel", "choose", "()V"⟩
theorem n_18_choose : jn_is prog_14_method_18_code mi_18_choose.1 mi_18_choose.2.1 := by unfold jn_is; decide +kernel
theorem k_18_choose : jmok y_18_choose prog_14_method_18_code mi_18_choose 0 := ⟨jw_2393, jw_14, ⟨by decide, by decide⟩, by decide +kernel⟩
theorem v_18_choose_114 (l : Launch) (k37 : Nat → Int32 → Int32 → Int32 → Int32 → jH → Option (Unit × jH)) (hk37 : ∀ a0 a1 a2 a3 a4 H, JV l mi_18_choose jeV 37 [(0, .ref a0), (1, .int a1), (2, .int a2), (3, .int a3), (4, .int a4)] [] H (k37 a0 a1 a2 a3 a4 H)) (a0 : Nat) (a1 : Int32) (a2 : Int32) (a3 : Int32) (a4 : Int32) (H : jH) : JV l mi_18_choose jeV 114 [(0, .ref a0), (1, .int a1), (2, .int a2), (3, .int a3), (4, .int a4)] [] H (B_18_choose_114 k37 a0 a1 a2 a3 a4 H) := by
  unfold B_18_choose_114
  refine s_132L 4 1 117 1 ji_1 rfl rfl rfl (fun x1 => ?_)
  refine s_167 255 176 37 rfl rfl ?_
  exact s_jmp (hk37 _ _ _ _ _ _) ⟨rfl, rfl, rfl, rfl, rfl, trivial⟩
theorem v_18_choose_120 (l : Launch) (k13 : Nat → Int32 → Int32 → jH → Option (Unit × jH)) (hk13 : ∀ a0 a1 a2 H, JV l mi_18_choose jeV 13 [(0, .ref a0), (1, .int a1), (2, .int a2)] [] H (k13 a0 a1 a2 H)) (a0 : Nat) (a1 : Int32) (a2 : Int32) (a3 : Int32) (H : jH) : JV l mi_18_choose jeV 120 [(0, .ref a0), (1, .int a1), (2, .int a2), (3, .int a3)] [] H (B_18_choose_120 k13 a0 a1 a2 a3 H) := by
  unfold B_18_choose_120
  refine s_29 121 rfl rfl ?_
  refine s_156 0 9 130 124 rfl rfl ?_ ?_
  · refine s_42 131 rfl rfl ?_
    refine s_180R 0 40 134 40 f_18_3 jw_1613 rfl rfl ?_
    refine s_29 135 rfl rfl ?_
    refine s_182I 1 94 138 350 (m_16_spoil l _ _ _) rfl k_16_spoil jc_16 jw_2432 jw_2433 jw_2434 rfl rfl rfl rfl rfl (fun x2 h3 => ?_)
    refine s_87 139 rfl rfl ?_
    refine s_42 140 rfl rfl ?_
    refine s_180R 0 40 143 40 f_18_3 jw_1613 rfl rfl ?_
    refine s_182I 1 87 146 343 (m_16_tip l _ _) rfl k_16_tip jc_16 jw_2394 jw_2395 jw_2396 rfl rfl rfl rfl rfl (fun x4 h5 => ?_)
    refine s_61 147 rfl rfl ?_
    refine s_167 255 122 13 rfl rfl ?_
    exact s_jmp (hk13 _ _ _ _) ⟨rfl, rfl, rfl, trivial⟩
  · refine s_42 125 rfl rfl ?_
    refine s_28 126 rfl rfl ?_
    refine s_181I 1 84 129 340 f_18_13 rfl rfl jw_1623 rfl rfl (fun h6 => ?_)
    exact s_177 rfl rfl
theorem v_18_choose_37 (l : Launch) (k13 : Nat → Int32 → Int32 → jH → Option (Unit × jH)) (hk13 : ∀ a0 a1 a2 H, JV l mi_18_choose jeV 13 [(0, .ref a0), (1, .int a1), (2, .int a2)] [] H (k13 a0 a1 a2 H)) (k37 : Nat → Int32 → Int32 → Int32 → Int32 → jH → Option (Unit × jH)) (hk37 : ∀ a0 a1 a2 a3 a4 H, JV l mi_18_choose jeV 37 [(0, .ref a0), (1, .int a1), (2, .int a2), (3, .int a3), (4, .int a4)] [] H (k37 a0 a1 a2 a3 a4 H)) (a0 : Nat) (a1 : Int32) (a2 : Int32) (a3 : Int32) (a4 : Int32) (H : jH) : JV l mi_18_choose jeV 37 [(0, .ref a0), (1, .int a1), (2, .int a2), (3, .int a3), (4, .int a4)] [] H (B_18_choose_37 k13 k37 a0 a1 a2 a3 a4 H) := by
  unfold B_18_choose_37
  refine s_21 4 39 rfl rfl ?_
  refine s_42 40 rfl rfl ?_
  refine s_28 41 rfl rfl ?_
  refine s_182I 0 250 44 250 (m_18_height l _ _ _) rfl k_18_height jc_18 jw_1821 jw_1823 jps_58 rfl rfl rfl rfl rfl (fun x7 h8 => ?_)
  refine s_163 0 76 120 47 rfl rfl ?_ ?_
  · exact s_jmp (v_18_choose_120 l k13 hk13 _ _ _ _ _) ⟨rfl, rfl, rfl, rfl, trivial⟩
  · refine s_29 48 rfl rfl ?_
    refine s_156 0 72 120 51 rfl rfl ?_ ?_
    · exact s_jmp (v_18_choose_120 l k13 hk13 _ _ _ _ _) ⟨rfl, rfl, rfl, rfl, trivial⟩
    · refine s_42 52 rfl rfl ?_
      refine s_180R 0 40 55 40 f_18_3 jw_1613 rfl rfl ?_
      refine s_28 56 rfl rfl ?_
      refine s_21 4 58 rfl rfl ?_
      refine s_182I 0 254 61 254 (m_16_below l _ _ _ _) rfl k_16_below jc_16 jw_1834 jw_1835 jw_1836 rfl rfl rfl rfl rfl (fun x9 h10 => ?_)
      refine s_54 5 63 rfl rfl ?_
      refine s_42 64 rfl rfl ?_
      refine s_180R 0 66 67 66 f_18_9 jw_1619 rfl rfl ?_
      refine s_21 5 69 rfl rfl ?_
      refine s_46 70 rfl ?_
      refine s_4 71 rfl ?_
      refine s_160 0 6 77 74 rfl rfl ?_ ?_
      · refine s_42 78 rfl rfl ?_
        refine s_180R 0 69 81 69 f_18_10 jw_1620 rfl rfl ?_
        refine s_21 5 83 rfl rfl ?_
        refine s_42 84 rfl rfl ?_
        refine s_21 5 86 rfl rfl ?_
        refine s_182I 1 92 89 348 (m_18_look l _ _ _) rfl k_18_look jc_18 jw_2406 jw_2408 jps_153 rfl rfl rfl rfl rfl (fun x11 h12 => ?_)
        refine s_79 90 rfl (fun h13 => ?_)
        refine s_42 91 rfl rfl ?_
        refine s_180R 0 69 94 69 f_18_10 jw_1620 rfl rfl ?_
        refine s_21 5 96 rfl rfl ?_
        refine s_46 97 rfl ?_
        refine s_154 0 14 111 100 rfl rfl ?_ ?_
        · refine s_21 5 113 rfl rfl ?_
          refine s_62 114 rfl rfl ?_
          exact s_jmp (v_18_choose_114 l k37 hk37 _ _ _ _ _ _) ⟨rfl, rfl, rfl, rfl, rfl, trivial⟩
        · refine s_42 101 rfl rfl ?_
          refine s_180R 0 66 104 66 f_18_9 jw_1619 rfl rfl ?_
          refine s_21 5 106 rfl rfl ?_
          refine s_4 107 rfl ?_
          refine s_79 108 rfl (fun h14 => ?_)
          refine s_167 0 6 114 rfl rfl ?_
          exact s_jmp (v_18_choose_114 l k37 hk37 _ _ _ _ _ _) ⟨rfl, rfl, rfl, rfl, rfl, trivial⟩
      · refine s_167 0 40 114 rfl rfl ?_
        exact s_jmp (v_18_choose_114 l k37 hk37 _ _ _ _ _ _) ⟨rfl, rfl, rfl, rfl, rfl, trivial⟩
theorem w_18_choose_37 (l : Launch) (k13 : Nat → Int32 → Int32 → jH → Option (Unit × jH)) (hk13 : ∀ a0 a1 a2 H, JV l mi_18_choose jeV 13 [(0, .ref a0), (1, .int a1), (2, .int a2)] [] H (k13 a0 a1 a2 H)) (n : Nat) : ∀ a0 a1 a2 a3 a4 H, JV l mi_18_choose jeV 37 [(0, .ref a0), (1, .int a1), (2, .int a2), (3, .int a3), (4, .int a4)] [] H (F_18_choose_37 k13 n a0 a1 a2 a3 a4 H) := by
  induction n with
  | zero => intro _ _ _ _ _ _; exact s_none
  | succ n ih => intro a0 a1 a2 a3 a4 H; exact v_18_choose_37 l k13 hk13 (F_18_choose_37 k13 n) ih a0 a1 a2 a3 a4 H
theorem v_18_choose_13 (l : Launch) (k13 : Nat → Int32 → Int32 → jH → Option (Unit × jH)) (hk13 : ∀ a0 a1 a2 H, JV l mi_18_choose jeV 13 [(0, .ref a0), (1, .int a1), (2, .int a2)] [] H (k13 a0 a1 a2 H)) (a0 : Nat) (a1 : Int32) (a2 : Int32) (H : jH) : JV l mi_18_choose jeV 13 [(0, .ref a0), (1, .int a1), (2, .int a2)] [] H (B_18_choose_13 k13 a0 a1 a2 H) := by
  unfold B_18_choose_13
  refine s_28 14 rfl rfl ?_
  refine s_27 15 rfl rfl ?_
  refine s_159 0 135 150 18 rfl rfl ?_ ?_
  · exact s_177 rfl rfl
  · refine s_2 19 rfl ?_
    refine s_62 20 rfl rfl ?_
    refine s_42 21 rfl rfl ?_
    refine s_42 22 rfl rfl ?_
    refine s_180R 0 40 25 40 f_18_3 jw_1613 rfl rfl ?_
    refine s_27 26 rfl rfl ?_
    refine s_28 27 rfl rfl ?_
    refine s_182I 1 89 30 345 (m_16_fork l _ _ _ _) rfl k_16_fork jc_16 jw_2402 jw_2403 jw_2404 rfl rfl rfl rfl rfl (fun x15 h16 => ?_)
    refine s_182I 0 250 33 250 (m_18_height l _ _ _) rfl k_18_height jc_18 jw_1821 jw_1823 jps_58 rfl rfl rfl rfl rfl (fun x17 h18 => ?_)
    refine s_4 34 rfl ?_
    refine s_96 35 rfl ?_
    refine s_54L 4 37 rfl rfl (fun x19 => ?_)
    exact s_jmp (w_18_choose_37 l k13 hk13 jfuel _ _ _ _ _ _) ⟨rfl, rfl, rfl, rfl, rfl, trivial⟩
theorem w_18_choose_13 (l : Launch)  (n : Nat) : ∀ a0 a1 a2 H, JV l mi_18_choose jeV 13 [(0, .ref a0), (1, .int a1), (2, .int a2)] [] H (F_18_choose_13  n a0 a1 a2 H) := by
  induction n with
  | zero => intro _ _ _ _; exact s_none
  | succ n ih => intro a0 a1 a2 H; exact v_18_choose_13 l (F_18_choose_13  n) ih a0 a1 a2 H
theorem v_18_choose (l : Launch) (a0 : Nat) (H : jH) : JV l mi_18_choose jeV 0 [(0, .ref a0)] [] H (F_18_choose a0 H) := by
  unfold F_18_choose
  refine s_42 1 rfl rfl ?_
  refine s_180I 1 84 4 340 f_18_13 jw_1623 rfl rfl ?_
  refine s_60L 5 rfl rfl (fun x20 => ?_)
  refine s_42 6 rfl rfl ?_
  refine s_180R 0 40 9 40 f_18_3 jw_1613 rfl rfl ?_
  refine s_182I 1 87 12 343 (m_16_tip l _ _) rfl k_16_tip jc_16 jw_2394 jw_2395 jw_2396 rfl rfl rfl rfl rfl (fun x21 h22 => ?_)
  refine s_61 13 rfl rfl ?_
  exact s_jmp (w_18_choose_13 l jfuel _ _ _ _) ⟨rfl, rfl, rfl, trivial⟩
theorem m_18_choose (l : Launch) (a0 : Nat) (H : jH) : JMet l y_18_choose prog_14_method_18_code mi_18_choose jeV [.ref a0] H (F_18_choose a0 H) := jmet_of n_18_choose (by decide) ⟨rfl, rfl⟩ (Nat.le_of_ble_eq_true rfl) (v_18_choose l a0 H)
def mi_18_inPool : jM := (21899570432600098437696595870408547900981795941178394353041601829662044583693729421921697283, 38, 4, "CoinNodeModel", some FieldType.int, "inPool", 1, 26)
def y_18_inPool : MethodName := ⟨"CoinNodeModel", "inPool", "([BI)I"⟩
theorem n_18_inPool : jn_is prog_14_method_19_code mi_18_inPool.1 mi_18_inPool.2.1 := by unfold jn_is; decide +kernel
theorem k_18_inPool : jmok y_18_inPool prog_14_method_19_code mi_18_inPool 2 := ⟨jw_1916, jw_14, ⟨by decide, by decide⟩, by decide +kernel⟩
theorem v_18_inPool_2 (l : Launch) (k2 : Nat → Nat → Int32 → Int32 → jH → Option (Int32 × jH)) (hk2 : ∀ a0 a1 a2 a3 H, JV l mi_18_inPool jeI 2 [(0, .ref a0), (1, .ref a1), (2, .int a2), (3, .int a3)] [] H (k2 a0 a1 a2 a3 H)) (a0 : Nat) (a1 : Nat) (a2 : Int32) (a3 : Int32) (H : jH) : JV l mi_18_inPool jeI 2 [(0, .ref a0), (1, .ref a1), (2, .int a2), (3, .int a3)] [] H (B_18_inPool_2 k2 a0 a1 a2 a3 H) := by
  unfold B_18_inPool_2
  refine s_29 3 rfl rfl ?_
  refine s_42 4 rfl rfl ?_
  refine s_180I 1 97 7 353 f_18_36 jw_1646 rfl rfl ?_
  refine s_162 0 29 36 10 rfl rfl ?_ ?_
  · refine s_2 37 rfl ?_
    exact s_172 rfl rfl
  · refine s_42 11 rfl rfl ?_
    refine s_180R 0 134 14 134 f_18_39 jw_1649 rfl rfl ?_
    refine s_16 32 16 32 jbp_32 rfl ?_
    refine s_29 17 rfl rfl ?_
    refine s_104 18 rfl ?_
    refine s_43 19 rfl rfl ?_
    refine s_28 20 rfl rfl ?_
    refine s_16 32 22 32 jbp_32 rfl ?_
    refine s_184I 0 187 25 187 (m_18_like l _ _ _ _ _ _) rfl k_18_like jw_1876 jw_1877 rfl rfl rfl rfl rfl (fun x1 h2 => ?_)
    refine s_153 0 5 30 28 rfl rfl ?_ ?_
    · refine s_132L 3 1 33 1 ji_1 rfl rfl rfl (fun x3 => ?_)
      refine s_167 255 225 2 rfl rfl ?_
      exact s_jmp (hk2 _ _ _ _ _) ⟨rfl, rfl, rfl, rfl, trivial⟩
    · refine s_29 29 rfl rfl ?_
      exact s_172 rfl rfl
theorem w_18_inPool_2 (l : Launch)  (n : Nat) : ∀ a0 a1 a2 a3 H, JV l mi_18_inPool jeI 2 [(0, .ref a0), (1, .ref a1), (2, .int a2), (3, .int a3)] [] H (F_18_inPool_2  n a0 a1 a2 a3 H) := by
  induction n with
  | zero => intro _ _ _ _ _; exact s_none
  | succ n ih => intro a0 a1 a2 a3 H; exact v_18_inPool_2 l (F_18_inPool_2  n) ih a0 a1 a2 a3 H
theorem v_18_inPool (l : Launch) (a0 : Nat) (a1 : Nat) (a2 : Int32) (H : jH) : JV l mi_18_inPool jeI 0 [(0, .ref a0), (1, .ref a1), (2, .int a2)] [] H (F_18_inPool a0 a1 a2 H) := by
  unfold F_18_inPool
  refine s_3 1 rfl ?_
  refine s_62 2 rfl rfl ?_
  exact s_jmp (w_18_inPool_2 l jfuel _ _ _ _ _) ⟨rfl, rfl, rfl, rfl, trivial⟩
theorem m_18_inPool (l : Launch) (a0 : Nat) (a1 : Nat) (a2 : Int32) (H : jH) : JMet l y_18_inPool prog_14_method_19_code mi_18_inPool jeI [.ref a0, .ref a1, .int a2] H (F_18_inPool a0 a1 a2 H) := jmet_of n_18_inPool (by decide) ⟨rfl, rfl⟩ (Nat.le_of_ble_eq_true rfl) (v_18_inPool l a0 a1 a2 H)
def mi_18_openPool : jM := (1223979367423580463350513430153030761089101270587159210267753430269342762, 30, 2, "CoinNodeModel", none, "openPool", 4, 92)
def y_18_openPool : MethodName := ⟨"CoinNodeModel", "openPool", "(I)V"⟩
theorem n_18_openPool : jn_is prog_14_method_20_code mi_18_openPool.1 mi_18_openPool.2.1 := by unfold jn_is; decide +kernel
theorem k_18_openPool : jmok y_18_openPool prog_14_method_20_code mi_18_openPool 1 := ⟨jw_1929, jw_14, ⟨by decide, by decide⟩, by decide +kernel⟩
theorem v_18_openPool (l : Launch) (a0 : Nat) (a1 : Int32) (H : jH) : JV l mi_18_openPool jeV 0 [(0, .ref a0), (1, .int a1)] [] H (F_18_openPool a0 a1 H) := by
  unfold F_18_openPool
  refine s_42 1 rfl rfl ?_
  refine s_180R 0 51 4 51 f_18_5 jw_1615 rfl rfl ?_
  refine s_42 5 rfl rfl ?_
  refine s_180R 0 128 8 128 f_18_37 jw_1647 rfl rfl ?_
  refine s_17 7 208 11 2000 jsp_7_208 rfl ?_
  refine s_27 12 rfl rfl ?_
  refine s_104 13 rfl ?_
  refine s_17 7 208 16 2000 jsp_7_208 rfl ?_
  refine s_27 17 rfl rfl ?_
  refine s_104 18 rfl ?_
  refine s_42 19 rfl rfl ?_
  refine s_180R 0 131 22 131 f_18_38 jw_1648 rfl rfl ?_
  refine s_27 23 rfl rfl ?_
  refine s_46 24 rfl ?_
  refine s_96 25 rfl ?_
  refine s_182I 0 235 28 235 (m_17_read l _ _ _ _ _) rfl k_17_read jc_17 jw_1846 jw_1847 jw_1848 rfl rfl rfl rfl rfl (fun x1 h2 => ?_)
  refine s_87 29 rfl rfl ?_
  exact s_177 rfl rfl
theorem m_18_openPool (l : Launch) (a0 : Nat) (a1 : Int32) (H : jH) : JMet l y_18_openPool prog_14_method_20_code mi_18_openPool jeV [.ref a0, .int a1] H (F_18_openPool a0 a1 H) := jmet_of n_18_openPool (by decide) ⟨rfl, rfl⟩ (Nat.le_of_ble_eq_true rfl) (v_18_openPool l a0 a1 H)
def mi_18_spends : jM := (56554275111196168081137733083132722242638179727404185900370325035309435243788551341265155912992765891311492004938817707474389310010545481678266153311389163161293374175794334511938674050502062382863444311445747203, 88, 8, "CoinNodeModel", some FieldType.boolean, "spends", 1, 26)
def y_18_spends : MethodName := ⟨"CoinNodeModel", "spends", "(I[BIJ)Z"⟩
theorem n_18_spends : jn_is prog_14_method_21_code mi_18_spends.1 mi_18_spends.2.1 := by unfold jn_is; decide +kernel
theorem k_18_spends : jmok y_18_spends prog_14_method_21_code mi_18_spends 4 := ⟨jw_1920, jw_14, ⟨by decide, by decide⟩, by decide +kernel⟩
theorem v_18_spends_77 (l : Launch) (k6 : Nat → Int32 → Nat → Int32 → Int64 → Int32 → Int32 → jH → Option (Int32 × jH)) (hk6 : ∀ a0 a1 a2 a3 a4 a6 a7 H, JV l mi_18_spends jeI 6 [(0, .ref a0), (1, .int a1), (2, .ref a2), (3, .int a3), (4, .long a4), (6, .int a6), (7, .int a7)] [] H (k6 a0 a1 a2 a3 a4 a6 a7 H)) (a0 : Nat) (a1 : Int32) (a2 : Nat) (a3 : Int32) (a4 : Int64) (a7 : Int32) (s0 : Int32) (H : jH) : JV l mi_18_spends jeI 77 [(0, .ref a0), (1, .int a1), (2, .ref a2), (3, .int a3), (4, .long a4), (7, .int a7)] [.int s0] H (B_18_spends_77 k6 a0 a1 a2 a3 a4 a7 s0 H) := by
  unfold B_18_spends_77
  refine s_54 6 79 rfl rfl ?_
  refine s_132L 7 1 82 1 ji_1 rfl rfl rfl (fun x1 => ?_)
  refine s_167 255 180 6 rfl rfl ?_
  exact s_jmp (hk6 _ _ _ _ _ _ _ _) ⟨rfl, rfl, rfl, rfl, rfl, rfl, rfl, trivial⟩
theorem v_18_spends_72 (l : Launch) (k6 : Nat → Int32 → Nat → Int32 → Int64 → Int32 → Int32 → jH → Option (Int32 × jH)) (hk6 : ∀ a0 a1 a2 a3 a4 a6 a7 H, JV l mi_18_spends jeI 6 [(0, .ref a0), (1, .int a1), (2, .ref a2), (3, .int a3), (4, .long a4), (6, .int a6), (7, .int a7)] [] H (k6 a0 a1 a2 a3 a4 a6 a7 H)) (a0 : Nat) (a1 : Int32) (a2 : Nat) (a3 : Int32) (a4 : Int64) (a7 : Int32) (H : jH) : JV l mi_18_spends jeI 72 [(0, .ref a0), (1, .int a1), (2, .ref a2), (3, .int a3), (4, .long a4), (7, .int a7)] [] H (B_18_spends_72 k6 a0 a1 a2 a3 a4 a7 H) := by
  unfold B_18_spends_72
  refine s_4 73 rfl ?_
  refine s_167 0 4 77 rfl rfl ?_
  exact s_jmp (v_18_spends_77 l k6 hk6 _ _ _ _ _ _ _ _) ⟨rfl, rfl, rfl, rfl, rfl, rfl, trivial⟩
theorem v_18_spends_76 (l : Launch) (k6 : Nat → Int32 → Nat → Int32 → Int64 → Int32 → Int32 → jH → Option (Int32 × jH)) (hk6 : ∀ a0 a1 a2 a3 a4 a6 a7 H, JV l mi_18_spends jeI 6 [(0, .ref a0), (1, .int a1), (2, .ref a2), (3, .int a3), (4, .long a4), (6, .int a6), (7, .int a7)] [] H (k6 a0 a1 a2 a3 a4 a6 a7 H)) (a0 : Nat) (a1 : Int32) (a2 : Nat) (a3 : Int32) (a4 : Int64) (a7 : Int32) (H : jH) : JV l mi_18_spends jeI 76 [(0, .ref a0), (1, .int a1), (2, .ref a2), (3, .int a3), (4, .long a4), (7, .int a7)] [] H (B_18_spends_76 k6 a0 a1 a2 a3 a4 a7 H) := by
  unfold B_18_spends_76
  refine s_3 77 rfl ?_
  exact s_jmp (v_18_spends_77 l k6 hk6 _ _ _ _ _ _ _ _) ⟨rfl, rfl, rfl, rfl, rfl, rfl, trivial⟩
theorem v_18_spends_6 (l : Launch) (k6 : Nat → Int32 → Nat → Int32 → Int64 → Int32 → Int32 → jH → Option (Int32 × jH)) (hk6 : ∀ a0 a1 a2 a3 a4 a6 a7 H, JV l mi_18_spends jeI 6 [(0, .ref a0), (1, .int a1), (2, .ref a2), (3, .int a3), (4, .long a4), (6, .int a6), (7, .int a7)] [] H (k6 a0 a1 a2 a3 a4 a6 a7 H)) (a0 : Nat) (a1 : Int32) (a2 : Nat) (a3 : Int32) (a4 : Int64) (a6 : Int32) (a7 : Int32) (H : jH) : JV l mi_18_spends jeI 6 [(0, .ref a0), (1, .int a1), (2, .ref a2), (3, .int a3), (4, .long a4), (6, .int a6), (7, .int a7)] [] H (B_18_spends_6 k6 a0 a1 a2 a3 a4 a6 a7 H) := by
  unfold B_18_spends_6
  refine s_21 7 8 rfl rfl ?_
  refine s_42 9 rfl rfl ?_
  refine s_180R 0 140 12 140 f_18_41 jw_1651 rfl rfl ?_
  refine s_27 13 rfl rfl ?_
  refine s_46 14 rfl ?_
  refine s_162 0 71 85 17 rfl rfl ?_ ?_
  · refine s_21 6 87 rfl rfl ?_
    exact s_172Z rfl rfl
  · refine s_21 6 19 rfl rfl ?_
    refine s_154 0 53 72 22 rfl rfl ?_ ?_
    · exact s_jmp (v_18_spends_72 l k6 hk6 _ _ _ _ _ _ _) ⟨rfl, rfl, rfl, rfl, rfl, rfl, trivial⟩
    · refine s_42 23 rfl rfl ?_
      refine s_180R 0 146 26 146 f_18_43 jw_1653 rfl rfl ?_
      refine s_16 8 28 8 jbp_8 rfl ?_
      refine s_27 29 rfl rfl ?_
      refine s_104 30 rfl ?_
      refine s_21 7 32 rfl rfl ?_
      refine s_96 33 rfl ?_
      refine s_47 34 rfl ?_
      refine s_22 4 36 rfl rfl ?_
      refine s_148_154 0 39 76 37 40 rfl rfl rfl ?_ ?_
      · exact s_jmp (v_18_spends_76 l k6 hk6 _ _ _ _ _ _ _) ⟨rfl, rfl, rfl, rfl, rfl, rfl, trivial⟩
      · refine s_42 41 rfl rfl ?_
        refine s_180R 0 128 44 128 f_18_37 jw_1647 rfl rfl ?_
        refine s_17 7 208 47 2000 jsp_7_208 rfl ?_
        refine s_27 48 rfl rfl ?_
        refine s_104 49 rfl ?_
        refine s_42 50 rfl rfl ?_
        refine s_180R 0 143 53 143 f_18_42 jw_1652 rfl rfl ?_
        refine s_16 8 55 8 jbp_8 rfl ?_
        refine s_27 56 rfl rfl ?_
        refine s_104 57 rfl ?_
        refine s_21 7 59 rfl rfl ?_
        refine s_96 60 rfl ?_
        refine s_46 61 rfl ?_
        refine s_96 62 rfl ?_
        refine s_44 63 rfl rfl ?_
        refine s_29 64 rfl rfl ?_
        refine s_16 32 66 32 jbp_32 rfl ?_
        refine s_184I 0 187 69 187 (m_18_like l _ _ _ _ _ _) rfl k_18_like jw_1876 jw_1877 rfl rfl rfl rfl rfl (fun x2 h3 => ?_)
        refine s_153 0 7 76 72 rfl rfl ?_ ?_
        · exact s_jmp (v_18_spends_76 l k6 hk6 _ _ _ _ _ _ _) ⟨rfl, rfl, rfl, rfl, rfl, rfl, trivial⟩
        · exact s_jmp (v_18_spends_72 l k6 hk6 _ _ _ _ _ _ _) ⟨rfl, rfl, rfl, rfl, rfl, rfl, trivial⟩
theorem w_18_spends_6 (l : Launch)  (n : Nat) : ∀ a0 a1 a2 a3 a4 a6 a7 H, JV l mi_18_spends jeI 6 [(0, .ref a0), (1, .int a1), (2, .ref a2), (3, .int a3), (4, .long a4), (6, .int a6), (7, .int a7)] [] H (F_18_spends_6  n a0 a1 a2 a3 a4 a6 a7 H) := by
  induction n with
  | zero => intro _ _ _ _ _ _ _ _; exact s_none
  | succ n ih => intro a0 a1 a2 a3 a4 a6 a7 H; exact v_18_spends_6 l (F_18_spends_6  n) ih a0 a1 a2 a3 a4 a6 a7 H
theorem v_18_spends (l : Launch) (a0 : Nat) (a1 : Int32) (a2 : Nat) (a3 : Int32) (a4 : Int64) (H : jH) : JV l mi_18_spends jeI 0 [(0, .ref a0), (1, .int a1), (2, .ref a2), (3, .int a3), (4, .long a4)] [] H (F_18_spends a0 a1 a2 a3 a4 H) := by
  unfold F_18_spends
  refine s_3 1 rfl ?_
  refine s_54 6 3 rfl rfl ?_
  refine s_3 4 rfl ?_
  refine s_54 7 6 rfl rfl ?_
  exact s_jmp (w_18_spends_6 l jfuel _ _ _ _ _ _ _ _) ⟨rfl, rfl, rfl, rfl, rfl, rfl, rfl, trivial⟩
theorem m_18_spends (l : Launch) (a0 : Nat) (a1 : Int32) (a2 : Nat) (a3 : Int32) (a4 : Int64) (H : jH) : JMet l y_18_spends prog_14_method_21_code mi_18_spends jeI [.ref a0, .int a1, .ref a2, .int a3, .long a4] H (F_18_spends a0 a1 a2 a3 a4 H) := jmet_of n_18_spends (by decide) ⟨rfl, rfl⟩ (Nat.le_of_ble_eq_true rfl) (v_18_spends l a0 a1 a2 a3 a4 H)
