def mi_13_isRegister : jM := (228642873346908414640706166465497176858, 16, 1, "CoinNodeModel$Points", some FieldType.boolean, "isRegister", 0, 0)
def y_13_isRegister : MethodName := ⟨"CoinNodeModel$Points", "isRegister", "(I)Z"⟩
theorem n_13_isRegister : jn_is prog_17_method_29_code mi_13_isRegister.1 mi_13_isRegister.2.1 := by unfold jn_is; decide +kernel
theorem k_13_isRegister : jmok y_13_isRegister prog_17_method_29_code mi_13_isRegister 1 := ⟨jw_2193, jw_17, ⟨by decide, by decide⟩, by decide +kernel⟩
theorem v_13_isRegister_15 (l : Launch)  (s0 : Int32) (H : jH) : JV l mi_13_isRegister jeI 15 [] [.int s0] H (B_13_isRegister_15  s0 H) := by
  unfold B_13_isRegister_15
  exact s_172Z rfl rfl
theorem v_13_isRegister_14 (l : Launch)   (H : jH) : JV l mi_13_isRegister jeI 14 [] [] H (B_13_isRegister_14   H) := by
  unfold B_13_isRegister_14
  refine s_3 15 rfl ?_
  exact s_jmp (v_13_isRegister_15 l _ _) trivial
theorem v_13_isRegister (l : Launch) (a0 : Int32) (H : jH) : JV l mi_13_isRegister jeI 0 [(0, .int a0)] [] H (F_13_isRegister a0 H) := by
  unfold F_13_isRegister
  refine s_26 1 rfl rfl ?_
  refine s_155 0 13 14 4 rfl rfl ?_ ?_
  · exact s_jmp (v_13_isRegister_14 l _) trivial
  · refine s_26 5 rfl rfl ?_
    refine s_16 8 7 8 jbp_8 rfl ?_
    refine s_162 0 7 14 10 rfl rfl ?_ ?_
    · exact s_jmp (v_13_isRegister_14 l _) trivial
    · refine s_4 11 rfl ?_
      refine s_167 0 4 15 rfl rfl ?_
      exact s_jmp (v_13_isRegister_15 l _ _) trivial
theorem m_13_isRegister (l : Launch) (a0 : Int32) (H : jH) : JMet l y_13_isRegister prog_17_method_29_code mi_13_isRegister jeI [.int a0] H (F_13_isRegister a0 H) := jmet_of n_13_isRegister (by decide) ⟨rfl, rfl⟩ (Nat.le_of_ble_eq_true rfl) (v_13_isRegister l a0 H)
def mi_13_isSpot : jM := (893136224011360994690257405958200090, 15, 1, "CoinNodeModel$Points", some FieldType.boolean, "isSpot", 0, 0)
def y_13_isSpot : MethodName := ⟨"CoinNodeModel$Points", "isSpot", "(I)Z"⟩
theorem n_13_isSpot : jn_is prog_17_method_30_code mi_13_isSpot.1 mi_13_isSpot.2.1 := by unfold jn_is; decide +kernel
theorem k_13_isSpot : jmok y_13_isSpot prog_17_method_30_code mi_13_isSpot 1 := ⟨jw_2119, jw_17, ⟨by decide, by decide⟩, by decide +kernel⟩
theorem v_13_isSpot_14 (l : Launch)  (s0 : Int32) (H : jH) : JV l mi_13_isSpot jeI 14 [] [.int s0] H (B_13_isSpot_14  s0 H) := by
  unfold B_13_isSpot_14
  exact s_172Z rfl rfl
theorem v_13_isSpot_13 (l : Launch)   (H : jH) : JV l mi_13_isSpot jeI 13 [] [] H (B_13_isSpot_13   H) := by
  unfold B_13_isSpot_13
  refine s_3 14 rfl ?_
  exact s_jmp (v_13_isSpot_14 l _ _) trivial
theorem v_13_isSpot (l : Launch) (a0 : Int32) (H : jH) : JV l mi_13_isSpot jeI 0 [(0, .int a0)] [] H (F_13_isSpot a0 H) := by
  unfold F_13_isSpot
  refine s_26 1 rfl rfl ?_
  refine s_155 0 12 13 4 rfl rfl ?_ ?_
  · exact s_jmp (v_13_isSpot_13 l _) trivial
  · refine s_26 5 rfl rfl ?_
    refine s_7 6 rfl ?_
    refine s_162 0 7 13 9 rfl rfl ?_ ?_
    · exact s_jmp (v_13_isSpot_13 l _) trivial
    · refine s_4 10 rfl ?_
      refine s_167 0 4 14 rfl rfl ?_
      exact s_jmp (v_13_isSpot_14 l _ _) trivial
theorem m_13_isSpot (l : Launch) (a0 : Int32) (H : jH) : JMet l y_13_isSpot prog_17_method_30_code mi_13_isSpot jeI [.int a0] H (F_13_isSpot a0 H) := jmet_of n_13_isSpot (by decide) ⟨rfl, rfl⟩ (Nat.le_of_ble_eq_true rfl) (v_13_isSpot l a0 H)
def mi_13_minus : jM := (96935369600730160085303266832524320161242455764333582484389388543135058783816645350105158984571097130, 42, 5, "CoinNodeModel$Points", none, "minus", 1, 26)
def y_13_minus : MethodName := ⟨"CoinNodeModel$Points", "minus", "(IIII)V"⟩
theorem n_13_minus : jn_is prog_17_method_12_code mi_13_minus.1 mi_13_minus.2.1 := by unfold jn_is; decide +kernel
theorem k_13_minus : jmok y_13_minus prog_17_method_12_code mi_13_minus 4 := ⟨jw_2182, jw_17, ⟨by decide, by decide⟩, by decide +kernel⟩
theorem v_13_minus_26 (l : Launch)  (a0 : Nat) (a1 : Int32) (a3 : Int32) (H : jH) : JV l mi_13_minus jeV 26 [(0, .ref a0), (1, .int a1), (3, .int a3)] [] H (B_13_minus_26  a0 a1 a3 H) := by
  unfold B_13_minus_26
  refine s_42 27 rfl rfl ?_
  refine s_16 37 29 37 jbp_37 rfl ?_
  refine s_29 30 rfl rfl ?_
  refine s_2 31 rfl ?_
  refine s_182V 0 74 34 74 (m_13_add l _ _ _ _ _) rfl k_13_add jc_13 jw_2150 jw_2152 jps_110 rfl rfl rfl rfl rfl (fun x1 h2 => ?_)
  refine s_42 35 rfl rfl ?_
  refine s_27 36 rfl rfl ?_
  refine s_16 37 38 37 jbp_37 rfl ?_
  refine s_182V 0 70 41 70 (m_13_copy l _ _ _ _) rfl k_13_copy jc_13 jw_2158 jw_2160 jps_112 rfl rfl rfl rfl rfl (fun x3 h4 => ?_)
  exact s_177 rfl rfl
theorem v_13_minus (l : Launch) (a0 : Nat) (a1 : Int32) (a2 : Int32) (a3 : Int32) (a4 : Int32) (H : jH) : JV l mi_13_minus jeV 0 [(0, .ref a0), (1, .int a1), (2, .int a2), (3, .int a3), (4, .int a4)] [] H (F_13_minus a0 a1 a2 a3 a4 H) := by
  unfold F_13_minus
  refine s_42 1 rfl rfl ?_
  refine s_16 37 3 37 jbp_37 rfl ?_
  refine s_28 4 rfl rfl ?_
  refine s_182V 0 70 7 70 (m_13_copy l _ _ _ _) rfl k_13_copy jc_13 jw_2158 jw_2160 jps_112 rfl rfl rfl rfl rfl (fun x5 h6 => ?_)
  refine s_42 8 rfl rfl ?_
  refine s_16 37 10 37 jbp_37 rfl ?_
  refine s_29 11 rfl rfl ?_
  refine s_182I 0 78 14 78 (m_13_compare l _ _ _ _) rfl k_13_compare jc_13 jw_2124 jw_2126 jps_104 rfl rfl rfl rfl rfl (fun x7 h8 => ?_)
  refine s_156 0 12 26 17 rfl rfl ?_ ?_
  · exact s_jmp (v_13_minus_26 l _ _ _ _) ⟨rfl, rfl, rfl, trivial⟩
  · refine s_42 18 rfl rfl ?_
    refine s_16 37 20 37 jbp_37 rfl ?_
    refine s_21 4 22 rfl rfl ?_
    refine s_4 23 rfl ?_
    refine s_182V 0 74 26 74 (m_13_add l _ _ _ _ _) rfl k_13_add jc_13 jw_2150 jw_2152 jps_110 rfl rfl rfl rfl rfl (fun x9 h10 => ?_)
    exact s_jmp (v_13_minus_26 l _ _ _ _) ⟨rfl, rfl, rfl, trivial⟩
theorem m_13_minus (l : Launch) (a0 : Nat) (a1 : Int32) (a2 : Int32) (a3 : Int32) (a4 : Int32) (H : jH) : JMet l y_13_minus prog_17_method_12_code mi_13_minus jeV [.ref a0, .int a1, .int a2, .int a3, .int a4] H (F_13_minus a0 a1 a2 a3 a4 H) := jmet_of n_13_minus (by decide) ⟨rfl, rfl⟩ (Nat.le_of_ble_eq_true rfl) (v_13_minus l a0 a1 a2 a3 a4 H)
def mi_13_plus : jM := (24815454617786920981837636309081944920124674953265199548847383229359002741466564637638167499789159436330, 43, 5, "CoinNodeModel$Points", none, "plus", 1, 26)
def y_13_plus : MethodName := ⟨"CoinNodeModel$Points", "plus", "(IIII)V"⟩
theorem n_13_plus : jn_is prog_17_method_11_code mi_13_plus.1 mi_13_plus.2.1 := by unfold jn_is; decide +kernel
theorem k_13_plus : jmok y_13_plus prog_17_method_11_code mi_13_plus 4 := ⟨jw_2157, jw_17, ⟨by decide, by decide⟩, by decide +kernel⟩
theorem v_13_plus_35 (l : Launch)  (a0 : Nat) (a1 : Int32) (H : jH) : JV l mi_13_plus jeV 35 [(0, .ref a0), (1, .int a1)] [] H (B_13_plus_35  a0 a1 H) := by
  unfold B_13_plus_35
  refine s_42 36 rfl rfl ?_
  refine s_27 37 rfl rfl ?_
  refine s_16 37 39 37 jbp_37 rfl ?_
  refine s_182V 0 70 42 70 (m_13_copy l _ _ _ _) rfl k_13_copy jc_13 jw_2158 jw_2160 jps_112 rfl rfl rfl rfl rfl (fun x1 h2 => ?_)
  exact s_177 rfl rfl
theorem v_13_plus (l : Launch) (a0 : Nat) (a1 : Int32) (a2 : Int32) (a3 : Int32) (a4 : Int32) (H : jH) : JV l mi_13_plus jeV 0 [(0, .ref a0), (1, .int a1), (2, .int a2), (3, .int a3), (4, .int a4)] [] H (F_13_plus a0 a1 a2 a3 a4 H) := by
  unfold F_13_plus
  refine s_42 1 rfl rfl ?_
  refine s_16 37 3 37 jbp_37 rfl ?_
  refine s_28 4 rfl rfl ?_
  refine s_182V 0 70 7 70 (m_13_copy l _ _ _ _) rfl k_13_copy jc_13 jw_2158 jw_2160 jps_112 rfl rfl rfl rfl rfl (fun x3 h4 => ?_)
  refine s_42 8 rfl rfl ?_
  refine s_16 37 10 37 jbp_37 rfl ?_
  refine s_29 11 rfl rfl ?_
  refine s_4 12 rfl ?_
  refine s_182V 0 74 15 74 (m_13_add l _ _ _ _ _) rfl k_13_add jc_13 jw_2150 jw_2152 jps_110 rfl rfl rfl rfl rfl (fun x5 h6 => ?_)
  refine s_42 16 rfl rfl ?_
  refine s_16 37 18 37 jbp_37 rfl ?_
  refine s_21 4 20 rfl rfl ?_
  refine s_182I 0 78 23 78 (m_13_compare l _ _ _ _) rfl k_13_compare jc_13 jw_2124 jw_2126 jps_104 rfl rfl rfl rfl rfl (fun x7 h8 => ?_)
  refine s_155 0 12 35 26 rfl rfl ?_ ?_
  · exact s_jmp (v_13_plus_35 l _ _ _) ⟨rfl, rfl, trivial⟩
  · refine s_42 27 rfl rfl ?_
    refine s_16 37 29 37 jbp_37 rfl ?_
    refine s_21 4 31 rfl rfl ?_
    refine s_2 32 rfl ?_
    refine s_182V 0 74 35 74 (m_13_add l _ _ _ _ _) rfl k_13_add jc_13 jw_2150 jw_2152 jps_110 rfl rfl rfl rfl rfl (fun x9 h10 => ?_)
    exact s_jmp (v_13_plus_35 l _ _ _) ⟨rfl, rfl, trivial⟩
theorem m_13_plus (l : Launch) (a0 : Nat) (a1 : Int32) (a2 : Int32) (a3 : Int32) (a4 : Int32) (H : jH) : JMet l y_13_plus prog_17_method_11_code mi_13_plus jeV [.ref a0, .int a1, .int a2, .int a3, .int a4] H (F_13_plus a0 a1 a2 a3 a4 H) := jmet_of n_13_plus (by decide) ⟨rfl, rfl⟩ (Nat.le_of_ble_eq_true rfl) (v_13_plus l a0 a1 a2 a3 a4 H)
def mi_13_twice : jM := (205302066570804203712487334439184848476223420775254882276473912829973208411001917412050040030429773932991995494038748394121647679683209567263752447778217380840771404811884700672294879640507825928060347462194984916734944234831010498972202778879125413462105995515960606739422054666452390534569396508087244020704705567603854733806664349474263398212520084557024633829431399504204509449019943563965665561258571640206609645733012080827783089752991828522710871621366627474124901720302744364837969578594067067093925079123879035320674102116221076705957865524070896327824779778019457044091218667964782157303452483035231198904065667677556066015120043856620498536441065405938068492617185453397603454640497604042075840593758611086184490, 300, 3, "CoinNodeModel$Points", none, "twice", 3, 78)
def y_13_twice : MethodName := ⟨"CoinNodeModel$Points", "twice", "(I)V"⟩
theorem n_13_twice : jn_is prog_17_method_24_code mi_13_twice.1 mi_13_twice.2.1 := by unfold jn_is; decide +kernel
theorem k_13_twice : jmok y_13_twice prog_17_method_24_code mi_13_twice 1 := ⟨jw_2242, jw_17, ⟨by decide, by decide⟩, by decide +kernel⟩
theorem v_13_twice_267 (l : Launch) (k267 : Nat → Int32 → Int32 → jH → Option (Unit × jH)) (hk267 : ∀ a0 a1 a2 H, JV l mi_13_twice jeV 267 [(0, .ref a0), (1, .int a1), (2, .int a2)] [] H (k267 a0 a1 a2 H)) (a0 : Nat) (a1 : Int32) (a2 : Int32) (H : jH) : JV l mi_13_twice jeV 267 [(0, .ref a0), (1, .int a1), (2, .int a2)] [] H (B_13_twice_267 k267 a0 a1 a2 H) := by
  unfold B_13_twice_267
  refine s_28 268 rfl rfl ?_
  refine s_6 269 rfl ?_
  refine s_162 0 21 290 272 rfl rfl ?_ ?_
  · refine s_42 291 rfl rfl ?_
    refine s_27 292 rfl rfl ?_
    refine s_5 293 rfl ?_
    refine s_96 294 rfl ?_
    refine s_16 34 296 34 jbp_34 rfl ?_
    refine s_182V 0 70 299 70 (m_13_copy l _ _ _ _) rfl k_13_copy jc_13 jw_2158 jw_2160 jps_112 rfl rfl rfl rfl rfl (fun x1 h2 => ?_)
    exact s_177 rfl rfl
  · refine s_42 273 rfl rfl ?_
    refine s_16 34 275 34 jbp_34 rfl ?_
    refine s_16 34 277 34 jbp_34 rfl ?_
    refine s_16 34 279 34 jbp_34 rfl ?_
    refine s_16 8 281 8 jbp_8 rfl ?_
    refine s_182V 0 124 284 124 (m_13_plus l _ _ _ _ _ _) rfl k_13_plus jc_13 jw_2154 jw_2156 jps_111 rfl rfl rfl rfl rfl (fun x3 h4 => ?_)
    refine s_132L 2 1 287 1 ji_1 rfl rfl rfl (fun x5 => ?_)
    refine s_167 255 236 267 rfl rfl ?_
    exact s_jmp (hk267 _ _ _ _) ⟨rfl, rfl, rfl, trivial⟩
theorem w_13_twice_267 (l : Launch)  (n : Nat) : ∀ a0 a1 a2 H, JV l mi_13_twice jeV 267 [(0, .ref a0), (1, .int a1), (2, .int a2)] [] H (F_13_twice_267  n a0 a1 a2 H) := by
  induction n with
  | zero => intro _ _ _ _; exact s_none
  | succ n ih => intro a0 a1 a2 H; exact v_13_twice_267 l (F_13_twice_267  n) ih a0 a1 a2 H
theorem v_13_twice_185 (l : Launch) (k185 : Nat → Int32 → Int32 → jH → Option (Unit × jH)) (hk185 : ∀ a0 a1 a2 H, JV l mi_13_twice jeV 185 [(0, .ref a0), (1, .int a1), (2, .int a2)] [] H (k185 a0 a1 a2 H)) (a0 : Nat) (a1 : Int32) (a2 : Int32) (H : jH) : JV l mi_13_twice jeV 185 [(0, .ref a0), (1, .int a1), (2, .int a2)] [] H (B_13_twice_185 k185 a0 a1 a2 H) := by
  unfold B_13_twice_185
  refine s_28 186 rfl rfl ?_
  refine s_16 8 188 8 jbp_8 rfl ?_
  refine s_162 0 21 209 191 rfl rfl ?_ ?_
  · refine s_42 210 rfl rfl ?_
    refine s_27 211 rfl rfl ?_
    refine s_4 212 rfl ?_
    refine s_96 213 rfl ?_
    refine s_16 34 215 34 jbp_34 rfl ?_
    refine s_182V 0 70 218 70 (m_13_copy l _ _ _ _) rfl k_13_copy jc_13 jw_2158 jw_2160 jps_112 rfl rfl rfl rfl rfl (fun x6 h7 => ?_)
    refine s_42 219 rfl rfl ?_
    refine s_16 34 221 34 jbp_34 rfl ?_
    refine s_16 36 223 36 jbp_36 rfl ?_
    refine s_16 32 225 32 jbp_32 rfl ?_
    refine s_16 8 227 8 jbp_8 rfl ?_
    refine s_182V 0 96 230 96 (m_13_multiply l _ _ _ _ _ _) rfl k_13_multiply jc_13 jw_2132 jw_2134 jps_106 rfl rfl rfl rfl rfl (fun x8 h9 => ?_)
    refine s_42 231 rfl rfl ?_
    refine s_27 232 rfl rfl ?_
    refine s_16 34 234 34 jbp_34 rfl ?_
    refine s_16 34 236 34 jbp_34 rfl ?_
    refine s_16 8 238 8 jbp_8 rfl ?_
    refine s_182V 0 124 241 124 (m_13_plus l _ _ _ _ _ _) rfl k_13_plus jc_13 jw_2154 jw_2156 jps_111 rfl rfl rfl rfl rfl (fun x10 h11 => ?_)
    refine s_42 242 rfl rfl ?_
    refine s_16 34 244 34 jbp_34 rfl ?_
    refine s_16 32 246 32 jbp_32 rfl ?_
    refine s_16 32 248 32 jbp_32 rfl ?_
    refine s_16 8 250 8 jbp_8 rfl ?_
    refine s_182V 0 96 253 96 (m_13_multiply l _ _ _ _ _ _) rfl k_13_multiply jc_13 jw_2132 jw_2134 jps_106 rfl rfl rfl rfl rfl (fun x12 h13 => ?_)
    refine s_42 254 rfl rfl ?_
    refine s_16 34 256 34 jbp_34 rfl ?_
    refine s_16 34 258 34 jbp_34 rfl ?_
    refine s_16 32 260 32 jbp_32 rfl ?_
    refine s_16 8 262 8 jbp_8 rfl ?_
    refine s_182V 0 96 265 96 (m_13_multiply l _ _ _ _ _ _) rfl k_13_multiply jc_13 jw_2132 jw_2134 jps_106 rfl rfl rfl rfl rfl (fun x14 h15 => ?_)
    refine s_3 266 rfl ?_
    refine s_61 267 rfl rfl ?_
    exact s_jmp (w_13_twice_267 l jfuel _ _ _ _) ⟨rfl, rfl, rfl, trivial⟩
  · refine s_42 192 rfl rfl ?_
    refine s_16 34 194 34 jbp_34 rfl ?_
    refine s_16 34 196 34 jbp_34 rfl ?_
    refine s_16 35 198 35 jbp_35 rfl ?_
    refine s_16 8 200 8 jbp_8 rfl ?_
    refine s_182V 0 112 203 112 (m_13_minus l _ _ _ _ _ _) rfl k_13_minus jc_13 jw_2179 jw_2181 jps_117 rfl rfl rfl rfl rfl (fun x16 h17 => ?_)
    refine s_132L 2 1 206 1 ji_1 rfl rfl rfl (fun x18 => ?_)
    refine s_167 255 235 185 rfl rfl ?_
    exact s_jmp (hk185 _ _ _ _) ⟨rfl, rfl, rfl, trivial⟩
theorem w_13_twice_185 (l : Launch)  (n : Nat) : ∀ a0 a1 a2 H, JV l mi_13_twice jeV 185 [(0, .ref a0), (1, .int a1), (2, .int a2)] [] H (F_13_twice_185  n a0 a1 a2 H) := by
  induction n with
  | zero => intro _ _ _ _; exact s_none
  | succ n ih => intro a0 a1 a2 H; exact v_13_twice_185 l (F_13_twice_185  n) ih a0 a1 a2 H
theorem v_13_twice_86 (l : Launch) (k86 : Nat → Int32 → Int32 → jH → Option (Unit × jH)) (hk86 : ∀ a0 a1 a2 H, JV l mi_13_twice jeV 86 [(0, .ref a0), (1, .int a1), (2, .int a2)] [] H (k86 a0 a1 a2 H)) (a0 : Nat) (a1 : Int32) (a2 : Int32) (H : jH) : JV l mi_13_twice jeV 86 [(0, .ref a0), (1, .int a1), (2, .int a2)] [] H (B_13_twice_86 k86 a0 a1 a2 H) := by
  unfold B_13_twice_86
  refine s_28 87 rfl rfl ?_
  refine s_16 8 89 8 jbp_8 rfl ?_
  refine s_162 0 21 110 92 rfl rfl ?_ ?_
  · refine s_42 111 rfl rfl ?_
    refine s_16 34 113 34 jbp_34 rfl ?_
    refine s_16 33 115 33 jbp_33 rfl ?_
    refine s_16 33 117 33 jbp_33 rfl ?_
    refine s_16 8 119 8 jbp_8 rfl ?_
    refine s_182V 0 124 122 124 (m_13_plus l _ _ _ _ _ _) rfl k_13_plus jc_13 jw_2154 jw_2156 jps_111 rfl rfl rfl rfl rfl (fun x19 h20 => ?_)
    refine s_42 123 rfl rfl ?_
    refine s_16 34 125 34 jbp_34 rfl ?_
    refine s_16 34 127 34 jbp_34 rfl ?_
    refine s_16 34 129 34 jbp_34 rfl ?_
    refine s_16 8 131 8 jbp_8 rfl ?_
    refine s_182V 0 124 134 124 (m_13_plus l _ _ _ _ _ _) rfl k_13_plus jc_13 jw_2154 jw_2156 jps_111 rfl rfl rfl rfl rfl (fun x21 h22 => ?_)
    refine s_42 135 rfl rfl ?_
    refine s_16 34 137 34 jbp_34 rfl ?_
    refine s_16 34 139 34 jbp_34 rfl ?_
    refine s_16 36 141 36 jbp_36 rfl ?_
    refine s_16 8 143 8 jbp_8 rfl ?_
    refine s_182V 0 112 146 112 (m_13_minus l _ _ _ _ _ _) rfl k_13_minus jc_13 jw_2179 jw_2181 jps_117 rfl rfl rfl rfl rfl (fun x23 h24 => ?_)
    refine s_42 147 rfl rfl ?_
    refine s_16 34 149 34 jbp_34 rfl ?_
    refine s_16 31 151 31 jbp_31 rfl ?_
    refine s_16 34 153 34 jbp_34 rfl ?_
    refine s_16 8 155 8 jbp_8 rfl ?_
    refine s_182V 0 96 158 96 (m_13_multiply l _ _ _ _ _ _) rfl k_13_multiply jc_13 jw_2132 jw_2134 jps_106 rfl rfl rfl rfl rfl (fun x25 h26 => ?_)
    refine s_42 159 rfl rfl ?_
    refine s_16 35 161 35 jbp_35 rfl ?_
    refine s_27 162 rfl rfl ?_
    refine s_4 163 rfl ?_
    refine s_96 164 rfl ?_
    refine s_16 32 166 32 jbp_32 rfl ?_
    refine s_16 8 168 8 jbp_8 rfl ?_
    refine s_182V 0 96 171 96 (m_13_multiply l _ _ _ _ _ _) rfl k_13_multiply jc_13 jw_2132 jw_2134 jps_106 rfl rfl rfl rfl rfl (fun x27 h28 => ?_)
    refine s_42 172 rfl rfl ?_
    refine s_16 35 174 35 jbp_35 rfl ?_
    refine s_16 35 176 35 jbp_35 rfl ?_
    refine s_16 35 178 35 jbp_35 rfl ?_
    refine s_16 8 180 8 jbp_8 rfl ?_
    refine s_182V 0 96 183 96 (m_13_multiply l _ _ _ _ _ _) rfl k_13_multiply jc_13 jw_2132 jw_2134 jps_106 rfl rfl rfl rfl rfl (fun x29 h30 => ?_)
    refine s_3 184 rfl ?_
    refine s_61 185 rfl rfl ?_
    exact s_jmp (w_13_twice_185 l jfuel _ _ _ _) ⟨rfl, rfl, rfl, trivial⟩
  · refine s_42 93 rfl rfl ?_
    refine s_16 36 95 36 jbp_36 rfl ?_
    refine s_16 36 97 36 jbp_36 rfl ?_
    refine s_16 33 99 33 jbp_33 rfl ?_
    refine s_16 8 101 8 jbp_8 rfl ?_
    refine s_182V 0 112 104 112 (m_13_minus l _ _ _ _ _ _) rfl k_13_minus jc_13 jw_2179 jw_2181 jps_117 rfl rfl rfl rfl rfl (fun x31 h32 => ?_)
    refine s_132L 2 1 107 1 ji_1 rfl rfl rfl (fun x33 => ?_)
    refine s_167 255 235 86 rfl rfl ?_
    exact s_jmp (hk86 _ _ _ _) ⟨rfl, rfl, rfl, trivial⟩
theorem w_13_twice_86 (l : Launch)  (n : Nat) : ∀ a0 a1 a2 H, JV l mi_13_twice jeV 86 [(0, .ref a0), (1, .int a1), (2, .int a2)] [] H (F_13_twice_86  n a0 a1 a2 H) := by
  induction n with
  | zero => intro _ _ _ _; exact s_none
  | succ n ih => intro a0 a1 a2 H; exact v_13_twice_86 l (F_13_twice_86  n) ih a0 a1 a2 H
theorem v_13_twice (l : Launch) (a0 : Nat) (a1 : Int32) (H : jH) : JV l mi_13_twice jeV 0 [(0, .ref a0), (1, .int a1)] [] H (F_13_twice a0 a1 H) := by
  unfold F_13_twice
  refine s_42 1 rfl rfl ?_
  refine s_16 31 3 31 jbp_31 rfl ?_
  refine s_27 4 rfl rfl ?_
  refine s_27 5 rfl rfl ?_
  refine s_16 8 7 8 jbp_8 rfl ?_
  refine s_182V 0 96 10 96 (m_13_multiply l _ _ _ _ _ _) rfl k_13_multiply jc_13 jw_2132 jw_2134 jps_106 rfl rfl rfl rfl rfl (fun x34 h35 => ?_)
  refine s_42 11 rfl rfl ?_
  refine s_16 34 13 34 jbp_34 rfl ?_
  refine s_16 31 15 31 jbp_31 rfl ?_
  refine s_16 31 17 31 jbp_31 rfl ?_
  refine s_16 8 19 8 jbp_8 rfl ?_
  refine s_182V 0 124 22 124 (m_13_plus l _ _ _ _ _ _) rfl k_13_plus jc_13 jw_2154 jw_2156 jps_111 rfl rfl rfl rfl rfl (fun x36 h37 => ?_)
  refine s_42 23 rfl rfl ?_
  refine s_16 31 25 31 jbp_31 rfl ?_
  refine s_16 31 27 31 jbp_31 rfl ?_
  refine s_16 34 29 34 jbp_34 rfl ?_
  refine s_16 8 31 8 jbp_8 rfl ?_
  refine s_182V 0 124 34 124 (m_13_plus l _ _ _ _ _ _) rfl k_13_plus jc_13 jw_2154 jw_2156 jps_111 rfl rfl rfl rfl rfl (fun x38 h39 => ?_)
  refine s_42 35 rfl rfl ?_
  refine s_16 32 37 32 jbp_32 rfl ?_
  refine s_27 38 rfl rfl ?_
  refine s_4 39 rfl ?_
  refine s_96 40 rfl ?_
  refine s_27 41 rfl rfl ?_
  refine s_5 42 rfl ?_
  refine s_96 43 rfl ?_
  refine s_16 8 45 8 jbp_8 rfl ?_
  refine s_182V 0 96 48 96 (m_13_multiply l _ _ _ _ _ _) rfl k_13_multiply jc_13 jw_2132 jw_2134 jps_106 rfl rfl rfl rfl rfl (fun x40 h41 => ?_)
  refine s_42 49 rfl rfl ?_
  refine s_16 33 51 33 jbp_33 rfl ?_
  refine s_27 52 rfl rfl ?_
  refine s_27 53 rfl rfl ?_
  refine s_4 54 rfl ?_
  refine s_96 55 rfl ?_
  refine s_16 8 57 8 jbp_8 rfl ?_
  refine s_182V 0 96 60 96 (m_13_multiply l _ _ _ _ _ _) rfl k_13_multiply jc_13 jw_2132 jw_2134 jps_106 rfl rfl rfl rfl rfl (fun x42 h43 => ?_)
  refine s_42 61 rfl rfl ?_
  refine s_16 33 63 33 jbp_33 rfl ?_
  refine s_16 33 65 33 jbp_33 rfl ?_
  refine s_16 32 67 32 jbp_32 rfl ?_
  refine s_16 8 69 8 jbp_8 rfl ?_
  refine s_182V 0 96 72 96 (m_13_multiply l _ _ _ _ _ _) rfl k_13_multiply jc_13 jw_2132 jw_2134 jps_106 rfl rfl rfl rfl rfl (fun x44 h45 => ?_)
  refine s_42 73 rfl rfl ?_
  refine s_16 36 75 36 jbp_36 rfl ?_
  refine s_16 31 77 31 jbp_31 rfl ?_
  refine s_16 31 79 31 jbp_31 rfl ?_
  refine s_16 8 81 8 jbp_8 rfl ?_
  refine s_182V 0 96 84 96 (m_13_multiply l _ _ _ _ _ _) rfl k_13_multiply jc_13 jw_2132 jw_2134 jps_106 rfl rfl rfl rfl rfl (fun x46 h47 => ?_)
  refine s_3 85 rfl ?_
  refine s_61 86 rfl rfl ?_
  exact s_jmp (w_13_twice_86 l jfuel _ _ _ _) ⟨rfl, rfl, rfl, trivial⟩
theorem m_13_twice (l : Launch) (a0 : Nat) (a1 : Int32) (H : jH) : JMet l y_13_twice prog_17_method_24_code mi_13_twice jeV [.ref a0, .int a1] H (F_13_twice a0 a1 H) := jmet_of n_13_twice (by decide) ⟨rfl, rfl⟩ (Nat.le_of_ble_eq_true rfl) (v_13_twice l a0 a1 H)
def mi_13_join : jM := (23785974735268166090164031584312959641469611015148054599465588008724560197565375279504404001947462369068855351838261491937580800488809431952862251570505112807902686726387642072677713689706330949429587439910150432834125638411514682415267808839822479826432181635321641330352667510614758662232804237660904048346525067657983142364194970947463880142640124181413116813546699454564084411747935472580411439390795848008504066579785898815608946134769993115192227783821784231017801165107806356523284148506649772107484347537333000620029937578669000667088142178645481623106366015908820614440620432921138230821806732579576094643881525357733132448678511180097210090418556964250327367542946800827022388532703045359295994500026889461782075763392641765073408267790687260487635505698484160393179235854747422073717922858, 332, 3, "CoinNodeModel$Points", none, "join", 4, 100)
def y_13_join : MethodName := ⟨"CoinNodeModel$Points", "join", "(II)V"⟩
theorem n_13_join : jn_is prog_17_method_25_code mi_13_join.1 mi_13_join.2.1 := by unfold jn_is; decide +kernel
theorem k_13_join : jmok y_13_join prog_17_method_25_code mi_13_join 2 := ⟨jw_2250, jw_17, ⟨by decide, by decide⟩, by decide +kernel⟩
theorem v_13_join_133 (l : Launch)   (H : jH) : JV l mi_13_join jeV 133 [] [] H (B_13_join_133   H) := by
  unfold B_13_join_133
  exact s_177 rfl rfl
theorem v_13_join (l : Launch) (a0 : Nat) (a1 : Int32) (a2 : Int32) (H : jH) : JV l mi_13_join jeV 0 [(0, .ref a0), (1, .int a1), (2, .int a2)] [] H (F_13_join a0 a1 a2 H) := by
  unfold F_13_join
  refine s_42 1 rfl rfl ?_
  refine s_28 2 rfl rfl ?_
  refine s_182I 0 118 5 118 (m_13_isNone l _ _ _) rfl k_13_isNone jc_13 jw_2235 jw_2237 jps_127 rfl rfl rfl rfl rfl (fun x1 h2 => ?_)
  refine s_153 0 4 9 8 rfl rfl ?_ ?_
  · refine s_42 10 rfl rfl ?_
    refine s_27 11 rfl rfl ?_
    refine s_182I 0 118 14 118 (m_13_isNone l _ _ _) rfl k_13_isNone jc_13 jw_2235 jw_2237 jps_127 rfl rfl rfl rfl rfl (fun x3 h4 => ?_)
    refine s_153 0 10 24 17 rfl rfl ?_ ?_
    · refine s_42 25 rfl rfl ?_
      refine s_16 31 27 31 jbp_31 rfl ?_
      refine s_28 28 rfl rfl ?_
      refine s_4 29 rfl ?_
      refine s_96 30 rfl ?_
      refine s_27 31 rfl rfl ?_
      refine s_5 32 rfl ?_
      refine s_96 33 rfl ?_
      refine s_16 8 35 8 jbp_8 rfl ?_
      refine s_182V 0 96 38 96 (m_13_multiply l _ _ _ _ _ _) rfl k_13_multiply jc_13 jw_2132 jw_2134 jps_106 rfl rfl rfl rfl rfl (fun x5 h6 => ?_)
      refine s_42 39 rfl rfl ?_
      refine s_16 34 41 34 jbp_34 rfl ?_
      refine s_27 42 rfl rfl ?_
      refine s_4 43 rfl ?_
      refine s_96 44 rfl ?_
      refine s_28 45 rfl rfl ?_
      refine s_5 46 rfl ?_
      refine s_96 47 rfl ?_
      refine s_16 8 49 8 jbp_8 rfl ?_
      refine s_182V 0 96 52 96 (m_13_multiply l _ _ _ _ _ _) rfl k_13_multiply jc_13 jw_2132 jw_2134 jps_106 rfl rfl rfl rfl rfl (fun x7 h8 => ?_)
      refine s_42 53 rfl rfl ?_
      refine s_16 31 55 31 jbp_31 rfl ?_
      refine s_16 31 57 31 jbp_31 rfl ?_
      refine s_16 34 59 34 jbp_34 rfl ?_
      refine s_16 8 61 8 jbp_8 rfl ?_
      refine s_182V 0 112 64 112 (m_13_minus l _ _ _ _ _ _) rfl k_13_minus jc_13 jw_2179 jw_2181 jps_117 rfl rfl rfl rfl rfl (fun x9 h10 => ?_)
      refine s_42 65 rfl rfl ?_
      refine s_16 32 67 32 jbp_32 rfl ?_
      refine s_28 68 rfl rfl ?_
      refine s_27 69 rfl rfl ?_
      refine s_5 70 rfl ?_
      refine s_96 71 rfl ?_
      refine s_16 8 73 8 jbp_8 rfl ?_
      refine s_182V 0 96 76 96 (m_13_multiply l _ _ _ _ _ _) rfl k_13_multiply jc_13 jw_2132 jw_2134 jps_106 rfl rfl rfl rfl rfl (fun x11 h12 => ?_)
      refine s_42 77 rfl rfl ?_
      refine s_16 34 79 34 jbp_34 rfl ?_
      refine s_27 80 rfl rfl ?_
      refine s_28 81 rfl rfl ?_
      refine s_5 82 rfl ?_
      refine s_96 83 rfl ?_
      refine s_16 8 85 8 jbp_8 rfl ?_
      refine s_182V 0 96 88 96 (m_13_multiply l _ _ _ _ _ _) rfl k_13_multiply jc_13 jw_2132 jw_2134 jps_106 rfl rfl rfl rfl rfl (fun x13 h14 => ?_)
      refine s_42 89 rfl rfl ?_
      refine s_16 32 91 32 jbp_32 rfl ?_
      refine s_16 32 93 32 jbp_32 rfl ?_
      refine s_16 34 95 34 jbp_34 rfl ?_
      refine s_16 8 97 8 jbp_8 rfl ?_
      refine s_182V 0 112 100 112 (m_13_minus l _ _ _ _ _ _) rfl k_13_minus jc_13 jw_2179 jw_2181 jps_117 rfl rfl rfl rfl rfl (fun x15 h16 => ?_)
      refine s_42 101 rfl rfl ?_
      refine s_16 32 103 32 jbp_32 rfl ?_
      refine s_182I 0 115 106 115 (m_13_isNothing l _ _ _) rfl k_13_isNothing jc_13 jw_2223 jw_2225 jps_124 rfl rfl rfl rfl rfl (fun x17 h18 => ?_)
      refine s_153 0 28 134 109 rfl rfl ?_ ?_
      · refine s_42 135 rfl rfl ?_
        refine s_16 35 137 35 jbp_35 rfl ?_
        refine s_16 32 139 32 jbp_32 rfl ?_
        refine s_16 32 141 32 jbp_32 rfl ?_
        refine s_16 8 143 8 jbp_8 rfl ?_
        refine s_182V 0 96 146 96 (m_13_multiply l _ _ _ _ _ _) rfl k_13_multiply jc_13 jw_2132 jw_2134 jps_106 rfl rfl rfl rfl rfl (fun x19 h20 => ?_)
        refine s_42 147 rfl rfl ?_
        refine s_16 33 149 33 jbp_33 rfl ?_
        refine s_16 35 151 35 jbp_35 rfl ?_
        refine s_16 34 153 34 jbp_34 rfl ?_
        refine s_16 8 155 8 jbp_8 rfl ?_
        refine s_182V 0 96 158 96 (m_13_multiply l _ _ _ _ _ _) rfl k_13_multiply jc_13 jw_2132 jw_2134 jps_106 rfl rfl rfl rfl rfl (fun x21 h22 => ?_)
        refine s_42 159 rfl rfl ?_
        refine s_16 35 161 35 jbp_35 rfl ?_
        refine s_16 35 163 35 jbp_35 rfl ?_
        refine s_16 32 165 32 jbp_32 rfl ?_
        refine s_16 8 167 8 jbp_8 rfl ?_
        refine s_182V 0 96 170 96 (m_13_multiply l _ _ _ _ _ _) rfl k_13_multiply jc_13 jw_2132 jw_2134 jps_106 rfl rfl rfl rfl rfl (fun x23 h24 => ?_)
        refine s_42 171 rfl rfl ?_
        refine s_16 36 173 36 jbp_36 rfl ?_
        refine s_27 174 rfl rfl ?_
        refine s_5 175 rfl ?_
        refine s_96 176 rfl ?_
        refine s_28 177 rfl rfl ?_
        refine s_5 178 rfl ?_
        refine s_96 179 rfl ?_
        refine s_16 8 181 8 jbp_8 rfl ?_
        refine s_182V 0 96 184 96 (m_13_multiply l _ _ _ _ _ _) rfl k_13_multiply jc_13 jw_2132 jw_2134 jps_106 rfl rfl rfl rfl rfl (fun x25 h26 => ?_)
        refine s_42 185 rfl rfl ?_
        refine s_16 34 187 34 jbp_34 rfl ?_
        refine s_16 31 189 31 jbp_31 rfl ?_
        refine s_16 31 191 31 jbp_31 rfl ?_
        refine s_16 8 193 8 jbp_8 rfl ?_
        refine s_182V 0 96 196 96 (m_13_multiply l _ _ _ _ _ _) rfl k_13_multiply jc_13 jw_2132 jw_2134 jps_106 rfl rfl rfl rfl rfl (fun x27 h28 => ?_)
        refine s_42 197 rfl rfl ?_
        refine s_16 34 199 34 jbp_34 rfl ?_
        refine s_16 34 201 34 jbp_34 rfl ?_
        refine s_16 36 203 36 jbp_36 rfl ?_
        refine s_16 8 205 8 jbp_8 rfl ?_
        refine s_182V 0 96 208 96 (m_13_multiply l _ _ _ _ _ _) rfl k_13_multiply jc_13 jw_2132 jw_2134 jps_106 rfl rfl rfl rfl rfl (fun x29 h30 => ?_)
        refine s_42 209 rfl rfl ?_
        refine s_16 34 211 34 jbp_34 rfl ?_
        refine s_16 34 213 34 jbp_34 rfl ?_
        refine s_16 35 215 35 jbp_35 rfl ?_
        refine s_16 8 217 8 jbp_8 rfl ?_
        refine s_182V 0 112 220 112 (m_13_minus l _ _ _ _ _ _) rfl k_13_minus jc_13 jw_2179 jw_2181 jps_117 rfl rfl rfl rfl rfl (fun x31 h32 => ?_)
        refine s_42 221 rfl rfl ?_
        refine s_16 34 223 34 jbp_34 rfl ?_
        refine s_16 34 225 34 jbp_34 rfl ?_
        refine s_16 33 227 33 jbp_33 rfl ?_
        refine s_16 8 229 8 jbp_8 rfl ?_
        refine s_182V 0 112 232 112 (m_13_minus l _ _ _ _ _ _) rfl k_13_minus jc_13 jw_2179 jw_2181 jps_117 rfl rfl rfl rfl rfl (fun x33 h34 => ?_)
        refine s_42 233 rfl rfl ?_
        refine s_16 34 235 34 jbp_34 rfl ?_
        refine s_16 34 237 34 jbp_34 rfl ?_
        refine s_16 33 239 33 jbp_33 rfl ?_
        refine s_16 8 241 8 jbp_8 rfl ?_
        refine s_182V 0 112 244 112 (m_13_minus l _ _ _ _ _ _) rfl k_13_minus jc_13 jw_2179 jw_2181 jps_117 rfl rfl rfl rfl rfl (fun x35 h36 => ?_)
        refine s_42 245 rfl rfl ?_
        refine s_16 33 247 33 jbp_33 rfl ?_
        refine s_16 33 249 33 jbp_33 rfl ?_
        refine s_16 34 251 34 jbp_34 rfl ?_
        refine s_16 8 253 8 jbp_8 rfl ?_
        refine s_182V 0 112 256 112 (m_13_minus l _ _ _ _ _ _) rfl k_13_minus jc_13 jw_2179 jw_2181 jps_117 rfl rfl rfl rfl rfl (fun x37 h38 => ?_)
        refine s_42 257 rfl rfl ?_
        refine s_16 33 259 33 jbp_33 rfl ?_
        refine s_16 31 261 31 jbp_31 rfl ?_
        refine s_16 33 263 33 jbp_33 rfl ?_
        refine s_16 8 265 8 jbp_8 rfl ?_
        refine s_182V 0 96 268 96 (m_13_multiply l _ _ _ _ _ _) rfl k_13_multiply jc_13 jw_2132 jw_2134 jps_106 rfl rfl rfl rfl rfl (fun x39 h40 => ?_)
        refine s_42 269 rfl rfl ?_
        refine s_16 31 271 31 jbp_31 rfl ?_
        refine s_27 272 rfl rfl ?_
        refine s_4 273 rfl ?_
        refine s_96 274 rfl ?_
        refine s_28 275 rfl rfl ?_
        refine s_5 276 rfl ?_
        refine s_96 277 rfl ?_
        refine s_16 8 279 8 jbp_8 rfl ?_
        refine s_182V 0 96 282 96 (m_13_multiply l _ _ _ _ _ _) rfl k_13_multiply jc_13 jw_2132 jw_2134 jps_106 rfl rfl rfl rfl rfl (fun x41 h42 => ?_)
        refine s_42 283 rfl rfl ?_
        refine s_16 31 285 31 jbp_31 rfl ?_
        refine s_16 31 287 31 jbp_31 rfl ?_
        refine s_16 35 289 35 jbp_35 rfl ?_
        refine s_16 8 291 8 jbp_8 rfl ?_
        refine s_182V 0 96 294 96 (m_13_multiply l _ _ _ _ _ _) rfl k_13_multiply jc_13 jw_2132 jw_2134 jps_106 rfl rfl rfl rfl rfl (fun x43 h44 => ?_)
        refine s_42 295 rfl rfl ?_
        refine s_27 296 rfl rfl ?_
        refine s_4 297 rfl ?_
        refine s_96 298 rfl ?_
        refine s_16 33 300 33 jbp_33 rfl ?_
        refine s_16 31 302 31 jbp_31 rfl ?_
        refine s_16 8 304 8 jbp_8 rfl ?_
        refine s_182V 0 112 307 112 (m_13_minus l _ _ _ _ _ _) rfl k_13_minus jc_13 jw_2179 jw_2181 jps_117 rfl rfl rfl rfl rfl (fun x45 h46 => ?_)
        refine s_42 308 rfl rfl ?_
        refine s_27 309 rfl rfl ?_
        refine s_16 32 311 32 jbp_32 rfl ?_
        refine s_16 34 313 34 jbp_34 rfl ?_
        refine s_16 8 315 8 jbp_8 rfl ?_
        refine s_182V 0 96 318 96 (m_13_multiply l _ _ _ _ _ _) rfl k_13_multiply jc_13 jw_2132 jw_2134 jps_106 rfl rfl rfl rfl rfl (fun x47 h48 => ?_)
        refine s_42 319 rfl rfl ?_
        refine s_27 320 rfl rfl ?_
        refine s_5 321 rfl ?_
        refine s_96 322 rfl ?_
        refine s_16 35 324 35 jbp_35 rfl ?_
        refine s_16 36 326 36 jbp_36 rfl ?_
        refine s_16 8 328 8 jbp_8 rfl ?_
        refine s_182V 0 96 331 96 (m_13_multiply l _ _ _ _ _ _) rfl k_13_multiply jc_13 jw_2132 jw_2134 jps_106 rfl rfl rfl rfl rfl (fun x49 h50 => ?_)
        exact s_177 rfl rfl
      · refine s_42 110 rfl rfl ?_
        refine s_16 31 112 31 jbp_31 rfl ?_
        refine s_182I 0 115 115 115 (m_13_isNothing l _ _ _) rfl k_13_isNothing jc_13 jw_2223 jw_2225 jps_124 rfl rfl rfl rfl rfl (fun x51 h52 => ?_)
        refine s_153 0 11 126 118 rfl rfl ?_ ?_
        · refine s_42 127 rfl rfl ?_
          refine s_27 128 rfl rfl ?_
          refine s_5 129 rfl ?_
          refine s_96 130 rfl ?_
          refine s_182V 0 62 133 62 (m_13_nothing l _ _ _) rfl k_13_nothing jc_13 jw_1306 jw_1308 jps_51 rfl rfl rfl rfl rfl (fun x53 h54 => ?_)
          exact s_jmp (v_13_join_133 l _) trivial
        · refine s_42 119 rfl rfl ?_
          refine s_27 120 rfl rfl ?_
          refine s_182V 0 130 123 130 (m_13_twice l _ _ _) rfl k_13_twice jc_13 jw_2239 jw_2241 jps_128 rfl rfl rfl rfl rfl (fun x55 h56 => ?_)
          refine s_167 0 10 133 rfl rfl ?_
          exact s_jmp (v_13_join_133 l _) trivial
    · refine s_42 18 rfl rfl ?_
      refine s_27 19 rfl rfl ?_
      refine s_28 20 rfl rfl ?_
      refine s_182V 0 127 23 127 (m_13_copyPoint l _ _ _ _) rfl k_13_copyPoint jc_13 jw_2243 jw_2245 jps_129 rfl rfl rfl rfl rfl (fun x57 h58 => ?_)
      exact s_177 rfl rfl
  · exact s_177 rfl rfl
theorem m_13_join (l : Launch) (a0 : Nat) (a1 : Int32) (a2 : Int32) (H : jH) : JMet l y_13_join prog_17_method_25_code mi_13_join jeV [.ref a0, .int a1, .int a2] H (F_13_join a0 a1 a2 H) := jmet_of n_13_join (by decide) ⟨rfl, rfl⟩ (Nat.le_of_ble_eq_true rfl) (v_13_join l a0 a1 a2 H)
def mi_13_load : jM := (1787826738804006047749522684730130742005015733836799628306271380082562283641233026102399525668649381836203956264284199722, 50, 3, "CoinNodeModel$Points", none, "load", 1, 23)
def y_13_load : MethodName := ⟨"CoinNodeModel$Points", "load", "(II)V"⟩
theorem n_13_load : jn_is prog_17_method_22_code mi_13_load.1 mi_13_load.2.1 := by unfold jn_is; decide +kernel
theorem k_13_load : jmok y_13_load prog_17_method_22_code mi_13_load 2 := ⟨jw_2254, jw_17, ⟨by decide, by decide⟩, by decide +kernel⟩
theorem v_13_load_49 (l : Launch)   (H : jH) : JV l mi_13_load jeV 49 [] [] H (B_13_load_49   H) := by
  unfold B_13_load_49
  exact s_177 rfl rfl
theorem v_13_load (l : Launch) (a0 : Nat) (a1 : Int32) (a2 : Int32) (H : jH) : JV l mi_13_load jeV 0 [(0, .ref a0), (1, .int a1), (2, .int a2)] [] H (F_13_load a0 a1 a2 H) := by
  unfold F_13_load
  refine s_42 1 rfl rfl ?_
  refine s_27 2 rfl rfl ?_
  refine s_16 10 4 10 jbp_10 rfl ?_
  refine s_5 5 rfl ?_
  refine s_28 6 rfl rfl ?_
  refine s_104 7 rfl ?_
  refine s_96 8 rfl ?_
  refine s_182V 0 70 11 70 (m_13_copy l _ _ _ _) rfl k_13_copy jc_13 jw_2158 jw_2160 jps_112 rfl rfl rfl rfl rfl (fun x1 h2 => ?_)
  refine s_42 12 rfl rfl ?_
  refine s_27 13 rfl rfl ?_
  refine s_4 14 rfl ?_
  refine s_96 15 rfl ?_
  refine s_16 11 17 11 jbp_11 rfl ?_
  refine s_5 18 rfl ?_
  refine s_28 19 rfl rfl ?_
  refine s_104 20 rfl ?_
  refine s_96 21 rfl ?_
  refine s_182V 0 70 24 70 (m_13_copy l _ _ _ _) rfl k_13_copy jc_13 jw_2158 jw_2160 jps_112 rfl rfl rfl rfl rfl (fun x3 h4 => ?_)
  refine s_42 25 rfl rfl ?_
  refine s_27 26 rfl rfl ?_
  refine s_5 27 rfl ?_
  refine s_96 28 rfl ?_
  refine s_16 20 30 20 jbp_20 rfl ?_
  refine s_182V 0 70 33 70 (m_13_copy l _ _ _ _) rfl k_13_copy jc_13 jw_2158 jw_2160 jps_112 rfl rfl rfl rfl rfl (fun x5 h6 => ?_)
  refine s_42 34 rfl rfl ?_
  refine s_180R 0 23 37 23 f_13_4 jw_1330 rfl rfl ?_
  refine s_28 38 rfl rfl ?_
  refine s_51Z 39 rfl ?_
  refine s_153 0 10 49 42 rfl rfl ?_ ?_
  · exact s_jmp (v_13_load_49 l _) trivial
  · refine s_42 43 rfl rfl ?_
    refine s_27 44 rfl rfl ?_
    refine s_5 45 rfl ?_
    refine s_96 46 rfl ?_
    refine s_182V 0 62 49 62 (m_13_nothing l _ _ _) rfl k_13_nothing jc_13 jw_1306 jw_1308 jps_51 rfl rfl rfl rfl rfl (fun x7 h8 => ?_)
    exact s_jmp (v_13_load_49 l _) trivial
theorem m_13_load (l : Launch) (a0 : Nat) (a1 : Int32) (a2 : Int32) (H : jH) : JMet l y_13_load prog_17_method_22_code mi_13_load jeV [.ref a0, .int a1, .int a2] H (F_13_load a0 a1 a2 H) := jmet_of n_13_load (by decide) ⟨rfl, rfl⟩ (Nat.le_of_ble_eq_true rfl) (v_13_load l a0 a1 a2 H)
def mi_13_multiple : jM := (555110286388669240835326936930830296389142408380614757373339039487132745785550641171740620173187586529176200985556809591837785998552681387780673578, 61, 3, "CoinNodeModel$Points", none, "multiple", 5, 122)
def y_13_multiple : MethodName := ⟨"CoinNodeModel$Points", "multiple", "(I)V"⟩
theorem n_13_multiple : jn_is prog_17_method_26_code mi_13_multiple.1 mi_13_multiple.2.1 := by unfold jn_is; decide +kernel
theorem k_13_multiple : jmok y_13_multiple prog_17_method_26_code mi_13_multiple 1 := ⟨jw_2234, jw_17, ⟨by decide, by decide⟩, by decide +kernel⟩
theorem v_13_multiple_54 (l : Launch) (k10 : Nat → Int32 → Int32 → jH → Option (Unit × jH)) (hk10 : ∀ a0 a1 a2 H, JV l mi_13_multiple jeV 10 [(0, .ref a0), (1, .int a1), (2, .int a2)] [] H (k10 a0 a1 a2 H)) (a0 : Nat) (a1 : Int32) (a2 : Int32) (H : jH) : JV l mi_13_multiple jeV 54 [(0, .ref a0), (1, .int a1), (2, .int a2)] [] H (B_13_multiple_54 k10 a0 a1 a2 H) := by
  unfold B_13_multiple_54
  refine s_132L 2 255 57 (-1) ji_255 rfl rfl rfl (fun x1 => ?_)
  refine s_167 255 209 10 rfl rfl ?_
  exact s_jmp (hk10 _ _ _ _) ⟨rfl, rfl, rfl, trivial⟩
theorem v_13_multiple_29 (l : Launch) (k10 : Nat → Int32 → Int32 → jH → Option (Unit × jH)) (hk10 : ∀ a0 a1 a2 H, JV l mi_13_multiple jeV 10 [(0, .ref a0), (1, .int a1), (2, .int a2)] [] H (k10 a0 a1 a2 H)) (a0 : Nat) (a1 : Int32) (a2 : Int32) (H : jH) : JV l mi_13_multiple jeV 29 [(0, .ref a0), (1, .int a1), (2, .int a2)] [] H (B_13_multiple_29 k10 a0 a1 a2 H) := by
  unfold B_13_multiple_29
  refine s_42 30 rfl rfl ?_
  refine s_27 31 rfl rfl ?_
  refine s_28 32 rfl rfl ?_
  refine s_182I 0 100 35 100 (m_13_bit l _ _ _ _) rfl k_13_bit jc_13 jw_2171 jw_2173 jps_115 rfl rfl rfl rfl rfl (fun x2 h3 => ?_)
  refine s_153 0 19 54 38 rfl rfl ?_ ?_
  · exact s_jmp (v_13_multiple_54 l k10 hk10 _ _ _ _) ⟨rfl, rfl, rfl, trivial⟩
  · refine s_42 39 rfl rfl ?_
    refine s_16 28 41 28 jbp_28 rfl ?_
    refine s_16 22 43 22 jbp_22 rfl ?_
    refine s_182V 0 127 46 127 (m_13_copyPoint l _ _ _ _) rfl k_13_copyPoint jc_13 jw_2243 jw_2245 jps_129 rfl rfl rfl rfl rfl (fun x4 h5 => ?_)
    refine s_42 47 rfl rfl ?_
    refine s_16 25 49 25 jbp_25 rfl ?_
    refine s_16 28 51 28 jbp_28 rfl ?_
    refine s_182V 0 133 54 133 (m_13_join l _ _ _ _) rfl k_13_join jc_13 jw_2247 jw_2249 jps_130 rfl rfl rfl rfl rfl (fun x6 h7 => ?_)
    exact s_jmp (v_13_multiple_54 l k10 hk10 _ _ _ _) ⟨rfl, rfl, rfl, trivial⟩
theorem v_13_multiple_10 (l : Launch) (k10 : Nat → Int32 → Int32 → jH → Option (Unit × jH)) (hk10 : ∀ a0 a1 a2 H, JV l mi_13_multiple jeV 10 [(0, .ref a0), (1, .int a1), (2, .int a2)] [] H (k10 a0 a1 a2 H)) (a0 : Nat) (a1 : Int32) (a2 : Int32) (H : jH) : JV l mi_13_multiple jeV 10 [(0, .ref a0), (1, .int a1), (2, .int a2)] [] H (B_13_multiple_10 k10 a0 a1 a2 H) := by
  unfold B_13_multiple_10
  refine s_28 11 rfl rfl ?_
  refine s_155 0 49 60 14 rfl rfl ?_ ?_
  · exact s_177 rfl rfl
  · refine s_42 15 rfl rfl ?_
    refine s_16 25 17 25 jbp_25 rfl ?_
    refine s_182I 0 118 20 118 (m_13_isNone l _ _ _) rfl k_13_isNone jc_13 jw_2235 jw_2237 jps_127 rfl rfl rfl rfl rfl (fun x8 h9 => ?_)
    refine s_154 0 9 29 23 rfl rfl ?_ ?_
    · exact s_jmp (v_13_multiple_29 l k10 hk10 _ _ _ _) ⟨rfl, rfl, rfl, trivial⟩
    · refine s_42 24 rfl rfl ?_
      refine s_16 25 26 25 jbp_25 rfl ?_
      refine s_182V 0 130 29 130 (m_13_twice l _ _ _) rfl k_13_twice jc_13 jw_2239 jw_2241 jps_128 rfl rfl rfl rfl rfl (fun x10 h11 => ?_)
      exact s_jmp (v_13_multiple_29 l k10 hk10 _ _ _ _) ⟨rfl, rfl, rfl, trivial⟩
theorem w_13_multiple_10 (l : Launch)  (n : Nat) : ∀ a0 a1 a2 H, JV l mi_13_multiple jeV 10 [(0, .ref a0), (1, .int a1), (2, .int a2)] [] H (F_13_multiple_10  n a0 a1 a2 H) := by
  induction n with
  | zero => intro _ _ _ _; exact s_none
  | succ n ih => intro a0 a1 a2 H; exact v_13_multiple_10 l (F_13_multiple_10  n) ih a0 a1 a2 H
theorem v_13_multiple (l : Launch) (a0 : Nat) (a1 : Int32) (H : jH) : JV l mi_13_multiple jeV 0 [(0, .ref a0), (1, .int a1)] [] H (F_13_multiple a0 a1 H) := by
  unfold F_13_multiple
  refine s_42 1 rfl rfl ?_
  refine s_16 27 3 27 jbp_27 rfl ?_
  refine s_182V 0 62 6 62 (m_13_nothing l _ _ _) rfl k_13_nothing jc_13 jw_1306 jw_1308 jps_51 rfl rfl rfl rfl rfl (fun x12 h13 => ?_)
  refine s_17 0 255 9 255 jsp_0_255 rfl ?_
  refine s_61 10 rfl rfl ?_
  exact s_jmp (w_13_multiple_10 l jfuel _ _ _ _) ⟨rfl, rfl, rfl, trivial⟩
theorem m_13_multiple (l : Launch) (a0 : Nat) (a1 : Int32) (H : jH) : JMet l y_13_multiple prog_17_method_26_code mi_13_multiple jeV [.ref a0, .int a1] H (F_13_multiple a0 a1 H) := jmet_of n_13_multiple (by decide) ⟨rfl, rfl⟩ (Nat.le_of_ble_eq_true rfl) (v_13_multiple l a0 a1 H)
def mi_13_fits : jM := (11177651326008314061424402818489524126594551683393477228930001257905187181857241213687529010172340802061842740902426622800946866381551141667702504256344788164911261107582343580075013492043397338284044748750815652078767949460249082093801038323469992915734633958250868003826425209509668484168600746188513257922071556413710184208624240088951799703143122377349289279284158456921796572249278499033315029450496200354994331493881595838893949709573555963947854930149050966741859581820537862240583344606770117085870731594168218249298945554459, 221, 5, "CoinNodeModel$Points", some FieldType.int, "fits", 6, 144)
def y_13_fits : MethodName := ⟨"CoinNodeModel$Points", "fits", "(IIII)I"⟩
theorem n_13_fits : jn_is prog_17_method_46_code mi_13_fits.1 mi_13_fits.2.1 := by unfold jn_is; decide +kernel
theorem k_13_fits : jmok y_13_fits prog_17_method_46_code mi_13_fits 4 := ⟨jw_2222, jw_17, ⟨by decide, by decide⟩, by decide +kernel⟩
theorem v_13_fits_29 (l : Launch)   (H : jH) : JV l mi_13_fits jeI 29 [] [] H (B_13_fits_29   H) := by
  unfold B_13_fits_29
  refine s_2 30 rfl ?_
  exact s_172 rfl rfl
theorem v_13_fits_76 (l : Launch)   (H : jH) : JV l mi_13_fits jeI 76 [] [] H (B_13_fits_76   H) := by
  unfold B_13_fits_76
  refine s_3 77 rfl ?_
  exact s_172 rfl rfl
theorem v_13_fits_220 (l : Launch)  (s0 : Int32) (H : jH) : JV l mi_13_fits jeI 220 [] [.int s0] H (B_13_fits_220  s0 H) := by
  unfold B_13_fits_220
  exact s_172 rfl rfl
theorem v_13_fits (l : Launch) (a0 : Nat) (a1 : Int32) (a2 : Int32) (a3 : Int32) (a4 : Int32) (H : jH) : JV l mi_13_fits jeI 0 [(0, .ref a0), (1, .int a1), (2, .int a2), (3, .int a3), (4, .int a4)] [] H (F_13_fits a0 a1 a2 a3 a4 H) := by
  unfold F_13_fits
  refine s_27 1 rfl rfl ?_
  refine s_184I 0 148 4 148 (m_13_isSpot l _ _) rfl k_13_isSpot jw_2117 jw_2118 rfl rfl rfl rfl rfl (fun x1 h2 => ?_)
  refine s_153 0 25 29 7 rfl rfl ?_ ?_
  · exact s_jmp (v_13_fits_29 l _) trivial
  · refine s_28 8 rfl rfl ?_
    refine s_184I 0 139 11 139 (m_13_isRegister l _ _) rfl k_13_isRegister jw_2191 jw_2192 rfl rfl rfl rfl rfl (fun x3 h4 => ?_)
    refine s_153 0 18 29 14 rfl rfl ?_ ?_
    · exact s_jmp (v_13_fits_29 l _) trivial
    · refine s_29 15 rfl rfl ?_
      refine s_184I 0 139 18 139 (m_13_isRegister l _ _) rfl k_13_isRegister jw_2191 jw_2192 rfl rfl rfl rfl rfl (fun x5 h6 => ?_)
      refine s_153 0 11 29 21 rfl rfl ?_ ?_
      · exact s_jmp (v_13_fits_29 l _) trivial
      · refine s_21 4 23 rfl rfl ?_
        refine s_184I 0 139 26 139 (m_13_isRegister l _ _) rfl k_13_isRegister jw_2191 jw_2192 rfl rfl rfl rfl rfl (fun x7 h8 => ?_)
        refine s_154 0 5 31 29 rfl rfl ?_ ?_
        · refine s_42 32 rfl rfl ?_
          refine s_180R 0 23 35 23 f_13_4 jw_1330 rfl rfl ?_
          refine s_27 36 rfl rfl ?_
          refine s_51Z 37 rfl ?_
          refine s_154 0 39 76 40 rfl rfl ?_ ?_
          · exact s_jmp (v_13_fits_76 l _) trivial
          · refine s_42 41 rfl rfl ?_
            refine s_28 42 rfl rfl ?_
            refine s_182I 0 115 45 115 (m_13_isNothing l _ _ _) rfl k_13_isNothing jc_13 jw_2223 jw_2225 jps_124 rfl rfl rfl rfl rfl (fun x9 h10 => ?_)
            refine s_154 0 31 76 48 rfl rfl ?_ ?_
            · exact s_jmp (v_13_fits_76 l _) trivial
            · refine s_42 49 rfl rfl ?_
              refine s_29 50 rfl rfl ?_
              refine s_182I 0 115 53 115 (m_13_isNothing l _ _ _) rfl k_13_isNothing jc_13 jw_2223 jw_2225 jps_124 rfl rfl rfl rfl rfl (fun x11 h12 => ?_)
              refine s_154 0 23 76 56 rfl rfl ?_ ?_
              · exact s_jmp (v_13_fits_76 l _) trivial
              · refine s_42 57 rfl rfl ?_
                refine s_28 58 rfl rfl ?_
                refine s_16 9 60 9 jbp_9 rfl ?_
                refine s_182I 0 78 63 78 (m_13_compare l _ _ _ _) rfl k_13_compare jc_13 jw_2124 jw_2126 jps_104 rfl rfl rfl rfl rfl (fun x13 h14 => ?_)
                refine s_156 0 13 76 66 rfl rfl ?_ ?_
                · exact s_jmp (v_13_fits_76 l _) trivial
                · refine s_42 67 rfl rfl ?_
                  refine s_29 68 rfl rfl ?_
                  refine s_16 9 70 9 jbp_9 rfl ?_
                  refine s_182I 0 78 73 78 (m_13_compare l _ _ _ _) rfl k_13_compare jc_13 jw_2124 jw_2126 jps_104 rfl rfl rfl rfl rfl (fun x15 h16 => ?_)
                  refine s_155 0 5 78 76 rfl rfl ?_ ?_
                  · refine s_42 79 rfl rfl ?_
                    refine s_16 42 81 42 jbp_42 rfl ?_
                    refine s_21 4 83 rfl rfl ?_
                    refine s_16 20 85 20 jbp_20 rfl ?_
                    refine s_16 9 87 9 jbp_9 rfl ?_
                    refine s_182V 0 96 90 96 (m_13_multiply l _ _ _ _ _ _) rfl k_13_multiply jc_13 jw_2132 jw_2134 jps_106 rfl rfl rfl rfl rfl (fun x17 h18 => ?_)
                    refine s_42 91 rfl rfl ?_
                    refine s_16 42 93 42 jbp_42 rfl ?_
                    refine s_16 42 95 42 jbp_42 rfl ?_
                    refine s_29 96 rfl rfl ?_
                    refine s_16 9 98 9 jbp_9 rfl ?_
                    refine s_182V 0 121 101 121 (m_13_divide l _ _ _ _ _ _) rfl k_13_divide jc_13 jw_2227 jw_2229 jps_125 rfl rfl rfl rfl rfl (fun x19 h20 => ?_)
                    refine s_42 102 rfl rfl ?_
                    refine s_16 43 104 43 jbp_43 rfl ?_
                    refine s_28 105 rfl rfl ?_
                    refine s_29 106 rfl rfl ?_
                    refine s_16 9 108 9 jbp_9 rfl ?_
                    refine s_182V 0 121 111 121 (m_13_divide l _ _ _ _ _ _) rfl k_13_divide jc_13 jw_2227 jw_2229 jps_125 rfl rfl rfl rfl rfl (fun x21 h22 => ?_)
                    refine s_42 112 rfl rfl ?_
                    refine s_16 22 114 22 jbp_22 rfl ?_
                    refine s_16 18 116 18 jbp_18 rfl ?_
                    refine s_182V 0 70 119 70 (m_13_copy l _ _ _ _) rfl k_13_copy jc_13 jw_2158 jw_2160 jps_112 rfl rfl rfl rfl rfl (fun x23 h24 => ?_)
                    refine s_42 120 rfl rfl ?_
                    refine s_16 23 122 23 jbp_23 rfl ?_
                    refine s_16 19 124 19 jbp_19 rfl ?_
                    refine s_182V 0 70 127 70 (m_13_copy l _ _ _ _) rfl k_13_copy jc_13 jw_2158 jw_2160 jps_112 rfl rfl rfl rfl rfl (fun x25 h26 => ?_)
                    refine s_42 128 rfl rfl ?_
                    refine s_16 24 130 24 jbp_24 rfl ?_
                    refine s_16 20 132 20 jbp_20 rfl ?_
                    refine s_182V 0 70 135 70 (m_13_copy l _ _ _ _) rfl k_13_copy jc_13 jw_2158 jw_2160 jps_112 rfl rfl rfl rfl rfl (fun x27 h28 => ?_)
                    refine s_42 136 rfl rfl ?_
                    refine s_16 42 138 42 jbp_42 rfl ?_
                    refine s_182V 0 160 141 160 (m_13_multiple l _ _ _) rfl k_13_multiple jc_13 jw_2231 jw_2233 jps_126 rfl rfl rfl rfl rfl (fun x29 h30 => ?_)
                    refine s_42 142 rfl rfl ?_
                    refine s_16 44 144 44 jbp_44 rfl ?_
                    refine s_16 25 146 25 jbp_25 rfl ?_
                    refine s_182V 0 127 149 127 (m_13_copyPoint l _ _ _ _) rfl k_13_copyPoint jc_13 jw_2243 jw_2245 jps_129 rfl rfl rfl rfl rfl (fun x31 h32 => ?_)
                    refine s_42 150 rfl rfl ?_
                    refine s_16 22 152 22 jbp_22 rfl ?_
                    refine s_27 153 rfl rfl ?_
                    refine s_182V 0 154 156 154 (m_13_load l _ _ _ _) rfl k_13_load jc_13 jw_2251 jw_2253 jps_131 rfl rfl rfl rfl rfl (fun x33 h34 => ?_)
                    refine s_42 157 rfl rfl ?_
                    refine s_16 43 159 43 jbp_43 rfl ?_
                    refine s_182V 0 160 162 160 (m_13_multiple l _ _ _) rfl k_13_multiple jc_13 jw_2231 jw_2233 jps_126 rfl rfl rfl rfl rfl (fun x35 h36 => ?_)
                    refine s_42 163 rfl rfl ?_
                    refine s_16 25 165 25 jbp_25 rfl ?_
                    refine s_16 44 167 44 jbp_44 rfl ?_
                    refine s_182V 0 133 170 133 (m_13_join l _ _ _ _) rfl k_13_join jc_13 jw_2247 jw_2249 jps_130 rfl rfl rfl rfl rfl (fun x37 h38 => ?_)
                    refine s_42 171 rfl rfl ?_
                    refine s_16 25 173 25 jbp_25 rfl ?_
                    refine s_182I 0 118 176 118 (m_13_isNone l _ _ _) rfl k_13_isNone jc_13 jw_2235 jw_2237 jps_127 rfl rfl rfl rfl rfl (fun x39 h40 => ?_)
                    refine s_153 0 5 181 179 rfl rfl ?_ ?_
                    · refine s_42 182 rfl rfl ?_
                      refine s_16 42 184 42 jbp_42 rfl ?_
                      refine s_16 25 186 25 jbp_25 rfl ?_
                      refine s_16 27 188 27 jbp_27 rfl ?_
                      refine s_16 8 190 8 jbp_8 rfl ?_
                      refine s_182V 0 121 193 121 (m_13_divide l _ _ _ _ _ _) rfl k_13_divide jc_13 jw_2227 jw_2229 jps_125 rfl rfl rfl rfl rfl (fun x41 h42 => ?_)
                      refine s_42 194 rfl rfl ?_
                      refine s_16 42 196 42 jbp_42 rfl ?_
                      refine s_16 42 198 42 jbp_42 rfl ?_
                      refine s_16 20 200 20 jbp_20 rfl ?_
                      refine s_16 9 202 9 jbp_9 rfl ?_
                      refine s_182V 0 96 205 96 (m_13_multiply l _ _ _ _ _ _) rfl k_13_multiply jc_13 jw_2132 jw_2134 jps_106 rfl rfl rfl rfl rfl (fun x43 h44 => ?_)
                      refine s_42 206 rfl rfl ?_
                      refine s_16 42 208 42 jbp_42 rfl ?_
                      refine s_28 209 rfl rfl ?_
                      refine s_182I 0 78 212 78 (m_13_compare l _ _ _ _) rfl k_13_compare jc_13 jw_2124 jw_2126 jps_104 rfl rfl rfl rfl rfl (fun x45 h46 => ?_)
                      refine s_154 0 7 219 215 rfl rfl ?_ ?_
                      · refine s_3 220 rfl ?_
                        exact s_jmp (v_13_fits_220 l _ _) trivial
                      · refine s_4 216 rfl ?_
                        refine s_167 0 4 220 rfl rfl ?_
                        exact s_jmp (v_13_fits_220 l _ _) trivial
                    · refine s_3 180 rfl ?_
                      exact s_172 rfl rfl
                  · exact s_jmp (v_13_fits_76 l _) trivial
        · exact s_jmp (v_13_fits_29 l _) trivial
theorem m_13_fits (l : Launch) (a0 : Nat) (a1 : Int32) (a2 : Int32) (a3 : Int32) (a4 : Int32) (H : jH) : JMet l y_13_fits prog_17_method_46_code mi_13_fits jeI [.ref a0, .int a1, .int a2, .int a3, .int a4] H (F_13_fits a0 a1 a2 a3 a4 H) := jmet_of n_13_fits (by decide) ⟨rfl, rfl⟩ (Nat.le_of_ble_eq_true rfl) (v_13_fits l a0 a1 a2 a3 a4 H)
def mi_13_curve : jM := (20551287844564499972821787607943026164830283819510447184327397877000452509208618, 33, 3, "CoinNodeModel$Points", none, "curve", 3, 78)
def y_13_curve : MethodName := ⟨"CoinNodeModel$Points", "curve", "(II)V"⟩
theorem n_13_curve : jn_is prog_17_method_28_code mi_13_curve.1 mi_13_curve.2.1 := by unfold jn_is; decide +kernel
theorem k_13_curve : jmok y_13_curve prog_17_method_28_code mi_13_curve 2 := ⟨jw_2131, jw_17, ⟨by decide, by decide⟩, by decide +kernel⟩
theorem v_13_curve (l : Launch) (a0 : Nat) (a1 : Int32) (a2 : Int32) (H : jH) : JV l mi_13_curve jeV 0 [(0, .ref a0), (1, .int a1), (2, .int a2)] [] H (F_13_curve a0 a1 a2 H) := by
  unfold F_13_curve
  refine s_42 1 rfl rfl ?_
  refine s_16 31 3 31 jbp_31 rfl ?_
  refine s_28 4 rfl rfl ?_
  refine s_28 5 rfl rfl ?_
  refine s_16 8 7 8 jbp_8 rfl ?_
  refine s_182V 0 96 10 96 (m_13_multiply l _ _ _ _ _ _) rfl k_13_multiply jc_13 jw_2132 jw_2134 jps_106 rfl rfl rfl rfl rfl (fun x1 h2 => ?_)
  refine s_42 11 rfl rfl ?_
  refine s_16 31 13 31 jbp_31 rfl ?_
  refine s_16 31 15 31 jbp_31 rfl ?_
  refine s_28 16 rfl rfl ?_
  refine s_16 8 18 8 jbp_8 rfl ?_
  refine s_182V 0 96 21 96 (m_13_multiply l _ _ _ _ _ _) rfl k_13_multiply jc_13 jw_2132 jw_2134 jps_106 rfl rfl rfl rfl rfl (fun x3 h4 => ?_)
  refine s_42 22 rfl rfl ?_
  refine s_27 23 rfl rfl ?_
  refine s_16 31 25 31 jbp_31 rfl ?_
  refine s_16 21 27 21 jbp_21 rfl ?_
  refine s_16 8 29 8 jbp_8 rfl ?_
  refine s_182V 0 124 32 124 (m_13_plus l _ _ _ _ _ _) rfl k_13_plus jc_13 jw_2154 jw_2156 jps_111 rfl rfl rfl rfl rfl (fun x5 h6 => ?_)
  exact s_177 rfl rfl
theorem m_13_curve (l : Launch) (a0 : Nat) (a1 : Int32) (a2 : Int32) (H : jH) : JMet l y_13_curve prog_17_method_28_code mi_13_curve jeV [.ref a0, .int a1, .int a2] H (F_13_curve a0 a1 a2 H) := jmet_of n_13_curve (by decide) ⟨rfl, rfl⟩ (Nat.le_of_ble_eq_true rfl) (v_13_curve l a0 a1 a2 H)
def mi_13_isPoint : jM := (488378213324702958336699232365747717733176507668771086035022914239971390561803739626102137399535539864418148159946604308494842762107690, 56, 3, "CoinNodeModel$Points", some FieldType.boolean, "isPoint", 4, 100)
def y_13_isPoint : MethodName := ⟨"CoinNodeModel$Points", "isPoint", "(II)Z"⟩
theorem n_13_isPoint : jn_is prog_17_method_27_code mi_13_isPoint.1 mi_13_isPoint.2.1 := by unfold jn_is; decide +kernel
theorem k_13_isPoint : jmok y_13_isPoint prog_17_method_27_code mi_13_isPoint 2 := ⟨jw_2186, jw_17, ⟨by decide, by decide⟩, by decide +kernel⟩
theorem v_13_isPoint_20 (l : Launch)   (H : jH) : JV l mi_13_isPoint jeI 20 [] [] H (B_13_isPoint_20   H) := by
  unfold B_13_isPoint_20
  refine s_3 21 rfl ?_
  exact s_172Z rfl rfl
theorem v_13_isPoint_55 (l : Launch)  (s0 : Int32) (H : jH) : JV l mi_13_isPoint jeI 55 [] [.int s0] H (B_13_isPoint_55  s0 H) := by
  unfold B_13_isPoint_55
  exact s_172Z rfl rfl
theorem v_13_isPoint (l : Launch) (a0 : Nat) (a1 : Int32) (a2 : Int32) (H : jH) : JV l mi_13_isPoint jeI 0 [(0, .ref a0), (1, .int a1), (2, .int a2)] [] H (F_13_isPoint a0 a1 a2 H) := by
  unfold F_13_isPoint
  refine s_42 1 rfl rfl ?_
  refine s_27 2 rfl rfl ?_
  refine s_16 8 4 8 jbp_8 rfl ?_
  refine s_182I 0 78 7 78 (m_13_compare l _ _ _ _) rfl k_13_compare jc_13 jw_2124 jw_2126 jps_104 rfl rfl rfl rfl rfl (fun x1 h2 => ?_)
  refine s_156 0 13 20 10 rfl rfl ?_ ?_
  · exact s_jmp (v_13_isPoint_20 l _) trivial
  · refine s_42 11 rfl rfl ?_
    refine s_28 12 rfl rfl ?_
    refine s_16 8 14 8 jbp_8 rfl ?_
    refine s_182I 0 78 17 78 (m_13_compare l _ _ _ _) rfl k_13_compare jc_13 jw_2124 jw_2126 jps_104 rfl rfl rfl rfl rfl (fun x3 h4 => ?_)
    refine s_155 0 5 22 20 rfl rfl ?_ ?_
    · refine s_42 23 rfl rfl ?_
      refine s_16 33 25 33 jbp_33 rfl ?_
      refine s_27 26 rfl rfl ?_
      refine s_182V 0 136 29 136 (m_13_curve l _ _ _ _) rfl k_13_curve jc_13 jw_2128 jw_2130 jps_105 rfl rfl rfl rfl rfl (fun x5 h6 => ?_)
      refine s_42 30 rfl rfl ?_
      refine s_16 32 32 32 jbp_32 rfl ?_
      refine s_28 33 rfl rfl ?_
      refine s_28 34 rfl rfl ?_
      refine s_16 8 36 8 jbp_8 rfl ?_
      refine s_182V 0 96 39 96 (m_13_multiply l _ _ _ _ _ _) rfl k_13_multiply jc_13 jw_2132 jw_2134 jps_106 rfl rfl rfl rfl rfl (fun x7 h8 => ?_)
      refine s_42 40 rfl rfl ?_
      refine s_16 32 42 32 jbp_32 rfl ?_
      refine s_16 33 44 33 jbp_33 rfl ?_
      refine s_182I 0 78 47 78 (m_13_compare l _ _ _ _) rfl k_13_compare jc_13 jw_2124 jw_2126 jps_104 rfl rfl rfl rfl rfl (fun x9 h10 => ?_)
      refine s_154 0 7 54 50 rfl rfl ?_ ?_
      · refine s_3 55 rfl ?_
        exact s_jmp (v_13_isPoint_55 l _ _) trivial
      · refine s_4 51 rfl ?_
        refine s_167 0 4 55 rfl rfl ?_
        exact s_jmp (v_13_isPoint_55 l _ _) trivial
    · exact s_jmp (v_13_isPoint_20 l _) trivial
theorem m_13_isPoint (l : Launch) (a0 : Nat) (a1 : Int32) (a2 : Int32) (H : jH) : JMet l y_13_isPoint prog_17_method_27_code mi_13_isPoint jeI [.ref a0, .int a1, .int a2] H (F_13_isPoint a0 a1 a2 H) := jmet_of n_13_isPoint (by decide) ⟨rfl, rfl⟩ (Nat.le_of_ble_eq_true rfl) (v_13_isPoint l a0 a1 a2 H)
def mi_13_read : jM := (4627501760358194351887212743642351592242537706532270365541412591940349173814489003340117580616443743664284531302535332728209608057637074559043614533295309532280500326997871927657323642361473783983977361682692663032735934380356605659804212010, 100, 7, "CoinNodeModel$Points", none, "read", 1, 22)
def y_13_read : MethodName := ⟨"CoinNodeModel$Points", "read", "(III)V"⟩
theorem n_13_read : jn_is prog_17_method_42_code mi_13_read.1 mi_13_read.2.1 := by unfold jn_is; decide +kernel
theorem k_13_read : jmok y_13_read prog_17_method_42_code mi_13_read 3 := ⟨jw_2123, jw_17, ⟨by decide, by decide⟩, by decide +kernel⟩
theorem v_13_read_93 (l : Launch) (k8 : Nat → Int32 → Int32 → Int32 → Int32 → jH → Option (Unit × jH)) (hk8 : ∀ a0 a1 a2 a3 a4 H, JV l mi_13_read jeV 8 [(0, .ref a0), (1, .int a1), (2, .int a2), (3, .int a3), (4, .int a4)] [] H (k8 a0 a1 a2 a3 a4 H)) (a0 : Nat) (a1 : Int32) (a2 : Int32) (a3 : Int32) (a4 : Int32) (H : jH) : JV l mi_13_read jeV 93 [(0, .ref a0), (1, .int a1), (2, .int a2), (3, .int a3), (4, .int a4)] [] H (B_13_read_93 k8 a0 a1 a2 a3 a4 H) := by
  unfold B_13_read_93
  refine s_132L 4 1 96 1 ji_1 rfl rfl rfl (fun x1 => ?_)
  refine s_167 255 168 8 rfl rfl ?_
  exact s_jmp (hk8 _ _ _ _ _ _) ⟨rfl, rfl, rfl, rfl, rfl, trivial⟩
theorem v_13_read_28 (l : Launch) (k8 : Nat → Int32 → Int32 → Int32 → Int32 → jH → Option (Unit × jH)) (hk8 : ∀ a0 a1 a2 a3 a4 H, JV l mi_13_read jeV 8 [(0, .ref a0), (1, .int a1), (2, .int a2), (3, .int a3), (4, .int a4)] [] H (k8 a0 a1 a2 a3 a4 H)) (k28 : Nat → Int32 → Int32 → Int32 → Int32 → Int32 → Int32 → jH → Option (Unit × jH)) (hk28 : ∀ a0 a1 a2 a3 a4 a5 a6 H, JV l mi_13_read jeV 28 [(0, .ref a0), (1, .int a1), (2, .int a2), (3, .int a3), (4, .int a4), (5, .int a5), (6, .int a6)] [] H (k28 a0 a1 a2 a3 a4 a5 a6 H)) (a0 : Nat) (a1 : Int32) (a2 : Int32) (a3 : Int32) (a4 : Int32) (a5 : Int32) (a6 : Int32) (H : jH) : JV l mi_13_read jeV 28 [(0, .ref a0), (1, .int a1), (2, .int a2), (3, .int a3), (4, .int a4), (5, .int a5), (6, .int a6)] [] H (B_13_read_28 k8 k28 a0 a1 a2 a3 a4 a5 a6 H) := by
  unfold B_13_read_28
  refine s_21 6 30 rfl rfl ?_
  refine s_16 8 32 8 jbp_8 rfl ?_
  refine s_162 0 61 93 35 rfl rfl ?_ ?_
  · exact s_jmp (v_13_read_93 l k8 hk8 _ _ _ _ _ _) ⟨rfl, rfl, rfl, rfl, rfl, trivial⟩
  · refine s_21 5 37 rfl rfl ?_
    refine s_17 1 0 40 256 jsp_1_0 rfl ?_
    refine s_162 0 53 93 43 rfl rfl ?_ ?_
    · exact s_jmp (v_13_read_93 l k8 hk8 _ _ _ _ _ _) ⟨rfl, rfl, rfl, rfl, rfl, trivial⟩
    · refine s_42 44 rfl rfl ?_
      refine s_180R 0 7 47 7 f_13_0 jw_1326 rfl rfl ?_
      refine s_16 10 49 10 jbp_10 rfl ?_
      refine s_27 50 rfl rfl ?_
      refine s_104 51 rfl ?_
      refine s_21 5 53 rfl rfl ?_
      refine s_21 6 55 rfl rfl ?_
      refine s_96 56 rfl ?_
      refine s_16 26 58 26 jbp_26 rfl ?_
      refine s_108 59 rfl ?_
      refine s_96 60 rfl ?_
      refine s_92 61 rfl rfl rfl ?_
      refine s_46 62 rfl ?_
      refine s_42 63 rfl rfl ?_
      refine s_180R 0 27 66 27 f_13_5 jw_1331 rfl rfl ?_
      refine s_28 67 rfl rfl ?_
      refine s_21 4 69 rfl rfl ?_
      refine s_96 70 rfl ?_
      refine s_46 71 rfl ?_
      refine s_21 6 73 rfl rfl ?_
      refine s_122 74 rfl ?_
      refine s_4 75 rfl ?_
      refine s_126 76 rfl ?_
      refine s_21 5 78 rfl rfl ?_
      refine s_21 6 80 rfl rfl ?_
      refine s_96 81 rfl ?_
      refine s_16 26 83 26 jbp_26 rfl ?_
      refine s_112 84 rfl ?_
      refine s_120 85 rfl ?_
      refine s_128 86 rfl ?_
      refine s_79 87 rfl (fun h2 => ?_)
      refine s_132L 6 1 90 1 ji_1 rfl rfl rfl (fun x3 => ?_)
      refine s_167 255 194 28 rfl rfl ?_
      exact s_jmp (hk28 _ _ _ _ _ _ _ _) ⟨rfl, rfl, rfl, rfl, rfl, rfl, rfl, trivial⟩
theorem w_13_read_28 (l : Launch) (k8 : Nat → Int32 → Int32 → Int32 → Int32 → jH → Option (Unit × jH)) (hk8 : ∀ a0 a1 a2 a3 a4 H, JV l mi_13_read jeV 8 [(0, .ref a0), (1, .int a1), (2, .int a2), (3, .int a3), (4, .int a4)] [] H (k8 a0 a1 a2 a3 a4 H)) (n : Nat) : ∀ a0 a1 a2 a3 a4 a5 a6 H, JV l mi_13_read jeV 28 [(0, .ref a0), (1, .int a1), (2, .int a2), (3, .int a3), (4, .int a4), (5, .int a5), (6, .int a6)] [] H (F_13_read_28 k8 n a0 a1 a2 a3 a4 a5 a6 H) := by
  induction n with
  | zero => intro _ _ _ _ _ _ _ _; exact s_none
  | succ n ih => intro a0 a1 a2 a3 a4 a5 a6 H; exact v_13_read_28 l k8 hk8 (F_13_read_28 k8 n) ih a0 a1 a2 a3 a4 a5 a6 H
theorem v_13_read_8 (l : Launch) (k8 : Nat → Int32 → Int32 → Int32 → Int32 → jH → Option (Unit × jH)) (hk8 : ∀ a0 a1 a2 a3 a4 H, JV l mi_13_read jeV 8 [(0, .ref a0), (1, .int a1), (2, .int a2), (3, .int a3), (4, .int a4)] [] H (k8 a0 a1 a2 a3 a4 H)) (a0 : Nat) (a1 : Int32) (a2 : Int32) (a3 : Int32) (a4 : Int32) (H : jH) : JV l mi_13_read jeV 8 [(0, .ref a0), (1, .int a1), (2, .int a2), (3, .int a3), (4, .int a4)] [] H (B_13_read_8 k8 a0 a1 a2 a3 a4 H) := by
  unfold B_13_read_8
  refine s_21 4 10 rfl rfl ?_
  refine s_29 11 rfl rfl ?_
  refine s_162 0 88 99 14 rfl rfl ?_ ?_
  · exact s_177 rfl rfl
  · refine s_16 8 16 8 jbp_8 rfl ?_
    refine s_29 17 rfl rfl ?_
    refine s_4 18 rfl ?_
    refine s_100 19 rfl ?_
    refine s_21 4 21 rfl rfl ?_
    refine s_100 22 rfl ?_
    refine s_104 23 rfl ?_
    refine s_54L 5 25 rfl rfl (fun x4 => ?_)
    refine s_3 26 rfl ?_
    refine s_54 6 28 rfl rfl ?_
    exact s_jmp (w_13_read_28 l k8 hk8 jfuel _ _ _ _ _ _ _ _) ⟨rfl, rfl, rfl, rfl, rfl, rfl, rfl, trivial⟩
theorem w_13_read_8 (l : Launch)  (n : Nat) : ∀ a0 a1 a2 a3 a4 H, JV l mi_13_read jeV 8 [(0, .ref a0), (1, .int a1), (2, .int a2), (3, .int a3), (4, .int a4)] [] H (F_13_read_8  n a0 a1 a2 a3 a4 H) := by
  induction n with
  | zero => intro _ _ _ _ _ _; exact s_none
  | succ n ih => intro a0 a1 a2 a3 a4 H; exact v_13_read_8 l (F_13_read_8  n) ih a0 a1 a2 a3 a4 H
theorem v_13_read (l : Launch) (a0 : Nat) (a1 : Int32) (a2 : Int32) (a3 : Int32) (H : jH) : JV l mi_13_read jeV 0 [(0, .ref a0), (1, .int a1), (2, .int a2), (3, .int a3)] [] H (F_13_read a0 a1 a2 a3 H) := by
  unfold F_13_read
  refine s_42 1 rfl rfl ?_
  refine s_27 2 rfl rfl ?_
  refine s_182V 0 62 5 62 (m_13_nothing l _ _ _) rfl k_13_nothing jc_13 jw_1306 jw_1308 jps_51 rfl rfl rfl rfl rfl (fun x5 h6 => ?_)
  refine s_3 6 rfl ?_
  refine s_54 4 8 rfl rfl ?_
  exact s_jmp (w_13_read_8 l jfuel _ _ _ _ _ _) ⟨rfl, rfl, rfl, rfl, rfl, trivial⟩
theorem m_13_read (l : Launch) (a0 : Nat) (a1 : Int32) (a2 : Int32) (a3 : Int32) (H : jH) : JMet l y_13_read prog_17_method_42_code mi_13_read jeV [.ref a0, .int a1, .int a2, .int a3] H (F_13_read a0 a1 a2 a3 H) := jmet_of n_13_read (by decide) ⟨rfl, rfl⟩ (Nat.le_of_ble_eq_true rfl) (v_13_read l a0 a1 a2 a3 H)
def mi_13_isOdd : jM := (251395497853041076118634808973856998774840364151850, 21, 2, "CoinNodeModel$Points", some FieldType.boolean, "isOdd", 0, 0)
def y_13_isOdd : MethodName := ⟨"CoinNodeModel$Points", "isOdd", "(I)Z"⟩
theorem n_13_isOdd : jn_is prog_17_method_9_code mi_13_isOdd.1 mi_13_isOdd.2.1 := by unfold jn_is; decide +kernel
theorem k_13_isOdd : jmok y_13_isOdd prog_17_method_9_code mi_13_isOdd 1 := ⟨jw_2178, jw_17, ⟨by decide, by decide⟩, by decide +kernel⟩
theorem v_13_isOdd_20 (l : Launch)  (s0 : Int32) (H : jH) : JV l mi_13_isOdd jeI 20 [] [.int s0] H (B_13_isOdd_20  s0 H) := by
  unfold B_13_isOdd_20
  exact s_172Z rfl rfl
theorem v_13_isOdd (l : Launch) (a0 : Nat) (a1 : Int32) (H : jH) : JV l mi_13_isOdd jeI 0 [(0, .ref a0), (1, .int a1)] [] H (F_13_isOdd a0 a1 H) := by
  unfold F_13_isOdd
  refine s_42 1 rfl rfl ?_
  refine s_180R 0 7 4 7 f_13_0 jw_1326 rfl rfl ?_
  refine s_16 10 6 10 jbp_10 rfl ?_
  refine s_27 7 rfl rfl ?_
  refine s_104 8 rfl ?_
  refine s_46 9 rfl ?_
  refine s_5 10 rfl ?_
  refine s_112 11 rfl ?_
  refine s_4 12 rfl ?_
  refine s_160 0 7 19 15 rfl rfl ?_ ?_
  · refine s_3 20 rfl ?_
    exact s_jmp (v_13_isOdd_20 l _ _) trivial
  · refine s_4 16 rfl ?_
    refine s_167 0 4 20 rfl rfl ?_
    exact s_jmp (v_13_isOdd_20 l _ _) trivial
theorem m_13_isOdd (l : Launch) (a0 : Nat) (a1 : Int32) (H : jH) : JMet l y_13_isOdd prog_17_method_9_code mi_13_isOdd jeI [.ref a0, .int a1] H (F_13_isOdd a0 a1 H) := jmet_of n_13_isOdd (by decide) ⟨rfl, rfl⟩ (Nat.le_of_ble_eq_true rfl) (v_13_isOdd l a0 a1 H)
def mi_13_roots : jM := (87797923913731988340754768819955883475696244343968186961981578443617886986910322439032893834068945498928195958166350917607107725294700610318049804446531439797081053062074847131561609832508546147450028493488996254770427698427498227683993794507213828485183599273044473296620041825931512169013190484516454767716465079263555224647008424114956574129676709393472833062558429108736473676626936783559507633470714682331667095530283994922910221448712234, 184, 6, "CoinNodeModel$Points", some FieldType.boolean, "roots", 4, 102)
def y_13_roots : MethodName := ⟨"CoinNodeModel$Points", "roots", "(II)Z"⟩
theorem n_13_roots : jn_is prog_17_method_19_code mi_13_roots.1 mi_13_roots.2.1 := by unfold jn_is; decide +kernel
theorem k_13_roots : jmok y_13_roots prog_17_method_19_code mi_13_roots 2 := ⟨jw_2165, jw_17, ⟨by decide, by decide⟩, by decide +kernel⟩
theorem v_13_roots_67 (l : Launch) (k34 : Nat → Int32 → Int32 → Int32 → jH → Option (Int32 × jH)) (hk34 : ∀ a0 a1 a3 a4 H, JV l mi_13_roots jeI 34 [(0, .ref a0), (1, .int a1), (3, .int a3), (4, .int a4)] [] H (k34 a0 a1 a3 a4 H)) (a0 : Nat) (a1 : Int32) (a3 : Int32) (a4 : Int32) (s0 : Int32) (H : jH) : JV l mi_13_roots jeI 67 [(0, .ref a0), (1, .int a1), (3, .int a3), (4, .int a4)] [.int s0] H (B_13_roots_67 k34 a0 a1 a3 a4 s0 H) := by
  unfold B_13_roots_67
  refine s_54 5 69 rfl rfl ?_
  refine s_42 70 rfl rfl ?_
  refine s_180R 0 7 73 7 f_13_0 jw_1326 rfl rfl ?_
  refine s_17 1 134 76 390 jsp_1_134 rfl ?_
  refine s_21 4 78 rfl rfl ?_
  refine s_96 79 rfl ?_
  refine s_42 80 rfl rfl ?_
  refine s_180R 0 7 83 7 f_13_0 jw_1326 rfl rfl ?_
  refine s_17 1 134 86 390 jsp_1_134 rfl ?_
  refine s_21 4 88 rfl rfl ?_
  refine s_96 89 rfl ?_
  refine s_46 90 rfl ?_
  refine s_5 91 rfl ?_
  refine s_108 92 rfl ?_
  refine s_21 5 94 rfl rfl ?_
  refine s_5 95 rfl ?_
  refine s_112 96 rfl ?_
  refine s_18 107 98 33554432 jw_2166 rfl ?_
  refine s_104 99 rfl ?_
  refine s_96 100 rfl ?_
  refine s_79 101 rfl (fun h1 => ?_)
  refine s_132L 4 1 104 1 ji_1 rfl rfl rfl (fun x2 => ?_)
  refine s_167 255 186 34 rfl rfl ?_
  exact s_jmp (hk34 _ _ _ _ _) ⟨rfl, rfl, rfl, rfl, trivial⟩
theorem v_13_roots_34 (l : Launch) (k26 : Nat → Int32 → Int32 → jH → Option (Int32 × jH)) (hk26 : ∀ a0 a1 a3 H, JV l mi_13_roots jeI 26 [(0, .ref a0), (1, .int a1), (3, .int a3)] [] H (k26 a0 a1 a3 H)) (k34 : Nat → Int32 → Int32 → Int32 → jH → Option (Int32 × jH)) (hk34 : ∀ a0 a1 a3 a4 H, JV l mi_13_roots jeI 34 [(0, .ref a0), (1, .int a1), (3, .int a3), (4, .int a4)] [] H (k34 a0 a1 a3 a4 H)) (a0 : Nat) (a1 : Int32) (a3 : Int32) (a4 : Int32) (H : jH) : JV l mi_13_roots jeI 34 [(0, .ref a0), (1, .int a1), (3, .int a3), (4, .int a4)] [] H (B_13_roots_34 k26 k34 a0 a1 a3 a4 H) := by
  unfold B_13_roots_34
  refine s_21 4 36 rfl rfl ?_
  refine s_16 10 38 10 jbp_10 rfl ?_
  refine s_162 0 69 107 41 rfl rfl ?_ ?_
  · refine s_132L 3 1 110 1 ji_1 rfl rfl rfl (fun x3 => ?_)
    refine s_167 255 172 26 rfl rfl ?_
    exact s_jmp (hk26 _ _ _ _) ⟨rfl, rfl, rfl, trivial⟩
  · refine s_21 4 43 rfl rfl ?_
    refine s_4 44 rfl ?_
    refine s_96 45 rfl ?_
    refine s_16 10 47 10 jbp_10 rfl ?_
    refine s_162 0 19 66 50 rfl rfl ?_ ?_
    · refine s_3 67 rfl ?_
      exact s_jmp (v_13_roots_67 l k34 hk34 _ _ _ _ _ _) ⟨rfl, rfl, rfl, rfl, trivial⟩
    · refine s_42 51 rfl rfl ?_
      refine s_180R 0 7 54 7 f_13_0 jw_1326 rfl rfl ?_
      refine s_17 1 134 57 390 jsp_1_134 rfl ?_
      refine s_21 4 59 rfl rfl ?_
      refine s_96 60 rfl ?_
      refine s_4 61 rfl ?_
      refine s_96 62 rfl ?_
      refine s_46 63 rfl ?_
      refine s_167 0 4 67 rfl rfl ?_
      exact s_jmp (v_13_roots_67 l k34 hk34 _ _ _ _ _ _) ⟨rfl, rfl, rfl, rfl, trivial⟩
theorem w_13_roots_34 (l : Launch) (k26 : Nat → Int32 → Int32 → jH → Option (Int32 × jH)) (hk26 : ∀ a0 a1 a3 H, JV l mi_13_roots jeI 26 [(0, .ref a0), (1, .int a1), (3, .int a3)] [] H (k26 a0 a1 a3 H)) (n : Nat) : ∀ a0 a1 a3 a4 H, JV l mi_13_roots jeI 34 [(0, .ref a0), (1, .int a1), (3, .int a3), (4, .int a4)] [] H (F_13_roots_34 k26 n a0 a1 a3 a4 H) := by
  induction n with
  | zero => intro _ _ _ _ _; exact s_none
  | succ n ih => intro a0 a1 a3 a4 H; exact v_13_roots_34 l k26 hk26 (F_13_roots_34 k26 n) ih a0 a1 a3 a4 H
theorem v_13_roots_175 (l : Launch)  (a0 : Nat) (a1 : Int32) (H : jH) : JV l mi_13_roots jeI 175 [(0, .ref a0), (1, .int a1)] [] H (B_13_roots_175  a0 a1 H) := by
  unfold B_13_roots_175
  refine s_42 176 rfl rfl ?_
  refine s_27 177 rfl rfl ?_
  refine s_16 45 179 45 jbp_45 rfl ?_
  refine s_182V 0 70 182 70 (m_13_copy l _ _ _ _) rfl k_13_copy jc_13 jw_2158 jw_2160 jps_112 rfl rfl rfl rfl rfl (fun x4 h5 => ?_)
  refine s_4 183 rfl ?_
  exact s_172Z rfl rfl
theorem v_13_roots_26 (l : Launch) (k26 : Nat → Int32 → Int32 → jH → Option (Int32 × jH)) (hk26 : ∀ a0 a1 a3 H, JV l mi_13_roots jeI 26 [(0, .ref a0), (1, .int a1), (3, .int a3)] [] H (k26 a0 a1 a3 H)) (a0 : Nat) (a1 : Int32) (a3 : Int32) (H : jH) : JV l mi_13_roots jeI 26 [(0, .ref a0), (1, .int a1), (3, .int a3)] [] H (B_13_roots_26 k26 a0 a1 a3 H) := by
  unfold B_13_roots_26
  refine s_29 27 rfl rfl ?_
  refine s_5 28 rfl ?_
  refine s_162 0 85 113 31 rfl rfl ?_ ?_
  · refine s_42 114 rfl rfl ?_
    refine s_16 45 116 45 jbp_45 rfl ?_
    refine s_16 47 118 47 jbp_47 rfl ?_
    refine s_16 8 120 8 jbp_8 rfl ?_
    refine s_182V 0 104 123 104 (m_13_power l _ _ _ _ _) rfl k_13_power jc_13 jw_2167 jw_2169 jps_114 rfl rfl rfl rfl rfl (fun x6 h7 => ?_)
    refine s_42 124 rfl rfl ?_
    refine s_16 46 126 46 jbp_46 rfl ?_
    refine s_16 45 128 45 jbp_45 rfl ?_
    refine s_16 45 130 45 jbp_45 rfl ?_
    refine s_16 8 132 8 jbp_8 rfl ?_
    refine s_182V 0 96 135 96 (m_13_multiply l _ _ _ _ _ _) rfl k_13_multiply jc_13 jw_2132 jw_2134 jps_106 rfl rfl rfl rfl rfl (fun x8 h9 => ?_)
    refine s_42 136 rfl rfl ?_
    refine s_16 46 138 46 jbp_46 rfl ?_
    refine s_16 47 140 47 jbp_47 rfl ?_
    refine s_182I 0 78 143 78 (m_13_compare l _ _ _ _) rfl k_13_compare jc_13 jw_2124 jw_2126 jps_104 rfl rfl rfl rfl rfl (fun x10 h11 => ?_)
    refine s_153 0 5 148 146 rfl rfl ?_ ?_
    · refine s_42 149 rfl rfl ?_
      refine s_16 45 151 45 jbp_45 rfl ?_
      refine s_182I 0 108 154 108 (m_13_isOdd l _ _ _) rfl k_13_isOdd jc_13 jw_2175 jw_2177 jps_116 rfl rfl rfl rfl rfl (fun x12 h13 => ?_)
      refine s_153 0 21 175 157 rfl rfl ?_ ?_
      · exact s_jmp (v_13_roots_175 l _ _ _) ⟨rfl, rfl, trivial⟩
      · refine s_42 158 rfl rfl ?_
        refine s_16 46 160 46 jbp_46 rfl ?_
        refine s_182V 0 62 163 62 (m_13_nothing l _ _ _) rfl k_13_nothing jc_13 jw_1306 jw_1308 jps_51 rfl rfl rfl rfl rfl (fun x14 h15 => ?_)
        refine s_42 164 rfl rfl ?_
        refine s_16 45 166 45 jbp_45 rfl ?_
        refine s_16 46 168 46 jbp_46 rfl ?_
        refine s_16 45 170 45 jbp_45 rfl ?_
        refine s_16 8 172 8 jbp_8 rfl ?_
        refine s_182V 0 112 175 112 (m_13_minus l _ _ _ _ _ _) rfl k_13_minus jc_13 jw_2179 jw_2181 jps_117 rfl rfl rfl rfl rfl (fun x16 h17 => ?_)
        exact s_jmp (v_13_roots_175 l _ _ _) ⟨rfl, rfl, trivial⟩
    · refine s_3 147 rfl ?_
      exact s_172Z rfl rfl
  · refine s_3 32 rfl ?_
    refine s_54 4 34 rfl rfl ?_
    exact s_jmp (w_13_roots_34 l k26 hk26 jfuel _ _ _ _ _) ⟨rfl, rfl, rfl, rfl, trivial⟩
theorem w_13_roots_26 (l : Launch)  (n : Nat) : ∀ a0 a1 a3 H, JV l mi_13_roots jeI 26 [(0, .ref a0), (1, .int a1), (3, .int a3)] [] H (F_13_roots_26  n a0 a1 a3 H) := by
  induction n with
  | zero => intro _ _ _ _; exact s_none
  | succ n ih => intro a0 a1 a3 H; exact v_13_roots_26 l (F_13_roots_26  n) ih a0 a1 a3 H
theorem v_13_roots (l : Launch) (a0 : Nat) (a1 : Int32) (a2 : Int32) (H : jH) : JV l mi_13_roots jeI 0 [(0, .ref a0), (1, .int a1), (2, .int a2)] [] H (F_13_roots a0 a1 a2 H) := by
  unfold F_13_roots
  refine s_42 1 rfl rfl ?_
  refine s_16 47 3 47 jbp_47 rfl ?_
  refine s_28 4 rfl rfl ?_
  refine s_182V 0 70 7 70 (m_13_copy l _ _ _ _) rfl k_13_copy jc_13 jw_2158 jw_2160 jps_112 rfl rfl rfl rfl rfl (fun x18 h19 => ?_)
  refine s_42 8 rfl rfl ?_
  refine s_16 39 10 39 jbp_39 rfl ?_
  refine s_16 8 12 8 jbp_8 rfl ?_
  refine s_182V 0 70 15 70 (m_13_copy l _ _ _ _) rfl k_13_copy jc_13 jw_2158 jw_2160 jps_112 rfl rfl rfl rfl rfl (fun x20 h21 => ?_)
  refine s_42 16 rfl rfl ?_
  refine s_16 39 18 39 jbp_39 rfl ?_
  refine s_16 20 20 20 jbp_20 rfl ?_
  refine s_4 21 rfl ?_
  refine s_182V 0 74 24 74 (m_13_add l _ _ _ _ _) rfl k_13_add jc_13 jw_2150 jw_2152 jps_110 rfl rfl rfl rfl rfl (fun x22 h23 => ?_)
  refine s_3 25 rfl ?_
  refine s_62 26 rfl rfl ?_
  exact s_jmp (w_13_roots_26 l jfuel _ _ _ _) ⟨rfl, rfl, rfl, trivial⟩
theorem m_13_roots (l : Launch) (a0 : Nat) (a1 : Int32) (a2 : Int32) (H : jH) : JMet l y_13_roots prog_17_method_19_code mi_13_roots jeI [.ref a0, .int a1, .int a2] H (F_13_roots a0 a1 a2 H) := jmet_of n_13_roots (by decide) ⟨rfl, rfl⟩ (Nat.le_of_ble_eq_true rfl) (v_13_roots l a0 a1 a2 H)
def mi_13_key : jM := (1957961563322840424008082922387025758111925070122154596730688834599217958881487518968332449384309022479399614959297620616440774619616179504991670407597114946366894955553230533069451089684046250771261319554023217003760520087114179635423424406994651296794192476293335974743890562057086388014936406300421712669205668981788101588729267068076046506152275946709432557957330486600159516712207777775517458748496636637603148061941054417014396957248385458153249291331410849993143518996762552481819, 202, 3, "CoinNodeModel$Points", some FieldType.int, "key", 5, 127)
def y_13_key : MethodName := ⟨"CoinNodeModel$Points", "key", "(I)I"⟩
theorem n_13_key : jn_is prog_17_method_43_code mi_13_key.1 mi_13_key.2.1 := by unfold jn_is; decide +kernel
theorem k_13_key : jmok y_13_key prog_17_method_43_code mi_13_key 1 := ⟨jw_2116, jw_17, ⟨by decide, by decide⟩, by decide +kernel⟩
theorem v_13_key_169 (l : Launch)  (a0 : Nat) (a1 : Int32) (H : jH) : JV l mi_13_key jeI 169 [(0, .ref a0), (1, .int a1)] [] H (B_13_key_169  a0 a1 H) := by
  unfold B_13_key_169
  refine s_42 170 rfl rfl ?_
  refine s_16 10 172 10 jbp_10 rfl ?_
  refine s_5 173 rfl ?_
  refine s_27 174 rfl rfl ?_
  refine s_104 175 rfl ?_
  refine s_96 176 rfl ?_
  refine s_16 40 178 40 jbp_40 rfl ?_
  refine s_182V 0 70 181 70 (m_13_copy l _ _ _ _) rfl k_13_copy jc_13 jw_2158 jw_2160 jps_112 rfl rfl rfl rfl rfl (fun x1 h2 => ?_)
  refine s_42 182 rfl rfl ?_
  refine s_16 11 184 11 jbp_11 rfl ?_
  refine s_5 185 rfl ?_
  refine s_27 186 rfl rfl ?_
  refine s_104 187 rfl ?_
  refine s_96 188 rfl ?_
  refine s_16 41 190 41 jbp_41 rfl ?_
  refine s_182V 0 70 193 70 (m_13_copy l _ _ _ _) rfl k_13_copy jc_13 jw_2158 jw_2160 jps_112 rfl rfl rfl rfl rfl (fun x3 h4 => ?_)
  refine s_42 194 rfl rfl ?_
  refine s_180R 0 23 197 23 f_13_4 jw_1330 rfl rfl ?_
  refine s_27 198 rfl rfl ?_
  refine s_3 199 rfl ?_
  refine s_84Z 200 rfl (fun h5 => ?_)
  refine s_4 201 rfl ?_
  exact s_172 rfl rfl
theorem v_13_key_45 (l : Launch)  (a0 : Nat) (a1 : Int32) (H : jH) : JV l mi_13_key jeI 45 [(0, .ref a0), (1, .int a1)] [] H (B_13_key_45  a0 a1 H) := by
  unfold B_13_key_45
  refine s_42 46 rfl rfl ?_
  refine s_16 40 48 40 jbp_40 rfl ?_
  refine s_4 49 rfl ?_
  refine s_16 32 51 32 jbp_32 rfl ?_
  refine s_182V 0 169 54 169 (m_13_read l _ _ _ _ _) rfl k_13_read jc_13 jw_2120 jw_2122 jps_103 rfl rfl rfl rfl rfl (fun x6 h7 => ?_)
  refine s_42 55 rfl rfl ?_
  refine s_16 40 57 40 jbp_40 rfl ?_
  refine s_16 8 59 8 jbp_8 rfl ?_
  refine s_182I 0 78 62 78 (m_13_compare l _ _ _ _) rfl k_13_compare jc_13 jw_2124 jw_2126 jps_104 rfl rfl rfl rfl rfl (fun x8 h9 => ?_)
  refine s_155 0 5 67 65 rfl rfl ?_ ?_
  · refine s_42 68 rfl rfl ?_
    refine s_16 33 70 33 jbp_33 rfl ?_
    refine s_16 40 72 40 jbp_40 rfl ?_
    refine s_182V 0 136 75 136 (m_13_curve l _ _ _ _) rfl k_13_curve jc_13 jw_2128 jw_2130 jps_105 rfl rfl rfl rfl rfl (fun x10 h11 => ?_)
    refine s_42 76 rfl rfl ?_
    refine s_16 41 78 41 jbp_41 rfl ?_
    refine s_16 33 80 33 jbp_33 rfl ?_
    refine s_182I 0 145 83 145 (m_13_roots l _ _ _ _) rfl k_13_roots jc_13 jw_2162 jw_2164 jps_113 rfl rfl rfl rfl rfl (fun x12 h13 => ?_)
    refine s_154 0 5 88 86 rfl rfl ?_ ?_
    · refine s_42 89 rfl rfl ?_
      refine s_180R 0 27 92 27 f_13_5 jw_1331 rfl rfl ?_
      refine s_3 93 rfl ?_
      refine s_46 94 rfl ?_
      refine s_6 95 rfl ?_
      refine s_160 0 74 169 98 rfl rfl ?_ ?_
      · exact s_jmp (v_13_key_169 l _ _ _) ⟨rfl, rfl, trivial⟩
      · refine s_42 99 rfl rfl ?_
        refine s_16 33 101 33 jbp_33 rfl ?_
        refine s_182V 0 62 104 62 (m_13_nothing l _ _ _) rfl k_13_nothing jc_13 jw_1306 jw_1308 jps_51 rfl rfl rfl rfl rfl (fun x14 h15 => ?_)
        refine s_42 105 rfl rfl ?_
        refine s_16 41 107 41 jbp_41 rfl ?_
        refine s_16 33 109 33 jbp_33 rfl ?_
        refine s_16 41 111 41 jbp_41 rfl ?_
        refine s_16 8 113 8 jbp_8 rfl ?_
        refine s_182V 0 112 116 112 (m_13_minus l _ _ _ _ _ _) rfl k_13_minus jc_13 jw_2179 jw_2181 jps_117 rfl rfl rfl rfl rfl (fun x16 h17 => ?_)
        refine s_167 0 53 169 rfl rfl ?_
        exact s_jmp (v_13_key_169 l _ _ _) ⟨rfl, rfl, trivial⟩
    · refine s_3 87 rfl ?_
      exact s_172 rfl rfl
  · refine s_3 66 rfl ?_
    exact s_172 rfl rfl
theorem v_13_key_167 (l : Launch)   (H : jH) : JV l mi_13_key jeI 167 [] [] H (B_13_key_167   H) := by
  unfold B_13_key_167
  refine s_3 168 rfl ?_
  exact s_172 rfl rfl
theorem v_13_key_119 (l : Launch)  (a0 : Nat) (a1 : Int32) (a2 : Int32) (H : jH) : JV l mi_13_key jeI 119 [(0, .ref a0), (1, .int a1), (2, .int a2)] [] H (B_13_key_119  a0 a1 a2 H) := by
  unfold B_13_key_119
  refine s_28 120 rfl rfl ?_
  refine s_16 65 122 65 jbp_65 rfl ?_
  refine s_160 0 45 167 125 rfl rfl ?_ ?_
  · exact s_jmp (v_13_key_167 l _) trivial
  · refine s_42 126 rfl rfl ?_
    refine s_180R 0 27 129 27 f_13_5 jw_1331 rfl rfl ?_
    refine s_3 130 rfl ?_
    refine s_46 131 rfl ?_
    refine s_7 132 rfl ?_
    refine s_160 0 35 167 135 rfl rfl ?_ ?_
    · exact s_jmp (v_13_key_167 l _) trivial
    · refine s_42 136 rfl rfl ?_
      refine s_16 40 138 40 jbp_40 rfl ?_
      refine s_4 139 rfl ?_
      refine s_16 32 141 32 jbp_32 rfl ?_
      refine s_182V 0 169 144 169 (m_13_read l _ _ _ _ _) rfl k_13_read jc_13 jw_2120 jw_2122 jps_103 rfl rfl rfl rfl rfl (fun x18 h19 => ?_)
      refine s_42 145 rfl rfl ?_
      refine s_16 41 147 41 jbp_41 rfl ?_
      refine s_16 33 149 33 jbp_33 rfl ?_
      refine s_16 32 151 32 jbp_32 rfl ?_
      refine s_182V 0 169 154 169 (m_13_read l _ _ _ _ _) rfl k_13_read jc_13 jw_2120 jw_2122 jps_103 rfl rfl rfl rfl rfl (fun x20 h21 => ?_)
      refine s_42 155 rfl rfl ?_
      refine s_16 40 157 40 jbp_40 rfl ?_
      refine s_16 41 159 41 jbp_41 rfl ?_
      refine s_182I 0 151 162 151 (m_13_isPoint l _ _ _ _) rfl k_13_isPoint jc_13 jw_2183 jw_2185 jps_118 rfl rfl rfl rfl rfl (fun x22 h23 => ?_)
      refine s_154 0 7 169 165 rfl rfl ?_ ?_
      · exact s_jmp (v_13_key_169 l _ _ _) ⟨rfl, rfl, trivial⟩
      · refine s_3 166 rfl ?_
        exact s_172 rfl rfl
theorem v_13_key (l : Launch) (a0 : Nat) (a1 : Int32) (H : jH) : JV l mi_13_key jeI 0 [(0, .ref a0), (1, .int a1)] [] H (F_13_key a0 a1 H) := by
  unfold F_13_key
  refine s_27 1 rfl rfl ?_
  refine s_184I 0 148 4 148 (m_13_isSpot l _ _) rfl k_13_isSpot jw_2117 jw_2118 rfl rfl rfl rfl rfl (fun x24 h25 => ?_)
  refine s_154 0 5 9 7 rfl rfl ?_ ?_
  · refine s_42 10 rfl rfl ?_
    refine s_180I 0 163 13 163 f_13_6 jw_1332 rfl rfl ?_
    refine s_61L 14 rfl rfl (fun x26 => ?_)
    refine s_42 15 rfl rfl ?_
    refine s_3 16 rfl ?_
    refine s_181I 0 163 19 163 f_13_6 rfl rfl jw_1332 rfl rfl (fun h27 => ?_)
    refine s_28 20 rfl rfl ?_
    refine s_16 33 22 33 jbp_33 rfl ?_
    refine s_160 0 97 119 25 rfl rfl ?_ ?_
    · exact s_jmp (v_13_key_119 l _ _ _ _) ⟨rfl, rfl, rfl, trivial⟩
    · refine s_42 26 rfl rfl ?_
      refine s_180R 0 27 29 27 f_13_5 jw_1331 rfl rfl ?_
      refine s_3 30 rfl ?_
      refine s_46 31 rfl ?_
      refine s_5 32 rfl ?_
      refine s_159 0 13 45 35 rfl rfl ?_ ?_
      · exact s_jmp (v_13_key_45 l _ _ _) ⟨rfl, rfl, trivial⟩
      · refine s_42 36 rfl rfl ?_
        refine s_180R 0 27 39 27 f_13_5 jw_1331 rfl rfl ?_
        refine s_3 40 rfl ?_
        refine s_46 41 rfl ?_
        refine s_6 42 rfl ?_
        refine s_160 0 77 119 45 rfl rfl ?_ ?_
        · exact s_jmp (v_13_key_119 l _ _ _ _) ⟨rfl, rfl, rfl, trivial⟩
        · exact s_jmp (v_13_key_45 l _ _ _) ⟨rfl, rfl, trivial⟩
  · refine s_2 8 rfl ?_
    exact s_172 rfl rfl
theorem m_13_key (l : Launch) (a0 : Nat) (a1 : Int32) (H : jH) : JMet l y_13_key prog_17_method_43_code mi_13_key jeI [.ref a0, .int a1] H (F_13_key a0 a1 H) := jmet_of n_13_key (by decide) ⟨rfl, rfl⟩ (Nat.le_of_ble_eq_true rfl) (v_13_key l a0 a1 H)
def mi_13_put : jM := (42545516309637810738941291415790850502055766813699164505897165730280084445144168827127649442137138821880744599542599737268344584897009739866644549113641842019913561029717591069, 73, 5, "CoinNodeModel$Points", some FieldType.boolean, "put", 0, 0)
def y_13_put : MethodName := ⟨"CoinNodeModel$Points", "put", "(JI)Z"⟩
theorem n_13_put : jn_is prog_17_method_41_code mi_13_put.1 mi_13_put.2.1 := by unfold jn_is; decide +kernel
theorem k_13_put : jmok y_13_put prog_17_method_41_code mi_13_put 2 := ⟨jw_2111, jw_17, ⟨by decide, by decide⟩, by decide +kernel⟩
theorem v_13_put_22 (l : Launch)   (H : jH) : JV l mi_13_put jeI 22 [] [] H (B_13_put_22   H) := by
  unfold B_13_put_22
  refine s_3 23 rfl ?_
  exact s_172Z rfl rfl
theorem v_13_put_29 (l : Launch) (k29 : Nat → Int64 → Int32 → jH → Option (Int32 × jH)) (hk29 : ∀ a0 a1 a4 H, JV l mi_13_put jeI 29 [(0, .ref a0), (1, .long a1), (4, .int a4)] [] H (k29 a0 a1 a4 H)) (a0 : Nat) (a1 : Int64) (a4 : Int32) (H : jH) : JV l mi_13_put jeI 29 [(0, .ref a0), (1, .long a1), (4, .int a4)] [] H (B_13_put_29 k29 a0 a1 a4 H) := by
  unfold B_13_put_29
  refine s_21 4 31 rfl rfl ?_
  refine s_155 0 40 71 34 rfl rfl ?_ ?_
  · refine s_4 72 rfl ?_
    exact s_172Z rfl rfl
  · refine s_42 35 rfl rfl ?_
    refine s_180R 0 27 38 27 f_13_5 jw_1331 rfl rfl ?_
    refine s_42 39 rfl rfl ?_
    refine s_180I 0 163 42 163 f_13_6 jw_1332 rfl rfl ?_
    refine s_31 43 rfl rfl ?_
    refine s_16 8 45 8 jbp_8 rfl ?_
    refine s_21 4 47 rfl rfl ?_
    refine s_104 48 rfl ?_
    refine s_123 49 rfl ?_
    refine s_20 0 167 52 167 255 rfl jw_2112 rfl ?_
    refine s_127 53 rfl ?_
    refine s_136 54 rfl ?_
    refine s_79 55 rfl (fun h1 => ?_)
    refine s_42 56 rfl rfl ?_
    refine s_89 57 rfl rfl ?_
    refine s_180I 0 163 60 163 f_13_6 jw_1332 rfl rfl ?_
    refine s_4 61 rfl ?_
    refine s_96 62 rfl ?_
    refine s_181I 0 163 65 163 f_13_6 rfl rfl jw_1332 rfl rfl (fun h2 => ?_)
    refine s_132L 4 255 68 (-1) ji_255 rfl rfl rfl (fun x3 => ?_)
    refine s_167 255 217 29 rfl rfl ?_
    exact s_jmp (hk29 _ _ _ _) ⟨rfl, rfl, rfl, trivial⟩
theorem w_13_put_29 (l : Launch)  (n : Nat) : ∀ a0 a1 a4 H, JV l mi_13_put jeI 29 [(0, .ref a0), (1, .long a1), (4, .int a4)] [] H (F_13_put_29  n a0 a1 a4 H) := by
  induction n with
  | zero => intro _ _ _ _; exact s_none
  | succ n ih => intro a0 a1 a4 H; exact v_13_put_29 l (F_13_put_29  n) ih a0 a1 a4 H
theorem v_13_put (l : Launch) (a0 : Nat) (a1 : Int64) (a3 : Int32) (H : jH) : JV l mi_13_put jeI 0 [(0, .ref a0), (1, .long a1), (3, .int a3)] [] H (F_13_put a0 a1 a3 H) := by
  unfold F_13_put
  refine s_29 1 rfl rfl ?_
  refine s_4 2 rfl ?_
  refine s_161 0 20 22 5 rfl rfl ?_ ?_
  · exact s_jmp (v_13_put_22 l _) trivial
  · refine s_29 6 rfl rfl ?_
    refine s_16 8 8 8 jbp_8 rfl ?_
    refine s_163 0 14 22 11 rfl rfl ?_ ?_
    · exact s_jmp (v_13_put_22 l _) trivial
    · refine s_42 12 rfl rfl ?_
      refine s_180I 0 163 15 163 f_13_6 jw_1332 rfl rfl ?_
      refine s_29 16 rfl rfl ?_
      refine s_96 17 rfl ?_
      refine s_16 100 19 100 jbp_100 rfl ?_
      refine s_164 0 5 24 22 rfl rfl ?_ ?_
      · refine s_29 25 rfl rfl ?_
        refine s_4 26 rfl ?_
        refine s_100 27 rfl ?_
        refine s_54L 4 29 rfl rfl (fun x4 => ?_)
        exact s_jmp (w_13_put_29 l jfuel _ _ _ _) ⟨rfl, rfl, rfl, trivial⟩
      · exact s_jmp (v_13_put_22 l _) trivial
theorem m_13_put (l : Launch) (a0 : Nat) (a1 : Int64) (a3 : Int32) (H : jH) : JMet l y_13_put prog_17_method_41_code mi_13_put jeI [.ref a0, .long a1, .int a3] H (F_13_put a0 a1 a3 H) := jmet_of n_13_put (by decide) ⟨rfl, rfl⟩ (Nat.le_of_ble_eq_true rfl) (v_13_put l a0 a1 a3 H)
def mi_13_set : jM := (16475873337100041341361471182989321652005742433093597211, 23, 10, "CoinNodeModel$Points", some FieldType.boolean, "set", 2, 60)
def y_13_set : MethodName := ⟨"CoinNodeModel$Points", "set", "(IJJJJ)Z"⟩
theorem n_13_set : jn_is prog_17_method_32_code mi_13_set.1 mi_13_set.2.1 := by unfold jn_is; decide +kernel
theorem k_13_set : jmok y_13_set prog_17_method_32_code mi_13_set 5 := ⟨jw_2201, jw_17, ⟨by decide, by decide⟩, by decide +kernel⟩
theorem v_13_set (l : Launch) (a0 : Nat) (a1 : Int32) (a2 : Int64) (a4 : Int64) (a6 : Int64) (a8 : Int64) (H : jH) : JV l mi_13_set jeI 0 [(0, .ref a0), (1, .int a1), (2, .long a2), (4, .long a4), (6, .long a6), (8, .long a8)] [] H (F_13_set a0 a1 a2 a4 a6 a8 H) := by
  unfold F_13_set
  refine s_27 1 rfl rfl ?_
  refine s_184I 0 139 4 139 (m_13_isRegister l _ _) rfl k_13_isRegister jw_2191 jw_2192 rfl rfl rfl rfl rfl (fun x1 h2 => ?_)
  refine s_154 0 5 9 7 rfl rfl ?_ ?_
  · refine s_42 10 rfl rfl ?_
    refine s_27 11 rfl rfl ?_
    refine s_32 12 rfl rfl ?_
    refine s_22 4 14 rfl rfl ?_
    refine s_22 6 16 rfl rfl ?_
    refine s_22 8 18 rfl rfl ?_
    refine s_182V 0 34 21 34 (m_13_write l _ _ _ _ _ _ _) rfl k_13_write jc_13 jw_1302 jw_1304 jps_50 rfl rfl rfl rfl rfl (fun x3 h4 => ?_)
    refine s_4 22 rfl ?_
    exact s_172Z rfl rfl
  · refine s_3 8 rfl ?_
    exact s_172Z rfl rfl
theorem m_13_set (l : Launch) (a0 : Nat) (a1 : Int32) (a2 : Int64) (a4 : Int64) (a6 : Int64) (a8 : Int64) (H : jH) : JMet l y_13_set prog_17_method_32_code mi_13_set jeI [.ref a0, .int a1, .long a2, .long a4, .long a6, .long a8] H (F_13_set a0 a1 a2 a4 a6 a8 H) := jmet_of n_13_set (by decide) ⟨rfl, rfl⟩ (Nat.le_of_ble_eq_true rfl) (v_13_set l a0 a1 a2 a4 a6 a8 H)
def mi_13_numberEnd : jM := (7199528009315770236339359727201787941434222004115399537226498368711095411844320052074168824530265710593371095193920105862854870731794141165867638314460630342583624453218871041360310893659338181443735593147139406863234671377538644821342673568848789160090048900984965392248789825490016892501744576103707, 125, 6, "CoinNodeModel$Points", some FieldType.int, "numberEnd", 0, 0)
def y_13_numberEnd : MethodName := ⟨"CoinNodeModel$Points", "numberEnd", "(II)I"⟩
theorem n_13_numberEnd : jn_is prog_17_method_44_code mi_13_numberEnd.1 mi_13_numberEnd.2.1 := by unfold jn_is; decide +kernel
theorem k_13_numberEnd : jmok y_13_numberEnd prog_17_method_44_code mi_13_numberEnd 2 := ⟨jw_2197, jw_17, ⟨by decide, by decide⟩, by decide +kernel⟩
theorem v_13_numberEnd_17 (l : Launch)   (H : jH) : JV l mi_13_numberEnd jeI 17 [] [] H (B_13_numberEnd_17   H) := by
  unfold B_13_numberEnd_17
  refine s_2 18 rfl ?_
  exact s_172 rfl rfl
theorem v_13_numberEnd_48 (l : Launch)   (H : jH) : JV l mi_13_numberEnd jeI 48 [] [] H (B_13_numberEnd_48   H) := by
  unfold B_13_numberEnd_48
  refine s_2 49 rfl ?_
  exact s_172 rfl rfl
theorem v_13_numberEnd_124 (l : Launch)  (s0 : Int32) (H : jH) : JV l mi_13_numberEnd jeI 124 [] [.int s0] H (B_13_numberEnd_124  s0 H) := by
  unfold B_13_numberEnd_124
  exact s_172 rfl rfl
theorem v_13_numberEnd_115 (l : Launch)  (a1 : Int32) (a3 : Int32) (H : jH) : JV l mi_13_numberEnd jeI 115 [(1, .int a1), (3, .int a3)] [] H (B_13_numberEnd_115  a1 a3 H) := by
  unfold B_13_numberEnd_115
  refine s_27 116 rfl rfl ?_
  refine s_5 117 rfl ?_
  refine s_96 118 rfl ?_
  refine s_29 119 rfl rfl ?_
  refine s_96 120 rfl ?_
  refine s_167 0 4 124 rfl rfl ?_
  exact s_jmp (v_13_numberEnd_124 l _ _) trivial
theorem v_13_numberEnd_123 (l : Launch)   (H : jH) : JV l mi_13_numberEnd jeI 123 [] [] H (B_13_numberEnd_123   H) := by
  unfold B_13_numberEnd_123
  refine s_2 124 rfl ?_
  exact s_jmp (v_13_numberEnd_124 l _ _) trivial
theorem v_13_numberEnd_97 (l : Launch)  (a1 : Int32) (a3 : Int32) (a4 : Int32) (s0 : Int32) (H : jH) : JV l mi_13_numberEnd jeI 97 [(1, .int a1), (3, .int a3), (4, .int a4)] [.int s0] H (B_13_numberEnd_97  a1 a3 a4 s0 H) := by
  unfold B_13_numberEnd_97
  refine s_54 5 99 rfl rfl ?_
  refine s_21 5 101 rfl rfl ?_
  refine s_153 0 22 123 104 rfl rfl ?_ ?_
  · exact s_jmp (v_13_numberEnd_123 l _) trivial
  · refine s_29 105 rfl rfl ?_
    refine s_16 33 107 33 jbp_33 rfl ?_
    refine s_161 0 8 115 110 rfl rfl ?_ ?_
    · exact s_jmp (v_13_numberEnd_115 l _ _ _) ⟨rfl, rfl, trivial⟩
    · refine s_21 4 112 rfl rfl ?_
      refine s_154 0 11 123 115 rfl rfl ?_ ?_
      · exact s_jmp (v_13_numberEnd_123 l _) trivial
      · exact s_jmp (v_13_numberEnd_115 l _ _ _) ⟨rfl, rfl, trivial⟩
theorem v_13_numberEnd_92 (l : Launch)  (a1 : Int32) (a3 : Int32) (a4 : Int32) (H : jH) : JV l mi_13_numberEnd jeI 92 [(1, .int a1), (3, .int a3), (4, .int a4)] [] H (B_13_numberEnd_92  a1 a3 a4 H) := by
  unfold B_13_numberEnd_92
  refine s_4 93 rfl ?_
  refine s_167 0 4 97 rfl rfl ?_
  exact s_jmp (v_13_numberEnd_97 l _ _ _ _ _) ⟨rfl, rfl, rfl, trivial⟩
theorem v_13_numberEnd_96 (l : Launch)  (a1 : Int32) (a3 : Int32) (a4 : Int32) (H : jH) : JV l mi_13_numberEnd jeI 96 [(1, .int a1), (3, .int a3), (4, .int a4)] [] H (B_13_numberEnd_96  a1 a3 a4 H) := by
  unfold B_13_numberEnd_96
  refine s_3 97 rfl ?_
  exact s_jmp (v_13_numberEnd_97 l _ _ _ _ _) ⟨rfl, rfl, rfl, trivial⟩
theorem v_13_numberEnd (l : Launch) (a0 : Nat) (a1 : Int32) (a2 : Int32) (H : jH) : JV l mi_13_numberEnd jeI 0 [(0, .ref a0), (1, .int a1), (2, .int a2)] [] H (F_13_numberEnd a0 a1 a2 H) := by
  unfold F_13_numberEnd
  refine s_27 1 rfl rfl ?_
  refine s_5 2 rfl ?_
  refine s_96 3 rfl ?_
  refine s_28 4 rfl rfl ?_
  refine s_163 0 13 17 7 rfl rfl ?_ ?_
  · exact s_jmp (v_13_numberEnd_17 l _) trivial
  · refine s_42 8 rfl rfl ?_
    refine s_180R 0 27 11 27 f_13_5 jw_1331 rfl rfl ?_
    refine s_27 12 rfl rfl ?_
    refine s_46 13 rfl ?_
    refine s_5 14 rfl ?_
    refine s_159 0 5 19 17 rfl rfl ?_ ?_
    · refine s_42 20 rfl rfl ?_
      refine s_180R 0 27 23 27 f_13_5 jw_1331 rfl rfl ?_
      refine s_27 24 rfl rfl ?_
      refine s_4 25 rfl ?_
      refine s_96 26 rfl ?_
      refine s_46 27 rfl ?_
      refine s_62L 28 rfl rfl (fun x1 => ?_)
      refine s_29 29 rfl rfl ?_
      refine s_4 30 rfl ?_
      refine s_161 0 18 48 33 rfl rfl ?_ ?_
      · exact s_jmp (v_13_numberEnd_48 l _) trivial
      · refine s_29 34 rfl rfl ?_
        refine s_16 33 36 33 jbp_33 rfl ?_
        refine s_163 0 12 48 39 rfl rfl ?_ ?_
        · exact s_jmp (v_13_numberEnd_48 l _) trivial
        · refine s_27 40 rfl rfl ?_
          refine s_5 41 rfl ?_
          refine s_96 42 rfl ?_
          refine s_29 43 rfl rfl ?_
          refine s_96 44 rfl ?_
          refine s_28 45 rfl rfl ?_
          refine s_164 0 5 50 48 rfl rfl ?_ ?_
          · refine s_42 51 rfl rfl ?_
            refine s_180R 0 27 54 27 f_13_5 jw_1331 rfl rfl ?_
            refine s_27 55 rfl rfl ?_
            refine s_5 56 rfl ?_
            refine s_96 57 rfl ?_
            refine s_46 58 rfl ?_
            refine s_54L 4 60 rfl rfl (fun x2 => ?_)
            refine s_21 4 62 rfl rfl ?_
            refine s_17 0 128 65 128 jsp_0_128 rfl ?_
            refine s_162 0 31 96 68 rfl rfl ?_ ?_
            · exact s_jmp (v_13_numberEnd_96 l _ _ _ _) ⟨rfl, rfl, rfl, trivial⟩
            · refine s_21 4 70 rfl rfl ?_
              refine s_157 0 22 92 73 rfl rfl ?_ ?_
              · exact s_jmp (v_13_numberEnd_92 l _ _ _ _) ⟨rfl, rfl, rfl, trivial⟩
              · refine s_29 74 rfl rfl ?_
                refine s_4 75 rfl ?_
                refine s_159 0 17 92 78 rfl rfl ?_ ?_
                · exact s_jmp (v_13_numberEnd_92 l _ _ _ _) ⟨rfl, rfl, rfl, trivial⟩
                · refine s_42 79 rfl rfl ?_
                  refine s_180R 0 27 82 27 f_13_5 jw_1331 rfl rfl ?_
                  refine s_27 83 rfl rfl ?_
                  refine s_6 84 rfl ?_
                  refine s_96 85 rfl ?_
                  refine s_46 86 rfl ?_
                  refine s_17 0 128 89 128 jsp_0_128 rfl ?_
                  refine s_161 0 7 96 92 rfl rfl ?_ ?_
                  · exact s_jmp (v_13_numberEnd_96 l _ _ _ _) ⟨rfl, rfl, rfl, trivial⟩
                  · exact s_jmp (v_13_numberEnd_92 l _ _ _ _) ⟨rfl, rfl, rfl, trivial⟩
          · exact s_jmp (v_13_numberEnd_48 l _) trivial
    · exact s_jmp (v_13_numberEnd_17 l _) trivial
theorem m_13_numberEnd (l : Launch) (a0 : Nat) (a1 : Int32) (a2 : Int32) (H : jH) : JMet l y_13_numberEnd prog_17_method_44_code mi_13_numberEnd jeI [.ref a0, .int a1, .int a2] H (F_13_numberEnd a0 a1 a2 H) := jmet_of n_13_numberEnd (by decide) ⟨rfl, rfl⟩ (Nat.le_of_ble_eq_true rfl) (v_13_numberEnd l a0 a1 a2 H)
def mi_13_signature : jM := (23264326735769990754529834784272096487516555219772854637747161042073068040415613163380356842739488473417014568128680793839009842755782407937078314938880838809465787684031558261766001753157913863766686659383091421736716592306346283916017964469613265517873469890081893384239131, 114, 5, "CoinNodeModel$Points", some FieldType.int, "signature", 2, 48)
def y_13_signature : MethodName := ⟨"CoinNodeModel$Points", "signature", "(II)I"⟩
theorem n_13_signature : jn_is prog_17_method_45_code mi_13_signature.1 mi_13_signature.2.1 := by unfold jn_is; decide +kernel
theorem k_13_signature : jmok y_13_signature prog_17_method_45_code mi_13_signature 2 := ⟨jw_2190, jw_17, ⟨by decide, by decide⟩, by decide +kernel⟩
theorem v_13_signature_19 (l : Launch)   (H : jH) : JV l mi_13_signature jeI 19 [] [] H (B_13_signature_19   H) := by
  unfold B_13_signature_19
  refine s_2 20 rfl ?_
  exact s_172 rfl rfl
theorem v_13_signature_59 (l : Launch)   (H : jH) : JV l mi_13_signature jeI 59 [] [] H (B_13_signature_59   H) := by
  unfold B_13_signature_59
  refine s_3 60 rfl ?_
  exact s_172 rfl rfl
theorem v_13_signature_85 (l : Launch)   (H : jH) : JV l mi_13_signature jeI 85 [] [] H (B_13_signature_85   H) := by
  unfold B_13_signature_85
  refine s_3 86 rfl ?_
  exact s_172 rfl rfl
theorem v_13_signature (l : Launch) (a0 : Nat) (a1 : Int32) (a2 : Int32) (H : jH) : JV l mi_13_signature jeI 0 [(0, .ref a0), (1, .int a1), (2, .int a2)] [] H (F_13_signature a0 a1 a2 H) := by
  unfold F_13_signature
  refine s_27 1 rfl rfl ?_
  refine s_184I 0 139 4 139 (m_13_isRegister l _ _) rfl k_13_isRegister jw_2191 jw_2192 rfl rfl rfl rfl rfl (fun x1 h2 => ?_)
  refine s_153 0 15 19 7 rfl rfl ?_ ?_
  · exact s_jmp (v_13_signature_19 l _) trivial
  · refine s_28 8 rfl rfl ?_
    refine s_184I 0 139 11 139 (m_13_isRegister l _ _) rfl k_13_isRegister jw_2191 jw_2192 rfl rfl rfl rfl rfl (fun x3 h4 => ?_)
    refine s_153 0 8 19 14 rfl rfl ?_ ?_
    · exact s_jmp (v_13_signature_19 l _) trivial
    · refine s_27 15 rfl rfl ?_
      refine s_28 16 rfl rfl ?_
      refine s_160 0 5 21 19 rfl rfl ?_ ?_
      · refine s_42 22 rfl rfl ?_
        refine s_180I 0 163 25 163 f_13_6 jw_1332 rfl rfl ?_
        refine s_62L 26 rfl rfl (fun x5 => ?_)
        refine s_42 27 rfl rfl ?_
        refine s_3 28 rfl ?_
        refine s_181I 0 163 31 163 f_13_6 rfl rfl jw_1332 rfl rfl (fun h6 => ?_)
        refine s_29 32 rfl rfl ?_
        refine s_5 33 rfl ?_
        refine s_161 0 26 59 36 rfl rfl ?_ ?_
        · exact s_jmp (v_13_signature_59 l _) trivial
        · refine s_42 37 rfl rfl ?_
          refine s_180R 0 27 40 27 f_13_5 jw_1331 rfl rfl ?_
          refine s_3 41 rfl ?_
          refine s_46 42 rfl ?_
          refine s_16 48 44 48 jbp_48 rfl ?_
          refine s_160 0 15 59 47 rfl rfl ?_ ?_
          · exact s_jmp (v_13_signature_59 l _) trivial
          · refine s_42 48 rfl rfl ?_
            refine s_180R 0 27 51 27 f_13_5 jw_1331 rfl rfl ?_
            refine s_4 52 rfl ?_
            refine s_46 53 rfl ?_
            refine s_29 54 rfl rfl ?_
            refine s_5 55 rfl ?_
            refine s_100 56 rfl ?_
            refine s_159 0 5 61 59 rfl rfl ?_ ?_
            · refine s_42 62 rfl rfl ?_
              refine s_5 63 rfl ?_
              refine s_29 64 rfl rfl ?_
              refine s_182I 0 172 67 172 (m_13_numberEnd l _ _ _ _) rfl k_13_numberEnd jc_13 jw_2194 jw_2196 jps_119 rfl rfl rfl rfl rfl (fun x7 h8 => ?_)
              refine s_54 4 69 rfl rfl ?_
              refine s_21 4 71 rfl rfl ?_
              refine s_155 0 14 85 74 rfl rfl ?_ ?_
              · exact s_jmp (v_13_signature_85 l _) trivial
              · refine s_42 75 rfl rfl ?_
                refine s_21 4 77 rfl rfl ?_
                refine s_29 78 rfl rfl ?_
                refine s_182I 0 172 81 172 (m_13_numberEnd l _ _ _ _) rfl k_13_numberEnd jc_13 jw_2194 jw_2196 jps_119 rfl rfl rfl rfl rfl (fun x9 h10 => ?_)
                refine s_29 82 rfl rfl ?_
                refine s_159 0 5 87 85 rfl rfl ?_ ?_
                · refine s_42 88 rfl rfl ?_
                  refine s_27 89 rfl rfl ?_
                  refine s_7 90 rfl ?_
                  refine s_21 4 92 rfl rfl ?_
                  refine s_7 93 rfl ?_
                  refine s_100 94 rfl ?_
                  refine s_182V 0 169 97 169 (m_13_read l _ _ _ _ _) rfl k_13_read jc_13 jw_2120 jw_2122 jps_103 rfl rfl rfl rfl rfl (fun x11 h12 => ?_)
                  refine s_42 98 rfl rfl ?_
                  refine s_28 99 rfl rfl ?_
                  refine s_21 4 101 rfl rfl ?_
                  refine s_5 102 rfl ?_
                  refine s_96 103 rfl ?_
                  refine s_29 104 rfl rfl ?_
                  refine s_21 4 106 rfl rfl ?_
                  refine s_100 107 rfl ?_
                  refine s_5 108 rfl ?_
                  refine s_100 109 rfl ?_
                  refine s_182V 0 169 112 169 (m_13_read l _ _ _ _ _) rfl k_13_read jc_13 jw_2120 jw_2122 jps_103 rfl rfl rfl rfl rfl (fun x13 h14 => ?_)
                  refine s_4 113 rfl ?_
                  exact s_172 rfl rfl
                · exact s_jmp (v_13_signature_85 l _) trivial
            · exact s_jmp (v_13_signature_59 l _) trivial
      · exact s_jmp (v_13_signature_19 l _) trivial
theorem m_13_signature (l : Launch) (a0 : Nat) (a1 : Int32) (a2 : Int32) (H : jH) : JMet l y_13_signature prog_17_method_45_code mi_13_signature jeI [.ref a0, .int a1, .int a2] H (F_13_signature a0 a1 a2 H) := jmet_of n_13_signature (by decide) ⟨rfl, rfl⟩ (Nat.le_of_ble_eq_true rfl) (v_13_signature l a0 a1 a2 H)
def mi_15_word : jM := (24235216488791208736576328441963853909989699468064336835543830221955800521518296536189119512428553650441, 43, 5, "CoinNodeModel$Signing", some FieldType.long, "word", 0, 0)
def y_15_word : MethodName := ⟨"CoinNodeModel$Signing", "word", "(I)J"⟩
theorem n_15_word : jn_is prog_19_method_5_code mi_15_word.1 mi_15_word.2.1 := by unfold jn_is; decide +kernel
theorem k_15_word : jmok y_15_word prog_19_method_5_code mi_15_word 1 := ⟨jw_2218, jw_16, ⟨by decide, by decide⟩, by decide +kernel⟩
theorem v_15_word_5 (l : Launch) (k5 : Nat → Int32 → Int64 → Int32 → jH → Option (Int64 × jH)) (hk5 : ∀ a0 a1 a2 a4 H, JV l mi_15_word jeL 5 [(0, .ref a0), (1, .int a1), (2, .long a2), (4, .int a4)] [] H (k5 a0 a1 a2 a4 H)) (a0 : Nat) (a1 : Int32) (a2 : Int64) (a4 : Int32) (H : jH) : JV l mi_15_word jeL 5 [(0, .ref a0), (1, .int a1), (2, .long a2), (4, .int a4)] [] H (B_15_word_5 k5 a0 a1 a2 a4 H) := by
  unfold B_15_word_5
  refine s_21 4 7 rfl rfl ?_
  refine s_16 8 9 8 jbp_8 rfl ?_
  refine s_162 0 32 41 12 rfl rfl ?_ ?_
  · refine s_32 42 rfl rfl ?_
    exact s_173 rfl rfl
  · refine s_32 13 rfl rfl ?_
    refine s_16 8 15 8 jbp_8 rfl ?_
    refine s_121 16 rfl ?_
    refine s_42 17 rfl rfl ?_
    refine s_180R 0 20 20 20 f_15_9 jw_1362 rfl rfl ?_
    refine s_16 8 22 8 jbp_8 rfl ?_
    refine s_27 23 rfl rfl ?_
    refine s_104 24 rfl ?_
    refine s_21 4 26 rfl rfl ?_
    refine s_96 27 rfl ?_
    refine s_51B 28 rfl ?_
    refine s_17 0 255 31 255 jsp_0_255 rfl ?_
    refine s_126 32 rfl ?_
    refine s_133 33 rfl ?_
    refine s_129 34 rfl ?_
    refine s_65L 35 rfl rfl (fun x1 => ?_)
    refine s_132L 4 1 38 1 ji_1 rfl rfl rfl (fun x2 => ?_)
    refine s_167 255 223 5 rfl rfl ?_
    exact s_jmp (hk5 _ _ _ _ _) ⟨rfl, rfl, rfl, rfl, trivial⟩
theorem w_15_word_5 (l : Launch)  (n : Nat) : ∀ a0 a1 a2 a4 H, JV l mi_15_word jeL 5 [(0, .ref a0), (1, .int a1), (2, .long a2), (4, .int a4)] [] H (F_15_word_5  n a0 a1 a2 a4 H) := by
  induction n with
  | zero => intro _ _ _ _ _; exact s_none
  | succ n ih => intro a0 a1 a2 a4 H; exact v_15_word_5 l (F_15_word_5  n) ih a0 a1 a2 a4 H
theorem v_15_word (l : Launch) (a0 : Nat) (a1 : Int32) (H : jH) : JV l mi_15_word jeL 0 [(0, .ref a0), (1, .int a1)] [] H (F_15_word a0 a1 H) := by
  unfold F_15_word
  refine s_9 1 rfl ?_
  refine s_65 2 rfl rfl ?_
  refine s_3 3 rfl ?_
  refine s_54 4 5 rfl rfl ?_
  exact s_jmp (w_15_word_5 l jfuel _ _ _ _ _) ⟨rfl, rfl, rfl, rfl, trivial⟩
theorem m_15_word (l : Launch) (a0 : Nat) (a1 : Int32) (H : jH) : JMet l y_15_word prog_19_method_5_code mi_15_word jeL [.ref a0, .int a1] H (F_15_word a0 a1 H) := jmet_of n_15_word (by decide) ⟨rfl, rfl⟩ (Nat.le_of_ble_eq_true rfl) (v_15_word l a0 a1 H)
def mi_15_copy : jM := (6346737066515563831600644736015915384392896100272682087220451902430025590542837788062441051411476648310275, 44, 5, "CoinNodeModel$Signing", none, "copy", 0, 0)
def y_15_copy : MethodName := ⟨"CoinNodeModel$Signing", "copy", "([BII)V"⟩
theorem n_15_copy : jn_is prog_19_method_2_code mi_15_copy.1 mi_15_copy.2.1 := by unfold jn_is; decide +kernel
theorem k_15_copy : jmok y_15_copy prog_19_method_2_code mi_15_copy 3 := ⟨jw_2209, jw_16, ⟨by decide, by decide⟩, by decide +kernel⟩
theorem v_15_copy_3 (l : Launch) (k3 : Nat → Nat → Int32 → Int32 → Int32 → jH → Option (Unit × jH)) (hk3 : ∀ a0 a1 a2 a3 a4 H, JV l mi_15_copy jeV 3 [(0, .ref a0), (1, .ref a1), (2, .int a2), (3, .int a3), (4, .int a4)] [] H (k3 a0 a1 a2 a3 a4 H)) (a0 : Nat) (a1 : Nat) (a2 : Int32) (a3 : Int32) (a4 : Int32) (H : jH) : JV l mi_15_copy jeV 3 [(0, .ref a0), (1, .ref a1), (2, .int a2), (3, .int a3), (4, .int a4)] [] H (B_15_copy_3 k3 a0 a1 a2 a3 a4 H) := by
  unfold B_15_copy_3
  refine s_21 4 5 rfl rfl ?_
  refine s_29 6 rfl rfl ?_
  refine s_162 0 27 33 9 rfl rfl ?_ ?_
  · refine s_42 34 rfl rfl ?_
    refine s_89 35 rfl rfl ?_
    refine s_180I 0 27 38 27 f_15_8 jw_1361 rfl rfl ?_
    refine s_29 39 rfl rfl ?_
    refine s_96 40 rfl ?_
    refine s_181I 0 27 43 27 f_15_8 rfl rfl jw_1361 rfl rfl (fun h1 => ?_)
    exact s_177 rfl rfl
  · refine s_42 10 rfl rfl ?_
    refine s_180R 0 16 13 16 f_15_7 jw_1360 rfl rfl ?_
    refine s_42 14 rfl rfl ?_
    refine s_180I 0 27 17 27 f_15_8 jw_1361 rfl rfl ?_
    refine s_21 4 19 rfl rfl ?_
    refine s_96 20 rfl ?_
    refine s_43 21 rfl rfl ?_
    refine s_28 22 rfl rfl ?_
    refine s_21 4 24 rfl rfl ?_
    refine s_96 25 rfl ?_
    refine s_51B 26 rfl ?_
    refine s_84B 27 rfl (fun h2 => ?_)
    refine s_132L 4 1 30 1 ji_1 rfl rfl rfl (fun x3 => ?_)
    refine s_167 255 229 3 rfl rfl ?_
    exact s_jmp (hk3 _ _ _ _ _ _) ⟨rfl, rfl, rfl, rfl, rfl, trivial⟩
theorem w_15_copy_3 (l : Launch)  (n : Nat) : ∀ a0 a1 a2 a3 a4 H, JV l mi_15_copy jeV 3 [(0, .ref a0), (1, .ref a1), (2, .int a2), (3, .int a3), (4, .int a4)] [] H (F_15_copy_3  n a0 a1 a2 a3 a4 H) := by
  induction n with
  | zero => intro _ _ _ _ _ _; exact s_none
  | succ n ih => intro a0 a1 a2 a3 a4 H; exact v_15_copy_3 l (F_15_copy_3  n) ih a0 a1 a2 a3 a4 H
theorem v_15_copy (l : Launch) (a0 : Nat) (a1 : Nat) (a2 : Int32) (a3 : Int32) (H : jH) : JV l mi_15_copy jeV 0 [(0, .ref a0), (1, .ref a1), (2, .int a2), (3, .int a3)] [] H (F_15_copy a0 a1 a2 a3 H) := by
  unfold F_15_copy
  refine s_3 1 rfl ?_
  refine s_54 4 3 rfl rfl ?_
  exact s_jmp (w_15_copy_3 l jfuel _ _ _ _ _ _) ⟨rfl, rfl, rfl, rfl, rfl, trivial⟩
theorem m_15_copy (l : Launch) (a0 : Nat) (a1 : Nat) (a2 : Int32) (a3 : Int32) (H : jH) : JMet l y_15_copy prog_19_method_2_code mi_15_copy jeV [.ref a0, .ref a1, .int a2, .int a3] H (F_15_copy a0 a1 a2 a3 H) := jmet_of n_15_copy (by decide) ⟨rfl, rfl⟩ (Nat.le_of_ble_eq_true rfl) (v_15_copy l a0 a1 a2 a3 H)
def mi_15_fill : jM := (88078670281093330282976330627049516351062804035944215822396194971912350842766564546919939, 37, 4, "CoinNodeModel$Signing", none, "fill", 0, 0)
def y_15_fill : MethodName := ⟨"CoinNodeModel$Signing", "fill", "(II)V"⟩
theorem n_15_fill : jn_is prog_19_method_3_code mi_15_fill.1 mi_15_fill.2.1 := by unfold jn_is; decide +kernel
theorem k_15_fill : jmok y_15_fill prog_19_method_3_code mi_15_fill 2 := ⟨jw_2213, jw_16, ⟨by decide, by decide⟩, by decide +kernel⟩
theorem v_15_fill_2 (l : Launch) (k2 : Nat → Int32 → Int32 → Int32 → jH → Option (Unit × jH)) (hk2 : ∀ a0 a1 a2 a3 H, JV l mi_15_fill jeV 2 [(0, .ref a0), (1, .int a1), (2, .int a2), (3, .int a3)] [] H (k2 a0 a1 a2 a3 H)) (a0 : Nat) (a1 : Int32) (a2 : Int32) (a3 : Int32) (H : jH) : JV l mi_15_fill jeV 2 [(0, .ref a0), (1, .int a1), (2, .int a2), (3, .int a3)] [] H (B_15_fill_2 k2 a0 a1 a2 a3 H) := by
  unfold B_15_fill_2
  refine s_29 3 rfl rfl ?_
  refine s_28 4 rfl rfl ?_
  refine s_162 0 22 26 7 rfl rfl ?_ ?_
  · refine s_42 27 rfl rfl ?_
    refine s_89 28 rfl rfl ?_
    refine s_180I 0 27 31 27 f_15_8 jw_1361 rfl rfl ?_
    refine s_28 32 rfl rfl ?_
    refine s_96 33 rfl ?_
    refine s_181I 0 27 36 27 f_15_8 rfl rfl jw_1361 rfl rfl (fun h1 => ?_)
    exact s_177 rfl rfl
  · refine s_42 8 rfl rfl ?_
    refine s_180R 0 16 11 16 f_15_7 jw_1360 rfl rfl ?_
    refine s_42 12 rfl rfl ?_
    refine s_180I 0 27 15 27 f_15_8 jw_1361 rfl rfl ?_
    refine s_29 16 rfl rfl ?_
    refine s_96 17 rfl ?_
    refine s_27 18 rfl rfl ?_
    refine s_145 19 rfl ?_
    refine s_84B 20 rfl (fun h2 => ?_)
    refine s_132L 3 1 23 1 ji_1 rfl rfl rfl (fun x3 => ?_)
    refine s_167 255 235 2 rfl rfl ?_
    exact s_jmp (hk2 _ _ _ _ _) ⟨rfl, rfl, rfl, rfl, trivial⟩
theorem w_15_fill_2 (l : Launch)  (n : Nat) : ∀ a0 a1 a2 a3 H, JV l mi_15_fill jeV 2 [(0, .ref a0), (1, .int a1), (2, .int a2), (3, .int a3)] [] H (F_15_fill_2  n a0 a1 a2 a3 H) := by
  induction n with
  | zero => intro _ _ _ _ _; exact s_none
  | succ n ih => intro a0 a1 a2 a3 H; exact v_15_fill_2 l (F_15_fill_2  n) ih a0 a1 a2 a3 H
theorem v_15_fill (l : Launch) (a0 : Nat) (a1 : Int32) (a2 : Int32) (H : jH) : JV l mi_15_fill jeV 0 [(0, .ref a0), (1, .int a1), (2, .int a2)] [] H (F_15_fill a0 a1 a2 H) := by
  unfold F_15_fill
  refine s_3 1 rfl ?_
  refine s_62 2 rfl rfl ?_
  exact s_jmp (w_15_fill_2 l jfuel _ _ _ _ _) ⟨rfl, rfl, rfl, rfl, trivial⟩
theorem m_15_fill (l : Launch) (a0 : Nat) (a1 : Int32) (a2 : Int32) (H : jH) : JMet l y_15_fill prog_19_method_3_code mi_15_fill jeV [.ref a0, .int a1, .int a2] H (F_15_fill a0 a1 a2 H) := jmet_of n_15_fill (by decide) ⟨rfl, rfl⟩ (Nat.le_of_ble_eq_true rfl) (v_15_fill l a0 a1 a2 H)
def mi_15_write : jM := (8589296257187497688372480857600058517238364613577675323789877736926017186345454755298337833687546798277373797310413242369065221646608432859457631962343659468298566478401597414556848025583475334356690277980634694995565380376979118946073271137000662684644220595801414390021601498242671499878111327073281470357776846473836882586026262193540318106593336552710012661283003590549427359038072695016250519163393485633818167177698386770747515550010616521846948256230227586192779270756834407806303390397759255805246148192125631424839804035930362213489167643603334575067737840809705259822156292291790621631111425818785453277020438946612398166817734874792708222943449820521556454581820368529712472545748905786713630558719574355862614158836013792174565353984972978230073434088594239348442261317528207087940968473921911222614471033240137734236996296054845914438719764334943878527234110537419374745377347555692529170463423175658977207567303382987064319304621642619306240066136313101943084764541556204952580637223417943112566843950174235, 424, 7, "CoinNodeModel$Signing", none, "write", 1, 24)
def y_15_write : MethodName := ⟨"CoinNodeModel$Signing", "write", "(I)V"⟩
theorem n_15_write : jn_is prog_19_method_4_code mi_15_write.1 mi_15_write.2.1 := by unfold jn_is; decide +kernel
theorem k_15_write : jmok y_15_write prog_19_method_4_code mi_15_write 1 := ⟨jw_2205, jw_16, ⟨by decide, by decide⟩, by decide +kernel⟩
theorem v_15_write_213 (l : Launch) (k65 : Nat → Int32 → Int32 → Int32 → Int32 → jH → Option (Unit × jH)) (hk65 : ∀ a0 a1 a2 a3 a4 H, JV l mi_15_write jeV 65 [(0, .ref a0), (1, .int a1), (2, .int a2), (3, .int a3), (4, .int a4)] [] H (k65 a0 a1 a2 a3 a4 H)) (a0 : Nat) (a1 : Int32) (a2 : Int32) (a3 : Int32) (a4 : Int32) (H : jH) : JV l mi_15_write jeV 213 [(0, .ref a0), (1, .int a1), (2, .int a2), (3, .int a3), (4, .int a4)] [] H (B_15_write_213 k65 a0 a1 a2 a3 a4 H) := by
  unfold B_15_write_213
  refine s_132L 4 1 216 1 ji_1 rfl rfl rfl (fun x1 => ?_)
  refine s_167 255 105 65 rfl rfl ?_
  exact s_jmp (hk65 _ _ _ _ _ _) ⟨rfl, rfl, rfl, rfl, rfl, trivial⟩
theorem v_15_write_182 (l : Launch) (k65 : Nat → Int32 → Int32 → Int32 → Int32 → jH → Option (Unit × jH)) (hk65 : ∀ a0 a1 a2 a3 a4 H, JV l mi_15_write jeV 65 [(0, .ref a0), (1, .int a1), (2, .int a2), (3, .int a3), (4, .int a4)] [] H (k65 a0 a1 a2 a3 a4 H)) (a0 : Nat) (a1 : Int32) (a2 : Int32) (a3 : Int32) (a4 : Int32) (H : jH) : JV l mi_15_write jeV 182 [(0, .ref a0), (1, .int a1), (2, .int a2), (3, .int a3), (4, .int a4)] [] H (B_15_write_182 k65 a0 a1 a2 a3 a4 H) := by
  unfold B_15_write_182
  refine s_42 183 rfl rfl ?_
  refine s_3 184 rfl ?_
  refine s_7 185 rfl ?_
  refine s_182V 0 50 188 50 (m_15_fill l _ _ _ _) rfl k_15_fill jc_15 jw_2210 jw_2212 jps_122 rfl rfl rfl rfl rfl (fun x2 h3 => ?_)
  refine s_167 0 25 213 rfl rfl ?_
  exact s_jmp (v_15_write_213 l k65 hk65 _ _ _ _ _ _) ⟨rfl, rfl, rfl, rfl, rfl, trivial⟩
theorem v_15_write_191 (l : Launch) (k65 : Nat → Int32 → Int32 → Int32 → Int32 → jH → Option (Unit × jH)) (hk65 : ∀ a0 a1 a2 a3 a4 H, JV l mi_15_write jeV 65 [(0, .ref a0), (1, .int a1), (2, .int a2), (3, .int a3), (4, .int a4)] [] H (k65 a0 a1 a2 a3 a4 H)) (a0 : Nat) (a1 : Int32) (a2 : Int32) (a3 : Int32) (a4 : Int32) (H : jH) : JV l mi_15_write jeV 191 [(0, .ref a0), (1, .int a1), (2, .int a2), (3, .int a3), (4, .int a4)] [] H (B_15_write_191 k65 a0 a1 a2 a3 a4 H) := by
  unfold B_15_write_191
  refine s_42 192 rfl rfl ?_
  refine s_42 193 rfl rfl ?_
  refine s_180R 0 31 196 31 f_15_2 jw_1350 rfl rfl ?_
  refine s_180RN 0 35 199 35 f_17_0 jnf_6 rfl rfl ?_
  refine s_42 200 rfl rfl ?_
  refine s_180R 0 31 203 31 f_15_2 jw_1350 rfl rfl ?_
  refine s_180RN 0 70 206 70 f_17_11 jnf_20 rfl rfl ?_
  refine s_21 4 208 rfl rfl ?_
  refine s_46 209 rfl ?_
  refine s_7 210 rfl ?_
  refine s_182V 0 43 213 43 (m_15_copy l _ _ _ _ _) rfl k_15_copy jc_15 jw_2206 jw_2208 jps_121 rfl rfl rfl rfl rfl (fun x4 h5 => ?_)
  exact s_jmp (v_15_write_213 l k65 hk65 _ _ _ _ _ _) ⟨rfl, rfl, rfl, rfl, rfl, trivial⟩
theorem v_15_write_163 (l : Launch) (k65 : Nat → Int32 → Int32 → Int32 → Int32 → jH → Option (Unit × jH)) (hk65 : ∀ a0 a1 a2 a3 a4 H, JV l mi_15_write jeV 65 [(0, .ref a0), (1, .int a1), (2, .int a2), (3, .int a3), (4, .int a4)] [] H (k65 a0 a1 a2 a3 a4 H)) (a0 : Nat) (a1 : Int32) (a2 : Int32) (a3 : Int32) (a4 : Int32) (H : jH) : JV l mi_15_write jeV 163 [(0, .ref a0), (1, .int a1), (2, .int a2), (3, .int a3), (4, .int a4)] [] H (B_15_write_163 k65 a0 a1 a2 a3 a4 H) := by
  unfold B_15_write_163
  refine s_21 4 165 rfl rfl ?_
  refine s_42 166 rfl rfl ?_
  refine s_180I 0 54 169 54 f_15_3 jw_1352 rfl rfl ?_
  refine s_159 0 22 191 172 rfl rfl ?_ ?_
  · exact s_jmp (v_15_write_191 l k65 hk65 _ _ _ _ _ _) ⟨rfl, rfl, rfl, rfl, rfl, trivial⟩
  · refine s_28 173 rfl rfl ?_
    refine s_5 174 rfl ?_
    refine s_159 0 8 182 177 rfl rfl ?_ ?_
    · exact s_jmp (v_15_write_182 l k65 hk65 _ _ _ _ _ _) ⟨rfl, rfl, rfl, rfl, rfl, trivial⟩
    · refine s_28 178 rfl rfl ?_
      refine s_6 179 rfl ?_
      refine s_160 0 12 191 182 rfl rfl ?_ ?_
      · exact s_jmp (v_15_write_191 l k65 hk65 _ _ _ _ _ _) ⟨rfl, rfl, rfl, rfl, rfl, trivial⟩
      · exact s_jmp (v_15_write_182 l k65 hk65 _ _ _ _ _ _) ⟨rfl, rfl, rfl, rfl, rfl, trivial⟩
theorem v_15_write_134 (l : Launch) (k65 : Nat → Int32 → Int32 → Int32 → Int32 → jH → Option (Unit × jH)) (hk65 : ∀ a0 a1 a2 a3 a4 H, JV l mi_15_write jeV 65 [(0, .ref a0), (1, .int a1), (2, .int a2), (3, .int a3), (4, .int a4)] [] H (k65 a0 a1 a2 a3 a4 H)) (a0 : Nat) (a1 : Int32) (a2 : Int32) (a3 : Int32) (a4 : Int32) (s0 : Nat) (s1 : Int32) (H : jH) : JV l mi_15_write jeV 134 [(0, .ref a0), (1, .int a1), (2, .int a2), (3, .int a3), (4, .int a4)] [.int s1, .ref s0] H (B_15_write_134 k65 a0 a1 a2 a3 a4 s0 s1 H) := by
  unfold B_15_write_134
  refine s_4 135 rfl ?_
  refine s_182V 0 50 138 50 (m_15_fill l _ _ _ _) rfl k_15_fill jc_15 jw_2210 jw_2212 jps_122 rfl rfl rfl rfl rfl (fun x6 h7 => ?_)
  refine s_21 4 140 rfl rfl ?_
  refine s_42 141 rfl rfl ?_
  refine s_180I 0 54 144 54 f_15_3 jw_1352 rfl rfl ?_
  refine s_160 0 19 163 147 rfl rfl ?_ ?_
  · exact s_jmp (v_15_write_163 l k65 hk65 _ _ _ _ _ _) ⟨rfl, rfl, rfl, rfl, rfl, trivial⟩
  · refine s_42 148 rfl rfl ?_
    refine s_42 149 rfl rfl ?_
    refine s_180R 0 64 152 64 f_15_4 jw_1354 rfl rfl ?_
    refine s_42 153 rfl rfl ?_
    refine s_180I 0 67 156 67 f_15_5 jw_1356 rfl rfl ?_
    refine s_42 157 rfl rfl ?_
    refine s_180I 0 61 160 61 f_15_6 jw_1358 rfl rfl ?_
    refine s_182V 0 43 163 43 (m_15_copy l _ _ _ _ _) rfl k_15_copy jc_15 jw_2206 jw_2208 jps_121 rfl rfl rfl rfl rfl (fun x8 h9 => ?_)
    exact s_jmp (v_15_write_163 l k65 hk65 _ _ _ _ _ _) ⟨rfl, rfl, rfl, rfl, rfl, trivial⟩
theorem v_15_write_93 (l : Launch) (k65 : Nat → Int32 → Int32 → Int32 → Int32 → jH → Option (Unit × jH)) (hk65 : ∀ a0 a1 a2 a3 a4 H, JV l mi_15_write jeV 65 [(0, .ref a0), (1, .int a1), (2, .int a2), (3, .int a3), (4, .int a4)] [] H (k65 a0 a1 a2 a3 a4 H)) (a0 : Nat) (a1 : Int32) (a2 : Int32) (a3 : Int32) (a4 : Int32) (H : jH) : JV l mi_15_write jeV 93 [(0, .ref a0), (1, .int a1), (2, .int a2), (3, .int a3), (4, .int a4)] [] H (B_15_write_93 k65 a0 a1 a2 a3 a4 H) := by
  unfold B_15_write_93
  refine s_42 94 rfl rfl ?_
  refine s_42 95 rfl rfl ?_
  refine s_180R 0 31 98 31 f_15_2 jw_1350 rfl rfl ?_
  refine s_180RN 0 35 101 35 f_17_0 jnf_6 rfl rfl ?_
  refine s_42 102 rfl rfl ?_
  refine s_180R 0 31 105 31 f_15_2 jw_1350 rfl rfl ?_
  refine s_180RN 0 57 108 57 f_17_7 jnf_15 rfl rfl ?_
  refine s_21 4 110 rfl rfl ?_
  refine s_46 111 rfl ?_
  refine s_16 36 113 36 jbp_36 rfl ?_
  refine s_182V 0 43 116 43 (m_15_copy l _ _ _ _ _) rfl k_15_copy jc_15 jw_2206 jw_2208 jps_121 rfl rfl rfl rfl rfl (fun x10 h11 => ?_)
  refine s_42 117 rfl rfl ?_
  refine s_21 4 119 rfl rfl ?_
  refine s_42 120 rfl rfl ?_
  refine s_180I 0 54 123 54 f_15_3 jw_1352 rfl rfl ?_
  refine s_160 0 10 133 126 rfl rfl ?_ ?_
  · refine s_3 134 rfl ?_
    exact s_jmp (v_15_write_134 l k65 hk65 _ _ _ _ _ _ _ _) ⟨rfl, rfl, rfl, rfl, rfl, trivial⟩
  · refine s_42 127 rfl rfl ?_
    refine s_180I 0 61 130 61 f_15_6 jw_1358 rfl rfl ?_
    refine s_167 0 4 134 rfl rfl ?_
    exact s_jmp (v_15_write_134 l k65 hk65 _ _ _ _ _ _ _ _) ⟨rfl, rfl, rfl, rfl, rfl, trivial⟩
theorem v_15_write_384 (l : Launch) (k261 : Nat → Int32 → Int32 → Int32 → Int32 → jH → Option (Unit × jH)) (hk261 : ∀ a0 a1 a2 a4 a5 H, JV l mi_15_write jeV 261 [(0, .ref a0), (1, .int a1), (2, .int a2), (4, .int a4), (5, .int a5)] [] H (k261 a0 a1 a2 a4 a5 H)) (a0 : Nat) (a1 : Int32) (a2 : Int32) (a4 : Int32) (a5 : Int32) (H : jH) : JV l mi_15_write jeV 384 [(0, .ref a0), (1, .int a1), (2, .int a2), (4, .int a4), (5, .int a5)] [] H (B_15_write_384 k261 a0 a1 a2 a4 a5 H) := by
  unfold B_15_write_384
  refine s_132L 5 1 387 1 ji_1 rfl rfl rfl (fun x12 => ?_)
  refine s_167 255 130 261 rfl rfl ?_
  exact s_jmp (hk261 _ _ _ _ _ _) ⟨rfl, rfl, rfl, rfl, rfl, trivial⟩
theorem v_15_write_303 (l : Launch) (k261 : Nat → Int32 → Int32 → Int32 → Int32 → jH → Option (Unit × jH)) (hk261 : ∀ a0 a1 a2 a4 a5 H, JV l mi_15_write jeV 261 [(0, .ref a0), (1, .int a1), (2, .int a2), (4, .int a4), (5, .int a5)] [] H (k261 a0 a1 a2 a4 a5 H)) (k303 : Nat → Int32 → Int32 → Int32 → Int32 → Int32 → jH → Option (Unit × jH)) (hk303 : ∀ a0 a1 a2 a4 a5 a6 H, JV l mi_15_write jeV 303 [(0, .ref a0), (1, .int a1), (2, .int a2), (4, .int a4), (5, .int a5), (6, .int a6)] [] H (k303 a0 a1 a2 a4 a5 a6 H)) (a0 : Nat) (a1 : Int32) (a2 : Int32) (a4 : Int32) (a5 : Int32) (a6 : Int32) (H : jH) : JV l mi_15_write jeV 303 [(0, .ref a0), (1, .int a1), (2, .int a2), (4, .int a4), (5, .int a5), (6, .int a6)] [] H (B_15_write_303 k261 k303 a0 a1 a2 a4 a5 a6 H) := by
  unfold B_15_write_303
  refine s_21 6 305 rfl rfl ?_
  refine s_16 8 307 8 jbp_8 rfl ?_
  refine s_162 0 31 338 310 rfl rfl ?_ ?_
  · refine s_42 339 rfl rfl ?_
    refine s_42 340 rfl rfl ?_
    refine s_180R 0 31 343 31 f_15_2 jw_1350 rfl rfl ?_
    refine s_180RN 0 80 346 80 f_17_14 jnf_25 rfl rfl ?_
    refine s_21 5 348 rfl rfl ?_
    refine s_46 349 rfl ?_
    refine s_4 350 rfl ?_
    refine s_182V 0 50 353 50 (m_15_fill l _ _ _ _) rfl k_15_fill jc_15 jw_2210 jw_2212 jps_122 rfl rfl rfl rfl rfl (fun x13 h14 => ?_)
    refine s_42 354 rfl rfl ?_
    refine s_42 355 rfl rfl ?_
    refine s_180R 0 31 358 31 f_15_2 jw_1350 rfl rfl ?_
    refine s_180RN 0 35 361 35 f_17_0 jnf_6 rfl rfl ?_
    refine s_42 362 rfl rfl ?_
    refine s_180R 0 31 365 31 f_15_2 jw_1350 rfl rfl ?_
    refine s_180RN 0 83 368 83 f_17_13 jnf_23 rfl rfl ?_
    refine s_21 5 370 rfl rfl ?_
    refine s_46 371 rfl ?_
    refine s_42 372 rfl rfl ?_
    refine s_180R 0 31 375 31 f_15_2 jw_1350 rfl rfl ?_
    refine s_180RN 0 80 378 80 f_17_14 jnf_25 rfl rfl ?_
    refine s_21 5 380 rfl rfl ?_
    refine s_46 381 rfl ?_
    refine s_182V 0 43 384 43 (m_15_copy l _ _ _ _ _) rfl k_15_copy jc_15 jw_2206 jw_2208 jps_121 rfl rfl rfl rfl rfl (fun x15 h16 => ?_)
    exact s_jmp (v_15_write_384 l k261 hk261 _ _ _ _ _ _) ⟨rfl, rfl, rfl, rfl, rfl, trivial⟩
  · refine s_42 311 rfl rfl ?_
    refine s_42 312 rfl rfl ?_
    refine s_180R 0 31 315 31 f_15_2 jw_1350 rfl rfl ?_
    refine s_180RN 0 76 318 76 f_17_12 jnf_21 rfl rfl ?_
    refine s_21 5 320 rfl rfl ?_
    refine s_47 321 rfl ?_
    refine s_16 8 323 8 jbp_8 rfl ?_
    refine s_21 6 325 rfl rfl ?_
    refine s_104 326 rfl ?_
    refine s_123 327 rfl ?_
    refine s_136 328 rfl ?_
    refine s_4 329 rfl ?_
    refine s_182V 0 50 332 50 (m_15_fill l _ _ _ _) rfl k_15_fill jc_15 jw_2210 jw_2212 jps_122 rfl rfl rfl rfl rfl (fun x17 h18 => ?_)
    refine s_132L 6 1 335 1 ji_1 rfl rfl rfl (fun x19 => ?_)
    refine s_167 255 224 303 rfl rfl ?_
    exact s_jmp (hk303 _ _ _ _ _ _ _) ⟨rfl, rfl, rfl, rfl, rfl, rfl, trivial⟩
theorem w_15_write_303 (l : Launch) (k261 : Nat → Int32 → Int32 → Int32 → Int32 → jH → Option (Unit × jH)) (hk261 : ∀ a0 a1 a2 a4 a5 H, JV l mi_15_write jeV 261 [(0, .ref a0), (1, .int a1), (2, .int a2), (4, .int a4), (5, .int a5)] [] H (k261 a0 a1 a2 a4 a5 H)) (n : Nat) : ∀ a0 a1 a2 a4 a5 a6 H, JV l mi_15_write jeV 303 [(0, .ref a0), (1, .int a1), (2, .int a2), (4, .int a4), (5, .int a5), (6, .int a6)] [] H (F_15_write_303 k261 n a0 a1 a2 a4 a5 a6 H) := by
  induction n with
  | zero => intro _ _ _ _ _ _ _; exact s_none
  | succ n ih => intro a0 a1 a2 a4 a5 a6 H; exact v_15_write_303 l k261 hk261 (F_15_write_303 k261 n) ih a0 a1 a2 a4 a5 a6 H
theorem v_15_write_300 (l : Launch) (k261 : Nat → Int32 → Int32 → Int32 → Int32 → jH → Option (Unit × jH)) (hk261 : ∀ a0 a1 a2 a4 a5 H, JV l mi_15_write jeV 261 [(0, .ref a0), (1, .int a1), (2, .int a2), (4, .int a4), (5, .int a5)] [] H (k261 a0 a1 a2 a4 a5 H)) (a0 : Nat) (a1 : Int32) (a2 : Int32) (a4 : Int32) (a5 : Int32) (H : jH) : JV l mi_15_write jeV 300 [(0, .ref a0), (1, .int a1), (2, .int a2), (4, .int a4), (5, .int a5)] [] H (B_15_write_300 k261 a0 a1 a2 a4 a5 H) := by
  unfold B_15_write_300
  refine s_3 301 rfl ?_
  refine s_54 6 303 rfl rfl ?_
  exact s_jmp (w_15_write_303 l k261 hk261 jfuel _ _ _ _ _ _ _) ⟨rfl, rfl, rfl, rfl, rfl, rfl, trivial⟩
theorem v_15_write_261 (l : Launch) (k261 : Nat → Int32 → Int32 → Int32 → Int32 → jH → Option (Unit × jH)) (hk261 : ∀ a0 a1 a2 a4 a5 H, JV l mi_15_write jeV 261 [(0, .ref a0), (1, .int a1), (2, .int a2), (4, .int a4), (5, .int a5)] [] H (k261 a0 a1 a2 a4 a5 H)) (a0 : Nat) (a1 : Int32) (a2 : Int32) (a4 : Int32) (a5 : Int32) (H : jH) : JV l mi_15_write jeV 261 [(0, .ref a0), (1, .int a1), (2, .int a2), (4, .int a4), (5, .int a5)] [] H (B_15_write_261 k261 a0 a1 a2 a4 a5 H) := by
  unfold B_15_write_261
  refine s_21 5 263 rfl rfl ?_
  refine s_21 4 265 rfl rfl ?_
  refine s_162 0 125 390 268 rfl rfl ?_ ?_
  · refine s_42 391 rfl rfl ?_
    refine s_42 392 rfl rfl ?_
    refine s_180R 0 31 395 31 f_15_2 jw_1350 rfl rfl ?_
    refine s_180RN 0 35 398 35 f_17_0 jnf_6 rfl rfl ?_
    refine s_42 399 rfl rfl ?_
    refine s_180R 0 31 402 31 f_15_2 jw_1350 rfl rfl ?_
    refine s_180IN 0 86 405 86 f_17_3 jnf_10 rfl rfl ?_
    refine s_7 406 rfl ?_
    refine s_100 407 rfl ?_
    refine s_7 408 rfl ?_
    refine s_182V 0 43 411 43 (m_15_copy l _ _ _ _ _) rfl k_15_copy jc_15 jw_2206 jw_2208 jps_121 rfl rfl rfl rfl rfl (fun x20 h21 => ?_)
    refine s_42 412 rfl rfl ?_
    refine s_27 413 rfl rfl ?_
    refine s_4 414 rfl ?_
    refine s_182V 0 50 417 50 (m_15_fill l _ _ _ _) rfl k_15_fill jc_15 jw_2210 jw_2212 jps_122 rfl rfl rfl rfl rfl (fun x22 h23 => ?_)
    refine s_42 418 rfl rfl ?_
    refine s_3 419 rfl ?_
    refine s_6 420 rfl ?_
    refine s_182V 0 50 423 50 (m_15_fill l _ _ _ _) rfl k_15_fill jc_15 jw_2210 jw_2212 jps_122 rfl rfl rfl rfl rfl (fun x24 h25 => ?_)
    exact s_177 rfl rfl
  · refine s_28 269 rfl rfl ?_
    refine s_6 270 rfl ?_
    refine s_160 0 30 300 273 rfl rfl ?_ ?_
    · exact s_jmp (v_15_write_300 l k261 hk261 _ _ _ _ _ _) ⟨rfl, rfl, rfl, rfl, rfl, trivial⟩
    · refine s_21 5 275 rfl rfl ?_
      refine s_42 276 rfl rfl ?_
      refine s_180I 0 54 279 54 f_15_3 jw_1352 rfl rfl ?_
      refine s_162 0 21 300 282 rfl rfl ?_ ?_
      · exact s_jmp (v_15_write_300 l k261 hk261 _ _ _ _ _ _) ⟨rfl, rfl, rfl, rfl, rfl, trivial⟩
      · refine s_42 283 rfl rfl ?_
        refine s_17 0 255 286 255 jsp_0_255 rfl ?_
        refine s_16 8 288 8 jbp_8 rfl ?_
        refine s_182V 0 50 291 50 (m_15_fill l _ _ _ _) rfl k_15_fill jc_15 jw_2210 jw_2212 jps_122 rfl rfl rfl rfl rfl (fun x26 h27 => ?_)
        refine s_42 292 rfl rfl ?_
        refine s_3 293 rfl ?_
        refine s_4 294 rfl ?_
        refine s_182V 0 50 297 50 (m_15_fill l _ _ _ _) rfl k_15_fill jc_15 jw_2210 jw_2212 jps_122 rfl rfl rfl rfl rfl (fun x28 h29 => ?_)
        refine s_167 0 87 384 rfl rfl ?_
        exact s_jmp (v_15_write_384 l k261 hk261 _ _ _ _ _ _) ⟨rfl, rfl, rfl, rfl, rfl, trivial⟩
theorem w_15_write_261 (l : Launch)  (n : Nat) : ∀ a0 a1 a2 a4 a5 H, JV l mi_15_write jeV 261 [(0, .ref a0), (1, .int a1), (2, .int a2), (4, .int a4), (5, .int a5)] [] H (F_15_write_261  n a0 a1 a2 a4 a5 H) := by
  induction n with
  | zero => intro _ _ _ _ _ _; exact s_none
  | succ n ih => intro a0 a1 a2 a4 a5 H; exact v_15_write_261 l (F_15_write_261  n) ih a0 a1 a2 a4 a5 H
theorem v_15_write_249 (l : Launch)  (a0 : Nat) (a1 : Int32) (a2 : Int32) (s0 : Int32) (H : jH) : JV l mi_15_write jeV 249 [(0, .ref a0), (1, .int a1), (2, .int a2)] [.int s0] H (B_15_write_249  a0 a1 a2 s0 H) := by
  unfold B_15_write_249
  refine s_54 4 251 rfl rfl ?_
  refine s_42 252 rfl rfl ?_
  refine s_21 4 254 rfl rfl ?_
  refine s_4 255 rfl ?_
  refine s_182V 0 50 258 50 (m_15_fill l _ _ _ _) rfl k_15_fill jc_15 jw_2210 jw_2212 jps_122 rfl rfl rfl rfl rfl (fun x30 h31 => ?_)
  refine s_3 259 rfl ?_
  refine s_54 5 261 rfl rfl ?_
  exact s_jmp (w_15_write_261 l jfuel _ _ _ _ _ _) ⟨rfl, rfl, rfl, rfl, rfl, trivial⟩
theorem v_15_write_65 (l : Launch) (k65 : Nat → Int32 → Int32 → Int32 → Int32 → jH → Option (Unit × jH)) (hk65 : ∀ a0 a1 a2 a3 a4 H, JV l mi_15_write jeV 65 [(0, .ref a0), (1, .int a1), (2, .int a2), (3, .int a3), (4, .int a4)] [] H (k65 a0 a1 a2 a3 a4 H)) (a0 : Nat) (a1 : Int32) (a2 : Int32) (a3 : Int32) (a4 : Int32) (H : jH) : JV l mi_15_write jeV 65 [(0, .ref a0), (1, .int a1), (2, .int a2), (3, .int a3), (4, .int a4)] [] H (B_15_write_65 k65 a0 a1 a2 a3 a4 H) := by
  unfold B_15_write_65
  refine s_21 4 67 rfl rfl ?_
  refine s_42 68 rfl rfl ?_
  refine s_180R 0 31 71 31 f_15_2 jw_1350 rfl rfl ?_
  refine s_180IN 0 47 74 47 f_17_4 jnf_11 rfl rfl ?_
  refine s_162 0 145 219 77 rfl rfl ?_ ?_
  · refine s_28 220 rfl rfl ?_
    refine s_5 221 rfl ?_
    refine s_160 0 7 228 224 rfl rfl ?_ ?_
    · refine s_28 229 rfl rfl ?_
      refine s_6 230 rfl ?_
      refine s_160 0 12 242 233 rfl rfl ?_ ?_
      · refine s_42 243 rfl rfl ?_
        refine s_180R 0 31 246 31 f_15_2 jw_1350 rfl rfl ?_
        refine s_180IN 0 73 249 73 f_17_5 jnf_13 rfl rfl ?_
        exact s_jmp (v_15_write_249 l _ _ _ _ _) ⟨rfl, rfl, rfl, trivial⟩
      · refine s_42 234 rfl rfl ?_
        refine s_180I 0 54 237 54 f_15_3 jw_1352 rfl rfl ?_
        refine s_4 238 rfl ?_
        refine s_96 239 rfl ?_
        refine s_167 0 10 249 rfl rfl ?_
        exact s_jmp (v_15_write_249 l _ _ _ _ _) ⟨rfl, rfl, rfl, trivial⟩
    · refine s_3 225 rfl ?_
      refine s_167 0 24 249 rfl rfl ?_
      exact s_jmp (v_15_write_249 l _ _ _ _ _) ⟨rfl, rfl, rfl, trivial⟩
  · refine s_29 78 rfl rfl ?_
    refine s_153 0 15 93 81 rfl rfl ?_ ?_
    · exact s_jmp (v_15_write_93 l k65 hk65 _ _ _ _ _ _) ⟨rfl, rfl, rfl, rfl, rfl, trivial⟩
    · refine s_21 4 83 rfl rfl ?_
      refine s_42 84 rfl rfl ?_
      refine s_180I 0 54 87 54 f_15_3 jw_1352 rfl rfl ?_
      refine s_159 0 6 93 90 rfl rfl ?_ ?_
      · exact s_jmp (v_15_write_93 l k65 hk65 _ _ _ _ _ _) ⟨rfl, rfl, rfl, rfl, rfl, trivial⟩
      · refine s_167 0 123 213 rfl rfl ?_
        exact s_jmp (v_15_write_213 l k65 hk65 _ _ _ _ _ _) ⟨rfl, rfl, rfl, rfl, rfl, trivial⟩
theorem w_15_write_65 (l : Launch)  (n : Nat) : ∀ a0 a1 a2 a3 a4 H, JV l mi_15_write jeV 65 [(0, .ref a0), (1, .int a1), (2, .int a2), (3, .int a3), (4, .int a4)] [] H (F_15_write_65  n a0 a1 a2 a3 a4 H) := by
  induction n with
  | zero => intro _ _ _ _ _ _; exact s_none
  | succ n ih => intro a0 a1 a2 a3 a4 H; exact v_15_write_65 l (F_15_write_65  n) ih a0 a1 a2 a3 a4 H
theorem v_15_write_58 (l : Launch)  (a0 : Nat) (a1 : Int32) (a2 : Int32) (a3 : Int32) (s0 : Nat) (s1 : Int32) (H : jH) : JV l mi_15_write jeV 58 [(0, .ref a0), (1, .int a1), (2, .int a2), (3, .int a3)] [.int s1, .ref s0] H (B_15_write_58  a0 a1 a2 a3 s0 s1 H) := by
  unfold B_15_write_58
  refine s_4 59 rfl ?_
  refine s_182V 0 50 62 50 (m_15_fill l _ _ _ _) rfl k_15_fill jc_15 jw_2210 jw_2212 jps_122 rfl rfl rfl rfl rfl (fun x32 h33 => ?_)
  refine s_3 63 rfl ?_
  refine s_54 4 65 rfl rfl ?_
  exact s_jmp (w_15_write_65 l jfuel _ _ _ _ _ _) ⟨rfl, rfl, rfl, rfl, rfl, trivial⟩
theorem v_15_write_17 (l : Launch)  (a0 : Nat) (a1 : Int32) (a2 : Int32) (s0 : Int32) (H : jH) : JV l mi_15_write jeV 17 [(0, .ref a0), (1, .int a1), (2, .int a2)] [.int s0] H (B_15_write_17  a0 a1 a2 s0 H) := by
  unfold B_15_write_17
  refine s_62 18 rfl rfl ?_
  refine s_42 19 rfl rfl ?_
  refine s_3 20 rfl ?_
  refine s_181I 0 27 23 27 f_15_8 rfl rfl jw_1361 rfl rfl (fun h34 => ?_)
  refine s_42 24 rfl rfl ?_
  refine s_42 25 rfl rfl ?_
  refine s_180R 0 31 28 31 f_15_2 jw_1350 rfl rfl ?_
  refine s_180RN 0 35 31 35 f_17_0 jnf_6 rfl rfl ?_
  refine s_42 32 rfl rfl ?_
  refine s_180R 0 31 35 31 f_15_2 jw_1350 rfl rfl ?_
  refine s_180IN 0 40 38 40 f_17_1 jnf_8 rfl rfl ?_
  refine s_7 39 rfl ?_
  refine s_182V 0 43 42 43 (m_15_copy l _ _ _ _ _) rfl k_15_copy jc_15 jw_2206 jw_2208 jps_121 rfl rfl rfl rfl rfl (fun x35 h36 => ?_)
  refine s_42 43 rfl rfl ?_
  refine s_29 44 rfl rfl ?_
  refine s_153 0 7 51 47 rfl rfl ?_ ?_
  · refine s_42 52 rfl rfl ?_
    refine s_180R 0 31 55 31 f_15_2 jw_1350 rfl rfl ?_
    refine s_180IN 0 47 58 47 f_17_4 jnf_11 rfl rfl ?_
    exact s_jmp (v_15_write_58 l _ _ _ _ _ _ _) ⟨rfl, rfl, rfl, rfl, trivial⟩
  · refine s_4 48 rfl ?_
    refine s_167 0 10 58 rfl rfl ?_
    exact s_jmp (v_15_write_58 l _ _ _ _ _ _ _) ⟨rfl, rfl, rfl, rfl, trivial⟩
theorem v_15_write (l : Launch) (a0 : Nat) (a1 : Int32) (H : jH) : JV l mi_15_write jeV 0 [(0, .ref a0), (1, .int a1)] [] H (F_15_write a0 a1 H) := by
  unfold F_15_write
  refine s_27 1 rfl rfl ?_
  refine s_16 31 3 31 jbp_31 rfl ?_
  refine s_126 4 rfl ?_
  refine s_61L 5 rfl rfl (fun x37 => ?_)
  refine s_27 6 rfl rfl ?_
  refine s_17 0 128 9 128 jsp_0_128 rfl ?_
  refine s_161 0 7 16 12 rfl rfl ?_ ?_
  · refine s_3 17 rfl ?_
    exact s_jmp (v_15_write_17 l _ _ _ _ _) ⟨rfl, rfl, rfl, trivial⟩
  · refine s_4 13 rfl ?_
    refine s_167 0 4 17 rfl rfl ?_
    exact s_jmp (v_15_write_17 l _ _ _ _ _) ⟨rfl, rfl, rfl, trivial⟩
theorem m_15_write (l : Launch) (a0 : Nat) (a1 : Int32) (H : jH) : JMet l y_15_write prog_19_method_4_code mi_15_write jeV [.ref a0, .int a1] H (F_15_write a0 a1 H) := jmet_of n_15_write (by decide) ⟨rfl, rfl⟩ (Nat.le_of_ble_eq_true rfl) (v_15_write l a0 a1 H)
def mi_15_fits : jM := (1070606300903839440493001650192867811115203507129460834274453300609902042003174217032412706337585031850433082203895439102425807848181212229780420841258857183974627037002749541643792500901512729090162292252035582674114497067673515210464603866334465585074082946594637925212575760511955040603165858341193797138963027738259694781370596902871876453433923076034339686837336056187533568231630091187930325706971586198519663467748005362173271054716637542242453955139870689343277902005497456359938620007404986051396018045309843215962965703938618327973511507375136328656891875109423555810361934876, 243, 6, "CoinNodeModel$Signing", some FieldType.boolean, "fits", 7, 168)
def y_15_fits : MethodName := ⟨"CoinNodeModel$Signing", "fits", "([BI[BI)Z"⟩
theorem n_15_fits : jn_is prog_19_method_6_code mi_15_fits.1 mi_15_fits.2.1 := by unfold jn_is; decide +kernel
theorem k_15_fits : jmok y_15_fits prog_19_method_6_code mi_15_fits 4 := ⟨jw_2107, jw_16, ⟨by decide, by decide⟩, by decide +kernel⟩
theorem v_15_fits_24 (l : Launch)   (H : jH) : JV l mi_15_fits jeI 24 [] [] H (B_15_fits_24   H) := by
  unfold B_15_fits_24
  refine s_3 25 rfl ?_
  exact s_172Z rfl rfl
theorem v_15_fits_242 (l : Launch)  (s0 : Int32) (H : jH) : JV l mi_15_fits jeI 242 [] [.int s0] H (B_15_fits_242  s0 H) := by
  unfold B_15_fits_242
  exact s_172Z rfl rfl
theorem v_15_fits_222 (l : Launch)  (a0 : Nat) (H : jH) : JV l mi_15_fits jeI 222 [(0, .ref a0)] [] H (B_15_fits_222  a0 H) := by
  unfold B_15_fits_222
  refine s_42 223 rfl rfl ?_
  refine s_180R 0 10 226 10 f_15_1 jw_1349 rfl rfl ?_
  refine s_3 227 rfl ?_
  refine s_3 228 rfl ?_
  refine s_4 229 rfl ?_
  refine s_5 230 rfl ?_
  refine s_182I 0 119 233 119 (m_13_fits l _ _ _ _ _ _) rfl k_13_fits jc_13 jw_2219 jw_2220 jw_2221 rfl rfl rfl rfl rfl (fun x1 h2 => ?_)
  refine s_4 234 rfl ?_
  refine s_160 0 7 241 237 rfl rfl ?_ ?_
  · refine s_3 242 rfl ?_
    exact s_jmp (v_15_fits_242 l _ _) trivial
  · refine s_4 238 rfl ?_
    refine s_167 0 4 242 rfl rfl ?_
    exact s_jmp (v_15_fits_242 l _ _) trivial
theorem v_15_fits_166 (l : Launch)  (a0 : Nat) (a5 : Int32) (H : jH) : JV l mi_15_fits jeI 166 [(0, .ref a0), (5, .int a5)] [] H (B_15_fits_166  a0 a5 H) := by
  unfold B_15_fits_166
  refine s_42 167 rfl rfl ?_
  refine s_21 5 169 rfl rfl ?_
  refine s_182V 0 105 172 105 (m_15_write l _ _ _) rfl k_15_write jc_15 jw_2202 jw_2204 jps_120 rfl rfl rfl rfl rfl (fun x3 h4 => ?_)
  refine s_42 173 rfl rfl ?_
  refine s_180R 0 23 176 23 f_15_0 jw_1348 rfl rfl ?_
  refine s_42 177 rfl rfl ?_
  refine s_180R 0 16 180 16 f_15_7 jw_1360 rfl rfl ?_
  refine s_3 181 rfl ?_
  refine s_42 182 rfl rfl ?_
  refine s_180I 0 27 185 27 f_15_8 jw_1361 rfl rfl ?_
  refine s_42 186 rfl rfl ?_
  refine s_180R 0 20 189 20 f_15_9 jw_1362 rfl rfl ?_
  refine s_3 190 rfl ?_
  refine s_182V 0 109 193 109 (m_12_name l _ _ _ _ _ _ _) rfl k_12_name jc_12 jw_2214 jw_1587 jw_1588 rfl rfl rfl rfl rfl (fun x5 h6 => ?_)
  refine s_42 194 rfl rfl ?_
  refine s_180R 0 10 197 10 f_15_1 jw_1349 rfl rfl ?_
  refine s_5 198 rfl ?_
  refine s_42 199 rfl rfl ?_
  refine s_3 200 rfl ?_
  refine s_182L 0 115 203 115 (m_15_word l _ _ _) rfl k_15_word jc_15 jw_2215 jw_2217 jps_123 rfl rfl rfl rfl rfl (fun x7 h8 => ?_)
  refine s_42 204 rfl rfl ?_
  refine s_4 205 rfl ?_
  refine s_182L 0 115 208 115 (m_15_word l _ _ _) rfl k_15_word jc_15 jw_2215 jw_2217 jps_123 rfl rfl rfl rfl rfl (fun x9 h10 => ?_)
  refine s_42 209 rfl rfl ?_
  refine s_5 210 rfl ?_
  refine s_182L 0 115 213 115 (m_15_word l _ _ _) rfl k_15_word jc_15 jw_2215 jw_2217 jps_123 rfl rfl rfl rfl rfl (fun x11 h12 => ?_)
  refine s_42 214 rfl rfl ?_
  refine s_6 215 rfl ?_
  refine s_182L 0 115 218 115 (m_15_word l _ _ _) rfl k_15_word jc_15 jw_2215 jw_2217 jps_123 rfl rfl rfl rfl rfl (fun x13 h14 => ?_)
  refine s_182I 0 101 221 101 (m_13_set l _ _ _ _ _ _ _) rfl k_13_set jc_13 jw_2198 jw_2199 jw_2200 rfl rfl rfl rfl rfl (fun x15 h16 => ?_)
  refine s_87 222 rfl rfl ?_
  exact s_jmp (v_15_fits_222 l _ _) ⟨rfl, trivial⟩
theorem v_15_fits_73 (l : Launch) (k73 : Nat → Nat → Int32 → Int32 → jH → Option (Int32 × jH)) (hk73 : ∀ a0 a1 a2 a5 H, JV l mi_15_fits jeI 73 [(0, .ref a0), (1, .ref a1), (2, .int a2), (5, .int a5)] [] H (k73 a0 a1 a2 a5 H)) (a0 : Nat) (a1 : Nat) (a2 : Int32) (a5 : Int32) (H : jH) : JV l mi_15_fits jeI 73 [(0, .ref a0), (1, .ref a1), (2, .int a2), (5, .int a5)] [] H (B_15_fits_73 k73 a0 a1 a2 a5 H) := by
  unfold B_15_fits_73
  refine s_21 5 75 rfl rfl ?_
  refine s_28 76 rfl rfl ?_
  refine s_4 77 rfl ?_
  refine s_100 78 rfl ?_
  refine s_162 0 23 101 81 rfl rfl ?_ ?_
  · refine s_42 102 rfl rfl ?_
    refine s_180R 0 10 105 10 f_15_1 jw_1349 rfl rfl ?_
    refine s_3 106 rfl ?_
    refine s_4 107 rfl ?_
    refine s_182I 0 97 110 97 (m_13_signature l _ _ _ _) rfl k_13_signature jc_13 jw_2187 jw_2188 jw_2189 rfl rfl rfl rfl rfl (fun x17 h18 => ?_)
    refine s_4 111 rfl ?_
    refine s_159 0 5 116 114 rfl rfl ?_ ?_
    · refine s_43 117 rfl rfl ?_
      refine s_28 118 rfl rfl ?_
      refine s_4 119 rfl ?_
      refine s_100 120 rfl ?_
      refine s_51B 121 rfl ?_
      refine s_17 0 255 124 255 jsp_0_255 rfl ?_
      refine s_126 125 rfl ?_
      refine s_54L 5 127 rfl rfl (fun x19 => ?_)
      refine s_21 5 129 rfl rfl ?_
      refine s_16 31 131 31 jbp_31 rfl ?_
      refine s_126 132 rfl ?_
      refine s_6 133 rfl ?_
      refine s_160 0 33 166 136 rfl rfl ?_ ?_
      · exact s_jmp (v_15_fits_166 l _ _ _) ⟨rfl, rfl, trivial⟩
      · refine s_42 137 rfl rfl ?_
        refine s_180I 0 54 140 54 f_15_3 jw_1352 rfl rfl ?_
        refine s_42 141 rfl rfl ?_
        refine s_180R 0 31 144 31 f_15_2 jw_1350 rfl rfl ?_
        refine s_180IN 0 73 147 73 f_17_5 jnf_13 rfl rfl ?_
        refine s_161 0 19 166 150 rfl rfl ?_ ?_
        · exact s_jmp (v_15_fits_166 l _ _ _) ⟨rfl, rfl, trivial⟩
        · refine s_42 151 rfl rfl ?_
          refine s_180R 0 10 154 10 f_15_1 jw_1349 rfl rfl ?_
          refine s_5 155 rfl ?_
          refine s_9 156 rfl ?_
          refine s_9 157 rfl ?_
          refine s_9 158 rfl ?_
          refine s_10 159 rfl ?_
          refine s_182I 0 101 162 101 (m_13_set l _ _ _ _ _ _ _) rfl k_13_set jc_13 jw_2198 jw_2199 jw_2200 rfl rfl rfl rfl rfl (fun x20 h21 => ?_)
          refine s_87 163 rfl rfl ?_
          refine s_167 0 59 222 rfl rfl ?_
          exact s_jmp (v_15_fits_222 l _ _) ⟨rfl, trivial⟩
    · refine s_3 115 rfl ?_
      exact s_172Z rfl rfl
  · refine s_42 82 rfl rfl ?_
    refine s_180R 0 10 85 10 f_15_1 jw_1349 rfl rfl ?_
    refine s_43 86 rfl rfl ?_
    refine s_21 5 88 rfl rfl ?_
    refine s_51B 89 rfl ?_
    refine s_133 90 rfl ?_
    refine s_4 91 rfl ?_
    refine s_182I 0 89 94 89 (m_13_put l _ _ _ _) rfl k_13_put jc_13 jw_2108 jw_2109 jw_2110 rfl rfl rfl rfl rfl (fun x22 h23 => ?_)
    refine s_87 95 rfl rfl ?_
    refine s_132L 5 1 98 1 ji_1 rfl rfl rfl (fun x24 => ?_)
    refine s_167 255 231 73 rfl rfl ?_
    exact s_jmp (hk73 _ _ _ _ _) ⟨rfl, rfl, rfl, rfl, trivial⟩
theorem w_15_fits_73 (l : Launch)  (n : Nat) : ∀ a0 a1 a2 a5 H, JV l mi_15_fits jeI 73 [(0, .ref a0), (1, .ref a1), (2, .int a2), (5, .int a5)] [] H (F_15_fits_73  n a0 a1 a2 a5 H) := by
  induction n with
  | zero => intro _ _ _ _ _; exact s_none
  | succ n ih => intro a0 a1 a2 a5 H; exact v_15_fits_73 l (F_15_fits_73  n) ih a0 a1 a2 a5 H
theorem v_15_fits_29 (l : Launch) (k29 : Nat → Nat → Int32 → Nat → Int32 → Int32 → jH → Option (Int32 × jH)) (hk29 : ∀ a0 a1 a2 a3 a4 a5 H, JV l mi_15_fits jeI 29 [(0, .ref a0), (1, .ref a1), (2, .int a2), (3, .ref a3), (4, .int a4), (5, .int a5)] [] H (k29 a0 a1 a2 a3 a4 a5 H)) (a0 : Nat) (a1 : Nat) (a2 : Int32) (a3 : Nat) (a4 : Int32) (a5 : Int32) (H : jH) : JV l mi_15_fits jeI 29 [(0, .ref a0), (1, .ref a1), (2, .int a2), (3, .ref a3), (4, .int a4), (5, .int a5)] [] H (B_15_fits_29 k29 a0 a1 a2 a3 a4 a5 H) := by
  unfold B_15_fits_29
  refine s_21 5 31 rfl rfl ?_
  refine s_21 4 33 rfl rfl ?_
  refine s_162 0 23 56 36 rfl rfl ?_ ?_
  · refine s_42 57 rfl rfl ?_
    refine s_180R 0 10 60 10 f_15_1 jw_1349 rfl rfl ?_
    refine s_3 61 rfl ?_
    refine s_182I 0 93 64 93 (m_13_key l _ _ _) rfl k_13_key jc_13 jw_2113 jw_2114 jw_2115 rfl rfl rfl rfl rfl (fun x25 h26 => ?_)
    refine s_4 65 rfl ?_
    refine s_159 0 5 70 68 rfl rfl ?_ ?_
    · refine s_3 71 rfl ?_
      refine s_54 5 73 rfl rfl ?_
      exact s_jmp (w_15_fits_73 l jfuel _ _ _ _ _) ⟨rfl, rfl, rfl, rfl, trivial⟩
    · refine s_3 69 rfl ?_
      exact s_172Z rfl rfl
  · refine s_42 37 rfl rfl ?_
    refine s_180R 0 10 40 10 f_15_1 jw_1349 rfl rfl ?_
    refine s_45 41 rfl rfl ?_
    refine s_21 5 43 rfl rfl ?_
    refine s_51B 44 rfl ?_
    refine s_133 45 rfl ?_
    refine s_4 46 rfl ?_
    refine s_182I 0 89 49 89 (m_13_put l _ _ _ _) rfl k_13_put jc_13 jw_2108 jw_2109 jw_2110 rfl rfl rfl rfl rfl (fun x27 h28 => ?_)
    refine s_87 50 rfl rfl ?_
    refine s_132L 5 1 53 1 ji_1 rfl rfl rfl (fun x29 => ?_)
    refine s_167 255 232 29 rfl rfl ?_
    exact s_jmp (hk29 _ _ _ _ _ _ _) ⟨rfl, rfl, rfl, rfl, rfl, rfl, trivial⟩
theorem w_15_fits_29 (l : Launch)  (n : Nat) : ∀ a0 a1 a2 a3 a4 a5 H, JV l mi_15_fits jeI 29 [(0, .ref a0), (1, .ref a1), (2, .int a2), (3, .ref a3), (4, .int a4), (5, .int a5)] [] H (F_15_fits_29  n a0 a1 a2 a3 a4 a5 H) := by
  induction n with
  | zero => intro _ _ _ _ _ _ _; exact s_none
  | succ n ih => intro a0 a1 a2 a3 a4 a5 H; exact v_15_fits_29 l (F_15_fits_29  n) ih a0 a1 a2 a3 a4 a5 H
theorem v_15_fits (l : Launch) (a0 : Nat) (a1 : Nat) (a2 : Int32) (a3 : Nat) (a4 : Int32) (H : jH) : JV l mi_15_fits jeI 0 [(0, .ref a0), (1, .ref a1), (2, .int a2), (3, .ref a3), (4, .int a4)] [] H (F_15_fits a0 a1 a2 a3 a4 H) := by
  unfold F_15_fits
  refine s_28 1 rfl rfl ?_
  refine s_4 2 rfl ?_
  refine s_161 0 22 24 5 rfl rfl ?_ ?_
  · exact s_jmp (v_15_fits_24 l _) trivial
  · refine s_28 6 rfl rfl ?_
    refine s_16 73 8 73 jbp_73 rfl ?_
    refine s_163 0 16 24 11 rfl rfl ?_ ?_
    · exact s_jmp (v_15_fits_24 l _) trivial
    · refine s_21 4 13 rfl rfl ?_
      refine s_4 14 rfl ?_
      refine s_161 0 10 24 17 rfl rfl ?_ ?_
      · exact s_jmp (v_15_fits_24 l _) trivial
      · refine s_21 4 19 rfl rfl ?_
        refine s_16 65 21 65 jbp_65 rfl ?_
        refine s_164 0 5 26 24 rfl rfl ?_ ?_
        · refine s_3 27 rfl ?_
          refine s_54 5 29 rfl rfl ?_
          exact s_jmp (w_15_fits_29 l jfuel _ _ _ _ _ _ _) ⟨rfl, rfl, rfl, rfl, rfl, rfl, trivial⟩
        · exact s_jmp (v_15_fits_24 l _) trivial
theorem m_15_fits (l : Launch) (a0 : Nat) (a1 : Nat) (a2 : Int32) (a3 : Nat) (a4 : Int32) (H : jH) : JMet l y_15_fits prog_19_method_6_code mi_15_fits jeI [.ref a0, .ref a1, .int a2, .ref a3, .int a4] H (F_15_fits a0 a1 a2 a3 a4 H) := jmet_of n_15_fits (by decide) ⟨rfl, rfl⟩ (Nat.le_of_ble_eq_true rfl) (v_15_fits l a0 a1 a2 a3 a4 H)
