def mi_11_answerIHave : jM := (35146145374174918269026664336316030947339500914700776968092848158711313215064444631592403939300398470384172262263390874769449824138525435941265297505828448429164358398266762762199922916496635925993061276460601384999399301926455601236664669882452429551621868593386542660187138619244072468633994654002838775614929408264026156, 134, 6, "CoinNode", none, "answerIHave", 2, 83)
def y_11_answerIHave : MethodName := ⟨"CoinNode", "answerIHave", "(I[B)V"⟩
theorem n_11_answerIHave : jn_is prog_1_method_19_code mi_11_answerIHave.1 mi_11_answerIHave.2.1 := by unfold jn_is; decide +kernel
theorem k_11_answerIHave : jmok y_11_answerIHave prog_1_method_19_code mi_11_answerIHave 2 := ⟨jw_1370, jw_1, ⟨by decide, by decide⟩, by decide +kernel⟩
theorem v_11_answerIHave_110 (l : Launch) (k30 : Nat → Int32 → Nat → Int32 → Int32 → jH → Option (Unit × jH)) (hk30 : ∀ a0 a1 a2 a3 a4 H, JV l mi_11_answerIHave jeV 30 [(0, .ref a0), (1, .int a1), (2, .ref a2), (3, .int a3), (4, .int a4)] [] H (k30 a0 a1 a2 a3 a4 H)) (a0 : Nat) (a1 : Int32) (a2 : Nat) (a3 : Int32) (a4 : Int32) (H : jH) : JV l mi_11_answerIHave jeV 110 [(0, .ref a0), (1, .int a1), (2, .ref a2), (3, .int a3), (4, .int a4)] [] H (B_11_answerIHave_110 k30 a0 a1 a2 a3 a4 H) := by
  unfold B_11_answerIHave_110
  refine s_132L 4 33 113 33 ji_33 rfl rfl rfl (fun x1 => ?_)
  refine s_167 255 173 30 rfl rfl ?_
  exact s_jmp (hk30 _ _ _ _ _ _) ⟨rfl, rfl, rfl, rfl, rfl, trivial⟩
theorem v_11_answerIHave_91 (l : Launch) (k30 : Nat → Int32 → Nat → Int32 → Int32 → jH → Option (Unit × jH)) (hk30 : ∀ a0 a1 a2 a3 a4 H, JV l mi_11_answerIHave jeV 30 [(0, .ref a0), (1, .int a1), (2, .ref a2), (3, .int a3), (4, .int a4)] [] H (k30 a0 a1 a2 a3 a4 H)) (a0 : Nat) (a1 : Int32) (a2 : Nat) (a3 : Int32) (a4 : Int32) (s0 : Int32) (H : jH) : JV l mi_11_answerIHave jeV 91 [(0, .ref a0), (1, .int a1), (2, .ref a2), (3, .int a3), (4, .int a4)] [.int s0] H (B_11_answerIHave_91 k30 a0 a1 a2 a3 a4 s0 H) := by
  unfold B_11_answerIHave_91
  refine s_54 5 93 rfl rfl ?_
  refine s_21 5 95 rfl rfl ?_
  refine s_154 0 15 110 98 rfl rfl ?_ ?_
  · exact s_jmp (v_11_answerIHave_110 l k30 hk30 _ _ _ _ _ _) ⟨rfl, rfl, rfl, rfl, rfl, trivial⟩
  · refine s_42 99 rfl rfl ?_
    refine s_44 100 rfl rfl ?_
    refine s_21 4 102 rfl rfl ?_
    refine s_16 33 104 33 jbp_33 rfl ?_
    refine s_182V 0 211 107 211 (m_11_put_2 l _ _ _ _ _) rfl k_11_put_2 jc_11 jw_1196 jw_1198 jps_33 rfl rfl rfl rfl rfl (fun x2 h3 => ?_)
    refine s_132L 3 1 110 1 ji_1 rfl rfl rfl (fun x4 => ?_)
    exact s_jmp (v_11_answerIHave_110 l k30 hk30 _ _ _ _ _ _) ⟨rfl, rfl, rfl, rfl, rfl, trivial⟩
theorem v_11_answerIHave_133 (l : Launch)   (H : jH) : JV l mi_11_answerIHave jeV 133 [] [] H (B_11_answerIHave_133   H) := by
  unfold B_11_answerIHave_133
  exact s_177 rfl rfl
theorem v_11_answerIHave_30 (l : Launch) (k30 : Nat → Int32 → Nat → Int32 → Int32 → jH → Option (Unit × jH)) (hk30 : ∀ a0 a1 a2 a3 a4 H, JV l mi_11_answerIHave jeV 30 [(0, .ref a0), (1, .int a1), (2, .ref a2), (3, .int a3), (4, .int a4)] [] H (k30 a0 a1 a2 a3 a4 H)) (a0 : Nat) (a1 : Int32) (a2 : Nat) (a3 : Int32) (a4 : Int32) (H : jH) : JV l mi_11_answerIHave jeV 30 [(0, .ref a0), (1, .int a1), (2, .ref a2), (3, .int a3), (4, .int a4)] [] H (B_11_answerIHave_30 k30 a0 a1 a2 a3 a4 H) := by
  unfold B_11_answerIHave_30
  refine s_21 4 32 rfl rfl ?_
  refine s_16 32 34 32 jbp_32 rfl ?_
  refine s_96 35 rfl ?_
  refine s_44 36 rfl rfl ?_
  refine s_190 37 101 jm_101 rfl ?_
  refine s_162 0 79 116 40 rfl rfl ?_ ?_
  · refine s_42 117 rfl rfl ?_
    refine s_180R 0 28 120 28 f_11_7 jw_484 rfl rfl ?_
    refine s_4 121 rfl ?_
    refine s_29 122 rfl rfl ?_
    refine s_145 123 rfl ?_
    refine s_84B 124 rfl (fun h5 => ?_)
    refine s_29 125 rfl rfl ?_
    refine s_158 0 8 133 128 rfl rfl ?_ ?_
    · exact s_jmp (v_11_answerIHave_133 l _) trivial
    · refine s_42 129 rfl rfl ?_
      refine s_27 130 rfl rfl ?_
      refine s_182V 0 208 133 208 (m_11_post l _ _ _) rfl k_11_post jc_11 jw_791 jw_793 jps_8 rfl rfl rfl rfl rfl (fun x6 h7 => ?_)
      exact s_jmp (v_11_answerIHave_133 l _) trivial
  · refine s_44 41 rfl rfl ?_
    refine s_21 4 43 rfl rfl ?_
    refine s_51B 44 rfl ?_
    refine s_4 45 rfl ?_
    refine s_160 0 26 71 48 rfl rfl ?_ ?_
    · refine s_42 72 rfl rfl ?_
      refine s_180R 0 59 75 59 f_11_12 jw_489 rfl rfl ?_
      refine s_44 76 rfl rfl ?_
      refine s_21 4 78 rfl rfl ?_
      refine s_4 79 rfl ?_
      refine s_96 80 rfl ?_
      refine s_182R 0 217 83 217 (m_1_find l _ _ _ _) rfl k_1_find jc_1 jw_1357 jw_1214 jw_1215 rfl rfl rfl rfl rfl (fun x8 h9 => ?_)
      refine s_198 0 7 90 86 rfl rfl ?_ ?_
      · refine s_3 91 rfl ?_
        exact s_jmp (v_11_answerIHave_91 l k30 hk30 _ _ _ _ _ _ _) ⟨rfl, rfl, rfl, rfl, rfl, trivial⟩
      · refine s_4 87 rfl ?_
        refine s_167 0 4 91 rfl rfl ?_
        exact s_jmp (v_11_answerIHave_91 l k30 hk30 _ _ _ _ _ _ _) ⟨rfl, rfl, rfl, rfl, rfl, trivial⟩
    · refine s_42 49 rfl rfl ?_
      refine s_180R 0 68 52 68 f_11_13 jw_490 rfl rfl ?_
      refine s_44 53 rfl rfl ?_
      refine s_21 4 55 rfl rfl ?_
      refine s_4 56 rfl ?_
      refine s_96 57 rfl ?_
      refine s_182R 0 227 60 227 (m_6_find l _ _ _ _) rfl k_6_find jc_6 jw_1366 jw_821 jw_822 rfl rfl rfl rfl rfl (fun x10 h11 => ?_)
      refine s_198 0 7 67 63 rfl rfl ?_ ?_
      · refine s_3 68 rfl ?_
        refine s_167 0 23 91 rfl rfl ?_
        exact s_jmp (v_11_answerIHave_91 l k30 hk30 _ _ _ _ _ _ _) ⟨rfl, rfl, rfl, rfl, rfl, trivial⟩
      · refine s_4 64 rfl ?_
        refine s_167 0 27 91 rfl rfl ?_
        exact s_jmp (v_11_answerIHave_91 l k30 hk30 _ _ _ _ _ _ _) ⟨rfl, rfl, rfl, rfl, rfl, trivial⟩
theorem w_11_answerIHave_30 (l : Launch)  (n : Nat) : ∀ a0 a1 a2 a3 a4 H, JV l mi_11_answerIHave jeV 30 [(0, .ref a0), (1, .int a1), (2, .ref a2), (3, .int a3), (4, .int a4)] [] H (F_11_answerIHave_30  n a0 a1 a2 a3 a4 H) := by
  induction n with
  | zero => intro _ _ _ _ _ _; exact s_none
  | succ n ih => intro a0 a1 a2 a3 a4 H; exact v_11_answerIHave_30 l (F_11_answerIHave_30  n) ih a0 a1 a2 a3 a4 H
theorem v_11_answerIHave (l : Launch) (a0 : Nat) (a1 : Int32) (a2 : Nat) (H : jH) : JV l mi_11_answerIHave jeV 0 [(0, .ref a0), (1, .int a1), (2, .ref a2)] [] H (F_11_answerIHave a0 a1 a2 H) := by
  unfold F_11_answerIHave
  refine s_44 1 rfl rfl ?_
  refine s_184I 0 223 4 223 (m_11_isList l _ _) rfl k_11_isList jw_1363 jw_1364 rfl rfl rfl rfl rfl (fun x12 h13 => ?_)
  refine s_154 0 11 15 7 rfl rfl ?_ ?_
  · refine s_42 16 rfl rfl ?_
    refine s_7 17 rfl ?_
    refine s_182V 0 202 20 202 (m_11_begin l _ _ _) rfl k_11_begin jc_11 jw_783 jw_785 jps_6 rfl rfl rfl rfl rfl (fun x14 h15 => ?_)
    refine s_42 21 rfl rfl ?_
    refine s_3 22 rfl ?_
    refine s_182V 0 205 25 205 (m_11_put l _ _ _) rfl k_11_put jc_11 jw_787 jw_789 jps_7 rfl rfl rfl rfl rfl (fun x16 h17 => ?_)
    refine s_3 26 rfl ?_
    refine s_62 27 rfl rfl ?_
    refine s_5 28 rfl ?_
    refine s_54 4 30 rfl rfl ?_
    exact s_jmp (w_11_answerIHave_30 l jfuel _ _ _ _ _ _) ⟨rfl, rfl, rfl, rfl, rfl, trivial⟩
  · refine s_42 8 rfl rfl ?_
    refine s_27 9 rfl rfl ?_
    refine s_4 10 rfl ?_
    refine s_1 11 rfl ?_
    refine s_182V 0 134 14 134 (m_11_answerVerdict l _ _ _ _ _) rfl k_11_answerVerdict jc_11 jw_779 jw_781 jps_5 rfl rfl rfl rfl rfl (fun x18 h19 => ?_)
    exact s_177 rfl rfl
theorem m_11_answerIHave (l : Launch) (a0 : Nat) (a1 : Int32) (a2 : Nat) (H : jH) : JMet l y_11_answerIHave prog_1_method_19_code mi_11_answerIHave jeV [.ref a0, .int a1, .ref a2] H (F_11_answerIHave a0 a1 a2 H) := jmet_of n_11_answerIHave (by decide) ⟨rfl, rfl⟩ (Nat.le_of_ble_eq_true rfl) (v_11_answerIHave l a0 a1 a2 H)
def mi_11_answerWhatIsBehind : jM := (109717428371026123416291668768564562807746031047514116681043033346812005260273379874735498340947613286666516135534474500353188496332371158375719786818726981697476509890442205556536521662609320508667572618705250858986923497652960832420511735398809460326639952823657560139569002673793137852273633147901510137554977641196936538813477326759481703867522142524847840553610753536880241461752362270142878313912501130768190642662556496511267798341254568554184068181394171739692, 194, 8, "CoinNode", none, "answerWhatIsBehind", 2, 83)
def y_11_answerWhatIsBehind : MethodName := ⟨"CoinNode", "answerWhatIsBehind", "(I[B)V"⟩
theorem n_11_answerWhatIsBehind : jn_is prog_1_method_17_code mi_11_answerWhatIsBehind.1 mi_11_answerWhatIsBehind.2.1 := by unfold jn_is; decide +kernel
theorem k_11_answerWhatIsBehind : jmok y_11_answerWhatIsBehind prog_1_method_17_code mi_11_answerWhatIsBehind 2 := ⟨jw_1356, jw_1, ⟨by decide, by decide⟩, by decide +kernel⟩
theorem v_11_answerWhatIsBehind_35 (l : Launch)  (a0 : Nat) (a1 : Int32) (H : jH) : JV l mi_11_answerWhatIsBehind jeV 35 [(0, .ref a0), (1, .int a1)] [] H (B_11_answerWhatIsBehind_35  a0 a1 H) := by
  unfold B_11_answerWhatIsBehind_35
  refine s_42 36 rfl rfl ?_
  refine s_27 37 rfl rfl ?_
  refine s_4 38 rfl ?_
  refine s_1 39 rfl ?_
  refine s_182V 0 134 42 134 (m_11_answerVerdict l _ _ _ _ _) rfl k_11_answerVerdict jc_11 jw_779 jw_781 jps_5 rfl rfl rfl rfl rfl (fun x1 h2 => ?_)
  exact s_177 rfl rfl
theorem v_11_answerWhatIsBehind_104 (l : Launch) (k49 : Nat → Int32 → Nat → Int32 → Int32 → Int32 → jH → Option (Unit × jH)) (hk49 : ∀ a0 a1 a2 a3 a4 a5 H, JV l mi_11_answerWhatIsBehind jeV 49 [(0, .ref a0), (1, .int a1), (2, .ref a2), (3, .int a3), (4, .int a4), (5, .int a5)] [] H (k49 a0 a1 a2 a3 a4 a5 H)) (a0 : Nat) (a1 : Int32) (a2 : Nat) (a3 : Int32) (a4 : Int32) (a5 : Int32) (H : jH) : JV l mi_11_answerWhatIsBehind jeV 104 [(0, .ref a0), (1, .int a1), (2, .ref a2), (3, .int a3), (4, .int a4), (5, .int a5)] [] H (B_11_answerWhatIsBehind_104 k49 a0 a1 a2 a3 a4 a5 H) := by
  unfold B_11_answerWhatIsBehind_104
  refine s_132L 5 1 107 1 ji_1 rfl rfl rfl (fun x3 => ?_)
  refine s_167 255 198 49 rfl rfl ?_
  exact s_jmp (hk49 _ _ _ _ _ _ _) ⟨rfl, rfl, rfl, rfl, rfl, rfl, trivial⟩
theorem v_11_answerWhatIsBehind_182 (l : Launch) (k144 : Nat → Int32 → Int32 → Int32 → Int32 → jH → Option (Unit × jH)) (hk144 : ∀ a0 a1 a4 a5 a6 H, JV l mi_11_answerWhatIsBehind jeV 144 [(0, .ref a0), (1, .int a1), (4, .int a4), (5, .int a5), (6, .int a6)] [] H (k144 a0 a1 a4 a5 a6 H)) (a0 : Nat) (a1 : Int32) (a4 : Int32) (a5 : Int32) (a6 : Int32) (H : jH) : JV l mi_11_answerWhatIsBehind jeV 182 [(0, .ref a0), (1, .int a1), (4, .int a4), (5, .int a5), (6, .int a6)] [] H (B_11_answerWhatIsBehind_182 k144 a0 a1 a4 a5 a6 H) := by
  unfold B_11_answerWhatIsBehind_182
  refine s_132L 6 1 185 1 ji_1 rfl rfl rfl (fun x4 => ?_)
  refine s_167 255 215 144 rfl rfl ?_
  exact s_jmp (hk144 _ _ _ _ _ _) ⟨rfl, rfl, rfl, rfl, rfl, trivial⟩
theorem v_11_answerWhatIsBehind_144 (l : Launch) (k144 : Nat → Int32 → Int32 → Int32 → Int32 → jH → Option (Unit × jH)) (hk144 : ∀ a0 a1 a4 a5 a6 H, JV l mi_11_answerWhatIsBehind jeV 144 [(0, .ref a0), (1, .int a1), (4, .int a4), (5, .int a5), (6, .int a6)] [] H (k144 a0 a1 a4 a5 a6 H)) (a0 : Nat) (a1 : Int32) (a4 : Int32) (a5 : Int32) (a6 : Int32) (H : jH) : JV l mi_11_answerWhatIsBehind jeV 144 [(0, .ref a0), (1, .int a1), (4, .int a4), (5, .int a5), (6, .int a6)] [] H (B_11_answerWhatIsBehind_144 k144 a0 a1 a4 a5 a6 H) := by
  unfold B_11_answerWhatIsBehind_144
  refine s_21 6 146 rfl rfl ?_
  refine s_21 5 148 rfl rfl ?_
  refine s_163 0 40 188 151 rfl rfl ?_ ?_
  · refine s_42 189 rfl rfl ?_
    refine s_27 190 rfl rfl ?_
    refine s_182V 0 208 193 208 (m_11_post l _ _ _) rfl k_11_post jc_11 jw_791 jw_793 jps_8 rfl rfl rfl rfl rfl (fun x5 h6 => ?_)
    exact s_177 rfl rfl
  · refine s_42 152 rfl rfl ?_
    refine s_180R 0 59 155 59 f_11_12 jw_489 rfl rfl ?_
    refine s_21 4 157 rfl rfl ?_
    refine s_21 6 159 rfl rfl ?_
    refine s_96 160 rfl ?_
    refine s_182R 0 144 163 144 (m_1_at l _ _ _) rfl k_1_at jc_1 jw_1351 jw_1287 jw_1288 rfl rfl rfl rfl rfl (fun x7 h8 => ?_)
    refine s_58 7 165 rfl rfl ?_
    refine s_25 7 167 rfl rfl ?_
    refine s_198 0 15 182 170 rfl rfl ?_ ?_
    · exact s_jmp (v_11_answerWhatIsBehind_182 l k144 hk144 _ _ _ _ _ _) ⟨rfl, rfl, rfl, rfl, rfl, trivial⟩
    · refine s_42 171 rfl rfl ?_
      refine s_25 7 173 rfl rfl ?_
      refine s_180R 0 220 176 220 f_0_0 jw_325 rfl rfl ?_
      refine s_4 177 rfl ?_
      refine s_16 80 179 80 jbp_80 rfl ?_
      refine s_182V 0 211 182 211 (m_11_put_2 l _ _ _ _ _) rfl k_11_put_2 jc_11 jw_1196 jw_1198 jps_33 rfl rfl rfl rfl rfl (fun x9 h10 => ?_)
      exact s_jmp (v_11_answerWhatIsBehind_182 l k144 hk144 _ _ _ _ _ _) ⟨rfl, rfl, rfl, rfl, rfl, trivial⟩
theorem w_11_answerWhatIsBehind_144 (l : Launch)  (n : Nat) : ∀ a0 a1 a4 a5 a6 H, JV l mi_11_answerWhatIsBehind jeV 144 [(0, .ref a0), (1, .int a1), (4, .int a4), (5, .int a5), (6, .int a6)] [] H (F_11_answerWhatIsBehind_144  n a0 a1 a4 a5 a6 H) := by
  induction n with
  | zero => intro _ _ _ _ _ _; exact s_none
  | succ n ih => intro a0 a1 a4 a5 a6 H; exact v_11_answerWhatIsBehind_144 l (F_11_answerWhatIsBehind_144  n) ih a0 a1 a4 a5 a6 H
theorem v_11_answerWhatIsBehind_110 (l : Launch)  (a0 : Nat) (a1 : Int32) (a4 : Int32) (H : jH) : JV l mi_11_answerWhatIsBehind jeV 110 [(0, .ref a0), (1, .int a1), (4, .int a4)] [] H (B_11_answerWhatIsBehind_110  a0 a1 a4 H) := by
  unfold B_11_answerWhatIsBehind_110
  refine s_16 16 112 16 jbp_16 rfl ?_
  refine s_42 113 rfl rfl ?_
  refine s_180R 0 59 116 59 f_11_12 jw_489 rfl rfl ?_
  refine s_180R 0 90 119 90 f_1_6 jw_390 rfl rfl ?_
  refine s_180I 0 114 122 114 f_0_6 jw_338 rfl rfl ?_
  refine s_21 4 124 rfl rfl ?_
  refine s_100 125 rfl ?_
  refine s_minI 0 138 128 138 jw_1358 jw_690 jw_15 jw_691 rfl rfl rfl ?_
  refine s_54L 5 130 rfl rfl (fun x11 => ?_)
  refine s_42 131 rfl rfl ?_
  refine s_8 132 rfl ?_
  refine s_182V 0 202 135 202 (m_11_begin l _ _ _) rfl k_11_begin jc_11 jw_783 jw_785 jps_6 rfl rfl rfl rfl rfl (fun x12 h13 => ?_)
  refine s_42 136 rfl rfl ?_
  refine s_21 5 138 rfl rfl ?_
  refine s_182V 0 205 141 205 (m_11_put l _ _ _) rfl k_11_put jc_11 jw_787 jw_789 jps_7 rfl rfl rfl rfl rfl (fun x14 h15 => ?_)
  refine s_4 142 rfl ?_
  refine s_54 6 144 rfl rfl ?_
  exact s_jmp (w_11_answerWhatIsBehind_144 l jfuel _ _ _ _ _ _) ⟨rfl, rfl, rfl, rfl, rfl, trivial⟩
theorem v_11_answerWhatIsBehind_49 (l : Launch) (k49 : Nat → Int32 → Nat → Int32 → Int32 → Int32 → jH → Option (Unit × jH)) (hk49 : ∀ a0 a1 a2 a3 a4 a5 H, JV l mi_11_answerWhatIsBehind jeV 49 [(0, .ref a0), (1, .int a1), (2, .ref a2), (3, .int a3), (4, .int a4), (5, .int a5)] [] H (k49 a0 a1 a2 a3 a4 a5 H)) (a0 : Nat) (a1 : Int32) (a2 : Nat) (a3 : Int32) (a4 : Int32) (a5 : Int32) (H : jH) : JV l mi_11_answerWhatIsBehind jeV 49 [(0, .ref a0), (1, .int a1), (2, .ref a2), (3, .int a3), (4, .int a4), (5, .int a5)] [] H (B_11_answerWhatIsBehind_49 k49 a0 a1 a2 a3 a4 a5 H) := by
  unfold B_11_answerWhatIsBehind_49
  refine s_21 5 51 rfl rfl ?_
  refine s_29 52 rfl rfl ?_
  refine s_162 0 58 110 55 rfl rfl ?_ ?_
  · exact s_jmp (v_11_answerWhatIsBehind_110 l _ _ _ _) ⟨rfl, rfl, rfl, trivial⟩
  · refine s_42 56 rfl rfl ?_
    refine s_180R 0 59 59 59 f_11_12 jw_489 rfl rfl ?_
    refine s_44 60 rfl rfl ?_
    refine s_5 61 rfl ?_
    refine s_16 32 63 32 jbp_32 rfl ?_
    refine s_21 5 65 rfl rfl ?_
    refine s_104 66 rfl ?_
    refine s_96 67 rfl ?_
    refine s_182R 0 217 70 217 (m_1_find l _ _ _ _) rfl k_1_find jc_1 jw_1357 jw_1214 jw_1215 rfl rfl rfl rfl rfl (fun x16 h17 => ?_)
    refine s_58 6 72 rfl rfl ?_
    refine s_25 6 74 rfl rfl ?_
    refine s_198 0 30 104 77 rfl rfl ?_ ?_
    · exact s_jmp (v_11_answerWhatIsBehind_104 l k49 hk49 _ _ _ _ _ _ _) ⟨rfl, rfl, rfl, rfl, rfl, rfl, trivial⟩
    · refine s_42 78 rfl rfl ?_
      refine s_180R 0 59 81 59 f_11_12 jw_489 rfl rfl ?_
      refine s_25 6 83 rfl rfl ?_
      refine s_180I 0 114 86 114 f_0_6 jw_338 rfl rfl ?_
      refine s_182R 0 144 89 144 (m_1_at l _ _ _) rfl k_1_at jc_1 jw_1351 jw_1287 jw_1288 rfl rfl rfl rfl rfl (fun x18 h19 => ?_)
      refine s_25 6 91 rfl rfl ?_
      refine s_166 0 13 104 94 rfl rfl ?_ ?_
      · exact s_jmp (v_11_answerWhatIsBehind_104 l k49 hk49 _ _ _ _ _ _ _) ⟨rfl, rfl, rfl, rfl, rfl, rfl, trivial⟩
      · refine s_25 6 96 rfl rfl ?_
        refine s_180I 0 114 99 114 f_0_6 jw_338 rfl rfl ?_
        refine s_54L 4 101 rfl rfl (fun x20 => ?_)
        refine s_167 0 9 110 rfl rfl ?_
        exact s_jmp (v_11_answerWhatIsBehind_110 l _ _ _ _) ⟨rfl, rfl, rfl, trivial⟩
theorem w_11_answerWhatIsBehind_49 (l : Launch)  (n : Nat) : ∀ a0 a1 a2 a3 a4 a5 H, JV l mi_11_answerWhatIsBehind jeV 49 [(0, .ref a0), (1, .int a1), (2, .ref a2), (3, .int a3), (4, .int a4), (5, .int a5)] [] H (F_11_answerWhatIsBehind_49  n a0 a1 a2 a3 a4 a5 H) := by
  induction n with
  | zero => intro _ _ _ _ _ _ _; exact s_none
  | succ n ih => intro a0 a1 a2 a3 a4 a5 H; exact v_11_answerWhatIsBehind_49 l (F_11_answerWhatIsBehind_49  n) ih a0 a1 a2 a3 a4 a5 H
theorem v_11_answerWhatIsBehind_13 (l : Launch)  (a0 : Nat) (a1 : Int32) (a2 : Nat) (s0 : Int32) (H : jH) : JV l mi_11_answerWhatIsBehind jeV 13 [(0, .ref a0), (1, .int a1), (2, .ref a2)] [.int s0] H (B_11_answerWhatIsBehind_13  a0 a1 a2 s0 H) := by
  unfold B_11_answerWhatIsBehind_13
  refine s_62 14 rfl rfl ?_
  refine s_29 15 rfl rfl ?_
  refine s_155 0 20 35 18 rfl rfl ?_ ?_
  · exact s_jmp (v_11_answerWhatIsBehind_35 l _ _ _) ⟨rfl, rfl, trivial⟩
  · refine s_29 19 rfl rfl ?_
    refine s_16 20 21 20 jbp_20 rfl ?_
    refine s_163 0 14 35 24 rfl rfl ?_ ?_
    · exact s_jmp (v_11_answerWhatIsBehind_35 l _ _ _) ⟨rfl, rfl, trivial⟩
    · refine s_44 25 rfl rfl ?_
      refine s_190 26 101 jm_101 rfl ?_
      refine s_5 27 rfl ?_
      refine s_16 32 29 32 jbp_32 rfl ?_
      refine s_29 30 rfl rfl ?_
      refine s_104 31 rfl ?_
      refine s_96 32 rfl ?_
      refine s_159 0 11 43 35 rfl rfl ?_ ?_
      · refine s_3 44 rfl ?_
        refine s_54 4 46 rfl rfl ?_
        refine s_3 47 rfl ?_
        refine s_54 5 49 rfl rfl ?_
        exact s_jmp (w_11_answerWhatIsBehind_49 l jfuel _ _ _ _ _ _ _) ⟨rfl, rfl, rfl, rfl, rfl, rfl, trivial⟩
      · exact s_jmp (v_11_answerWhatIsBehind_35 l _ _ _) ⟨rfl, rfl, trivial⟩
theorem v_11_answerWhatIsBehind (l : Launch) (a0 : Nat) (a1 : Int32) (a2 : Nat) (H : jH) : JV l mi_11_answerWhatIsBehind jeV 0 [(0, .ref a0), (1, .int a1), (2, .ref a2)] [] H (F_11_answerWhatIsBehind a0 a1 a2 H) := by
  unfold F_11_answerWhatIsBehind
  refine s_44 1 rfl rfl ?_
  refine s_190 2 101 jm_101 rfl ?_
  refine s_5 3 rfl ?_
  refine s_162 0 7 10 6 rfl rfl ?_ ?_
  · refine s_44 11 rfl rfl ?_
    refine s_4 12 rfl ?_
    refine s_51B 13 rfl ?_
    exact s_jmp (v_11_answerWhatIsBehind_13 l _ _ _ _ _) ⟨rfl, rfl, rfl, trivial⟩
  · refine s_2 7 rfl ?_
    refine s_167 0 6 13 rfl rfl ?_
    exact s_jmp (v_11_answerWhatIsBehind_13 l _ _ _ _ _) ⟨rfl, rfl, rfl, trivial⟩
theorem m_11_answerWhatIsBehind (l : Launch) (a0 : Nat) (a1 : Int32) (a2 : Nat) (H : jH) : JMet l y_11_answerWhatIsBehind prog_1_method_17_code mi_11_answerWhatIsBehind jeV [.ref a0, .int a1, .ref a2] H (F_11_answerWhatIsBehind a0 a1 a2 H) := jmet_of n_11_answerWhatIsBehind (by decide) ⟨rfl, rfl⟩ (Nat.le_of_ble_eq_true rfl) (v_11_answerWhatIsBehind l a0 a1 a2 H)
def mi_10_index : jM := (5105736708593512311778349207453191899361803861740585447598795489076953180383779611, 34, 2, "CoinNode$Tx", some FieldType.int, "index", 1, 21)
def y_10_index : MethodName := ⟨"CoinNode$Tx", "index", "(I)I"⟩
theorem n_10_index : jn_is prog_12_method_7_code mi_10_index.1 mi_10_index.2.1 := by unfold jn_is; decide +kernel
theorem k_10_index : jmok y_10_index prog_12_method_7_code mi_10_index 1 := ⟨jw_812, jw_11, ⟨by decide, by decide⟩, by decide +kernel⟩
theorem v_10_index_33 (l : Launch)  (s0 : Int32) (H : jH) : JV l mi_10_index jeI 33 [] [.int s0] H (B_10_index_33  s0 H) := by
  unfold B_10_index_33
  exact s_172 rfl rfl
theorem v_10_index_13 (l : Launch)   (H : jH) : JV l mi_10_index jeI 13 [] [] H (B_10_index_13   H) := by
  unfold B_10_index_13
  refine s_3 14 rfl ?_
  refine s_167 0 19 33 rfl rfl ?_
  exact s_jmp (v_10_index_33 l _ _) trivial
theorem v_10_index (l : Launch) (a0 : Nat) (a1 : Int32) (H : jH) : JV l mi_10_index jeI 0 [(0, .ref a0), (1, .int a1)] [] H (F_10_index a0 a1 H) := by
  unfold F_10_index
  refine s_27 1 rfl rfl ?_
  refine s_155 0 12 13 4 rfl rfl ?_ ?_
  · exact s_jmp (v_10_index_13 l _) trivial
  · refine s_27 5 rfl rfl ?_
    refine s_42 6 rfl rfl ?_
    refine s_180R 0 15 9 15 f_10_4 jw_724 rfl rfl ?_
    refine s_190 10 100 jm_100 rfl ?_
    refine s_161 0 7 17 13 rfl rfl ?_ ?_
    · refine s_42 18 rfl rfl ?_
      refine s_180R 0 22 21 22 f_10_0 jw_706 rfl rfl ?_
      refine s_42 22 rfl rfl ?_
      refine s_180R 0 15 25 15 f_10_4 jw_724 rfl rfl ?_
      refine s_27 26 rfl rfl ?_
      refine s_46 27 rfl ?_
      refine s_16 32 29 32 jbp_32 rfl ?_
      refine s_96 30 rfl ?_
      refine s_184I 0 62 33 62 (m_10_low l _ _ _) rfl k_10_low jw_777 jw_320 rfl rfl rfl rfl rfl (fun x1 h2 => ?_)
      exact s_jmp (v_10_index_33 l _ _) trivial
    · exact s_jmp (v_10_index_13 l _) trivial
theorem m_10_index (l : Launch) (a0 : Nat) (a1 : Int32) (H : jH) : JMet l y_10_index prog_12_method_7_code mi_10_index jeI [.ref a0, .int a1] H (F_10_index a0 a1 H) := jmet_of n_10_index (by decide) ⟨rfl, rfl⟩ (Nat.le_of_ble_eq_true rfl) (v_10_index l a0 a1 H)
def mi_10_sharesKeyWith : jM := (182726949145113800874815204862979196671459310163973533364220398127419900956588194166332432611598045244296768473580674262128690701798608234168379408515735135791242056316877433815615421699, 77, 4, "CoinNode$Tx", some FieldType.boolean, "sharesKeyWith", 2, 42)
def y_10_sharesKeyWith : MethodName := ⟨"CoinNode$Tx", "sharesKeyWith", "(LCoinNode$Tx;)Z"⟩
theorem n_10_sharesKeyWith : jn_is prog_12_method_16_code mi_10_sharesKeyWith.1 mi_10_sharesKeyWith.2.1 := by unfold jn_is; decide +kernel
theorem k_10_sharesKeyWith : jmok y_10_sharesKeyWith prog_12_method_16_code mi_10_sharesKeyWith 1 := ⟨jw_828, jw_11, ⟨by decide, by decide⟩, by decide +kernel⟩
theorem v_10_sharesKeyWith_63 (l : Launch) (k13 : Nat → Nat → Int32 → Int32 → jH → Option (Int32 × jH)) (hk13 : ∀ a0 a1 a2 a3 H, JV l mi_10_sharesKeyWith jeI 13 [(0, .ref a0), (1, .ref a1), (2, .int a2), (3, .int a3)] [] H (k13 a0 a1 a2 a3 H)) (a0 : Nat) (a1 : Nat) (a2 : Int32) (a3 : Int32) (H : jH) : JV l mi_10_sharesKeyWith jeI 63 [(0, .ref a0), (1, .ref a1), (2, .int a2), (3, .int a3)] [] H (B_10_sharesKeyWith_63 k13 a0 a1 a2 a3 H) := by
  unfold B_10_sharesKeyWith_63
  refine s_132L 3 1 66 1 ji_1 rfl rfl rfl (fun x1 => ?_)
  refine s_167 255 203 13 rfl rfl ?_
  exact s_jmp (hk13 _ _ _ _ _) ⟨rfl, rfl, rfl, rfl, trivial⟩
theorem v_10_sharesKeyWith_13 (l : Launch) (k2 : Nat → Nat → Int32 → jH → Option (Int32 × jH)) (hk2 : ∀ a0 a1 a2 H, JV l mi_10_sharesKeyWith jeI 2 [(0, .ref a0), (1, .ref a1), (2, .int a2)] [] H (k2 a0 a1 a2 H)) (k13 : Nat → Nat → Int32 → Int32 → jH → Option (Int32 × jH)) (hk13 : ∀ a0 a1 a2 a3 H, JV l mi_10_sharesKeyWith jeI 13 [(0, .ref a0), (1, .ref a1), (2, .int a2), (3, .int a3)] [] H (k13 a0 a1 a2 a3 H)) (a0 : Nat) (a1 : Nat) (a2 : Int32) (a3 : Int32) (H : jH) : JV l mi_10_sharesKeyWith jeI 13 [(0, .ref a0), (1, .ref a1), (2, .int a2), (3, .int a3)] [] H (B_10_sharesKeyWith_13 k2 k13 a0 a1 a2 a3 H) := by
  unfold B_10_sharesKeyWith_13
  refine s_29 14 rfl rfl ?_
  refine s_43 15 rfl rfl ?_
  refine s_180R 0 15 18 15 f_10_4 jw_724 rfl rfl ?_
  refine s_190 19 100 jm_100 rfl ?_
  refine s_162 0 50 69 22 rfl rfl ?_ ?_
  · refine s_132L 2 1 72 1 ji_1 rfl rfl rfl (fun x2 => ?_)
    refine s_167 255 186 2 rfl rfl ?_
    exact s_jmp (hk2 _ _ _ _) ⟨rfl, rfl, rfl, trivial⟩
  · refine s_42 23 rfl rfl ?_
    refine s_28 24 rfl rfl ?_
    refine s_182I 0 74 27 74 (m_10_index l _ _ _) rfl k_10_index jc_10 jw_809 jw_810 jw_811 rfl rfl rfl rfl rfl (fun x3 h4 => ?_)
    refine s_43 28 rfl rfl ?_
    refine s_29 29 rfl rfl ?_
    refine s_182I 0 74 32 74 (m_10_index l _ _ _) rfl k_10_index jc_10 jw_809 jw_810 jw_811 rfl rfl rfl rfl rfl (fun x5 h6 => ?_)
    refine s_160 0 31 63 35 rfl rfl ?_ ?_
    · exact s_jmp (v_10_sharesKeyWith_63 l k13 hk13 _ _ _ _ _) ⟨rfl, rfl, rfl, rfl, trivial⟩
    · refine s_42 36 rfl rfl ?_
      refine s_180R 0 22 39 22 f_10_0 jw_706 rfl rfl ?_
      refine s_42 40 rfl rfl ?_
      refine s_180R 0 15 43 15 f_10_4 jw_724 rfl rfl ?_
      refine s_28 44 rfl rfl ?_
      refine s_46 45 rfl ?_
      refine s_43 46 rfl rfl ?_
      refine s_180R 0 22 49 22 f_10_0 jw_706 rfl rfl ?_
      refine s_43 50 rfl rfl ?_
      refine s_180R 0 15 53 15 f_10_4 jw_724 rfl rfl ?_
      refine s_29 54 rfl rfl ?_
      refine s_46 55 rfl ?_
      refine s_184I 0 77 58 77 (m_3_same l _ _ _ _ _) rfl k_3_same jw_813 jw_814 rfl rfl rfl rfl rfl (fun x7 h8 => ?_)
      refine s_153 0 5 63 61 rfl rfl ?_ ?_
      · exact s_jmp (v_10_sharesKeyWith_63 l k13 hk13 _ _ _ _ _) ⟨rfl, rfl, rfl, rfl, trivial⟩
      · refine s_4 62 rfl ?_
        exact s_172Z rfl rfl
theorem w_10_sharesKeyWith_13 (l : Launch) (k2 : Nat → Nat → Int32 → jH → Option (Int32 × jH)) (hk2 : ∀ a0 a1 a2 H, JV l mi_10_sharesKeyWith jeI 2 [(0, .ref a0), (1, .ref a1), (2, .int a2)] [] H (k2 a0 a1 a2 H)) (n : Nat) : ∀ a0 a1 a2 a3 H, JV l mi_10_sharesKeyWith jeI 13 [(0, .ref a0), (1, .ref a1), (2, .int a2), (3, .int a3)] [] H (F_10_sharesKeyWith_13 k2 n a0 a1 a2 a3 H) := by
  induction n with
  | zero => intro _ _ _ _ _; exact s_none
  | succ n ih => intro a0 a1 a2 a3 H; exact v_10_sharesKeyWith_13 l k2 hk2 (F_10_sharesKeyWith_13 k2 n) ih a0 a1 a2 a3 H
theorem v_10_sharesKeyWith_2 (l : Launch) (k2 : Nat → Nat → Int32 → jH → Option (Int32 × jH)) (hk2 : ∀ a0 a1 a2 H, JV l mi_10_sharesKeyWith jeI 2 [(0, .ref a0), (1, .ref a1), (2, .int a2)] [] H (k2 a0 a1 a2 H)) (a0 : Nat) (a1 : Nat) (a2 : Int32) (H : jH) : JV l mi_10_sharesKeyWith jeI 2 [(0, .ref a0), (1, .ref a1), (2, .int a2)] [] H (B_10_sharesKeyWith_2 k2 a0 a1 a2 H) := by
  unfold B_10_sharesKeyWith_2
  refine s_28 3 rfl rfl ?_
  refine s_42 4 rfl rfl ?_
  refine s_180R 0 15 7 15 f_10_4 jw_724 rfl rfl ?_
  refine s_190 8 100 jm_100 rfl ?_
  refine s_162 0 67 75 11 rfl rfl ?_ ?_
  · refine s_3 76 rfl ?_
    exact s_172Z rfl rfl
  · refine s_3 12 rfl ?_
    refine s_62 13 rfl rfl ?_
    exact s_jmp (w_10_sharesKeyWith_13 l k2 hk2 jfuel _ _ _ _ _) ⟨rfl, rfl, rfl, rfl, trivial⟩
theorem w_10_sharesKeyWith_2 (l : Launch)  (n : Nat) : ∀ a0 a1 a2 H, JV l mi_10_sharesKeyWith jeI 2 [(0, .ref a0), (1, .ref a1), (2, .int a2)] [] H (F_10_sharesKeyWith_2  n a0 a1 a2 H) := by
  induction n with
  | zero => intro _ _ _ _; exact s_none
  | succ n ih => intro a0 a1 a2 H; exact v_10_sharesKeyWith_2 l (F_10_sharesKeyWith_2  n) ih a0 a1 a2 H
theorem v_10_sharesKeyWith (l : Launch) (a0 : Nat) (a1 : Nat) (H : jH) : JV l mi_10_sharesKeyWith jeI 0 [(0, .ref a0), (1, .ref a1)] [] H (F_10_sharesKeyWith a0 a1 H) := by
  unfold F_10_sharesKeyWith
  refine s_3 1 rfl ?_
  refine s_61 2 rfl rfl ?_
  exact s_jmp (w_10_sharesKeyWith_2 l jfuel _ _ _ _) ⟨rfl, rfl, rfl, trivial⟩
theorem m_10_sharesKeyWith (l : Launch) (a0 : Nat) (a1 : Nat) (H : jH) : JMet l y_10_sharesKeyWith prog_12_method_16_code mi_10_sharesKeyWith jeI [.ref a0, .ref a1] H (F_10_sharesKeyWith a0 a1 H) := jmet_of n_10_sharesKeyWith (by decide) ⟨rfl, rfl⟩ (Nat.le_of_ble_eq_true rfl) (v_10_sharesKeyWith l a0 a1 H)
def mi_6_clash : jM := (6777745089410788826753996762157711496854153456490563612984718384340347235500608559314888422701553846527324890300951338, 49, 3, "CoinNode$Pool", some FieldType.int, "clash", 3, 65)
def y_6_clash : MethodName := ⟨"CoinNode$Pool", "clash", "(LCoinNode$Tx;)I"⟩
theorem n_6_clash : jn_is prog_8_method_6_code mi_6_clash.1 mi_6_clash.2.1 := by unfold jn_is; decide +kernel
theorem k_6_clash : jmok y_6_clash prog_8_method_6_code mi_6_clash 1 := ⟨jw_819, jw_13, ⟨by decide, by decide⟩, by decide +kernel⟩
theorem v_6_clash_17 (l : Launch) (k17 : Nat → Nat → Int32 → jH → Option (Int32 × jH)) (hk17 : ∀ a0 a1 a2 H, JV l mi_6_clash jeI 17 [(0, .ref a0), (1, .ref a1), (2, .int a2)] [] H (k17 a0 a1 a2 H)) (a0 : Nat) (a1 : Nat) (a2 : Int32) (H : jH) : JV l mi_6_clash jeI 17 [(0, .ref a0), (1, .ref a1), (2, .int a2)] [] H (B_6_clash_17 k17 a0 a1 a2 H) := by
  unfold B_6_clash_17
  refine s_28 18 rfl rfl ?_
  refine s_42 19 rfl rfl ?_
  refine s_180I 0 41 22 41 f_6_4 jw_449 rfl rfl ?_
  refine s_162 0 25 47 25 rfl rfl ?_ ?_
  · refine s_3 48 rfl ?_
    exact s_172 rfl rfl
  · refine s_43 26 rfl rfl ?_
    refine s_42 27 rfl rfl ?_
    refine s_180R 0 11 30 11 f_6_2 jw_447 rfl rfl ?_
    refine s_28 31 rfl rfl ?_
    refine s_50 32 113 jt_113 rfl ?_
    refine s_182I 0 112 35 112 (m_10_sharesKeyWith l _ _ _) rfl k_10_sharesKeyWith jc_10 jw_825 jw_826 jw_827 rfl rfl rfl rfl rfl (fun x1 h2 => ?_)
    refine s_153 0 6 41 38 rfl rfl ?_ ?_
    · refine s_132L 2 1 44 1 ji_1 rfl rfl rfl (fun x3 => ?_)
      refine s_167 255 229 17 rfl rfl ?_
      exact s_jmp (hk17 _ _ _ _) ⟨rfl, rfl, rfl, trivial⟩
    · refine s_16 13 40 13 jbp_13 rfl ?_
      exact s_172 rfl rfl
theorem w_6_clash_17 (l : Launch)  (n : Nat) : ∀ a0 a1 a2 H, JV l mi_6_clash jeI 17 [(0, .ref a0), (1, .ref a1), (2, .int a2)] [] H (F_6_clash_17  n a0 a1 a2 H) := by
  induction n with
  | zero => intro _ _ _ _; exact s_none
  | succ n ih => intro a0 a1 a2 H; exact v_6_clash_17 l (F_6_clash_17  n) ih a0 a1 a2 H
theorem v_6_clash (l : Launch) (a0 : Nat) (a1 : Nat) (H : jH) : JV l mi_6_clash jeI 0 [(0, .ref a0), (1, .ref a1)] [] H (F_6_clash a0 a1 H) := by
  unfold F_6_clash
  refine s_42 1 rfl rfl ?_
  refine s_43 2 rfl rfl ?_
  refine s_180R 0 45 5 45 f_10_3 jw_721 rfl rfl ?_
  refine s_3 6 rfl ?_
  refine s_182R 0 108 9 108 (m_6_find l _ _ _ _) rfl k_6_find jc_6 jw_820 jw_821 jw_822 rfl rfl rfl rfl rfl (fun x4 h5 => ?_)
  refine s_198 0 6 15 12 rfl rfl ?_ ?_
  · refine s_3 16 rfl ?_
    refine s_61 17 rfl rfl ?_
    exact s_jmp (w_6_clash_17 l jfuel _ _ _ _) ⟨rfl, rfl, rfl, trivial⟩
  · refine s_16 12 14 12 jbp_12 rfl ?_
    exact s_172 rfl rfl
theorem m_6_clash (l : Launch) (a0 : Nat) (a1 : Nat) (H : jH) : JMet l y_6_clash prog_8_method_6_code mi_6_clash jeI [.ref a0, .ref a1] H (F_6_clash a0 a1 H) := jmet_of n_6_clash (by decide) ⟨rfl, rfl⟩ (Nat.le_of_ble_eq_true rfl) (v_6_clash l a0 a1 H)
def mi_6_isDearer : jM := (166186494382748930278475466207644539548122226682677081041217366787513751525030422146081304089580473862554488388831061695045327590932584942717978009221722276781999262543382816, 72, 12, "CoinNode$Pool", some FieldType.boolean, "isDearer", 0, 0)
def y_6_isDearer : MethodName := ⟨"CoinNode$Pool", "isDearer", "(JJJJ)Z"⟩
theorem n_6_isDearer : jn_is prog_8_method_11_code mi_6_isDearer.1 mi_6_isDearer.2.1 := by unfold jn_is; decide +kernel
theorem k_6_isDearer : jmok y_6_isDearer prog_8_method_11_code mi_6_isDearer 4 := ⟨jw_1191, jw_13, ⟨by decide, by decide⟩, by decide +kernel⟩
theorem v_6_isDearer_13 (l : Launch)   (H : jH) : JV l mi_6_isDearer jeI 13 [] [] H (B_6_isDearer_13   H) := by
  unfold B_6_isDearer_13
  refine s_3 14 rfl ?_
  exact s_172Z rfl rfl
theorem v_6_isDearer_48 (l : Launch)  (s0 : Int32) (H : jH) : JV l mi_6_isDearer jeI 48 [] [.int s0] H (B_6_isDearer_48  s0 H) := by
  unfold B_6_isDearer_48
  exact s_172Z rfl rfl
theorem v_6_isDearer_71 (l : Launch)  (s0 : Int32) (H : jH) : JV l mi_6_isDearer jeI 71 [] [.int s0] H (B_6_isDearer_71  s0 H) := by
  unfold B_6_isDearer_71
  exact s_172Z rfl rfl
theorem v_6_isDearer (l : Launch) (a0 : Int64) (a2 : Int64) (a4 : Int64) (a6 : Int64) (H : jH) : JV l mi_6_isDearer jeI 0 [(0, .long a0), (2, .long a2), (4, .long a4), (6, .long a6)] [] H (F_6_isDearer a0 a2 a4 a6 H) := by
  unfold F_6_isDearer
  refine s_32 1 rfl rfl ?_
  refine s_9 2 rfl ?_
  refine s_148_158 0 10 13 3 6 rfl rfl rfl ?_ ?_
  · exact s_jmp (v_6_isDearer_13 l _) trivial
  · refine s_22 6 8 rfl rfl ?_
    refine s_9 9 rfl ?_
    refine s_148_157 0 5 15 10 13 rfl rfl rfl ?_ ?_
    · refine s_30 16 rfl rfl ?_
      refine s_32 17 rfl rfl ?_
      refine s_109 18 rfl ?_
      refine s_55L 8 20 rfl rfl (fun x1 => ?_)
      refine s_22 4 22 rfl rfl ?_
      refine s_22 6 24 rfl rfl ?_
      refine s_109 25 rfl ?_
      refine s_55L 10 27 rfl rfl (fun x2 => ?_)
      refine s_22 8 29 rfl rfl ?_
      refine s_22 10 31 rfl rfl ?_
      refine s_148_153 0 17 49 32 35 rfl rfl rfl ?_ ?_
      · refine s_30 50 rfl rfl ?_
        refine s_32 51 rfl rfl ?_
        refine s_113 52 rfl ?_
        refine s_22 6 54 rfl rfl ?_
        refine s_105 55 rfl ?_
        refine s_22 4 57 rfl rfl ?_
        refine s_22 6 59 rfl rfl ?_
        refine s_113 60 rfl ?_
        refine s_32 61 rfl rfl ?_
        refine s_105 62 rfl ?_
        refine s_148_158 0 7 70 63 66 rfl rfl rfl ?_ ?_
        · refine s_3 71 rfl ?_
          exact s_jmp (v_6_isDearer_71 l _ _) trivial
        · refine s_4 67 rfl ?_
          refine s_167 0 4 71 rfl rfl ?_
          exact s_jmp (v_6_isDearer_71 l _ _) trivial
      · refine s_22 8 37 rfl rfl ?_
        refine s_22 10 39 rfl rfl ?_
        refine s_148_158 0 7 47 40 43 rfl rfl rfl ?_ ?_
        · refine s_3 48 rfl ?_
          exact s_jmp (v_6_isDearer_48 l _ _) trivial
        · refine s_4 44 rfl ?_
          refine s_167 0 4 48 rfl rfl ?_
          exact s_jmp (v_6_isDearer_48 l _ _) trivial
    · exact s_jmp (v_6_isDearer_13 l _) trivial
theorem m_6_isDearer (l : Launch) (a0 : Int64) (a2 : Int64) (a4 : Int64) (a6 : Int64) (H : jH) : JMet l y_6_isDearer prog_8_method_11_code mi_6_isDearer jeI [.long a0, .long a2, .long a4, .long a6] H (F_6_isDearer a0 a2 a4 a6 H) := jmet_of n_6_isDearer (by decide) ⟨rfl, rfl⟩ (Nat.le_of_ble_eq_true rfl) (v_6_isDearer l a0 a2 a4 a6 H)
def mi_10_spendsOf : jM := (94060041416704477739478143405462408627901543410994935415491732135613062527277140476089798028926139651, 42, 3, "CoinNode$Tx", some FieldType.boolean, "spendsOf", 1, 24)
def y_10_spendsOf : MethodName := ⟨"CoinNode$Tx", "spendsOf", "(LCoinNode$Tx;)Z"⟩
theorem n_10_spendsOf : jn_is prog_12_method_15_code mi_10_spendsOf.1 mi_10_spendsOf.2.1 := by unfold jn_is; decide +kernel
theorem k_10_spendsOf : jmok y_10_spendsOf prog_12_method_15_code mi_10_spendsOf 1 := ⟨jw_1184, jw_11, ⟨by decide, by decide⟩, by decide +kernel⟩
theorem v_10_spendsOf_2 (l : Launch) (k2 : Nat → Nat → Int32 → jH → Option (Int32 × jH)) (hk2 : ∀ a0 a1 a2 H, JV l mi_10_spendsOf jeI 2 [(0, .ref a0), (1, .ref a1), (2, .int a2)] [] H (k2 a0 a1 a2 H)) (a0 : Nat) (a1 : Nat) (a2 : Int32) (H : jH) : JV l mi_10_spendsOf jeI 2 [(0, .ref a0), (1, .ref a1), (2, .int a2)] [] H (B_10_spendsOf_2 k2 a0 a1 a2 H) := by
  unfold B_10_spendsOf_2
  refine s_28 3 rfl rfl ?_
  refine s_42 4 rfl rfl ?_
  refine s_180R 0 15 7 15 f_10_4 jw_724 rfl rfl ?_
  refine s_190 8 100 jm_100 rfl ?_
  refine s_162 0 32 40 11 rfl rfl ?_ ?_
  · refine s_3 41 rfl ?_
    exact s_172Z rfl rfl
  · refine s_42 12 rfl rfl ?_
    refine s_180R 0 22 15 22 f_10_0 jw_706 rfl rfl ?_
    refine s_42 16 rfl rfl ?_
    refine s_180R 0 15 19 15 f_10_4 jw_724 rfl rfl ?_
    refine s_28 20 rfl rfl ?_
    refine s_46 21 rfl ?_
    refine s_43 22 rfl rfl ?_
    refine s_180R 0 9 25 9 f_10_3 jw_719 rfl rfl ?_
    refine s_3 26 rfl ?_
    refine s_184I 0 77 29 77 (m_3_same l _ _ _ _ _) rfl k_3_same jw_813 jw_814 rfl rfl rfl rfl rfl (fun x1 h2 => ?_)
    refine s_153 0 5 34 32 rfl rfl ?_ ?_
    · refine s_132L 2 1 37 1 ji_1 rfl rfl rfl (fun x3 => ?_)
      refine s_167 255 221 2 rfl rfl ?_
      exact s_jmp (hk2 _ _ _ _) ⟨rfl, rfl, rfl, trivial⟩
    · refine s_4 33 rfl ?_
      exact s_172Z rfl rfl
theorem w_10_spendsOf_2 (l : Launch)  (n : Nat) : ∀ a0 a1 a2 H, JV l mi_10_spendsOf jeI 2 [(0, .ref a0), (1, .ref a1), (2, .int a2)] [] H (F_10_spendsOf_2  n a0 a1 a2 H) := by
  induction n with
  | zero => intro _ _ _ _; exact s_none
  | succ n ih => intro a0 a1 a2 H; exact v_10_spendsOf_2 l (F_10_spendsOf_2  n) ih a0 a1 a2 H
theorem v_10_spendsOf (l : Launch) (a0 : Nat) (a1 : Nat) (H : jH) : JV l mi_10_spendsOf jeI 0 [(0, .ref a0), (1, .ref a1)] [] H (F_10_spendsOf a0 a1 H) := by
  unfold F_10_spendsOf
  refine s_3 1 rfl ?_
  refine s_61 2 rfl rfl ?_
  exact s_jmp (w_10_spendsOf_2 l jfuel _ _ _ _) ⟨rfl, rfl, rfl, trivial⟩
theorem m_10_spendsOf (l : Launch) (a0 : Nat) (a1 : Nat) (H : jH) : JMet l y_10_spendsOf prog_12_method_15_code mi_10_spendsOf jeI [.ref a0, .ref a1] H (F_10_spendsOf a0 a1 H) := jmet_of n_10_spendsOf (by decide) ⟨rfl, rfl⟩ (Nat.le_of_ble_eq_true rfl) (v_10_spendsOf l a0 a1 H)
def mi_6_markKin : jM := (3696929929913540026847992789786075512708637884003848234039692298851501099791669924056337243643431547509648583044211911114973205878643562301823298767210270965883965893580569237355785559237483946256829895424779809502034699190636454711405737321385864000893023109564871710182619601084981405076572057796414324446691976168287002100110023407261362147341760121090658966446034480112409208252284163, 161, 6, "CoinNode$Pool", none, "markKin", 2, 46)
def y_6_markKin : MethodName := ⟨"CoinNode$Pool", "markKin", "(LCoinNode$Tx;)V"⟩
theorem n_6_markKin : jn_is prog_8_method_9_code mi_6_markKin.1 mi_6_markKin.2.1 := by unfold jn_is; decide +kernel
theorem k_6_markKin : jmok y_6_markKin prog_8_method_9_code mi_6_markKin 1 := ⟨jw_1180, jw_13, ⟨by decide, by decide⟩, by decide +kernel⟩
theorem v_6_markKin_43 (l : Launch) (k2 : Nat → Nat → Int32 → jH → Option (Unit × jH)) (hk2 : ∀ a0 a1 a2 H, JV l mi_6_markKin jeV 2 [(0, .ref a0), (1, .ref a1), (2, .int a2)] [] H (k2 a0 a1 a2 H)) (a0 : Nat) (a1 : Nat) (a2 : Int32) (s0 : Nat) (s1 : Int32) (s2 : Int32) (H : jH) : JV l mi_6_markKin jeV 43 [(0, .ref a0), (1, .ref a1), (2, .int a2)] [.int s2, .int s1, .ref s0] H (B_6_markKin_43 k2 a0 a1 a2 s0 s1 s2 H) := by
  unfold B_6_markKin_43
  refine s_84Z 44 rfl (fun h1 => ?_)
  refine s_132L 2 1 47 1 ji_1 rfl rfl rfl (fun x2 => ?_)
  refine s_167 255 211 2 rfl rfl ?_
  exact s_jmp (hk2 _ _ _ _) ⟨rfl, rfl, rfl, trivial⟩
theorem v_6_markKin_38 (l : Launch) (k2 : Nat → Nat → Int32 → jH → Option (Unit × jH)) (hk2 : ∀ a0 a1 a2 H, JV l mi_6_markKin jeV 2 [(0, .ref a0), (1, .ref a1), (2, .int a2)] [] H (k2 a0 a1 a2 H)) (a0 : Nat) (a1 : Nat) (a2 : Int32) (s0 : Nat) (s1 : Int32) (H : jH) : JV l mi_6_markKin jeV 38 [(0, .ref a0), (1, .ref a1), (2, .int a2)] [.int s1, .ref s0] H (B_6_markKin_38 k2 a0 a1 a2 s0 s1 H) := by
  unfold B_6_markKin_38
  refine s_4 39 rfl ?_
  refine s_167 0 4 43 rfl rfl ?_
  exact s_jmp (v_6_markKin_43 l k2 hk2 _ _ _ _ _ _ _) ⟨rfl, rfl, rfl, trivial⟩
theorem v_6_markKin_142 (l : Launch) (k83 : Nat → Int32 → Int32 → Int32 → Int32 → jH → Option (Unit × jH)) (hk83 : ∀ a0 a2 a3 a4 a5 H, JV l mi_6_markKin jeV 83 [(0, .ref a0), (2, .int a2), (3, .int a3), (4, .int a4), (5, .int a5)] [] H (k83 a0 a2 a3 a4 a5 H)) (a0 : Nat) (a2 : Int32) (a3 : Int32) (a4 : Int32) (a5 : Int32) (H : jH) : JV l mi_6_markKin jeV 142 [(0, .ref a0), (2, .int a2), (3, .int a3), (4, .int a4), (5, .int a5)] [] H (B_6_markKin_142 k83 a0 a2 a3 a4 a5 H) := by
  unfold B_6_markKin_142
  refine s_132L 5 1 145 1 ji_1 rfl rfl rfl (fun x3 => ?_)
  refine s_167 255 194 83 rfl rfl ?_
  exact s_jmp (hk83 _ _ _ _ _ _) ⟨rfl, rfl, rfl, rfl, rfl, trivial⟩
theorem v_6_markKin_148 (l : Launch) (k71 : Nat → Int32 → Int32 → Int32 → jH → Option (Unit × jH)) (hk71 : ∀ a0 a2 a3 a4 H, JV l mi_6_markKin jeV 71 [(0, .ref a0), (2, .int a2), (3, .int a3), (4, .int a4)] [] H (k71 a0 a2 a3 a4 H)) (a0 : Nat) (a2 : Int32) (a3 : Int32) (a4 : Int32) (H : jH) : JV l mi_6_markKin jeV 148 [(0, .ref a0), (2, .int a2), (3, .int a3), (4, .int a4)] [] H (B_6_markKin_148 k71 a0 a2 a3 a4 H) := by
  unfold B_6_markKin_148
  refine s_132L 4 1 151 1 ji_1 rfl rfl rfl (fun x4 => ?_)
  refine s_167 255 176 71 rfl rfl ?_
  exact s_jmp (hk71 _ _ _ _ _) ⟨rfl, rfl, rfl, rfl, trivial⟩
theorem v_6_markKin_83 (l : Launch) (k71 : Nat → Int32 → Int32 → Int32 → jH → Option (Unit × jH)) (hk71 : ∀ a0 a2 a3 a4 H, JV l mi_6_markKin jeV 71 [(0, .ref a0), (2, .int a2), (3, .int a3), (4, .int a4)] [] H (k71 a0 a2 a3 a4 H)) (k83 : Nat → Int32 → Int32 → Int32 → Int32 → jH → Option (Unit × jH)) (hk83 : ∀ a0 a2 a3 a4 a5 H, JV l mi_6_markKin jeV 83 [(0, .ref a0), (2, .int a2), (3, .int a3), (4, .int a4), (5, .int a5)] [] H (k83 a0 a2 a3 a4 a5 H)) (a0 : Nat) (a2 : Int32) (a3 : Int32) (a4 : Int32) (a5 : Int32) (H : jH) : JV l mi_6_markKin jeV 83 [(0, .ref a0), (2, .int a2), (3, .int a3), (4, .int a4), (5, .int a5)] [] H (B_6_markKin_83 k71 k83 a0 a2 a3 a4 a5 H) := by
  unfold B_6_markKin_83
  refine s_21 5 85 rfl rfl ?_
  refine s_42 86 rfl rfl ?_
  refine s_180I 0 41 89 41 f_6_4 jw_449 rfl rfl ?_
  refine s_162 0 59 148 92 rfl rfl ?_ ?_
  · exact s_jmp (v_6_markKin_148 l k71 hk71 _ _ _ _ _) ⟨rfl, rfl, rfl, rfl, trivial⟩
  · refine s_42 93 rfl rfl ?_
    refine s_180R 0 22 96 22 f_6_6 jw_452 rfl rfl ?_
    refine s_21 4 98 rfl rfl ?_
    refine s_51Z 99 rfl ?_
    refine s_154 0 49 148 102 rfl rfl ?_ ?_
    · exact s_jmp (v_6_markKin_148 l k71 hk71 _ _ _ _ _) ⟨rfl, rfl, rfl, rfl, trivial⟩
    · refine s_42 103 rfl rfl ?_
      refine s_180R 0 22 106 22 f_6_6 jw_452 rfl rfl ?_
      refine s_21 5 108 rfl rfl ?_
      refine s_51Z 109 rfl ?_
      refine s_153 0 33 142 112 rfl rfl ?_ ?_
      · exact s_jmp (v_6_markKin_142 l k83 hk83 _ _ _ _ _ _) ⟨rfl, rfl, rfl, rfl, rfl, trivial⟩
      · refine s_42 113 rfl rfl ?_
        refine s_180R 0 11 116 11 f_6_2 jw_447 rfl rfl ?_
        refine s_21 4 118 rfl rfl ?_
        refine s_50 119 113 jt_113 rfl ?_
        refine s_42 120 rfl rfl ?_
        refine s_180R 0 11 123 11 f_6_2 jw_447 rfl rfl ?_
        refine s_21 5 125 rfl rfl ?_
        refine s_50 126 113 jt_113 rfl ?_
        refine s_182I 0 152 129 152 (m_10_spendsOf l _ _ _) rfl k_10_spendsOf jc_10 jw_1181 jw_1182 jw_1183 rfl rfl rfl rfl rfl (fun x5 h6 => ?_)
        refine s_153 0 13 142 132 rfl rfl ?_ ?_
        · exact s_jmp (v_6_markKin_142 l k83 hk83 _ _ _ _ _ _) ⟨rfl, rfl, rfl, rfl, rfl, trivial⟩
        · refine s_42 133 rfl rfl ?_
          refine s_180R 0 22 136 22 f_6_6 jw_452 rfl rfl ?_
          refine s_21 4 138 rfl rfl ?_
          refine s_4 139 rfl ?_
          refine s_84Z 140 rfl (fun h7 => ?_)
          refine s_4 141 rfl ?_
          refine s_61 142 rfl rfl ?_
          exact s_jmp (v_6_markKin_142 l k83 hk83 _ _ _ _ _ _) ⟨rfl, rfl, rfl, rfl, rfl, trivial⟩
theorem w_6_markKin_83 (l : Launch) (k71 : Nat → Int32 → Int32 → Int32 → jH → Option (Unit × jH)) (hk71 : ∀ a0 a2 a3 a4 H, JV l mi_6_markKin jeV 71 [(0, .ref a0), (2, .int a2), (3, .int a3), (4, .int a4)] [] H (k71 a0 a2 a3 a4 H)) (n : Nat) : ∀ a0 a2 a3 a4 a5 H, JV l mi_6_markKin jeV 83 [(0, .ref a0), (2, .int a2), (3, .int a3), (4, .int a4), (5, .int a5)] [] H (F_6_markKin_83 k71 n a0 a2 a3 a4 a5 H) := by
  induction n with
  | zero => intro _ _ _ _ _ _; exact s_none
  | succ n ih => intro a0 a2 a3 a4 a5 H; exact v_6_markKin_83 l k71 hk71 (F_6_markKin_83 k71 n) ih a0 a2 a3 a4 a5 H
theorem v_6_markKin_71 (l : Launch) (k54 : Nat → Int32 → Int32 → jH → Option (Unit × jH)) (hk54 : ∀ a0 a2 a3 H, JV l mi_6_markKin jeV 54 [(0, .ref a0), (2, .int a2), (3, .int a3)] [] H (k54 a0 a2 a3 H)) (k71 : Nat → Int32 → Int32 → Int32 → jH → Option (Unit × jH)) (hk71 : ∀ a0 a2 a3 a4 H, JV l mi_6_markKin jeV 71 [(0, .ref a0), (2, .int a2), (3, .int a3), (4, .int a4)] [] H (k71 a0 a2 a3 a4 H)) (a0 : Nat) (a2 : Int32) (a3 : Int32) (a4 : Int32) (H : jH) : JV l mi_6_markKin jeV 71 [(0, .ref a0), (2, .int a2), (3, .int a3), (4, .int a4)] [] H (B_6_markKin_71 k54 k71 a0 a2 a3 a4 H) := by
  unfold B_6_markKin_71
  refine s_21 4 73 rfl rfl ?_
  refine s_42 74 rfl rfl ?_
  refine s_180I 0 41 77 41 f_6_4 jw_449 rfl rfl ?_
  refine s_162 0 77 154 80 rfl rfl ?_ ?_
  · refine s_132L 3 1 157 1 ji_1 rfl rfl rfl (fun x8 => ?_)
    refine s_167 255 153 54 rfl rfl ?_
    exact s_jmp (hk54 _ _ _ _) ⟨rfl, rfl, rfl, trivial⟩
  · refine s_3 81 rfl ?_
    refine s_54 5 83 rfl rfl ?_
    exact s_jmp (w_6_markKin_83 l k71 hk71 jfuel _ _ _ _ _ _) ⟨rfl, rfl, rfl, rfl, rfl, trivial⟩
theorem w_6_markKin_71 (l : Launch) (k54 : Nat → Int32 → Int32 → jH → Option (Unit × jH)) (hk54 : ∀ a0 a2 a3 H, JV l mi_6_markKin jeV 54 [(0, .ref a0), (2, .int a2), (3, .int a3)] [] H (k54 a0 a2 a3 H)) (n : Nat) : ∀ a0 a2 a3 a4 H, JV l mi_6_markKin jeV 71 [(0, .ref a0), (2, .int a2), (3, .int a3), (4, .int a4)] [] H (F_6_markKin_71 k54 n a0 a2 a3 a4 H) := by
  induction n with
  | zero => intro _ _ _ _ _; exact s_none
  | succ n ih => intro a0 a2 a3 a4 H; exact v_6_markKin_71 l k54 hk54 (F_6_markKin_71 k54 n) ih a0 a2 a3 a4 H
theorem v_6_markKin_160 (l : Launch)   (H : jH) : JV l mi_6_markKin jeV 160 [] [] H (B_6_markKin_160   H) := by
  unfold B_6_markKin_160
  exact s_177 rfl rfl
theorem v_6_markKin_54 (l : Launch) (k54 : Nat → Int32 → Int32 → jH → Option (Unit × jH)) (hk54 : ∀ a0 a2 a3 H, JV l mi_6_markKin jeV 54 [(0, .ref a0), (2, .int a2), (3, .int a3)] [] H (k54 a0 a2 a3 H)) (a0 : Nat) (a2 : Int32) (a3 : Int32) (H : jH) : JV l mi_6_markKin jeV 54 [(0, .ref a0), (2, .int a2), (3, .int a3)] [] H (B_6_markKin_54 k54 a0 a2 a3 H) := by
  unfold B_6_markKin_54
  refine s_29 55 rfl rfl ?_
  refine s_42 56 rfl rfl ?_
  refine s_180I 0 41 59 41 f_6_4 jw_449 rfl rfl ?_
  refine s_162 0 101 160 62 rfl rfl ?_ ?_
  · exact s_jmp (v_6_markKin_160 l _) trivial
  · refine s_28 63 rfl rfl ?_
    refine s_153 0 97 160 66 rfl rfl ?_ ?_
    · exact s_jmp (v_6_markKin_160 l _) trivial
    · refine s_3 67 rfl ?_
      refine s_61 68 rfl rfl ?_
      refine s_3 69 rfl ?_
      refine s_54 4 71 rfl rfl ?_
      exact s_jmp (w_6_markKin_71 l k54 hk54 jfuel _ _ _ _ _) ⟨rfl, rfl, rfl, rfl, trivial⟩
theorem w_6_markKin_54 (l : Launch)  (n : Nat) : ∀ a0 a2 a3 H, JV l mi_6_markKin jeV 54 [(0, .ref a0), (2, .int a2), (3, .int a3)] [] H (F_6_markKin_54  n a0 a2 a3 H) := by
  induction n with
  | zero => intro _ _ _ _; exact s_none
  | succ n ih => intro a0 a2 a3 H; exact v_6_markKin_54 l (F_6_markKin_54  n) ih a0 a2 a3 H
theorem v_6_markKin_2 (l : Launch) (k2 : Nat → Nat → Int32 → jH → Option (Unit × jH)) (hk2 : ∀ a0 a1 a2 H, JV l mi_6_markKin jeV 2 [(0, .ref a0), (1, .ref a1), (2, .int a2)] [] H (k2 a0 a1 a2 H)) (a0 : Nat) (a1 : Nat) (a2 : Int32) (H : jH) : JV l mi_6_markKin jeV 2 [(0, .ref a0), (1, .ref a1), (2, .int a2)] [] H (B_6_markKin_2 k2 a0 a1 a2 H) := by
  unfold B_6_markKin_2
  refine s_28 3 rfl rfl ?_
  refine s_42 4 rfl rfl ?_
  refine s_180I 0 41 7 41 f_6_4 jw_449 rfl rfl ?_
  refine s_162 0 43 50 10 rfl rfl ?_ ?_
  · refine s_4 51 rfl ?_
    refine s_61 52 rfl rfl ?_
    refine s_3 53 rfl ?_
    refine s_62 54 rfl rfl ?_
    exact s_jmp (w_6_markKin_54 l jfuel _ _ _ _) ⟨rfl, rfl, rfl, trivial⟩
  · refine s_42 11 rfl rfl ?_
    refine s_180R 0 22 14 22 f_6_6 jw_452 rfl rfl ?_
    refine s_28 15 rfl rfl ?_
    refine s_42 16 rfl rfl ?_
    refine s_180R 0 11 19 11 f_6_2 jw_447 rfl rfl ?_
    refine s_28 20 rfl rfl ?_
    refine s_50 21 113 jt_113 rfl ?_
    refine s_43 22 rfl rfl ?_
    refine s_165 0 16 38 25 rfl rfl ?_ ?_
    · exact s_jmp (v_6_markKin_38 l k2 hk2 _ _ _ _ _ _) ⟨rfl, rfl, rfl, trivial⟩
    · refine s_42 26 rfl rfl ?_
      refine s_180R 0 11 29 11 f_6_2 jw_447 rfl rfl ?_
      refine s_28 30 rfl rfl ?_
      refine s_50 31 113 jt_113 rfl ?_
      refine s_43 32 rfl rfl ?_
      refine s_182I 0 152 35 152 (m_10_spendsOf l _ _ _) rfl k_10_spendsOf jc_10 jw_1181 jw_1182 jw_1183 rfl rfl rfl rfl rfl (fun x9 h10 => ?_)
      refine s_153 0 7 42 38 rfl rfl ?_ ?_
      · refine s_3 43 rfl ?_
        exact s_jmp (v_6_markKin_43 l k2 hk2 _ _ _ _ _ _ _) ⟨rfl, rfl, rfl, trivial⟩
      · exact s_jmp (v_6_markKin_38 l k2 hk2 _ _ _ _ _ _) ⟨rfl, rfl, rfl, trivial⟩
theorem w_6_markKin_2 (l : Launch)  (n : Nat) : ∀ a0 a1 a2 H, JV l mi_6_markKin jeV 2 [(0, .ref a0), (1, .ref a1), (2, .int a2)] [] H (F_6_markKin_2  n a0 a1 a2 H) := by
  induction n with
  | zero => intro _ _ _ _; exact s_none
  | succ n ih => intro a0 a1 a2 H; exact v_6_markKin_2 l (F_6_markKin_2  n) ih a0 a1 a2 H
theorem v_6_markKin (l : Launch) (a0 : Nat) (a1 : Nat) (H : jH) : JV l mi_6_markKin jeV 0 [(0, .ref a0), (1, .ref a1)] [] H (F_6_markKin a0 a1 H) := by
  unfold F_6_markKin
  refine s_3 1 rfl ?_
  refine s_61 2 rfl rfl ?_
  exact s_jmp (w_6_markKin_2 l jfuel _ _ _ _) ⟨rfl, rfl, rfl, trivial⟩
theorem m_6_markKin (l : Launch) (a0 : Nat) (a1 : Nat) (H : jH) : JMet l y_6_markKin prog_8_method_9_code mi_6_markKin jeV [.ref a0, .ref a1] H (F_6_markKin a0 a1 H) := jmet_of n_6_markKin (by decide) ⟨rfl, rfl⟩ (Nat.le_of_ble_eq_true rfl) (v_6_markKin l a0 a1 H)
def mi_6_dropLeast : jM := (5056377072080510619108890237584961477823709466511225596728679775396595467027406382692071134273530485813414999176437713908858905856176709303884618563056658377869002432303234120980480954119773498387731535295843973034306705107698801760418884429933701851009720951466203589929548478786951241013015772801436840260617175791464425167058586167641586293283607768672837409361794749430694379593928407053112123563349546191696950723533791791174091301094086692016195551013669827450942431425384201444408259757703608284073874769794817385748443913784532175311148216679100568518799966963325883902859791661247879164569068326187, 252, 13, "CoinNode$Pool", some FieldType.boolean, "dropLeast", 3, 71)
def y_6_dropLeast : MethodName := ⟨"CoinNode$Pool", "dropLeast", "(LCoinNode$Tx;)Z"⟩
theorem n_6_dropLeast : jn_is prog_8_method_10_code mi_6_dropLeast.1 mi_6_dropLeast.2.1 := by unfold jn_is; decide +kernel
theorem k_6_dropLeast : jmok y_6_dropLeast prog_8_method_10_code mi_6_dropLeast 1 := ⟨jw_1188, jw_13, ⟨by decide, by decide⟩, by decide +kernel⟩
theorem v_6_dropLeast_101 (l : Launch) (k39 : Nat → Nat → Nat → Int64 → Int64 → Int32 → Int64 → Int64 → Int32 → jH → Option (Int32 × jH)) (hk39 : ∀ a0 a1 a2 a3 a5 a7 a8 a10 a12 H, JV l mi_6_dropLeast jeI 39 [(0, .ref a0), (1, .ref a1), (2, .ref a2), (3, .long a3), (5, .long a5), (7, .int a7), (8, .long a8), (10, .long a10), (12, .int a12)] [] H (k39 a0 a1 a2 a3 a5 a7 a8 a10 a12 H)) (a0 : Nat) (a1 : Nat) (a2 : Nat) (a3 : Int64) (a5 : Int64) (a7 : Int32) (a8 : Int64) (a12 : Int32) (s0 : Int64) (s1 : Int64) (H : jH) : JV l mi_6_dropLeast jeI 101 [(0, .ref a0), (1, .ref a1), (2, .ref a2), (3, .long a3), (5, .long a5), (7, .int a7), (8, .long a8), (12, .int a12)] [.long s1, .long s0] H (B_6_dropLeast_101 k39 a0 a1 a2 a3 a5 a7 a8 a12 s0 s1 H) := by
  unfold B_6_dropLeast_101
  refine s_97 102 rfl ?_
  refine s_55L 10 104 rfl rfl (fun x1 => ?_)
  refine s_132L 12 1 107 1 ji_1 rfl rfl rfl (fun x2 => ?_)
  refine s_167 255 188 39 rfl rfl ?_
  exact s_jmp (hk39 _ _ _ _ _ _ _ _ _ _) ⟨rfl, rfl, rfl, rfl, rfl, rfl, rfl, rfl, rfl, trivial⟩
theorem v_6_dropLeast_71 (l : Launch) (k39 : Nat → Nat → Nat → Int64 → Int64 → Int32 → Int64 → Int64 → Int32 → jH → Option (Int32 × jH)) (hk39 : ∀ a0 a1 a2 a3 a5 a7 a8 a10 a12 H, JV l mi_6_dropLeast jeI 39 [(0, .ref a0), (1, .ref a1), (2, .ref a2), (3, .long a3), (5, .long a5), (7, .int a7), (8, .long a8), (10, .long a10), (12, .int a12)] [] H (k39 a0 a1 a2 a3 a5 a7 a8 a10 a12 H)) (a0 : Nat) (a1 : Nat) (a2 : Nat) (a3 : Int64) (a5 : Int64) (a7 : Int32) (a10 : Int64) (a12 : Int32) (s0 : Int64) (s1 : Int64) (H : jH) : JV l mi_6_dropLeast jeI 71 [(0, .ref a0), (1, .ref a1), (2, .ref a2), (3, .long a3), (5, .long a5), (7, .int a7), (10, .long a10), (12, .int a12)] [.long s1, .long s0] H (B_6_dropLeast_71 k39 a0 a1 a2 a3 a5 a7 a10 a12 s0 s1 H) := by
  unfold B_6_dropLeast_71
  refine s_97 72 rfl ?_
  refine s_jmp (ls' := [(0, .ref a0), (1, .ref a1), (2, .ref a2), (3, .long a3), (5, .long a5), (7, .int a7), (10, .long a10), (12, .int a12)]) ?_ ⟨rfl, rfl, rfl, rfl, rfl, rfl, rfl, rfl, trivial⟩
  refine s_55L 8 74 rfl rfl (fun x3 => ?_)
  refine s_22 10 76 rfl rfl ?_
  refine s_42 77 rfl rfl ?_
  refine s_180R 0 22 80 22 f_6_6 jw_452 rfl rfl ?_
  refine s_21 12 82 rfl rfl ?_
  refine s_51Z 83 rfl ?_
  refine s_153 0 17 100 86 rfl rfl ?_ ?_
  · refine s_9 101 rfl ?_
    exact s_jmp (v_6_dropLeast_101 l k39 hk39 _ _ _ _ _ _ _ _ _ _ _) ⟨rfl, rfl, rfl, rfl, rfl, rfl, rfl, rfl, trivial⟩
  · refine s_42 87 rfl rfl ?_
    refine s_180R 0 11 90 11 f_6_2 jw_447 rfl rfl ?_
    refine s_21 12 92 rfl rfl ?_
    refine s_50 93 113 jt_113 rfl ?_
    refine s_180I 0 155 96 155 f_10_2 jw_717 rfl rfl ?_
    refine s_133 97 rfl ?_
    refine s_167 0 4 101 rfl rfl ?_
    exact s_jmp (v_6_dropLeast_101 l k39 hk39 _ _ _ _ _ _ _ _ _ _ _) ⟨rfl, rfl, rfl, rfl, rfl, rfl, rfl, rfl, trivial⟩
theorem v_6_dropLeast_143 (l : Launch) (k10 : Nat → Nat → Nat → Int64 → Int64 → Int32 → jH → Option (Int32 × jH)) (hk10 : ∀ a0 a1 a2 a3 a5 a7 H, JV l mi_6_dropLeast jeI 10 [(0, .ref a0), (1, .ref a1), (2, .ref a2), (3, .long a3), (5, .long a5), (7, .int a7)] [] H (k10 a0 a1 a2 a3 a5 a7 H)) (a0 : Nat) (a1 : Nat) (a2 : Nat) (a3 : Int64) (a5 : Int64) (a7 : Int32) (H : jH) : JV l mi_6_dropLeast jeI 143 [(0, .ref a0), (1, .ref a1), (2, .ref a2), (3, .long a3), (5, .long a5), (7, .int a7)] [] H (B_6_dropLeast_143 k10 a0 a1 a2 a3 a5 a7 H) := by
  unfold B_6_dropLeast_143
  refine s_132L 7 1 146 1 ji_1 rfl rfl rfl (fun x4 => ?_)
  refine s_167 255 120 10 rfl rfl ?_
  exact s_jmp (hk10 _ _ _ _ _ _ _) ⟨rfl, rfl, rfl, rfl, rfl, rfl, trivial⟩
theorem v_6_dropLeast_128 (l : Launch) (k10 : Nat → Nat → Nat → Int64 → Int64 → Int32 → jH → Option (Int32 × jH)) (hk10 : ∀ a0 a1 a2 a3 a5 a7 H, JV l mi_6_dropLeast jeI 10 [(0, .ref a0), (1, .ref a1), (2, .ref a2), (3, .long a3), (5, .long a5), (7, .int a7)] [] H (k10 a0 a1 a2 a3 a5 a7 H)) (a0 : Nat) (a1 : Nat) (a7 : Int32) (a8 : Int64) (a10 : Int64) (H : jH) : JV l mi_6_dropLeast jeI 128 [(0, .ref a0), (1, .ref a1), (7, .int a7), (8, .long a8), (10, .long a10)] [] H (B_6_dropLeast_128 k10 a0 a1 a7 a8 a10 H) := by
  unfold B_6_dropLeast_128
  refine s_42 129 rfl rfl ?_
  refine s_180R 0 11 132 11 f_6_2 jw_447 rfl rfl ?_
  refine s_21 7 134 rfl rfl ?_
  refine s_50 135 113 jt_113 rfl ?_
  refine s_77L 136 rfl rfl (fun x5 => ?_)
  refine s_22 8 138 rfl rfl ?_
  refine s_66 139 rfl rfl ?_
  refine s_22 10 141 rfl rfl ?_
  refine s_55 5 143 rfl rfl ?_
  exact s_jmp (v_6_dropLeast_143 l k10 hk10 _ _ _ _ _ _ _) ⟨rfl, rfl, rfl, rfl, rfl, rfl, trivial⟩
theorem v_6_dropLeast_39 (l : Launch) (k10 : Nat → Nat → Nat → Int64 → Int64 → Int32 → jH → Option (Int32 × jH)) (hk10 : ∀ a0 a1 a2 a3 a5 a7 H, JV l mi_6_dropLeast jeI 10 [(0, .ref a0), (1, .ref a1), (2, .ref a2), (3, .long a3), (5, .long a5), (7, .int a7)] [] H (k10 a0 a1 a2 a3 a5 a7 H)) (k39 : Nat → Nat → Nat → Int64 → Int64 → Int32 → Int64 → Int64 → Int32 → jH → Option (Int32 × jH)) (hk39 : ∀ a0 a1 a2 a3 a5 a7 a8 a10 a12 H, JV l mi_6_dropLeast jeI 39 [(0, .ref a0), (1, .ref a1), (2, .ref a2), (3, .long a3), (5, .long a5), (7, .int a7), (8, .long a8), (10, .long a10), (12, .int a12)] [] H (k39 a0 a1 a2 a3 a5 a7 a8 a10 a12 H)) (a0 : Nat) (a1 : Nat) (a2 : Nat) (a3 : Int64) (a5 : Int64) (a7 : Int32) (a8 : Int64) (a10 : Int64) (a12 : Int32) (H : jH) : JV l mi_6_dropLeast jeI 39 [(0, .ref a0), (1, .ref a1), (2, .ref a2), (3, .long a3), (5, .long a5), (7, .int a7), (8, .long a8), (10, .long a10), (12, .int a12)] [] H (B_6_dropLeast_39 k10 k39 a0 a1 a2 a3 a5 a7 a8 a10 a12 H) := by
  unfold B_6_dropLeast_39
  refine s_21 12 41 rfl rfl ?_
  refine s_42 42 rfl rfl ?_
  refine s_180I 0 41 45 41 f_6_4 jw_449 rfl rfl ?_
  refine s_162 0 65 110 48 rfl rfl ?_ ?_
  · refine s_21 7 112 rfl rfl ?_
    refine s_153 0 16 128 115 rfl rfl ?_ ?_
    · exact s_jmp (v_6_dropLeast_128 l k10 hk10 _ _ _ _ _ _) ⟨rfl, rfl, rfl, rfl, rfl, trivial⟩
    · refine s_22 8 117 rfl rfl ?_
      refine s_22 10 119 rfl rfl ?_
      refine s_33 120 rfl rfl ?_
      refine s_22 5 122 rfl rfl ?_
      refine s_184I 0 158 125 158 (m_6_isDearer l _ _ _ _ _) rfl k_6_isDearer jw_1189 jw_1190 rfl rfl rfl rfl rfl (fun x6 h7 => ?_)
      refine s_154 0 18 143 128 rfl rfl ?_ ?_
      · exact s_jmp (v_6_dropLeast_143 l k10 hk10 _ _ _ _ _ _ _) ⟨rfl, rfl, rfl, rfl, rfl, rfl, trivial⟩
      · exact s_jmp (v_6_dropLeast_128 l k10 hk10 _ _ _ _ _ _) ⟨rfl, rfl, rfl, rfl, rfl, trivial⟩
  · refine s_22 8 50 rfl rfl ?_
    refine s_42 51 rfl rfl ?_
    refine s_180R 0 22 54 22 f_6_6 jw_452 rfl rfl ?_
    refine s_21 12 56 rfl rfl ?_
    refine s_51Z 57 rfl ?_
    refine s_153 0 13 70 60 rfl rfl ?_ ?_
    · refine s_9 71 rfl ?_
      exact s_jmp (v_6_dropLeast_71 l k39 hk39 _ _ _ _ _ _ _ _ _ _ _) ⟨rfl, rfl, rfl, rfl, rfl, rfl, rfl, rfl, trivial⟩
    · refine s_42 61 rfl rfl ?_
      refine s_180R 0 15 64 15 f_6_3 jw_448 rfl rfl ?_
      refine s_21 12 66 rfl rfl ?_
      refine s_47 67 rfl ?_
      refine s_167 0 4 71 rfl rfl ?_
      exact s_jmp (v_6_dropLeast_71 l k39 hk39 _ _ _ _ _ _ _ _ _ _ _) ⟨rfl, rfl, rfl, rfl, rfl, rfl, rfl, rfl, trivial⟩
theorem w_6_dropLeast_39 (l : Launch) (k10 : Nat → Nat → Nat → Int64 → Int64 → Int32 → jH → Option (Int32 × jH)) (hk10 : ∀ a0 a1 a2 a3 a5 a7 H, JV l mi_6_dropLeast jeI 10 [(0, .ref a0), (1, .ref a1), (2, .ref a2), (3, .long a3), (5, .long a5), (7, .int a7)] [] H (k10 a0 a1 a2 a3 a5 a7 H)) (n : Nat) : ∀ a0 a1 a2 a3 a5 a7 a8 a10 a12 H, JV l mi_6_dropLeast jeI 39 [(0, .ref a0), (1, .ref a1), (2, .ref a2), (3, .long a3), (5, .long a5), (7, .int a7), (8, .long a8), (10, .long a10), (12, .int a12)] [] H (F_6_dropLeast_39 k10 n a0 a1 a2 a3 a5 a7 a8 a10 a12 H) := by
  induction n with
  | zero => intro _ _ _ _ _ _ _ _ _ _; exact s_none
  | succ n ih => intro a0 a1 a2 a3 a5 a7 a8 a10 a12 H; exact v_6_dropLeast_39 l k10 hk10 (F_6_dropLeast_39 k10 n) ih a0 a1 a2 a3 a5 a7 a8 a10 a12 H
theorem v_6_dropLeast_237 (l : Launch) (k163 : Nat → Nat → Int32 → Int32 → Int32 → jH → Option (Int32 × jH)) (hk163 : ∀ a0 a1 a7 a8 a9 H, JV l mi_6_dropLeast jeI 163 [(0, .ref a0), (1, .ref a1), (7, .int a7), (8, .int a8), (9, .int a9)] [] H (k163 a0 a1 a7 a8 a9 H)) (a0 : Nat) (a1 : Nat) (a7 : Int32) (a8 : Int32) (a9 : Int32) (H : jH) : JV l mi_6_dropLeast jeI 237 [(0, .ref a0), (1, .ref a1), (7, .int a7), (8, .int a8), (9, .int a9)] [] H (B_6_dropLeast_237 k163 a0 a1 a7 a8 a9 H) := by
  unfold B_6_dropLeast_237
  refine s_132L 9 1 240 1 ji_1 rfl rfl rfl (fun x8 => ?_)
  refine s_167 255 179 163 rfl rfl ?_
  exact s_jmp (hk163 _ _ _ _ _ _) ⟨rfl, rfl, rfl, rfl, rfl, trivial⟩
theorem v_6_dropLeast_200 (l : Launch) (k163 : Nat → Nat → Int32 → Int32 → Int32 → jH → Option (Int32 × jH)) (hk163 : ∀ a0 a1 a7 a8 a9 H, JV l mi_6_dropLeast jeI 163 [(0, .ref a0), (1, .ref a1), (7, .int a7), (8, .int a8), (9, .int a9)] [] H (k163 a0 a1 a7 a8 a9 H)) (a0 : Nat) (a1 : Nat) (a7 : Int32) (a9 : Int32) (s0 : Int32) (s1 : Int32) (H : jH) : JV l mi_6_dropLeast jeI 200 [(0, .ref a0), (1, .ref a1), (7, .int a7), (9, .int a9)] [.int s1, .int s0] H (B_6_dropLeast_200 k163 a0 a1 a7 a9 s0 s1 H) := by
  unfold B_6_dropLeast_200
  refine s_128 201 rfl ?_
  refine s_54L 8 203 rfl rfl (fun x9 => ?_)
  refine s_167 0 34 237 rfl rfl ?_
  exact s_jmp (v_6_dropLeast_237 l k163 hk163 _ _ _ _ _ _) ⟨rfl, rfl, rfl, rfl, rfl, trivial⟩
theorem v_6_dropLeast_163 (l : Launch) (k163 : Nat → Nat → Int32 → Int32 → Int32 → jH → Option (Int32 × jH)) (hk163 : ∀ a0 a1 a7 a8 a9 H, JV l mi_6_dropLeast jeI 163 [(0, .ref a0), (1, .ref a1), (7, .int a7), (8, .int a8), (9, .int a9)] [] H (k163 a0 a1 a7 a8 a9 H)) (a0 : Nat) (a1 : Nat) (a7 : Int32) (a8 : Int32) (a9 : Int32) (H : jH) : JV l mi_6_dropLeast jeI 163 [(0, .ref a0), (1, .ref a1), (7, .int a7), (8, .int a8), (9, .int a9)] [] H (B_6_dropLeast_163 k163 a0 a1 a7 a8 a9 H) := by
  unfold B_6_dropLeast_163
  refine s_21 9 165 rfl rfl ?_
  refine s_42 166 rfl rfl ?_
  refine s_180I 0 41 169 41 f_6_4 jw_449 rfl rfl ?_
  refine s_162 0 74 243 172 rfl rfl ?_ ?_
  · refine s_42 244 rfl rfl ?_
    refine s_21 7 246 rfl rfl ?_
    refine s_181I 0 41 249 41 f_6_4 rfl rfl jw_449 rfl rfl (fun h10 => ?_)
    refine s_21 8 251 rfl rfl ?_
    exact s_172Z rfl rfl
  · refine s_42 173 rfl rfl ?_
    refine s_180R 0 22 176 22 f_6_6 jw_452 rfl rfl ?_
    refine s_21 9 178 rfl rfl ?_
    refine s_51Z 179 rfl ?_
    refine s_153 0 27 206 182 rfl rfl ?_ ?_
    · refine s_42 207 rfl rfl ?_
      refine s_180R 0 11 210 11 f_6_2 jw_447 rfl rfl ?_
      refine s_21 7 212 rfl rfl ?_
      refine s_42 213 rfl rfl ?_
      refine s_180R 0 11 216 11 f_6_2 jw_447 rfl rfl ?_
      refine s_21 9 218 rfl rfl ?_
      refine s_50 219 113 jt_113 rfl ?_
      refine s_83 220 113 10 js_113 jc_10 rfl (fun h11 => ?_)
      refine s_42 221 rfl rfl ?_
      refine s_180R 0 15 224 15 f_6_3 jw_448 rfl rfl ?_
      refine s_21 7 226 rfl rfl ?_
      refine s_42 227 rfl rfl ?_
      refine s_180R 0 15 230 15 f_6_3 jw_448 rfl rfl ?_
      refine s_21 9 232 rfl rfl ?_
      refine s_47 233 rfl ?_
      refine s_80 234 rfl (fun h12 => ?_)
      refine s_132L 7 1 237 1 ji_1 rfl rfl rfl (fun x13 => ?_)
      exact s_jmp (v_6_dropLeast_237 l k163 hk163 _ _ _ _ _ _) ⟨rfl, rfl, rfl, rfl, rfl, trivial⟩
    · refine s_21 8 184 rfl rfl ?_
      refine s_42 185 rfl rfl ?_
      refine s_180R 0 11 188 11 f_6_2 jw_447 rfl rfl ?_
      refine s_21 9 190 rfl rfl ?_
      refine s_50 191 113 jt_113 rfl ?_
      refine s_43 192 rfl rfl ?_
      refine s_166 0 7 199 195 rfl rfl ?_ ?_
      · refine s_3 200 rfl ?_
        exact s_jmp (v_6_dropLeast_200 l k163 hk163 _ _ _ _ _ _ _) ⟨rfl, rfl, rfl, rfl, trivial⟩
      · refine s_4 196 rfl ?_
        refine s_167 0 4 200 rfl rfl ?_
        exact s_jmp (v_6_dropLeast_200 l k163 hk163 _ _ _ _ _ _ _) ⟨rfl, rfl, rfl, rfl, trivial⟩
theorem w_6_dropLeast_163 (l : Launch)  (n : Nat) : ∀ a0 a1 a7 a8 a9 H, JV l mi_6_dropLeast jeI 163 [(0, .ref a0), (1, .ref a1), (7, .int a7), (8, .int a8), (9, .int a9)] [] H (F_6_dropLeast_163  n a0 a1 a7 a8 a9 H) := by
  induction n with
  | zero => intro _ _ _ _ _ _; exact s_none
  | succ n ih => intro a0 a1 a7 a8 a9 H; exact v_6_dropLeast_163 l (F_6_dropLeast_163  n) ih a0 a1 a7 a8 a9 H
theorem v_6_dropLeast_10 (l : Launch) (k10 : Nat → Nat → Nat → Int64 → Int64 → Int32 → jH → Option (Int32 × jH)) (hk10 : ∀ a0 a1 a2 a3 a5 a7 H, JV l mi_6_dropLeast jeI 10 [(0, .ref a0), (1, .ref a1), (2, .ref a2), (3, .long a3), (5, .long a5), (7, .int a7)] [] H (k10 a0 a1 a2 a3 a5 a7 H)) (a0 : Nat) (a1 : Nat) (a2 : Nat) (a3 : Int64) (a5 : Int64) (a7 : Int32) (H : jH) : JV l mi_6_dropLeast jeI 10 [(0, .ref a0), (1, .ref a1), (2, .ref a2), (3, .long a3), (5, .long a5), (7, .int a7)] [] H (B_6_dropLeast_10 k10 a0 a1 a2 a3 a5 a7 H) := by
  unfold B_6_dropLeast_10
  refine s_21 7 12 rfl rfl ?_
  refine s_42 13 rfl rfl ?_
  refine s_180I 0 41 16 41 f_6_4 jw_449 rfl rfl ?_
  refine s_162 0 133 149 19 rfl rfl ?_ ?_
  · refine s_42 150 rfl rfl ?_
    refine s_44 151 rfl rfl ?_
    refine s_182V 0 148 154 148 (m_6_markKin l _ _ _) rfl k_6_markKin jc_6 jw_1177 jw_1179 jps_30 rfl rfl rfl rfl rfl (fun x14 h15 => ?_)
    refine s_3 155 rfl ?_
    refine s_54 7 157 rfl rfl ?_
    refine s_3 158 rfl ?_
    refine s_54 8 160 rfl rfl ?_
    refine s_3 161 rfl ?_
    refine s_jmp (ls' := [(0, .ref a0), (1, .ref a1), (2, .ref a2), (3, .long a3), (5, .long a5), (7, .int 0), (8, .int 0)]) ?_ ⟨rfl, rfl, rfl, rfl, rfl, rfl, rfl, trivial⟩
    refine s_54 9 163 rfl rfl ?_
    exact s_jmp (w_6_dropLeast_163 l jfuel _ _ _ _ _ _) ⟨rfl, rfl, rfl, rfl, rfl, trivial⟩
  · refine s_42 20 rfl rfl ?_
    refine s_42 21 rfl rfl ?_
    refine s_180R 0 11 24 11 f_6_2 jw_447 rfl rfl ?_
    refine s_21 7 26 rfl rfl ?_
    refine s_50 27 113 jt_113 rfl ?_
    refine s_182V 0 148 30 148 (m_6_markKin l _ _ _) rfl k_6_markKin jc_6 jw_1177 jw_1179 jps_30 rfl rfl rfl rfl rfl (fun x16 h17 => ?_)
    refine s_9 31 rfl ?_
    refine s_jmp (ls' := [(0, .ref a0), (1, .ref a1), (2, .ref a2), (3, .long a3), (5, .long a5), (7, .int a7)]) ?_ ⟨rfl, rfl, rfl, rfl, rfl, rfl, trivial⟩
    refine s_55 8 33 rfl rfl ?_
    refine s_9 34 rfl ?_
    refine s_55 10 36 rfl rfl ?_
    refine s_3 37 rfl ?_
    refine s_54 12 39 rfl rfl ?_
    exact s_jmp (w_6_dropLeast_39 l k10 hk10 jfuel _ _ _ _ _ _ _ _ _ _) ⟨rfl, rfl, rfl, rfl, rfl, rfl, rfl, rfl, rfl, trivial⟩
theorem w_6_dropLeast_10 (l : Launch)  (n : Nat) : ∀ a0 a1 a2 a3 a5 a7 H, JV l mi_6_dropLeast jeI 10 [(0, .ref a0), (1, .ref a1), (2, .ref a2), (3, .long a3), (5, .long a5), (7, .int a7)] [] H (F_6_dropLeast_10  n a0 a1 a2 a3 a5 a7 H) := by
  induction n with
  | zero => intro _ _ _ _ _ _ _; exact s_none
  | succ n ih => intro a0 a1 a2 a3 a5 a7 H; exact v_6_dropLeast_10 l (F_6_dropLeast_10  n) ih a0 a1 a2 a3 a5 a7 H
theorem v_6_dropLeast (l : Launch) (a0 : Nat) (a1 : Nat) (H : jH) : JV l mi_6_dropLeast jeI 0 [(0, .ref a0), (1, .ref a1)] [] H (F_6_dropLeast a0 a1 H) := by
  unfold F_6_dropLeast
  refine s_43 1 rfl rfl ?_
  refine s_77 2 rfl rfl ?_
  refine s_9 3 rfl ?_
  refine s_66 4 rfl rfl ?_
  refine s_9 5 rfl ?_
  refine s_55 5 7 rfl rfl ?_
  refine s_3 8 rfl ?_
  refine s_54 7 10 rfl rfl ?_
  exact s_jmp (w_6_dropLeast_10 l jfuel _ _ _ _ _ _ _) ⟨rfl, rfl, rfl, rfl, rfl, rfl, trivial⟩
theorem m_6_dropLeast (l : Launch) (a0 : Nat) (a1 : Nat) (H : jH) : JMet l y_6_dropLeast prog_8_method_10_code mi_6_dropLeast jeI [.ref a0, .ref a1] H (F_6_dropLeast a0 a1 H) := jmet_of n_6_dropLeast (by decide) ⟨rfl, rfl⟩ (Nat.le_of_ble_eq_true rfl) (v_6_dropLeast l a0 a1 H)
def mi_10_missesOutputOf : jM := (536987003303323893701468408940594264558991214287735649686858009440025367647633150529410234417362104410575433505669704441589710694327844525370522883, 61, 4, "CoinNode$Tx", some FieldType.boolean, "missesOutputOf", 2, 42)
def y_10_missesOutputOf : MethodName := ⟨"CoinNode$Tx", "missesOutputOf", "(LCoinNode$Tx;)Z"⟩
theorem n_10_missesOutputOf : jn_is prog_12_method_17_code mi_10_missesOutputOf.1 mi_10_missesOutputOf.2.1 := by unfold jn_is; decide +kernel
theorem k_10_missesOutputOf : jmok y_10_missesOutputOf prog_12_method_17_code mi_10_missesOutputOf 1 := ⟨jw_1176, jw_11, ⟨by decide, by decide⟩, by decide +kernel⟩
theorem v_10_missesOutputOf_53 (l : Launch) (k2 : Nat → Nat → Int32 → jH → Option (Int32 × jH)) (hk2 : ∀ a0 a1 a2 H, JV l mi_10_missesOutputOf jeI 2 [(0, .ref a0), (1, .ref a1), (2, .int a2)] [] H (k2 a0 a1 a2 H)) (a0 : Nat) (a1 : Nat) (a2 : Int32) (H : jH) : JV l mi_10_missesOutputOf jeI 53 [(0, .ref a0), (1, .ref a1), (2, .int a2)] [] H (B_10_missesOutputOf_53 k2 a0 a1 a2 H) := by
  unfold B_10_missesOutputOf_53
  refine s_132L 2 1 56 1 ji_1 rfl rfl rfl (fun x1 => ?_)
  refine s_167 255 202 2 rfl rfl ?_
  exact s_jmp (hk2 _ _ _ _) ⟨rfl, rfl, rfl, trivial⟩
theorem v_10_missesOutputOf_30 (l : Launch) (k2 : Nat → Nat → Int32 → jH → Option (Int32 × jH)) (hk2 : ∀ a0 a1 a2 H, JV l mi_10_missesOutputOf jeI 2 [(0, .ref a0), (1, .ref a1), (2, .int a2)] [] H (k2 a0 a1 a2 H)) (a0 : Nat) (a1 : Nat) (a2 : Int32) (H : jH) : JV l mi_10_missesOutputOf jeI 30 [(0, .ref a0), (1, .ref a1), (2, .int a2)] [] H (B_10_missesOutputOf_30 k2 a0 a1 a2 H) := by
  unfold B_10_missesOutputOf_30
  refine s_42 31 rfl rfl ?_
  refine s_180R 0 22 34 22 f_10_0 jw_706 rfl rfl ?_
  refine s_42 35 rfl rfl ?_
  refine s_180R 0 15 38 15 f_10_4 jw_724 rfl rfl ?_
  refine s_28 39 rfl rfl ?_
  refine s_46 40 rfl ?_
  refine s_43 41 rfl rfl ?_
  refine s_180R 0 9 44 9 f_10_3 jw_719 rfl rfl ?_
  refine s_3 45 rfl ?_
  refine s_184I 0 77 48 77 (m_3_same l _ _ _ _ _) rfl k_3_same jw_813 jw_814 rfl rfl rfl rfl rfl (fun x2 h3 => ?_)
  refine s_153 0 5 53 51 rfl rfl ?_ ?_
  · exact s_jmp (v_10_missesOutputOf_53 l k2 hk2 _ _ _ _) ⟨rfl, rfl, rfl, trivial⟩
  · refine s_4 52 rfl ?_
    exact s_172Z rfl rfl
theorem v_10_missesOutputOf_2 (l : Launch) (k2 : Nat → Nat → Int32 → jH → Option (Int32 × jH)) (hk2 : ∀ a0 a1 a2 H, JV l mi_10_missesOutputOf jeI 2 [(0, .ref a0), (1, .ref a1), (2, .int a2)] [] H (k2 a0 a1 a2 H)) (a0 : Nat) (a1 : Nat) (a2 : Int32) (H : jH) : JV l mi_10_missesOutputOf jeI 2 [(0, .ref a0), (1, .ref a1), (2, .int a2)] [] H (B_10_missesOutputOf_2 k2 a0 a1 a2 H) := by
  unfold B_10_missesOutputOf_2
  refine s_28 3 rfl rfl ?_
  refine s_42 4 rfl rfl ?_
  refine s_180R 0 15 7 15 f_10_4 jw_724 rfl rfl ?_
  refine s_190 8 100 jm_100 rfl ?_
  refine s_162 0 51 59 11 rfl rfl ?_ ?_
  · refine s_3 60 rfl ?_
    exact s_172Z rfl rfl
  · refine s_42 12 rfl rfl ?_
    refine s_28 13 rfl rfl ?_
    refine s_182I 0 74 16 74 (m_10_index l _ _ _) rfl k_10_index jc_10 jw_809 jw_810 jw_811 rfl rfl rfl rfl rfl (fun x4 h5 => ?_)
    refine s_62 17 rfl rfl ?_
    refine s_29 18 rfl rfl ?_
    refine s_155 0 12 30 21 rfl rfl ?_ ?_
    · exact s_jmp (v_10_missesOutputOf_30 l k2 hk2 _ _ _ _) ⟨rfl, rfl, rfl, trivial⟩
    · refine s_29 22 rfl rfl ?_
      refine s_43 23 rfl rfl ?_
      refine s_180R 0 19 26 19 f_10_5 jw_729 rfl rfl ?_
      refine s_190 27 100 jm_100 rfl ?_
      refine s_161 0 26 53 30 rfl rfl ?_ ?_
      · exact s_jmp (v_10_missesOutputOf_53 l k2 hk2 _ _ _ _) ⟨rfl, rfl, rfl, trivial⟩
      · exact s_jmp (v_10_missesOutputOf_30 l k2 hk2 _ _ _ _) ⟨rfl, rfl, rfl, trivial⟩
theorem w_10_missesOutputOf_2 (l : Launch)  (n : Nat) : ∀ a0 a1 a2 H, JV l mi_10_missesOutputOf jeI 2 [(0, .ref a0), (1, .ref a1), (2, .int a2)] [] H (F_10_missesOutputOf_2  n a0 a1 a2 H) := by
  induction n with
  | zero => intro _ _ _ _; exact s_none
  | succ n ih => intro a0 a1 a2 H; exact v_10_missesOutputOf_2 l (F_10_missesOutputOf_2  n) ih a0 a1 a2 H
theorem v_10_missesOutputOf (l : Launch) (a0 : Nat) (a1 : Nat) (H : jH) : JV l mi_10_missesOutputOf jeI 0 [(0, .ref a0), (1, .ref a1)] [] H (F_10_missesOutputOf a0 a1 H) := by
  unfold F_10_missesOutputOf
  refine s_3 1 rfl ?_
  refine s_61 2 rfl rfl ?_
  exact s_jmp (w_10_missesOutputOf_2 l jfuel _ _ _ _) ⟨rfl, rfl, rfl, trivial⟩
theorem m_10_missesOutputOf (l : Launch) (a0 : Nat) (a1 : Nat) (H : jH) : JMet l y_10_missesOutputOf prog_12_method_17_code mi_10_missesOutputOf jeI [.ref a0, .ref a1] H (F_10_missesOutputOf a0 a1 H) := jmet_of n_10_missesOutputOf (by decide) ⟨rfl, rfl⟩ (Nat.le_of_ble_eq_true rfl) (v_10_missesOutputOf l a0 a1 H)
def mi_6_knot : jM := (90872882571958706165105668407862953080685813388519058320277864185127981878905936687115797009739688047508530114000495120124325625707766403754856244685439395789000122965651678542116894443938836442812779089538835451746534748619165464706382967520185722700447462960685614120195, 113, 4, "CoinNode$Pool", some FieldType.int, "knot", 3, 71)
def y_6_knot : MethodName := ⟨"CoinNode$Pool", "knot", "(LCoinNode$Tx;)I"⟩
theorem n_6_knot : jn_is prog_8_method_8_code mi_6_knot.1 mi_6_knot.2.1 := by unfold jn_is; decide +kernel
theorem k_6_knot : jmok y_6_knot prog_8_method_8_code mi_6_knot 1 := ⟨jw_1172, jw_13, ⟨by decide, by decide⟩, by decide +kernel⟩
theorem v_6_knot_36 (l : Launch)   (H : jH) : JV l mi_6_knot jeI 36 [] [] H (B_6_knot_36   H) := by
  unfold B_6_knot_36
  refine s_16 15 38 15 jbp_15 rfl ?_
  exact s_172 rfl rfl
theorem v_6_knot_94 (l : Launch) (k58 : Nat → Nat → Int32 → Int32 → jH → Option (Int32 × jH)) (hk58 : ∀ a0 a1 a2 a3 H, JV l mi_6_knot jeI 58 [(0, .ref a0), (1, .ref a1), (2, .int a2), (3, .int a3)] [] H (k58 a0 a1 a2 a3 H)) (a0 : Nat) (a1 : Nat) (a3 : Int32) (s0 : Int32) (s1 : Int32) (H : jH) : JV l mi_6_knot jeI 94 [(0, .ref a0), (1, .ref a1), (3, .int a3)] [.int s1, .int s0] H (B_6_knot_94 k58 a0 a1 a3 s0 s1 H) := by
  unfold B_6_knot_94
  refine s_128 95 rfl ?_
  refine s_61L 96 rfl rfl (fun x1 => ?_)
  refine s_132L 3 1 99 1 ji_1 rfl rfl rfl (fun x2 => ?_)
  refine s_167 255 215 58 rfl rfl ?_
  exact s_jmp (hk58 _ _ _ _ _) ⟨rfl, rfl, rfl, rfl, trivial⟩
theorem v_6_knot_93 (l : Launch) (k58 : Nat → Nat → Int32 → Int32 → jH → Option (Int32 × jH)) (hk58 : ∀ a0 a1 a2 a3 H, JV l mi_6_knot jeI 58 [(0, .ref a0), (1, .ref a1), (2, .int a2), (3, .int a3)] [] H (k58 a0 a1 a2 a3 H)) (a0 : Nat) (a1 : Nat) (a3 : Int32) (s0 : Int32) (H : jH) : JV l mi_6_knot jeI 93 [(0, .ref a0), (1, .ref a1), (3, .int a3)] [.int s0] H (B_6_knot_93 k58 a0 a1 a3 s0 H) := by
  unfold B_6_knot_93
  refine s_3 94 rfl ?_
  exact s_jmp (v_6_knot_94 l k58 hk58 _ _ _ _ _ _) ⟨rfl, rfl, rfl, trivial⟩
theorem v_6_knot_112 (l : Launch)  (s0 : Int32) (H : jH) : JV l mi_6_knot jeI 112 [] [.int s0] H (B_6_knot_112  s0 H) := by
  unfold B_6_knot_112
  exact s_172 rfl rfl
theorem v_6_knot_58 (l : Launch) (k58 : Nat → Nat → Int32 → Int32 → jH → Option (Int32 × jH)) (hk58 : ∀ a0 a1 a2 a3 H, JV l mi_6_knot jeI 58 [(0, .ref a0), (1, .ref a1), (2, .int a2), (3, .int a3)] [] H (k58 a0 a1 a2 a3 H)) (a0 : Nat) (a1 : Nat) (a2 : Int32) (a3 : Int32) (H : jH) : JV l mi_6_knot jeI 58 [(0, .ref a0), (1, .ref a1), (2, .int a2), (3, .int a3)] [] H (B_6_knot_58 k58 a0 a1 a2 a3 H) := by
  unfold B_6_knot_58
  refine s_29 59 rfl rfl ?_
  refine s_42 60 rfl rfl ?_
  refine s_180I 0 41 63 41 f_6_4 jw_449 rfl rfl ?_
  refine s_162 0 39 102 66 rfl rfl ?_ ?_
  · refine s_28 103 rfl rfl ?_
    refine s_153 0 8 111 106 rfl rfl ?_ ?_
    · refine s_3 112 rfl ?_
      exact s_jmp (v_6_knot_112 l _ _) trivial
    · refine s_16 14 108 14 jbp_14 rfl ?_
      refine s_167 0 4 112 rfl rfl ?_
      exact s_jmp (v_6_knot_112 l _ _) trivial
  · refine s_28 67 rfl rfl ?_
    refine s_42 68 rfl rfl ?_
    refine s_180R 0 22 71 22 f_6_6 jw_452 rfl rfl ?_
    refine s_29 72 rfl rfl ?_
    refine s_51Z 73 rfl ?_
    refine s_153 0 20 93 76 rfl rfl ?_ ?_
    · exact s_jmp (v_6_knot_93 l k58 hk58 _ _ _ _ _) ⟨rfl, rfl, rfl, trivial⟩
    · refine s_43 77 rfl rfl ?_
      refine s_42 78 rfl rfl ?_
      refine s_180R 0 11 81 11 f_6_2 jw_447 rfl rfl ?_
      refine s_29 82 rfl rfl ?_
      refine s_50 83 113 jt_113 rfl ?_
      refine s_182I 0 152 86 152 (m_10_spendsOf l _ _ _) rfl k_10_spendsOf jc_10 jw_1181 jw_1182 jw_1183 rfl rfl rfl rfl rfl (fun x3 h4 => ?_)
      refine s_153 0 7 93 89 rfl rfl ?_ ?_
      · exact s_jmp (v_6_knot_93 l k58 hk58 _ _ _ _ _) ⟨rfl, rfl, rfl, trivial⟩
      · refine s_4 90 rfl ?_
        refine s_167 0 4 94 rfl rfl ?_
        exact s_jmp (v_6_knot_94 l k58 hk58 _ _ _ _ _ _) ⟨rfl, rfl, rfl, trivial⟩
theorem w_6_knot_58 (l : Launch)  (n : Nat) : ∀ a0 a1 a2 a3 H, JV l mi_6_knot jeI 58 [(0, .ref a0), (1, .ref a1), (2, .int a2), (3, .int a3)] [] H (F_6_knot_58  n a0 a1 a2 a3 H) := by
  induction n with
  | zero => intro _ _ _ _ _; exact s_none
  | succ n ih => intro a0 a1 a2 a3 H; exact v_6_knot_58 l (F_6_knot_58  n) ih a0 a1 a2 a3 H
theorem v_6_knot_2 (l : Launch) (k2 : Nat → Nat → Int32 → jH → Option (Int32 × jH)) (hk2 : ∀ a0 a1 a2 H, JV l mi_6_knot jeI 2 [(0, .ref a0), (1, .ref a1), (2, .int a2)] [] H (k2 a0 a1 a2 H)) (a0 : Nat) (a1 : Nat) (a2 : Int32) (H : jH) : JV l mi_6_knot jeI 2 [(0, .ref a0), (1, .ref a1), (2, .int a2)] [] H (B_6_knot_2 k2 a0 a1 a2 H) := by
  unfold B_6_knot_2
  refine s_28 3 rfl rfl ?_
  refine s_42 4 rfl rfl ?_
  refine s_180I 0 41 7 41 f_6_4 jw_449 rfl rfl ?_
  refine s_162 0 38 45 10 rfl rfl ?_ ?_
  · refine s_42 46 rfl rfl ?_
    refine s_43 47 rfl rfl ?_
    refine s_182V 0 148 50 148 (m_6_markKin l _ _ _) rfl k_6_markKin jc_6 jw_1177 jw_1179 jps_30 rfl rfl rfl rfl rfl (fun x5 h6 => ?_)
    refine s_43 51 rfl rfl ?_
    refine s_43 52 rfl rfl ?_
    refine s_182I 0 152 55 152 (m_10_spendsOf l _ _ _) rfl k_10_spendsOf jc_10 jw_1181 jw_1182 jw_1183 rfl rfl rfl rfl rfl (fun x7 h8 => ?_)
    refine s_61 56 rfl rfl ?_
    refine s_3 57 rfl ?_
    refine s_62 58 rfl rfl ?_
    exact s_jmp (w_6_knot_58 l jfuel _ _ _ _ _) ⟨rfl, rfl, rfl, rfl, trivial⟩
  · refine s_43 11 rfl rfl ?_
    refine s_42 12 rfl rfl ?_
    refine s_180R 0 11 15 11 f_6_2 jw_447 rfl rfl ?_
    refine s_28 16 rfl rfl ?_
    refine s_50 17 113 jt_113 rfl ?_
    refine s_182I 0 145 20 145 (m_10_missesOutputOf l _ _ _) rfl k_10_missesOutputOf jc_10 jw_1173 jw_1174 jw_1175 rfl rfl rfl rfl rfl (fun x9 h10 => ?_)
    refine s_154 0 16 36 23 rfl rfl ?_ ?_
    · exact s_jmp (v_6_knot_36 l _) trivial
    · refine s_42 24 rfl rfl ?_
      refine s_180R 0 11 27 11 f_6_2 jw_447 rfl rfl ?_
      refine s_28 28 rfl rfl ?_
      refine s_50 29 113 jt_113 rfl ?_
      refine s_43 30 rfl rfl ?_
      refine s_182I 0 145 33 145 (m_10_missesOutputOf l _ _ _) rfl k_10_missesOutputOf jc_10 jw_1173 jw_1174 jw_1175 rfl rfl rfl rfl rfl (fun x11 h12 => ?_)
      refine s_153 0 6 39 36 rfl rfl ?_ ?_
      · refine s_132L 2 1 42 1 ji_1 rfl rfl rfl (fun x13 => ?_)
        refine s_167 255 216 2 rfl rfl ?_
        exact s_jmp (hk2 _ _ _ _) ⟨rfl, rfl, rfl, trivial⟩
      · exact s_jmp (v_6_knot_36 l _) trivial
theorem w_6_knot_2 (l : Launch)  (n : Nat) : ∀ a0 a1 a2 H, JV l mi_6_knot jeI 2 [(0, .ref a0), (1, .ref a1), (2, .int a2)] [] H (F_6_knot_2  n a0 a1 a2 H) := by
  induction n with
  | zero => intro _ _ _ _; exact s_none
  | succ n ih => intro a0 a1 a2 H; exact v_6_knot_2 l (F_6_knot_2  n) ih a0 a1 a2 H
theorem v_6_knot (l : Launch) (a0 : Nat) (a1 : Nat) (H : jH) : JV l mi_6_knot jeI 0 [(0, .ref a0), (1, .ref a1)] [] H (F_6_knot a0 a1 H) := by
  unfold F_6_knot
  refine s_3 1 rfl ?_
  refine s_61 2 rfl rfl ?_
  exact s_jmp (w_6_knot_2 l jfuel _ _ _ _) ⟨rfl, rfl, rfl, trivial⟩
theorem m_6_knot (l : Launch) (a0 : Nat) (a1 : Nat) (H : jH) : JMet l y_6_knot prog_8_method_8_code mi_6_knot jeI [.ref a0, .ref a1] H (F_6_knot a0 a1 H) := jmet_of n_6_knot (by decide) ⟨rfl, rfl⟩ (Nat.le_of_ble_eq_true rfl) (v_6_knot l a0 a1 H)
def mi_2_find : jM := (29109485963177339309970540765784101205223024869738062572160856456322792489396835684755385688019195073610165976537692285314545155, 53, 5, "CoinNode$Coins", some FieldType.int, "find", 1, 24)
def y_2_find : MethodName := ⟨"CoinNode$Coins", "find", "([BII)I"⟩
theorem n_2_find : jn_is prog_4_method_3_code mi_2_find.1 mi_2_find.2.1 := by unfold jn_is; decide +kernel
theorem k_2_find : jmok y_2_find prog_4_method_3_code mi_2_find 3 := ⟨jw_837, jw_8, ⟨by decide, by decide⟩, by decide +kernel⟩
theorem v_2_find_45 (l : Launch) (k3 : Nat → Nat → Int32 → Int32 → Int32 → jH → Option (Int32 × jH)) (hk3 : ∀ a0 a1 a2 a3 a4 H, JV l mi_2_find jeI 3 [(0, .ref a0), (1, .ref a1), (2, .int a2), (3, .int a3), (4, .int a4)] [] H (k3 a0 a1 a2 a3 a4 H)) (a0 : Nat) (a1 : Nat) (a2 : Int32) (a3 : Int32) (a4 : Int32) (H : jH) : JV l mi_2_find jeI 45 [(0, .ref a0), (1, .ref a1), (2, .int a2), (3, .int a3), (4, .int a4)] [] H (B_2_find_45 k3 a0 a1 a2 a3 a4 H) := by
  unfold B_2_find_45
  refine s_132L 4 1 48 1 ji_1 rfl rfl rfl (fun x1 => ?_)
  refine s_167 255 211 3 rfl rfl ?_
  exact s_jmp (hk3 _ _ _ _ _ _) ⟨rfl, rfl, rfl, rfl, rfl, trivial⟩
theorem v_2_find_3 (l : Launch) (k3 : Nat → Nat → Int32 → Int32 → Int32 → jH → Option (Int32 × jH)) (hk3 : ∀ a0 a1 a2 a3 a4 H, JV l mi_2_find jeI 3 [(0, .ref a0), (1, .ref a1), (2, .int a2), (3, .int a3), (4, .int a4)] [] H (k3 a0 a1 a2 a3 a4 H)) (a0 : Nat) (a1 : Nat) (a2 : Int32) (a3 : Int32) (a4 : Int32) (H : jH) : JV l mi_2_find jeI 3 [(0, .ref a0), (1, .ref a1), (2, .int a2), (3, .int a3), (4, .int a4)] [] H (B_2_find_3 k3 a0 a1 a2 a3 a4 H) := by
  unfold B_2_find_3
  refine s_21 4 5 rfl rfl ?_
  refine s_42 6 rfl rfl ?_
  refine s_180I 0 28 9 28 f_2_3 jw_276 rfl rfl ?_
  refine s_162 0 42 51 12 rfl rfl ?_ ?_
  · refine s_2 52 rfl ?_
    exact s_172 rfl rfl
  · refine s_42 13 rfl rfl ?_
    refine s_180R 0 15 16 15 f_2_1 jw_274 rfl rfl ?_
    refine s_21 4 18 rfl rfl ?_
    refine s_46 19 rfl ?_
    refine s_29 20 rfl rfl ?_
    refine s_160 0 25 45 23 rfl rfl ?_ ?_
    · exact s_jmp (v_2_find_45 l k3 hk3 _ _ _ _ _ _) ⟨rfl, rfl, rfl, rfl, rfl, trivial⟩
    · refine s_42 24 rfl rfl ?_
      refine s_180R 0 11 27 11 f_2_0 jw_273 rfl rfl ?_
      refine s_21 4 29 rfl rfl ?_
      refine s_50 30 113 jt_113 rfl ?_
      refine s_180R 0 39 33 39 f_10_3 jw_722 rfl rfl ?_
      refine s_3 34 rfl ?_
      refine s_43 35 rfl rfl ?_
      refine s_28 36 rfl rfl ?_
      refine s_184I 0 43 39 43 (m_3_same l _ _ _ _ _) rfl k_3_same jw_838 jw_814 rfl rfl rfl rfl rfl (fun x2 h3 => ?_)
      refine s_153 0 6 45 42 rfl rfl ?_ ?_
      · exact s_jmp (v_2_find_45 l k3 hk3 _ _ _ _ _ _) ⟨rfl, rfl, rfl, rfl, rfl, trivial⟩
      · refine s_21 4 44 rfl rfl ?_
        exact s_172 rfl rfl
theorem w_2_find_3 (l : Launch)  (n : Nat) : ∀ a0 a1 a2 a3 a4 H, JV l mi_2_find jeI 3 [(0, .ref a0), (1, .ref a1), (2, .int a2), (3, .int a3), (4, .int a4)] [] H (F_2_find_3  n a0 a1 a2 a3 a4 H) := by
  induction n with
  | zero => intro _ _ _ _ _ _; exact s_none
  | succ n ih => intro a0 a1 a2 a3 a4 H; exact v_2_find_3 l (F_2_find_3  n) ih a0 a1 a2 a3 a4 H
theorem v_2_find (l : Launch) (a0 : Nat) (a1 : Nat) (a2 : Int32) (a3 : Int32) (H : jH) : JV l mi_2_find jeI 0 [(0, .ref a0), (1, .ref a1), (2, .int a2), (3, .int a3)] [] H (F_2_find a0 a1 a2 a3 H) := by
  unfold F_2_find
  refine s_3 1 rfl ?_
  refine s_54 4 3 rfl rfl ?_
  exact s_jmp (w_2_find_3 l jfuel _ _ _ _ _ _) ⟨rfl, rfl, rfl, rfl, rfl, trivial⟩
theorem m_2_find (l : Launch) (a0 : Nat) (a1 : Nat) (a2 : Int32) (a3 : Int32) (H : jH) : JMet l y_2_find prog_4_method_3_code mi_2_find jeI [.ref a0, .ref a1, .int a2, .int a3] H (F_2_find a0 a1 a2 a3 H) := jmet_of n_2_find (by decide) ⟨rfl, rfl⟩ (Nat.le_of_ble_eq_true rfl) (v_2_find l a0 a1 a2 a3 H)
def mi_2_isUnripe : jM := (24078904965846599076261218139096185000760837991468578398676223114294630728785227468681870774574751193883, 43, 3, "CoinNode$Coins", some FieldType.boolean, "isUnripe", 0, 0)
def y_2_isUnripe : MethodName := ⟨"CoinNode$Coins", "isUnripe", "(II)Z"⟩
theorem n_2_isUnripe : jn_is prog_4_method_6_code mi_2_isUnripe.1 mi_2_isUnripe.2.1 := by unfold jn_is; decide +kernel
theorem k_2_isUnripe : jmok y_2_isUnripe prog_4_method_6_code mi_2_isUnripe 2 := ⟨jw_846, jw_8, ⟨by decide, by decide⟩, by decide +kernel⟩
theorem v_2_isUnripe_42 (l : Launch)  (s0 : Int32) (H : jH) : JV l mi_2_isUnripe jeI 42 [] [.int s0] H (B_2_isUnripe_42  s0 H) := by
  unfold B_2_isUnripe_42
  exact s_172Z rfl rfl
theorem v_2_isUnripe_41 (l : Launch)   (H : jH) : JV l mi_2_isUnripe jeI 41 [] [] H (B_2_isUnripe_41   H) := by
  unfold B_2_isUnripe_41
  refine s_3 42 rfl ?_
  exact s_jmp (v_2_isUnripe_42 l _ _) trivial
theorem v_2_isUnripe (l : Launch) (a0 : Nat) (a1 : Int32) (a2 : Int32) (H : jH) : JV l mi_2_isUnripe jeI 0 [(0, .ref a0), (1, .int a1), (2, .int a2)] [] H (F_2_isUnripe a0 a1 a2 H) := by
  unfold F_2_isUnripe
  refine s_27 1 rfl rfl ?_
  refine s_155 0 40 41 4 rfl rfl ?_ ?_
  · exact s_jmp (v_2_isUnripe_41 l _) trivial
  · refine s_27 5 rfl rfl ?_
    refine s_42 6 rfl rfl ?_
    refine s_180I 0 28 9 28 f_2_3 jw_276 rfl rfl ?_
    refine s_162 0 32 41 12 rfl rfl ?_ ?_
    · exact s_jmp (v_2_isUnripe_41 l _) trivial
    · refine s_28 13 rfl rfl ?_
      refine s_42 14 rfl rfl ?_
      refine s_180R 0 19 17 19 f_2_2 jw_275 rfl rfl ?_
      refine s_27 18 rfl rfl ?_
      refine s_46 19 rfl ?_
      refine s_100 20 rfl ?_
      refine s_16 8 22 8 jbp_8 rfl ?_
      refine s_162 0 19 41 25 rfl rfl ?_ ?_
      · exact s_jmp (v_2_isUnripe_41 l _) trivial
      · refine s_42 26 rfl rfl ?_
        refine s_180R 0 11 29 11 f_2_0 jw_273 rfl rfl ?_
        refine s_27 30 rfl rfl ?_
        refine s_50 31 113 jt_113 rfl ?_
        refine s_180I 0 53 34 53 f_10_7 jw_740 rfl rfl ?_
        refine s_153 0 7 41 37 rfl rfl ?_ ?_
        · exact s_jmp (v_2_isUnripe_41 l _) trivial
        · refine s_4 38 rfl ?_
          refine s_167 0 4 42 rfl rfl ?_
          exact s_jmp (v_2_isUnripe_42 l _ _) trivial
theorem m_2_isUnripe (l : Launch) (a0 : Nat) (a1 : Int32) (a2 : Int32) (H : jH) : JMet l y_2_isUnripe prog_4_method_6_code mi_2_isUnripe jeI [.ref a0, .int a1, .int a2] H (F_2_isUnripe a0 a1 a2 H) := jmet_of n_2_isUnripe (by decide) ⟨rfl, rfl⟩ (Nat.le_of_ble_eq_true rfl) (v_2_isUnripe l a0 a1 a2 H)
def mi_2_maker : jM := (16876197693841413928029417460242464287193114681335126811, 23, 2, "CoinNode$Coins", some (FieldType.object "CoinNode$Tx"), "maker", 0, 0)
def y_2_maker : MethodName := ⟨"CoinNode$Coins", "maker", "(I)LCoinNode$Tx;"⟩
theorem n_2_maker : jn_is prog_4_method_4_code mi_2_maker.1 mi_2_maker.2.1 := by unfold jn_is; decide +kernel
theorem k_2_maker : jmok y_2_maker prog_4_method_4_code mi_2_maker 1 := ⟨jw_842, jw_8, ⟨by decide, by decide⟩, by decide +kernel⟩
theorem v_2_maker_22 (l : Launch)  (s0 : Nat) (H : jH) : JV l mi_2_maker jeR 22 [] [.ref s0] H (B_2_maker_22  s0 H) := by
  unfold B_2_maker_22
  exact s_176 rfl rfl rfl
theorem v_2_maker_12 (l : Launch)   (H : jH) : JV l mi_2_maker jeR 12 [] [] H (B_2_maker_12   H) := by
  unfold B_2_maker_12
  refine s_1 13 rfl ?_
  refine s_167 0 9 22 rfl rfl ?_
  exact s_jmp (v_2_maker_22 l _ _) trivial
theorem v_2_maker (l : Launch) (a0 : Nat) (a1 : Int32) (H : jH) : JV l mi_2_maker jeR 0 [(0, .ref a0), (1, .int a1)] [] H (F_2_maker a0 a1 H) := by
  unfold F_2_maker
  refine s_27 1 rfl rfl ?_
  refine s_155 0 11 12 4 rfl rfl ?_ ?_
  · exact s_jmp (v_2_maker_12 l _) trivial
  · refine s_27 5 rfl rfl ?_
    refine s_42 6 rfl rfl ?_
    refine s_180I 0 28 9 28 f_2_3 jw_276 rfl rfl ?_
    refine s_161 0 7 16 12 rfl rfl ?_ ?_
    · refine s_42 17 rfl rfl ?_
      refine s_180R 0 11 20 11 f_2_0 jw_273 rfl rfl ?_
      refine s_27 21 rfl rfl ?_
      refine s_50 22 113 jt_113 rfl ?_
      exact s_jmp (v_2_maker_22 l _ _) trivial
    · exact s_jmp (v_2_maker_12 l _) trivial
theorem m_2_maker (l : Launch) (a0 : Nat) (a1 : Int32) (H : jH) : JMet l y_2_maker prog_4_method_4_code mi_2_maker jeR [.ref a0, .int a1] H (F_2_maker a0 a1 H) := jmet_of n_2_maker (by decide) ⟨rfl, rfl⟩ (Nat.le_of_ble_eq_true rfl) (v_2_maker l a0 a1 H)
def mi_10_worth : jM := (448035454974829775113638592278116032471274168324846228921255511271019132356683893790565812180180148291951949145556975131419, 51, 3, "CoinNode$Tx", some FieldType.long, "worth", 1, 21)
def y_10_worth : MethodName := ⟨"CoinNode$Tx", "worth", "(I)J"⟩
theorem n_10_worth : jn_is prog_12_method_8_code mi_10_worth.1 mi_10_worth.2.1 := by unfold jn_is; decide +kernel
theorem k_10_worth : jmok y_10_worth prog_12_method_8_code mi_10_worth 1 := ⟨jw_776, jw_11, ⟨by decide, by decide⟩, by decide +kernel⟩
theorem v_10_worth_13 (l : Launch)   (H : jH) : JV l mi_10_worth jeL 13 [] [] H (B_10_worth_13   H) := by
  unfold B_10_worth_13
  refine s_9 14 rfl ?_
  exact s_173 rfl rfl
theorem v_10_worth (l : Launch) (a0 : Nat) (a1 : Int32) (H : jH) : JV l mi_10_worth jeL 0 [(0, .ref a0), (1, .int a1)] [] H (F_10_worth a0 a1 H) := by
  unfold F_10_worth
  refine s_27 1 rfl rfl ?_
  refine s_155 0 12 13 4 rfl rfl ?_ ?_
  · exact s_jmp (v_10_worth_13 l _) trivial
  · refine s_27 5 rfl rfl ?_
    refine s_42 6 rfl rfl ?_
    refine s_180R 0 19 9 19 f_10_5 jw_729 rfl rfl ?_
    refine s_190 10 100 jm_100 rfl ?_
    refine s_161 0 5 15 13 rfl rfl ?_ ?_
    · refine s_42 16 rfl rfl ?_
      refine s_180R 0 19 19 19 f_10_5 jw_729 rfl rfl ?_
      refine s_27 20 rfl rfl ?_
      refine s_46 21 rfl ?_
      refine s_61L 22 rfl rfl (fun x1 => ?_)
      refine s_42 23 rfl rfl ?_
      refine s_180R 0 22 26 22 f_10_0 jw_706 rfl rfl ?_
      refine s_28 27 rfl rfl ?_
      refine s_7 28 rfl ?_
      refine s_96 29 rfl ?_
      refine s_184I 0 62 32 62 (m_10_low l _ _ _) rfl k_10_low jw_777 jw_320 rfl rfl rfl rfl rfl (fun x2 h3 => ?_)
      refine s_133 33 rfl ?_
      refine s_16 32 35 32 jbp_32 rfl ?_
      refine s_121 36 rfl ?_
      refine s_42 37 rfl rfl ?_
      refine s_180R 0 22 40 22 f_10_0 jw_706 rfl rfl ?_
      refine s_28 41 rfl rfl ?_
      refine s_184I 0 62 44 62 (m_10_low l _ _ _) rfl k_10_low jw_777 jw_320 rfl rfl rfl rfl rfl (fun x4 h5 => ?_)
      refine s_133 45 rfl ?_
      refine s_20 0 66 48 66 4294967295 rfl jw_778 rfl ?_
      refine s_127 49 rfl ?_
      refine s_129 50 rfl ?_
      exact s_173 rfl rfl
    · exact s_jmp (v_10_worth_13 l _) trivial
theorem m_10_worth (l : Launch) (a0 : Nat) (a1 : Int32) (H : jH) : JMet l y_10_worth prog_12_method_8_code mi_10_worth jeL [.ref a0, .int a1] H (F_10_worth a0 a1 H) := jmet_of n_10_worth (by decide) ⟨rfl, rfl⟩ (Nat.le_of_ble_eq_true rfl) (v_10_worth l a0 a1 H)
def mi_6_take : jM := (6955869497235643947189271303409962837832437462189297715755991332560857283152176310911829453510895096054782098587307376543639867436265912264519640308824755204000326698867934385185117847398955273527923484103983255070302195111609509664975961606589195790797418532070137493810803654922139618412726429341722221855208308550936355558327217920092780388640567008052077265858783840047349085623508484618973870954937857072017111648614916095158487474789244090491648762612399066869022211, 196, 8, "CoinNode$Pool", some FieldType.int, "take", 2, 48)
def y_6_take : MethodName := ⟨"CoinNode$Pool", "take", "(LCoinNode$Tx;I)I"⟩
theorem n_6_take : jn_is prog_8_method_7_code mi_6_take.1 mi_6_take.2.1 := by unfold jn_is; decide +kernel
theorem k_6_take : jmok y_6_take prog_8_method_7_code mi_6_take 2 := ⟨jw_832, jw_13, ⟨by decide, by decide⟩, by decide +kernel⟩
theorem v_6_take_112 (l : Launch)   (H : jH) : JV l mi_6_take jeI 112 [] [] H (B_6_take_112   H) := by
  unfold B_6_take_112
  refine s_16 7 114 7 jbp_7 rfl ?_
  exact s_172 rfl rfl
theorem v_6_take_89 (l : Launch) (k10 : Nat → Nat → Int32 → Int32 → Int32 → jH → Option (Int32 × jH)) (hk10 : ∀ a0 a1 a2 a3 a4 H, JV l mi_6_take jeI 10 [(0, .ref a0), (1, .ref a1), (2, .int a2), (3, .int a3), (4, .int a4)] [] H (k10 a0 a1 a2 a3 a4 H)) (a0 : Nat) (a1 : Nat) (a2 : Int32) (a3 : Int32) (a4 : Int32) (a5 : Int32) (a6 : Int32) (s0 : Nat) (H : jH) : JV l mi_6_take jeI 89 [(0, .ref a0), (1, .ref a1), (2, .int a2), (3, .int a3), (4, .int a4), (5, .int a5), (6, .int a6)] [.ref s0] H (B_6_take_89 k10 a0 a1 a2 a3 a4 a5 a6 s0 H) := by
  unfold B_6_take_89
  refine s_58 7 91 rfl rfl ?_
  refine s_25 7 93 rfl rfl ?_
  refine s_198 0 19 112 96 rfl rfl ?_ ?_
  · exact s_jmp (v_6_take_112 l _) trivial
  · refine s_21 5 98 rfl rfl ?_
    refine s_155 0 14 112 101 rfl rfl ?_ ?_
    · exact s_jmp (v_6_take_112 l _) trivial
    · refine s_21 5 103 rfl rfl ?_
      refine s_25 7 105 rfl rfl ?_
      refine s_180R 0 134 108 134 f_10_5 jw_732 rfl rfl ?_
      refine s_190 109 100 jm_100 rfl ?_
      refine s_161 0 6 115 112 rfl rfl ?_ ?_
      · refine s_29 116 rfl rfl ?_
        refine s_42 117 rfl rfl ?_
        refine s_180R 0 33 120 33 f_6_0 jw_445 rfl rfl ?_
        refine s_21 6 122 rfl rfl ?_
        refine s_28 123 rfl rfl ?_
        refine s_182I 0 137 126 137 (m_2_isUnripe l _ _ _ _) rfl k_2_isUnripe jc_2 jw_843 jw_844 jw_845 rfl rfl rfl rfl rfl (fun x1 h2 => ?_)
        refine s_128 127 rfl ?_
        refine s_62L 128 rfl rfl (fun x3 => ?_)
        refine s_42 129 rfl rfl ?_
        refine s_180R 0 26 132 26 f_6_7 jw_453 rfl rfl ?_
        refine s_21 4 134 rfl rfl ?_
        refine s_25 7 136 rfl rfl ?_
        refine s_83 137 113 10 js_113 jc_10 rfl (fun h4 => ?_)
        refine s_42 138 rfl rfl ?_
        refine s_180R 0 29 141 29 f_6_8 jw_454 rfl rfl ?_
        refine s_21 4 143 rfl rfl ?_
        refine s_21 5 145 rfl rfl ?_
        refine s_79 146 rfl (fun h5 => ?_)
        refine s_42 147 rfl rfl ?_
        refine s_89 148 rfl rfl ?_
        refine s_180L 0 84 151 84 f_6_9 jw_455 rfl rfl ?_
        refine s_25 7 153 rfl rfl ?_
        refine s_21 5 155 rfl rfl ?_
        refine s_182L 0 141 158 141 (m_10_worth l _ _ _) rfl k_10_worth jc_10 jw_847 jw_774 jw_775 rfl rfl rfl rfl rfl (fun x6 h7 => ?_)
        refine s_97 159 rfl ?_
        refine s_181L 0 84 162 84 f_6_9 rfl rfl jw_455 rfl rfl (fun h8 => ?_)
        refine s_132L 4 1 165 1 ji_1 rfl rfl rfl (fun x9 => ?_)
        refine s_167 255 101 10 rfl rfl ?_
        exact s_jmp (hk10 _ _ _ _ _ _) ⟨rfl, rfl, rfl, rfl, rfl, trivial⟩
      · exact s_jmp (v_6_take_112 l _) trivial
theorem v_6_take_195 (l : Launch)  (s0 : Int32) (H : jH) : JV l mi_6_take jeI 195 [] [.int s0] H (B_6_take_195  s0 H) := by
  unfold B_6_take_195
  exact s_172 rfl rfl
theorem v_6_take_168 (l : Launch)  (a0 : Nat) (a1 : Nat) (a3 : Int32) (H : jH) : JV l mi_6_take jeI 168 [(0, .ref a0), (1, .ref a1), (3, .int a3)] [] H (B_6_take_168  a0 a1 a3 H) := by
  unfold B_6_take_168
  refine s_29 169 rfl rfl ?_
  refine s_153 0 8 177 172 rfl rfl ?_ ?_
  · refine s_43 178 rfl rfl ?_
    refine s_180L 0 88 181 88 f_10_6 jw_735 rfl rfl ?_
    refine s_42 182 rfl rfl ?_
    refine s_180L 0 84 185 84 f_6_9 jw_455 rfl rfl ?_
    refine s_148_158 0 8 194 186 189 rfl rfl rfl ?_ ?_
    · refine s_3 195 rfl ?_
      exact s_jmp (v_6_take_195 l _ _) trivial
    · refine s_16 9 191 9 jbp_9 rfl ?_
      refine s_167 0 4 195 rfl rfl ?_
      exact s_jmp (v_6_take_195 l _ _) trivial
  · refine s_16 8 174 8 jbp_8 rfl ?_
    refine s_167 0 21 195 rfl rfl ?_
    exact s_jmp (v_6_take_195 l _ _) trivial
theorem v_6_take_10 (l : Launch) (k10 : Nat → Nat → Int32 → Int32 → Int32 → jH → Option (Int32 × jH)) (hk10 : ∀ a0 a1 a2 a3 a4 H, JV l mi_6_take jeI 10 [(0, .ref a0), (1, .ref a1), (2, .int a2), (3, .int a3), (4, .int a4)] [] H (k10 a0 a1 a2 a3 a4 H)) (a0 : Nat) (a1 : Nat) (a2 : Int32) (a3 : Int32) (a4 : Int32) (H : jH) : JV l mi_6_take jeI 10 [(0, .ref a0), (1, .ref a1), (2, .int a2), (3, .int a3), (4, .int a4)] [] H (B_6_take_10 k10 a0 a1 a2 a3 a4 H) := by
  unfold B_6_take_10
  refine s_21 4 12 rfl rfl ?_
  refine s_43 13 rfl rfl ?_
  refine s_180R 0 115 16 115 f_10_4 jw_727 rfl rfl ?_
  refine s_190 17 100 jm_100 rfl ?_
  refine s_162 0 151 168 20 rfl rfl ?_ ?_
  · exact s_jmp (v_6_take_168 l _ _ _ _) ⟨rfl, rfl, rfl, trivial⟩
  · refine s_21 4 22 rfl rfl ?_
    refine s_16 8 24 8 jbp_8 rfl ?_
    refine s_162 0 144 168 27 rfl rfl ?_ ?_
    · exact s_jmp (v_6_take_168 l _ _ _ _) ⟨rfl, rfl, rfl, trivial⟩
    · refine s_43 28 rfl rfl ?_
      refine s_21 4 30 rfl rfl ?_
      refine s_182I 0 118 33 118 (m_10_index l _ _ _) rfl k_10_index jc_10 jw_833 jw_810 jw_811 rfl rfl rfl rfl rfl (fun x10 h11 => ?_)
      refine s_54 5 35 rfl rfl ?_
      refine s_42 36 rfl rfl ?_
      refine s_180R 0 33 39 33 f_6_0 jw_445 rfl rfl ?_
      refine s_43 40 rfl rfl ?_
      refine s_180R 0 122 43 122 f_10_0 jw_708 rfl rfl ?_
      refine s_43 44 rfl rfl ?_
      refine s_180R 0 115 47 115 f_10_4 jw_727 rfl rfl ?_
      refine s_21 4 49 rfl rfl ?_
      refine s_46 50 rfl ?_
      refine s_21 5 52 rfl rfl ?_
      refine s_182I 0 125 55 125 (m_2_find l _ _ _ _ _) rfl k_2_find jc_2 jw_834 jw_835 jw_836 rfl rfl rfl rfl rfl (fun x12 h13 => ?_)
      refine s_54 6 57 rfl rfl ?_
      refine s_21 6 59 rfl rfl ?_
      refine s_155 0 15 74 62 rfl rfl ?_ ?_
      · refine s_42 75 rfl rfl ?_
        refine s_43 76 rfl rfl ?_
        refine s_180R 0 122 79 122 f_10_0 jw_708 rfl rfl ?_
        refine s_43 80 rfl rfl ?_
        refine s_180R 0 115 83 115 f_10_4 jw_727 rfl rfl ?_
        refine s_21 4 85 rfl rfl ?_
        refine s_46 86 rfl ?_
        refine s_182R 0 108 89 108 (m_6_find l _ _ _ _) rfl k_6_find jc_6 jw_820 jw_821 jw_822 rfl rfl rfl rfl rfl (fun x14 h15 => ?_)
        exact s_jmp (v_6_take_89 l k10 hk10 _ _ _ _ _ _ _ _ _) ⟨rfl, rfl, rfl, rfl, rfl, rfl, rfl, trivial⟩
      · refine s_42 63 rfl rfl ?_
        refine s_180R 0 33 66 33 f_6_0 jw_445 rfl rfl ?_
        refine s_21 6 68 rfl rfl ?_
        refine s_182R 0 130 71 130 (m_2_maker l _ _ _) rfl k_2_maker jc_2 jw_839 jw_840 jw_841 rfl rfl rfl rfl rfl (fun x16 h17 => ?_)
        refine s_167 0 18 89 rfl rfl ?_
        exact s_jmp (v_6_take_89 l k10 hk10 _ _ _ _ _ _ _ _ _) ⟨rfl, rfl, rfl, rfl, rfl, rfl, rfl, trivial⟩
theorem w_6_take_10 (l : Launch)  (n : Nat) : ∀ a0 a1 a2 a3 a4 H, JV l mi_6_take jeI 10 [(0, .ref a0), (1, .ref a1), (2, .int a2), (3, .int a3), (4, .int a4)] [] H (F_6_take_10  n a0 a1 a2 a3 a4 H) := by
  induction n with
  | zero => intro _ _ _ _ _ _; exact s_none
  | succ n ih => intro a0 a1 a2 a3 a4 H; exact v_6_take_10 l (F_6_take_10  n) ih a0 a1 a2 a3 a4 H
theorem v_6_take (l : Launch) (a0 : Nat) (a1 : Nat) (a2 : Int32) (H : jH) : JV l mi_6_take jeI 0 [(0, .ref a0), (1, .ref a1), (2, .int a2)] [] H (F_6_take a0 a1 a2 H) := by
  unfold F_6_take
  refine s_3 1 rfl ?_
  refine s_62 2 rfl rfl ?_
  refine s_42 3 rfl rfl ?_
  refine s_9 4 rfl ?_
  refine s_181L 0 84 7 84 f_6_9 rfl rfl jw_455 rfl rfl (fun h18 => ?_)
  refine s_3 8 rfl ?_
  refine s_54 4 10 rfl rfl ?_
  exact s_jmp (w_6_take_10 l jfuel _ _ _ _ _ _) ⟨rfl, rfl, rfl, rfl, rfl, trivial⟩
theorem m_6_take (l : Launch) (a0 : Nat) (a1 : Nat) (a2 : Int32) (H : jH) : JMet l y_6_take prog_8_method_7_code mi_6_take jeI [.ref a0, .ref a1, .int a2] H (F_6_take a0 a1 a2 H) := jmet_of n_6_take (by decide) ⟨rfl, rfl⟩ (Nat.le_of_ble_eq_true rfl) (v_6_take l a0 a1 a2 H)
def mi_7_begin : jM := (214178222507385177526049578, 11, 2, "CoinNode$Scripts", none, "begin", 0, 0)
def y_7_begin : MethodName := ⟨"CoinNode$Scripts", "begin", "(I)V"⟩
theorem n_7_begin : jn_is prog_9_method_2_code mi_7_begin.1 mi_7_begin.2.1 := by unfold jn_is; decide +kernel
theorem k_7_begin : jmok y_7_begin prog_9_method_2_code mi_7_begin 1 := ⟨jw_851, jw_3, ⟨by decide, by decide⟩, by decide +kernel⟩
theorem v_7_begin (l : Launch) (a0 : Nat) (a1 : Int32) (H : jH) : JV l mi_7_begin jeV 0 [(0, .ref a0), (1, .int a1)] [] H (F_7_begin a0 a1 H) := by
  unfold F_7_begin
  refine s_42 1 rfl rfl ?_
  refine s_27 2 rfl rfl ?_
  refine s_181I 0 38 5 38 f_7_7 rfl rfl jw_247 rfl rfl (fun h1 => ?_)
  refine s_42 6 rfl rfl ?_
  refine s_3 7 rfl ?_
  refine s_181I 0 42 10 42 f_7_6 rfl rfl jw_246 rfl rfl (fun h2 => ?_)
  exact s_177 rfl rfl
theorem m_7_begin (l : Launch) (a0 : Nat) (a1 : Int32) (H : jH) : JMet l y_7_begin prog_9_method_2_code mi_7_begin jeV [.ref a0, .int a1] H (F_7_begin a0 a1 H) := jmet_of n_7_begin (by decide) ⟨rfl, rfl⟩ (Nat.le_of_ble_eq_true rfl) (v_7_begin l a0 a1 H)
def mi_9_drop : jM := (919401683391423877262172316873917226, 15, 2, "CoinNode$Stack", none, "drop", 1, 16)
def y_9_drop : MethodName := ⟨"CoinNode$Stack", "drop", "(I)V"⟩
theorem n_9_drop : jn_is prog_11_method_9_code mi_9_drop.1 mi_9_drop.2.1 := by unfold jn_is; decide +kernel
theorem k_9_drop : jmok y_9_drop prog_11_method_9_code mi_9_drop 1 := ⟨jw_904, jw_7, ⟨by decide, by decide⟩, by decide +kernel⟩
theorem v_9_drop (l : Launch) (a0 : Nat) (a1 : Int32) (H : jH) : JV l mi_9_drop jeV 0 [(0, .ref a0), (1, .int a1)] [] H (F_9_drop a0 a1 H) := by
  unfold F_9_drop
  refine s_42 1 rfl rfl ?_
  refine s_3 2 rfl ?_
  refine s_42 3 rfl rfl ?_
  refine s_180I 0 18 6 18 f_9_2 jw_167 rfl rfl ?_
  refine s_27 7 rfl rfl ?_
  refine s_100 8 rfl ?_
  refine s_maxI 0 34 11 34 jw_905 jw_906 jw_15 jw_907 rfl rfl rfl ?_
  refine s_181I 0 18 14 18 f_9_2 rfl rfl jw_167 rfl rfl (fun h1 => ?_)
  exact s_177 rfl rfl
theorem m_9_drop (l : Launch) (a0 : Nat) (a1 : Int32) (H : jH) : JMet l y_9_drop prog_11_method_9_code mi_9_drop jeV [.ref a0, .int a1] H (F_9_drop a0 a1 H) := jmet_of n_9_drop (by decide) ⟨rfl, rfl⟩ (Nat.le_of_ble_eq_true rfl) (v_9_drop l a0 a1 H)
def mi_9_putNumber : jM := (199811512681268927874530717787974185278537348163279404012645324774984906722174325661909769501309131877011485957563148328600723580804234819053153921668065359011827157922162917638969539644070884462314322704651358494793398919149858585323781832187525084114552368254459210569624759533154529498151596744939950824071830331802081715732292289050359826175360306846170505982030890, 153, 8, "CoinNode$Stack", none, "putNumber", 1, 15)
def y_9_putNumber : MethodName := ⟨"CoinNode$Stack", "putNumber", "(J)V"⟩
theorem n_9_putNumber : jn_is prog_11_method_4_code mi_9_putNumber.1 mi_9_putNumber.2.1 := by unfold jn_is; decide +kernel
theorem k_9_putNumber : jmok y_9_putNumber prog_11_method_4_code mi_9_putNumber 1 := ⟨jw_916, jw_7, ⟨by decide, by decide⟩, by decide +kernel⟩
theorem v_9_putNumber_131 (l : Launch)  (a0 : Nat) (a6 : Int32) (H : jH) : JV l mi_9_putNumber jeV 131 [(0, .ref a0), (6, .int a6)] [] H (B_9_putNumber_131  a0 a6 H) := by
  unfold B_9_putNumber_131
  refine s_42 132 rfl rfl ?_
  refine s_180R 0 14 135 14 f_9_1 jw_165 rfl rfl ?_
  refine s_42 136 rfl rfl ?_
  refine s_180I 0 18 139 18 f_9_2 jw_167 rfl rfl ?_
  refine s_21 6 141 rfl rfl ?_
  refine s_79 142 rfl (fun h1 => ?_)
  refine s_42 143 rfl rfl ?_
  refine s_89 144 rfl rfl ?_
  refine s_180I 0 18 147 18 f_9_2 jw_167 rfl rfl ?_
  refine s_4 148 rfl ?_
  refine s_96 149 rfl ?_
  refine s_181I 0 18 152 18 f_9_2 rfl rfl jw_167 rfl rfl (fun h2 => ?_)
  exact s_177 rfl rfl
theorem v_9_putNumber_99 (l : Launch)  (a0 : Nat) (a6 : Int32) (s0 : Nat) (s1 : Int32) (s2 : Int32) (H : jH) : JV l mi_9_putNumber jeV 99 [(0, .ref a0), (6, .int a6)] [.int s2, .int s1, .ref s0] H (B_9_putNumber_99  a0 a6 s0 s1 s2 H) := by
  unfold B_9_putNumber_99
  refine s_145 100 rfl ?_
  refine s_84B 101 rfl (fun h3 => ?_)
  refine s_132L 6 1 104 1 ji_1 rfl rfl rfl (fun x4 => ?_)
  refine s_167 0 27 131 rfl rfl ?_
  exact s_jmp (v_9_putNumber_131 l _ _ _) ⟨rfl, rfl, trivial⟩
theorem v_9_putNumber_75 (l : Launch)  (a0 : Nat) (a1 : Int64) (a3 : Nat) (a6 : Int32) (a7 : Int32) (H : jH) : JV l mi_9_putNumber jeV 75 [(0, .ref a0), (1, .long a1), (3, .ref a3), (6, .int a6), (7, .int a7)] [] H (B_9_putNumber_75  a0 a1 a3 a6 a7 H) := by
  unfold B_9_putNumber_75
  refine s_21 7 77 rfl rfl ?_
  refine s_17 0 128 80 128 jsp_0_128 rfl ?_
  refine s_161 0 27 107 83 rfl rfl ?_ ?_
  · refine s_31 108 rfl rfl ?_
    refine s_9 109 rfl ?_
    refine s_148_156 0 21 131 110 113 rfl rfl rfl ?_ ?_
    · exact s_jmp (v_9_putNumber_131 l _ _ _) ⟨rfl, rfl, trivial⟩
    · refine s_21 6 115 rfl rfl ?_
      refine s_158 0 16 131 118 rfl rfl ?_ ?_
      · exact s_jmp (v_9_putNumber_131 l _ _ _) ⟨rfl, rfl, trivial⟩
      · refine s_45 119 rfl rfl ?_
        refine s_21 6 121 rfl rfl ?_
        refine s_4 122 rfl ?_
        refine s_100 123 rfl ?_
        refine s_21 7 125 rfl rfl ?_
        refine s_17 0 128 128 128 jsp_0_128 rfl ?_
        refine s_128 129 rfl ?_
        refine s_145 130 rfl ?_
        refine s_84B 131 rfl (fun h5 => ?_)
        exact s_jmp (v_9_putNumber_131 l _ _ _) ⟨rfl, rfl, trivial⟩
  · refine s_45 84 rfl rfl ?_
    refine s_21 6 86 rfl rfl ?_
    refine s_31 87 rfl rfl ?_
    refine s_9 88 rfl ?_
    refine s_148_156 0 9 98 89 92 rfl rfl rfl ?_ ?_
    · refine s_3 99 rfl ?_
      exact s_jmp (v_9_putNumber_99 l _ _ _ _ _ _) ⟨rfl, rfl, trivial⟩
    · refine s_17 0 128 95 128 jsp_0_128 rfl ?_
      refine s_167 0 4 99 rfl rfl ?_
      exact s_jmp (v_9_putNumber_99 l _ _ _ _ _ _) ⟨rfl, rfl, trivial⟩
theorem v_9_putNumber_32 (l : Launch) (k32 : Nat → Int64 → Nat → Int64 → Int32 → Int32 → jH → Option (Unit × jH)) (hk32 : ∀ a0 a1 a3 a4 a6 a7 H, JV l mi_9_putNumber jeV 32 [(0, .ref a0), (1, .long a1), (3, .ref a3), (4, .long a4), (6, .int a6), (7, .int a7)] [] H (k32 a0 a1 a3 a4 a6 a7 H)) (a0 : Nat) (a1 : Int64) (a3 : Nat) (a4 : Int64) (a6 : Int32) (a7 : Int32) (H : jH) : JV l mi_9_putNumber jeV 32 [(0, .ref a0), (1, .long a1), (3, .ref a3), (4, .long a4), (6, .int a6), (7, .int a7)] [] H (B_9_putNumber_32 k32 a0 a1 a3 a4 a6 a7 H) := by
  unfold B_9_putNumber_32
  refine s_22 4 34 rfl rfl ?_
  refine s_9 35 rfl ?_
  refine s_148_158 0 39 75 36 39 rfl rfl rfl ?_ ?_
  · exact s_jmp (v_9_putNumber_75 l _ _ _ _ _ _) ⟨rfl, rfl, rfl, rfl, rfl, trivial⟩
  · refine s_21 6 41 rfl rfl ?_
    refine s_16 8 43 8 jbp_8 rfl ?_
    refine s_162 0 32 75 46 rfl rfl ?_ ?_
    · exact s_jmp (v_9_putNumber_75 l _ _ _ _ _ _) ⟨rfl, rfl, rfl, rfl, rfl, trivial⟩
    · refine s_22 4 48 rfl rfl ?_
      refine s_136 49 rfl ?_
      refine s_17 0 255 52 255 jsp_0_255 rfl ?_
      refine s_126 53 rfl ?_
      refine s_54L 7 55 rfl rfl (fun x6 => ?_)
      refine s_45 56 rfl rfl ?_
      refine s_21 6 58 rfl rfl ?_
      refine s_21 7 60 rfl rfl ?_
      refine s_145 61 rfl ?_
      refine s_84B 62 rfl (fun h7 => ?_)
      refine s_132L 6 1 65 1 ji_1 rfl rfl rfl (fun x8 => ?_)
      refine s_22 4 67 rfl rfl ?_
      refine s_16 8 69 8 jbp_8 rfl ?_
      refine s_125 70 rfl ?_
      refine s_55L 4 72 rfl rfl (fun x9 => ?_)
      refine s_167 255 216 32 rfl rfl ?_
      exact s_jmp (hk32 _ _ _ _ _ _ _) ⟨rfl, rfl, rfl, rfl, rfl, rfl, trivial⟩
theorem w_9_putNumber_32 (l : Launch)  (n : Nat) : ∀ a0 a1 a3 a4 a6 a7 H, JV l mi_9_putNumber jeV 32 [(0, .ref a0), (1, .long a1), (3, .ref a3), (4, .long a4), (6, .int a6), (7, .int a7)] [] H (F_9_putNumber_32  n a0 a1 a3 a4 a6 a7 H) := by
  induction n with
  | zero => intro _ _ _ _ _ _ _; exact s_none
  | succ n ih => intro a0 a1 a3 a4 a6 a7 H; exact v_9_putNumber_32 l (F_9_putNumber_32  n) ih a0 a1 a3 a4 a6 a7 H
theorem v_9_putNumber (l : Launch) (a0 : Nat) (a1 : Int64) (H : jH) : JV l mi_9_putNumber jeV 0 [(0, .ref a0), (1, .long a1)] [] H (F_9_putNumber a0 a1 H) := by
  unfold F_9_putNumber
  refine s_42 1 rfl rfl ?_
  refine s_180I 0 18 4 18 f_9_2 jw_167 rfl rfl ?_
  refine s_16 70 6 70 jbp_70 rfl ?_
  refine s_161 0 4 10 9 rfl rfl ?_ ?_
  · refine s_42 11 rfl rfl ?_
    refine s_180R 0 11 14 11 f_9_0 jw_163 rfl rfl ?_
    refine s_42 15 rfl rfl ?_
    refine s_180I 0 18 18 18 f_9_2 jw_167 rfl rfl ?_
    refine s_50 19 110 jt_110 rfl ?_
    refine s_78L 20 rfl rfl (fun x10 => ?_)
    refine s_31 21 rfl rfl ?_
    refine s_absL 0 28 24 28 jw_917 jw_918 jw_15 jw_919 rfl rfl rfl ?_
    refine s_55L 4 26 rfl rfl (fun x11 => ?_)
    refine s_3 27 rfl ?_
    refine s_54 6 29 rfl rfl ?_
    refine s_3 30 rfl ?_
    refine s_54 7 32 rfl rfl ?_
    exact s_jmp (w_9_putNumber_32 l jfuel _ _ _ _ _ _ _) ⟨rfl, rfl, rfl, rfl, rfl, rfl, trivial⟩
  · exact s_177 rfl rfl
theorem m_9_putNumber (l : Launch) (a0 : Nat) (a1 : Int64) (H : jH) : JMet l y_9_putNumber prog_11_method_4_code mi_9_putNumber jeV [.ref a0, .long a1] H (F_9_putNumber a0 a1 H) := jmet_of n_9_putNumber (by decide) ⟨rfl, rfl⟩ (Nat.le_of_ble_eq_true rfl) (v_9_putNumber l a0 a1 H)
def mi_4_finish : jM := (117182506600141874103222842742778001127579579629355774173718098302632260878963045039914273772647952088648943105222391073407786, 52, 2, "CoinNode$Machine", none, "finish", 2, 42)
def y_4_finish : MethodName := ⟨"CoinNode$Machine", "finish", "(Z)V"⟩
theorem n_4_finish : jn_is prog_6_method_21_code mi_4_finish.1 mi_4_finish.2.1 := by unfold jn_is; decide +kernel
theorem k_4_finish : jmok y_4_finish prog_6_method_21_code mi_4_finish 1 := ⟨jw_1004, jw_6, ⟨by decide, by decide⟩, by decide +kernel⟩
theorem v_4_finish_51 (l : Launch)   (H : jH) : JV l mi_4_finish jeV 51 [] [] H (B_4_finish_51   H) := by
  unfold B_4_finish_51
  exact s_177 rfl rfl
theorem v_4_finish_36 (l : Launch)  (s0 : Nat) (s1 : Int64) (H : jH) : JV l mi_4_finish jeV 36 [] [.long s1, .ref s0] H (B_4_finish_36  s0 s1 H) := by
  unfold B_4_finish_36
  refine s_182V 0 124 39 124 (m_9_putNumber l _ _ _) rfl k_9_putNumber jc_9 jw_913 jw_914 jw_915 rfl rfl rfl rfl rfl (fun x1 h2 => ?_)
  refine s_167 0 12 51 rfl rfl ?_
  exact s_jmp (v_4_finish_51 l _) trivial
theorem v_4_finish (l : Launch) (a0 : Nat) (a1 : Int32) (H : jH) : JV l mi_4_finish jeV 0 [(0, .ref a0), (1, .int a1)] [] H (F_4_finish a0 a1 H) := by
  unfold F_4_finish
  refine s_42 1 rfl rfl ?_
  refine s_3 2 rfl ?_
  refine s_181I 0 68 5 68 f_4_9 rfl rfl jw_187 rfl rfl (fun h3 => ?_)
  refine s_42 6 rfl rfl ?_
  refine s_180R 0 14 9 14 f_4_1 jw_177 rfl rfl ?_
  refine s_42 10 rfl rfl ?_
  refine s_180I 0 201 13 201 f_4_18 jw_196 rfl rfl ?_
  refine s_182V 0 119 16 119 (m_9_drop l _ _ _) rfl k_9_drop jc_9 jw_901 jw_902 jw_903 rfl rfl rfl rfl rfl (fun x4 h5 => ?_)
  refine s_42 17 rfl rfl ?_
  refine s_180I 0 189 20 189 f_4_19 jw_197 rfl rfl ?_
  refine s_154 0 22 42 23 rfl rfl ?_ ?_
  · refine s_27 43 rfl rfl ?_
    refine s_154 0 8 51 46 rfl rfl ?_ ?_
    · exact s_jmp (v_4_finish_51 l _) trivial
    · refine s_42 47 rfl rfl ?_
      refine s_5 48 rfl ?_
      refine s_181I 0 68 51 68 f_4_9 rfl rfl jw_187 rfl rfl (fun h6 => ?_)
      exact s_jmp (v_4_finish_51 l _) trivial
  · refine s_42 24 rfl rfl ?_
    refine s_180R 0 14 27 14 f_4_1 jw_177 rfl rfl ?_
    refine s_27 28 rfl rfl ?_
    refine s_153 0 7 35 31 rfl rfl ?_ ?_
    · refine s_9 36 rfl ?_
      exact s_jmp (v_4_finish_36 l _ _ _) trivial
    · refine s_10 32 rfl ?_
      refine s_167 0 4 36 rfl rfl ?_
      exact s_jmp (v_4_finish_36 l _ _ _) trivial
theorem m_4_finish (l : Launch) (a0 : Nat) (a1 : Int32) (H : jH) : JMet l y_4_finish prog_6_method_21_code mi_4_finish jeV [.ref a0, .int a1] H (F_4_finish a0 a1 H) := jmet_of n_4_finish (by decide) ⟨rfl, rfl⟩ (Nat.le_of_ble_eq_true rfl) (v_4_finish l a0 a1 H)
def mi_4_answer : jM := (58330236179954960478979679364915241479586671492258774941394484862893065220607593879507934957745897777153360989391038552888774694403193921298448709648771438563540811273943407995295372431394353930714135726275998762, 88, 2, "CoinNode$Machine", none, "answer", 3, 63)
def y_4_answer : MethodName := ⟨"CoinNode$Machine", "answer", "(Z)V"⟩
theorem n_4_answer : jn_is prog_6_method_20_code mi_4_answer.1 mi_4_answer.2.1 := by unfold jn_is; decide +kernel
theorem k_4_answer : jmok y_4_answer prog_6_method_20_code mi_4_answer 1 := ⟨jw_1159, jw_6, ⟨by decide, by decide⟩, by decide +kernel⟩
theorem v_4_answer_87 (l : Launch)   (H : jH) : JV l mi_4_answer jeV 87 [] [] H (B_4_answer_87   H) := by
  unfold B_4_answer_87
  exact s_177 rfl rfl
theorem v_4_answer_84 (l : Launch)  (s0 : Nat) (s1 : Int32) (H : jH) : JV l mi_4_answer jeV 84 [] [.int s1, .ref s0] H (B_4_answer_84  s0 s1 H) := by
  unfold B_4_answer_84
  refine s_182V 0 109 87 109 (m_4_finish l _ _ _) rfl k_4_finish jc_4 jw_1001 jw_1003 jps_22 rfl rfl rfl rfl rfl (fun x1 h2 => ?_)
  exact s_jmp (v_4_answer_87 l _) trivial
theorem v_4_answer_71 (l : Launch)  (a0 : Nat) (H : jH) : JV l mi_4_answer jeV 71 [(0, .ref a0)] [] H (B_4_answer_71  a0 H) := by
  unfold B_4_answer_71
  refine s_42 72 rfl rfl ?_
  refine s_42 73 rfl rfl ?_
  refine s_180I 0 106 76 106 f_4_14 jw_192 rfl rfl ?_
  refine s_154 0 7 83 79 rfl rfl ?_ ?_
  · refine s_3 84 rfl ?_
    exact s_jmp (v_4_answer_84 l _ _ _) trivial
  · refine s_4 80 rfl ?_
    refine s_167 0 4 84 rfl rfl ?_
    exact s_jmp (v_4_answer_84 l _ _ _) trivial
theorem v_4_answer_33 (l : Launch)  (a0 : Nat) (H : jH) : JV l mi_4_answer jeV 33 [(0, .ref a0)] [] H (B_4_answer_33  a0 H) := by
  unfold B_4_answer_33
  refine s_42 34 rfl rfl ?_
  refine s_89 35 rfl rfl ?_
  refine s_180I 0 192 38 192 f_4_16 jw_194 rfl rfl ?_
  refine s_4 39 rfl ?_
  refine s_100 40 rfl ?_
  refine s_181I 0 192 43 192 f_4_16 rfl rfl jw_194 rfl rfl (fun h3 => ?_)
  refine s_42 44 rfl rfl ?_
  refine s_89 45 rfl rfl ?_
  refine s_180I 0 195 48 195 f_4_17 jw_195 rfl rfl ?_
  refine s_4 49 rfl ?_
  refine s_100 50 rfl ?_
  refine s_181I 0 195 53 195 f_4_17 rfl rfl jw_195 rfl rfl (fun h4 => ?_)
  refine s_42 54 rfl rfl ?_
  refine s_180I 0 106 57 106 f_4_14 jw_192 rfl rfl ?_
  refine s_153 0 14 71 60 rfl rfl ?_ ?_
  · exact s_jmp (v_4_answer_71 l _ _) ⟨rfl, trivial⟩
  · refine s_42 61 rfl rfl ?_
    refine s_180I 0 106 64 106 f_4_14 jw_192 rfl rfl ?_
    refine s_42 65 rfl rfl ?_
    refine s_180I 0 192 68 192 f_4_16 jw_194 rfl rfl ?_
    refine s_164 0 19 87 71 rfl rfl ?_ ?_
    · exact s_jmp (v_4_answer_87 l _) trivial
    · exact s_jmp (v_4_answer_71 l _ _) ⟨rfl, trivial⟩
theorem v_4_answer (l : Launch) (a0 : Nat) (a1 : Int32) (H : jH) : JV l mi_4_answer jeV 0 [(0, .ref a0), (1, .int a1)] [] H (F_4_answer a0 a1 H) := by
  unfold F_4_answer
  refine s_42 1 rfl rfl ?_
  refine s_180I 0 68 4 68 f_4_9 jw_187 rfl rfl ?_
  refine s_6 5 rfl ?_
  refine s_159 0 4 9 8 rfl rfl ?_ ?_
  · refine s_27 10 rfl rfl ?_
    refine s_153 0 23 33 13 rfl rfl ?_ ?_
    · exact s_jmp (v_4_answer_33 l _ _) ⟨rfl, trivial⟩
    · refine s_42 14 rfl rfl ?_
      refine s_89 15 rfl rfl ?_
      refine s_180I 0 106 18 106 f_4_14 jw_192 rfl rfl ?_
      refine s_4 19 rfl ?_
      refine s_100 20 rfl ?_
      refine s_181I 0 106 23 106 f_4_14 rfl rfl jw_192 rfl rfl (fun h5 => ?_)
      refine s_42 24 rfl rfl ?_
      refine s_89 25 rfl rfl ?_
      refine s_180I 0 198 28 198 f_4_15 jw_193 rfl rfl ?_
      refine s_4 29 rfl ?_
      refine s_100 30 rfl ?_
      refine s_181I 0 198 33 198 f_4_15 rfl rfl jw_193 rfl rfl (fun h6 => ?_)
      exact s_jmp (v_4_answer_33 l _ _) ⟨rfl, trivial⟩
  · exact s_177 rfl rfl
theorem m_4_answer (l : Launch) (a0 : Nat) (a1 : Int32) (H : jH) : JMet l y_4_answer prog_6_method_20_code mi_4_answer jeV [.ref a0, .int a1] H (F_4_answer a0 a1 H) := jmet_of n_4_answer (by decide) ⟨rfl, rfl⟩ (Nat.le_of_ble_eq_true rfl) (v_4_answer l a0 a1 H)
def mi_4_clear : jM := (3593551985990005727738338593518634, 14, 1, "CoinNode$Machine", none, "clear", 0, 0)
def y_4_clear : MethodName := ⟨"CoinNode$Machine", "clear", "()V"⟩
theorem n_4_clear : jn_is prog_6_method_2_code mi_4_clear.1 mi_4_clear.2.1 := by unfold jn_is; decide +kernel
theorem k_4_clear : jmok y_4_clear prog_6_method_2_code mi_4_clear 0 := ⟨jw_863, jw_6, ⟨by decide, by decide⟩, by decide +kernel⟩
theorem v_4_clear (l : Launch) (a0 : Nat) (H : jH) : JV l mi_4_clear jeV 0 [(0, .ref a0)] [] H (F_4_clear a0 H) := by
  unfold F_4_clear
  refine s_42 1 rfl rfl ?_
  refine s_180R 0 14 4 14 f_4_1 jw_177 rfl rfl ?_
  refine s_3 5 rfl ?_
  refine s_181I 0 41 8 41 f_9_2 rfl rfl jw_168 rfl rfl (fun h1 => ?_)
  refine s_42 9 rfl rfl ?_
  refine s_3 10 rfl ?_
  refine s_181Z 0 45 13 45 f_4_8 rfl rfl jw_184 rfl rfl (fun h2 => ?_)
  exact s_177 rfl rfl
theorem m_4_clear (l : Launch) (a0 : Nat) (H : jH) : JMet l y_4_clear prog_6_method_2_code mi_4_clear jeV [.ref a0] H (F_4_clear a0 H) := jmet_of n_4_clear (by decide) ⟨rfl, rfl⟩ (Nat.le_of_ble_eq_true rfl) (v_4_clear l a0 H)
def mi_9_isTrue : jM := (862905993056515219349781846906090097213630475153707965913540536355059346050605568007221254425984046779046984749124724342616794532173376826982727127091894713290149937137480496968139366271826072300010961175579, 86, 5, "CoinNode$Stack", some FieldType.boolean, "isTrue", 0, 0)
def y_9_isTrue : MethodName := ⟨"CoinNode$Stack", "isTrue", "(I)Z"⟩
theorem n_9_isTrue : jn_is prog_11_method_7_code mi_9_isTrue.1 mi_9_isTrue.2.1 := by unfold jn_is; decide +kernel
theorem k_9_isTrue : jmok y_9_isTrue prog_11_method_7_code mi_9_isTrue 1 := ⟨jw_900, jw_7, ⟨by decide, by decide⟩, by decide +kernel⟩
theorem v_9_isTrue_13 (l : Launch)   (H : jH) : JV l mi_9_isTrue jeI 13 [] [] H (B_9_isTrue_13   H) := by
  unfold B_9_isTrue_13
  refine s_3 14 rfl ?_
  exact s_172Z rfl rfl
theorem v_9_isTrue_77 (l : Launch)  (s0 : Int32) (H : jH) : JV l mi_9_isTrue jeI 77 [] [.int s0] H (B_9_isTrue_77  s0 H) := by
  unfold B_9_isTrue_77
  exact s_172Z rfl rfl
theorem v_9_isTrue_72 (l : Launch)   (H : jH) : JV l mi_9_isTrue jeI 72 [] [] H (B_9_isTrue_72   H) := by
  unfold B_9_isTrue_72
  refine s_4 73 rfl ?_
  refine s_167 0 4 77 rfl rfl ?_
  exact s_jmp (v_9_isTrue_77 l _ _) trivial
theorem v_9_isTrue_42 (l : Launch) (k42 : Nat → Int32 → Int32 → jH → Option (Int32 × jH)) (hk42 : ∀ a2 a3 a4 H, JV l mi_9_isTrue jeI 42 [(2, .ref a2), (3, .int a3), (4, .int a4)] [] H (k42 a2 a3 a4 H)) (a2 : Nat) (a3 : Int32) (a4 : Int32) (H : jH) : JV l mi_9_isTrue jeI 42 [(2, .ref a2), (3, .int a3), (4, .int a4)] [] H (B_9_isTrue_42 k42 a2 a3 a4 H) := by
  unfold B_9_isTrue_42
  refine s_21 4 44 rfl rfl ?_
  refine s_29 45 rfl rfl ?_
  refine s_162 0 39 84 48 rfl rfl ?_ ?_
  · refine s_3 85 rfl ?_
    exact s_172Z rfl rfl
  · refine s_44 49 rfl rfl ?_
    refine s_21 4 51 rfl rfl ?_
    refine s_51B 52 rfl ?_
    refine s_153 0 26 78 55 rfl rfl ?_ ?_
    · refine s_132L 4 1 81 1 ji_1 rfl rfl rfl (fun x1 => ?_)
      refine s_167 255 217 42 rfl rfl ?_
      exact s_jmp (hk42 _ _ _ _) ⟨rfl, rfl, rfl, trivial⟩
    · refine s_21 4 57 rfl rfl ?_
      refine s_29 58 rfl rfl ?_
      refine s_4 59 rfl ?_
      refine s_100 60 rfl ?_
      refine s_161 0 12 72 63 rfl rfl ?_ ?_
      · exact s_jmp (v_9_isTrue_72 l _) trivial
      · refine s_44 64 rfl rfl ?_
        refine s_21 4 66 rfl rfl ?_
        refine s_51B 67 rfl ?_
        refine s_16 128 69 (-128) jbp_128 rfl ?_
        refine s_159 0 7 76 72 rfl rfl ?_ ?_
        · refine s_3 77 rfl ?_
          exact s_jmp (v_9_isTrue_77 l _ _) trivial
        · exact s_jmp (v_9_isTrue_72 l _) trivial
theorem w_9_isTrue_42 (l : Launch)  (n : Nat) : ∀ a2 a3 a4 H, JV l mi_9_isTrue jeI 42 [(2, .ref a2), (3, .int a3), (4, .int a4)] [] H (F_9_isTrue_42  n a2 a3 a4 H) := by
  induction n with
  | zero => intro _ _ _ _; exact s_none
  | succ n ih => intro a2 a3 a4 H; exact v_9_isTrue_42 l (F_9_isTrue_42  n) ih a2 a3 a4 H
theorem v_9_isTrue (l : Launch) (a0 : Nat) (a1 : Int32) (H : jH) : JV l mi_9_isTrue jeI 0 [(0, .ref a0), (1, .int a1)] [] H (F_9_isTrue a0 a1 H) := by
  unfold F_9_isTrue
  refine s_27 1 rfl rfl ?_
  refine s_4 2 rfl ?_
  refine s_161 0 11 13 5 rfl rfl ?_ ?_
  · exact s_jmp (v_9_isTrue_13 l _) trivial
  · refine s_27 6 rfl rfl ?_
    refine s_42 7 rfl rfl ?_
    refine s_180I 0 18 10 18 f_9_2 jw_167 rfl rfl ?_
    refine s_164 0 5 15 13 rfl rfl ?_ ?_
    · refine s_42 16 rfl rfl ?_
      refine s_180R 0 11 19 11 f_9_0 jw_163 rfl rfl ?_
      refine s_42 20 rfl rfl ?_
      refine s_180I 0 18 23 18 f_9_2 jw_167 rfl rfl ?_
      refine s_27 24 rfl rfl ?_
      refine s_100 25 rfl ?_
      refine s_50 26 110 jt_110 rfl ?_
      refine s_77L 27 rfl rfl (fun x2 => ?_)
      refine s_42 28 rfl rfl ?_
      refine s_180R 0 14 31 14 f_9_1 jw_165 rfl rfl ?_
      refine s_42 32 rfl rfl ?_
      refine s_180I 0 18 35 18 f_9_2 jw_167 rfl rfl ?_
      refine s_27 36 rfl rfl ?_
      refine s_100 37 rfl ?_
      refine s_46 38 rfl ?_
      refine s_62L 39 rfl rfl (fun x3 => ?_)
      refine s_3 40 rfl ?_
      refine s_54 4 42 rfl rfl ?_
      exact s_jmp (w_9_isTrue_42 l jfuel _ _ _ _) ⟨rfl, rfl, rfl, trivial⟩
    · exact s_jmp (v_9_isTrue_13 l _) trivial
theorem m_9_isTrue (l : Launch) (a0 : Nat) (a1 : Int32) (H : jH) : JMet l y_9_isTrue prog_11_method_7_code mi_9_isTrue jeI [.ref a0, .int a1] H (F_9_isTrue a0 a1 H) := jmet_of n_9_isTrue (by decide) ⟨rfl, rfl⟩ (Nat.le_of_ble_eq_true rfl) (v_9_isTrue l a0 a1 H)
def mi_4_isHappy : jM := (77803138122090350580986686180782994874772580821612120891934580211995501442090, 32, 1, "CoinNode$Machine", some FieldType.boolean, "isHappy", 1, 24)
def y_4_isHappy : MethodName := ⟨"CoinNode$Machine", "isHappy", "()Z"⟩
theorem n_4_isHappy : jn_is prog_6_method_5_code mi_4_isHappy.1 mi_4_isHappy.2.1 := by unfold jn_is; decide +kernel
theorem k_4_isHappy : jmok y_4_isHappy prog_6_method_5_code mi_4_isHappy 0 := ⟨jw_1168, jw_6, ⟨by decide, by decide⟩, by decide +kernel⟩
theorem v_4_isHappy_31 (l : Launch)  (s0 : Int32) (H : jH) : JV l mi_4_isHappy jeI 31 [] [.int s0] H (B_4_isHappy_31  s0 H) := by
  unfold B_4_isHappy_31
  exact s_172Z rfl rfl
theorem v_4_isHappy_30 (l : Launch)   (H : jH) : JV l mi_4_isHappy jeI 30 [] [] H (B_4_isHappy_30   H) := by
  unfold B_4_isHappy_30
  refine s_3 31 rfl ?_
  exact s_jmp (v_4_isHappy_31 l _ _) trivial
theorem v_4_isHappy (l : Launch) (a0 : Nat) (H : jH) : JV l mi_4_isHappy jeI 0 [(0, .ref a0)] [] H (F_4_isHappy a0 H) := by
  unfold F_4_isHappy
  refine s_42 1 rfl rfl ?_
  refine s_180I 0 68 4 68 f_4_9 jw_187 rfl rfl ?_
  refine s_4 5 rfl ?_
  refine s_160 0 25 30 8 rfl rfl ?_ ?_
  · exact s_jmp (v_4_isHappy_30 l _) trivial
  · refine s_42 9 rfl rfl ?_
    refine s_180I 0 45 12 45 f_4_8 jw_184 rfl rfl ?_
    refine s_153 0 18 30 15 rfl rfl ?_ ?_
    · exact s_jmp (v_4_isHappy_30 l _) trivial
    · refine s_42 16 rfl rfl ?_
      refine s_180R 0 14 19 14 f_4_1 jw_177 rfl rfl ?_
      refine s_4 20 rfl ?_
      refine s_182I 0 71 23 71 (m_9_isTrue l _ _ _) rfl k_9_isTrue jc_9 jw_897 jw_898 jw_899 rfl rfl rfl rfl rfl (fun x1 h2 => ?_)
      refine s_153 0 7 30 26 rfl rfl ?_ ?_
      · exact s_jmp (v_4_isHappy_30 l _) trivial
      · refine s_4 27 rfl ?_
        refine s_167 0 4 31 rfl rfl ?_
        exact s_jmp (v_4_isHappy_31 l _ _) trivial
theorem m_4_isHappy (l : Launch) (a0 : Nat) (H : jH) : JMet l y_4_isHappy prog_6_method_5_code mi_4_isHappy jeI [.ref a0] H (F_4_isHappy a0 H) := jmet_of n_4_isHappy (by decide) ⟨rfl, rfl⟩ (Nat.le_of_ble_eq_true rfl) (v_4_isHappy l a0 H)
def mi_4_open : jM := (155762268388719694346354864212135921927363270254507205899276444518853318193097520293820997709834473032043584677276081041936438692649001869794576836749176271320106, 67, 4, "CoinNode$Machine", none, "open", 0, 0)
def y_4_open : MethodName := ⟨"CoinNode$Machine", "open", "([BII)V"⟩
theorem n_4_open : jn_is prog_6_method_4_code mi_4_open.1 mi_4_open.2.1 := by unfold jn_is; decide +kernel
theorem k_4_open : jmok y_4_open prog_6_method_4_code mi_4_open 3 := ⟨jw_875, jw_6, ⟨by decide, by decide⟩, by decide +kernel⟩
theorem v_4_open_63 (l : Launch)  (s0 : Nat) (s1 : Int32) (H : jH) : JV l mi_4_open jeV 63 [] [.int s1, .ref s0] H (B_4_open_63  s0 s1 H) := by
  unfold B_4_open_63
  refine s_181I 0 68 66 68 f_4_9 rfl rfl jw_187 rfl rfl (fun h1 => ?_)
  exact s_177 rfl rfl
theorem v_4_open_58 (l : Launch)  (s0 : Nat) (H : jH) : JV l mi_4_open jeV 58 [] [.ref s0] H (B_4_open_58  s0 H) := by
  unfold B_4_open_58
  refine s_5 59 rfl ?_
  refine s_167 0 4 63 rfl rfl ?_
  exact s_jmp (v_4_open_63 l _ _ _) trivial
theorem v_4_open (l : Launch) (a0 : Nat) (a1 : Nat) (a2 : Int32) (a3 : Int32) (H : jH) : JV l mi_4_open jeV 0 [(0, .ref a0), (1, .ref a1), (2, .int a2), (3, .int a3)] [] H (F_4_open a0 a1 a2 a3 H) := by
  unfold F_4_open
  refine s_42 1 rfl rfl ?_
  refine s_180R 0 20 4 20 f_4_2 jw_178 rfl rfl ?_
  refine s_3 5 rfl ?_
  refine s_181I 0 41 8 41 f_9_2 rfl rfl jw_168 rfl rfl (fun h2 => ?_)
  refine s_42 9 rfl rfl ?_
  refine s_3 10 rfl ?_
  refine s_181I 0 53 13 53 f_4_10 rfl rfl jw_188 rfl rfl (fun h3 => ?_)
  refine s_42 14 rfl rfl ?_
  refine s_3 15 rfl ?_
  refine s_181I 0 56 18 56 f_4_12 rfl rfl jw_190 rfl rfl (fun h4 => ?_)
  refine s_42 19 rfl rfl ?_
  refine s_3 20 rfl ?_
  refine s_181I 0 59 23 59 f_4_13 rfl rfl jw_191 rfl rfl (fun h5 => ?_)
  refine s_42 24 rfl rfl ?_
  refine s_43 25 rfl rfl ?_
  refine s_181R 0 30 28 30 f_4_5 rfl rfl jw_181 rfl rfl (fun h6 => ?_)
  refine s_42 29 rfl rfl ?_
  refine s_28 30 rfl rfl ?_
  refine s_181I 0 62 33 62 f_4_6 rfl rfl jw_182 rfl rfl (fun h7 => ?_)
  refine s_42 34 rfl rfl ?_
  refine s_28 35 rfl rfl ?_
  refine s_29 36 rfl rfl ?_
  refine s_96 37 rfl ?_
  refine s_181I 0 65 40 65 f_4_7 rfl rfl jw_183 rfl rfl (fun h8 => ?_)
  refine s_42 41 rfl rfl ?_
  refine s_28 42 rfl rfl ?_
  refine s_155 0 16 58 45 rfl rfl ?_ ?_
  · exact s_jmp (v_4_open_58 l _ _) trivial
  · refine s_29 46 rfl rfl ?_
    refine s_155 0 12 58 49 rfl rfl ?_ ?_
    · exact s_jmp (v_4_open_58 l _ _) trivial
    · refine s_42 50 rfl rfl ?_
      refine s_180I 0 65 53 65 f_4_7 jw_183 rfl rfl ?_
      refine s_43 54 rfl rfl ?_
      refine s_190 55 101 jm_101 rfl ?_
      refine s_164 0 7 62 58 rfl rfl ?_ ?_
      · refine s_3 63 rfl ?_
        exact s_jmp (v_4_open_63 l _ _ _) trivial
      · exact s_jmp (v_4_open_58 l _ _) trivial
theorem m_4_open (l : Launch) (a0 : Nat) (a1 : Nat) (a2 : Int32) (a3 : Int32) (H : jH) : JMet l y_4_open prog_6_method_4_code mi_4_open jeV [.ref a0, .ref a1, .int a2, .int a3] H (F_4_open a0 a1 a2 a3 H) := jmet_of n_4_open (by decide) ⟨rfl, rfl⟩ (Nat.le_of_ble_eq_true rfl) (v_4_open l a0 a1 a2 a3 H)
def mi_4_openLast : jM := (14037312445291908869856140471082, 13, 4, "CoinNode$Machine", none, "openLast", 1, 23)
def y_4_openLast : MethodName := ⟨"CoinNode$Machine", "openLast", "([BII)V"⟩
theorem n_4_openLast : jn_is prog_6_method_3_code mi_4_openLast.1 mi_4_openLast.2.1 := by unfold jn_is; decide +kernel
theorem k_4_openLast : jmok y_4_openLast prog_6_method_3_code mi_4_openLast 3 := ⟨jw_1163, jw_6, ⟨by decide, by decide⟩, by decide +kernel⟩
theorem v_4_openLast (l : Launch) (a0 : Nat) (a1 : Nat) (a2 : Int32) (a3 : Int32) (H : jH) : JV l mi_4_openLast jeV 0 [(0, .ref a0), (1, .ref a1), (2, .int a2), (3, .int a3)] [] H (F_4_openLast a0 a1 a2 a3 H) := by
  unfold F_4_openLast
  refine s_42 1 rfl rfl ?_
  refine s_43 2 rfl rfl ?_
  refine s_28 3 rfl rfl ?_
  refine s_29 4 rfl rfl ?_
  refine s_182V 0 49 7 49 (m_4_open l _ _ _ _ _) rfl k_4_open jc_4 jw_1164 jw_873 jw_874 rfl rfl rfl rfl rfl (fun x1 h2 => ?_)
  refine s_42 8 rfl rfl ?_
  refine s_4 9 rfl ?_
  refine s_181Z 0 45 12 45 f_4_8 rfl rfl jw_184 rfl rfl (fun h3 => ?_)
  exact s_177 rfl rfl
theorem m_4_openLast (l : Launch) (a0 : Nat) (a1 : Nat) (a2 : Int32) (a3 : Int32) (H : jH) : JMet l y_4_openLast prog_6_method_3_code mi_4_openLast jeV [.ref a0, .ref a1, .int a2, .int a3] H (F_4_openLast a0 a1 a2 a3 H) := jmet_of n_4_openLast (by decide) ⟨rfl, rfl⟩ (Nat.le_of_ble_eq_true rfl) (v_4_openLast l a0 a1 a2 a3 H)
def mi_4_publicKey : jM := (376357258931880735924427426083595883756499666465763829036620824180744072794931367173484232709289002, 41, 1, "CoinNode$Machine", some (FieldType.array FieldType.byte), "publicKey", 0, 0)
def y_4_publicKey : MethodName := ⟨"CoinNode$Machine", "publicKey", "()[B"⟩
theorem n_4_publicKey : jn_is prog_6_method_24_code mi_4_publicKey.1 mi_4_publicKey.2.1 := by unfold jn_is; decide +kernel
theorem k_4_publicKey : jmok y_4_publicKey prog_6_method_24_code mi_4_publicKey 0 := ⟨jw_1039, jw_6, ⟨by decide, by decide⟩, by decide +kernel⟩
theorem v_4_publicKey_40 (l : Launch)  (s0 : Nat) (H : jH) : JV l mi_4_publicKey jeR 40 [] [.ref s0] H (B_4_publicKey_40  s0 H) := by
  unfold B_4_publicKey_40
  exact s_176 rfl rfl rfl
theorem v_4_publicKey_21 (l : Launch)  (a0 : Nat) (H : jH) : JV l mi_4_publicKey jeR 21 [(0, .ref a0)] [] H (B_4_publicKey_21  a0 H) := by
  unfold B_4_publicKey_21
  refine s_42 22 rfl rfl ?_
  refine s_180R 0 26 25 26 f_4_4 jw_180 rfl rfl ?_
  refine s_167 0 15 40 rfl rfl ?_
  exact s_jmp (v_4_publicKey_40 l _ _) trivial
theorem v_4_publicKey (l : Launch) (a0 : Nat) (H : jH) : JV l mi_4_publicKey jeR 0 [(0, .ref a0)] [] H (F_4_publicKey a0 H) := by
  unfold F_4_publicKey
  refine s_42 1 rfl rfl ?_
  refine s_180I 0 195 4 195 f_4_17 jw_195 rfl rfl ?_
  refine s_155 0 17 21 7 rfl rfl ?_ ?_
  · exact s_jmp (v_4_publicKey_21 l _ _) ⟨rfl, trivial⟩
  · refine s_42 8 rfl rfl ?_
    refine s_180I 0 195 11 195 f_4_17 jw_195 rfl rfl ?_
    refine s_42 12 rfl rfl ?_
    refine s_180R 0 14 15 14 f_4_1 jw_177 rfl rfl ?_
    refine s_180I 0 41 18 41 f_9_2 jw_168 rfl rfl ?_
    refine s_161 0 10 28 21 rfl rfl ?_ ?_
    · refine s_42 29 rfl rfl ?_
      refine s_180R 0 14 32 14 f_4_1 jw_177 rfl rfl ?_
      refine s_180R 0 174 35 174 f_9_0 jw_164 rfl rfl ?_
      refine s_42 36 rfl rfl ?_
      refine s_180I 0 195 39 195 f_4_17 jw_195 rfl rfl ?_
      refine s_50 40 110 jt_110 rfl ?_
      exact s_jmp (v_4_publicKey_40 l _ _) trivial
    · exact s_jmp (v_4_publicKey_21 l _ _) ⟨rfl, trivial⟩
theorem m_4_publicKey (l : Launch) (a0 : Nat) (H : jH) : JMet l y_4_publicKey prog_6_method_24_code mi_4_publicKey jeR [.ref a0] H (F_4_publicKey a0 H) := jmet_of n_4_publicKey (by decide) ⟨rfl, rfl⟩ (Nat.le_of_ble_eq_true rfl) (v_4_publicKey l a0 H)
def mi_4_publicKeySize : jM := (21921392440245186599564456273831421799267268734091067694959021916716865877390048968606528554, 38, 1, "CoinNode$Machine", some FieldType.int, "publicKeySize", 0, 0)
def y_4_publicKeySize : MethodName := ⟨"CoinNode$Machine", "publicKeySize", "()I"⟩
theorem n_4_publicKeySize : jn_is prog_6_method_25_code mi_4_publicKeySize.1 mi_4_publicKeySize.2.1 := by unfold jn_is; decide +kernel
theorem k_4_publicKeySize : jmok y_4_publicKeySize prog_6_method_25_code mi_4_publicKeySize 0 := ⟨jw_1043, jw_6, ⟨by decide, by decide⟩, by decide +kernel⟩
theorem v_4_publicKeySize_37 (l : Launch)  (s0 : Int32) (H : jH) : JV l mi_4_publicKeySize jeI 37 [] [.int s0] H (B_4_publicKeySize_37  s0 H) := by
  unfold B_4_publicKeySize_37
  exact s_172 rfl rfl
theorem v_4_publicKeySize_21 (l : Launch)   (H : jH) : JV l mi_4_publicKeySize jeI 21 [] [] H (B_4_publicKeySize_21   H) := by
  unfold B_4_publicKeySize_21
  refine s_3 22 rfl ?_
  refine s_167 0 15 37 rfl rfl ?_
  exact s_jmp (v_4_publicKeySize_37 l _ _) trivial
theorem v_4_publicKeySize (l : Launch) (a0 : Nat) (H : jH) : JV l mi_4_publicKeySize jeI 0 [(0, .ref a0)] [] H (F_4_publicKeySize a0 H) := by
  unfold F_4_publicKeySize
  refine s_42 1 rfl rfl ?_
  refine s_180I 0 195 4 195 f_4_17 jw_195 rfl rfl ?_
  refine s_155 0 17 21 7 rfl rfl ?_ ?_
  · exact s_jmp (v_4_publicKeySize_21 l _) trivial
  · refine s_42 8 rfl rfl ?_
    refine s_180I 0 195 11 195 f_4_17 jw_195 rfl rfl ?_
    refine s_42 12 rfl rfl ?_
    refine s_180R 0 14 15 14 f_4_1 jw_177 rfl rfl ?_
    refine s_180I 0 41 18 41 f_9_2 jw_168 rfl rfl ?_
    refine s_161 0 7 25 21 rfl rfl ?_ ?_
    · refine s_42 26 rfl rfl ?_
      refine s_180R 0 14 29 14 f_4_1 jw_177 rfl rfl ?_
      refine s_180R 0 142 32 142 f_9_1 jw_166 rfl rfl ?_
      refine s_42 33 rfl rfl ?_
      refine s_180I 0 195 36 195 f_4_17 jw_195 rfl rfl ?_
      refine s_46 37 rfl ?_
      exact s_jmp (v_4_publicKeySize_37 l _ _) trivial
    · exact s_jmp (v_4_publicKeySize_21 l _) trivial
theorem m_4_publicKeySize (l : Launch) (a0 : Nat) (H : jH) : JMet l y_4_publicKeySize prog_6_method_25_code mi_4_publicKeySize jeI [.ref a0] H (F_4_publicKeySize a0 H) := jmet_of n_4_publicKeySize (by decide) ⟨rfl, rfl⟩ (Nat.le_of_ble_eq_true rfl) (v_4_publicKeySize l a0 H)
def mi_4_has : jM := (982050599986913059424569315097331083115344475178, 20, 2, "CoinNode$Machine", some FieldType.boolean, "has", 0, 0)
def y_4_has : MethodName := ⟨"CoinNode$Machine", "has", "(I)Z"⟩
theorem n_4_has : jn_is prog_6_method_7_code mi_4_has.1 mi_4_has.2.1 := by unfold jn_is; decide +kernel
theorem k_4_has : jmok y_4_has prog_6_method_7_code mi_4_has 1 := ⟨jw_896, jw_6, ⟨by decide, by decide⟩, by decide +kernel⟩
theorem v_4_has (l : Launch) (a0 : Nat) (a1 : Int32) (H : jH) : JV l mi_4_has jeI 0 [(0, .ref a0), (1, .int a1)] [] H (F_4_has a0 a1 H) := by
  unfold F_4_has
  refine s_42 1 rfl rfl ?_
  refine s_180R 0 14 4 14 f_4_1 jw_177 rfl rfl ?_
  refine s_180I 0 41 7 41 f_9_2 jw_168 rfl rfl ?_
  refine s_27 8 rfl rfl ?_
  refine s_162 0 10 18 11 rfl rfl ?_ ?_
  · refine s_4 19 rfl ?_
    exact s_172Z rfl rfl
  · refine s_42 12 rfl rfl ?_
    refine s_5 13 rfl ?_
    refine s_181I 0 68 16 68 f_4_9 rfl rfl jw_187 rfl rfl (fun h1 => ?_)
    refine s_3 17 rfl ?_
    exact s_172Z rfl rfl
theorem m_4_has (l : Launch) (a0 : Nat) (a1 : Int32) (H : jH) : JMet l y_4_has prog_6_method_7_code mi_4_has jeI [.ref a0, .int a1] H (F_4_has a0 a1 H) := jmet_of n_4_has (by decide) ⟨rfl, rfl⟩ (Nat.le_of_ble_eq_true rfl) (v_4_has l a0 a1 H)
def mi_9_isNumber : jM := (5098906459969313215691212231546609105303301658787103041321301097354217631061705755, 34, 2, "CoinNode$Stack", some FieldType.boolean, "isNumber", 0, 0)
def y_9_isNumber : MethodName := ⟨"CoinNode$Stack", "isNumber", "(I)Z"⟩
theorem n_9_isNumber : jn_is prog_11_method_5_code mi_9_isNumber.1 mi_9_isNumber.2.1 := by unfold jn_is; decide +kernel
theorem k_9_isNumber : jmok y_9_isNumber prog_11_method_5_code mi_9_isNumber 1 := ⟨jw_935, jw_7, ⟨by decide, by decide⟩, by decide +kernel⟩
theorem v_9_isNumber_33 (l : Launch)  (s0 : Int32) (H : jH) : JV l mi_9_isNumber jeI 33 [] [.int s0] H (B_9_isNumber_33  s0 H) := by
  unfold B_9_isNumber_33
  exact s_172Z rfl rfl
theorem v_9_isNumber_32 (l : Launch)   (H : jH) : JV l mi_9_isNumber jeI 32 [] [] H (B_9_isNumber_32   H) := by
  unfold B_9_isNumber_32
  refine s_3 33 rfl ?_
  exact s_jmp (v_9_isNumber_33 l _ _) trivial
theorem v_9_isNumber (l : Launch) (a0 : Nat) (a1 : Int32) (H : jH) : JV l mi_9_isNumber jeI 0 [(0, .ref a0), (1, .int a1)] [] H (F_9_isNumber a0 a1 H) := by
  unfold F_9_isNumber
  refine s_27 1 rfl rfl ?_
  refine s_4 2 rfl ?_
  refine s_161 0 30 32 5 rfl rfl ?_ ?_
  · exact s_jmp (v_9_isNumber_32 l _) trivial
  · refine s_27 6 rfl rfl ?_
    refine s_42 7 rfl rfl ?_
    refine s_180I 0 18 10 18 f_9_2 jw_167 rfl rfl ?_
    refine s_163 0 22 32 13 rfl rfl ?_ ?_
    · exact s_jmp (v_9_isNumber_32 l _) trivial
    · refine s_42 14 rfl rfl ?_
      refine s_180R 0 14 17 14 f_9_1 jw_165 rfl rfl ?_
      refine s_42 18 rfl rfl ?_
      refine s_180I 0 18 21 18 f_9_2 jw_167 rfl rfl ?_
      refine s_27 22 rfl rfl ?_
      refine s_100 23 rfl ?_
      refine s_46 24 rfl ?_
      refine s_7 25 rfl ?_
      refine s_163 0 7 32 28 rfl rfl ?_ ?_
      · exact s_jmp (v_9_isNumber_32 l _) trivial
      · refine s_4 29 rfl ?_
        refine s_167 0 4 33 rfl rfl ?_
        exact s_jmp (v_9_isNumber_33 l _ _) trivial
theorem m_9_isNumber (l : Launch) (a0 : Nat) (a1 : Int32) (H : jH) : JMet l y_9_isNumber prog_11_method_5_code mi_9_isNumber jeI [.ref a0, .int a1] H (F_9_isNumber a0 a1 H) := jmet_of n_9_isNumber (by decide) ⟨rfl, rfl⟩ (Nat.le_of_ble_eq_true rfl) (v_9_isNumber l a0 a1 H)
def mi_9_lift : jM := (19835689937145674979597607084279194338022335201511184633273326212026002793003574962541256863186107703981288214082871498135529236418603087051763755265127814178767283675449383610856208784721736608379080320159029354778017713859242376138295417801690618651, 104, 5, "CoinNode$Stack", none, "lift", 0, 0)
def y_9_lift : MethodName := ⟨"CoinNode$Stack", "lift", "(I)V"⟩
theorem n_9_lift : jn_is prog_11_method_10_code mi_9_lift.1 mi_9_lift.2.1 := by unfold jn_is; decide +kernel
theorem k_9_lift : jmok y_9_lift prog_11_method_10_code mi_9_lift 1 := ⟨jw_943, jw_7, ⟨by decide, by decide⟩, by decide +kernel⟩
theorem v_9_lift_12 (l : Launch)   (H : jH) : JV l mi_9_lift jeV 12 [] [] H (B_9_lift_12   H) := by
  unfold B_9_lift_12
  exact s_177 rfl rfl
theorem v_9_lift_30 (l : Launch) (k30 : Nat → Nat → Int32 → Int32 → jH → Option (Unit × jH)) (hk30 : ∀ a0 a2 a3 a4 H, JV l mi_9_lift jeV 30 [(0, .ref a0), (2, .ref a2), (3, .int a3), (4, .int a4)] [] H (k30 a0 a2 a3 a4 H)) (a0 : Nat) (a2 : Nat) (a3 : Int32) (a4 : Int32) (H : jH) : JV l mi_9_lift jeV 30 [(0, .ref a0), (2, .ref a2), (3, .int a3), (4, .int a4)] [] H (B_9_lift_30 k30 a0 a2 a3 a4 H) := by
  unfold B_9_lift_30
  refine s_21 4 32 rfl rfl ?_
  refine s_42 33 rfl rfl ?_
  refine s_180I 0 18 36 18 f_9_2 jw_167 rfl rfl ?_
  refine s_4 37 rfl ?_
  refine s_100 38 rfl ?_
  refine s_162 0 41 79 41 rfl rfl ?_ ?_
  · refine s_42 80 rfl rfl ?_
    refine s_180R 0 11 83 11 f_9_0 jw_163 rfl rfl ?_
    refine s_42 84 rfl rfl ?_
    refine s_180I 0 18 87 18 f_9_2 jw_167 rfl rfl ?_
    refine s_4 88 rfl ?_
    refine s_100 89 rfl ?_
    refine s_44 90 rfl rfl ?_
    refine s_83A 91 rfl (fun h1 => ?_)
    refine s_42 92 rfl rfl ?_
    refine s_180R 0 14 95 14 f_9_1 jw_165 rfl rfl ?_
    refine s_42 96 rfl rfl ?_
    refine s_180I 0 18 99 18 f_9_2 jw_167 rfl rfl ?_
    refine s_4 100 rfl ?_
    refine s_100 101 rfl ?_
    refine s_29 102 rfl rfl ?_
    refine s_79 103 rfl (fun h2 => ?_)
    exact s_177 rfl rfl
  · refine s_42 42 rfl rfl ?_
    refine s_180R 0 11 45 11 f_9_0 jw_163 rfl rfl ?_
    refine s_21 4 47 rfl rfl ?_
    refine s_42 48 rfl rfl ?_
    refine s_180R 0 11 51 11 f_9_0 jw_163 rfl rfl ?_
    refine s_21 4 53 rfl rfl ?_
    refine s_4 54 rfl ?_
    refine s_96 55 rfl ?_
    refine s_50 56 110 jt_110 rfl ?_
    refine s_83A 57 rfl (fun h3 => ?_)
    refine s_42 58 rfl rfl ?_
    refine s_180R 0 14 61 14 f_9_1 jw_165 rfl rfl ?_
    refine s_21 4 63 rfl rfl ?_
    refine s_42 64 rfl rfl ?_
    refine s_180R 0 14 67 14 f_9_1 jw_165 rfl rfl ?_
    refine s_21 4 69 rfl rfl ?_
    refine s_4 70 rfl ?_
    refine s_96 71 rfl ?_
    refine s_46 72 rfl ?_
    refine s_79 73 rfl (fun h4 => ?_)
    refine s_132L 4 1 76 1 ji_1 rfl rfl rfl (fun x5 => ?_)
    refine s_167 255 210 30 rfl rfl ?_
    exact s_jmp (hk30 _ _ _ _ _) ⟨rfl, rfl, rfl, rfl, trivial⟩
theorem w_9_lift_30 (l : Launch)  (n : Nat) : ∀ a0 a2 a3 a4 H, JV l mi_9_lift jeV 30 [(0, .ref a0), (2, .ref a2), (3, .int a3), (4, .int a4)] [] H (F_9_lift_30  n a0 a2 a3 a4 H) := by
  induction n with
  | zero => intro _ _ _ _ _; exact s_none
  | succ n ih => intro a0 a2 a3 a4 H; exact v_9_lift_30 l (F_9_lift_30  n) ih a0 a2 a3 a4 H
theorem v_9_lift (l : Launch) (a0 : Nat) (a1 : Int32) (H : jH) : JV l mi_9_lift jeV 0 [(0, .ref a0), (1, .int a1)] [] H (F_9_lift a0 a1 H) := by
  unfold F_9_lift
  refine s_27 1 rfl rfl ?_
  refine s_155 0 11 12 4 rfl rfl ?_ ?_
  · exact s_jmp (v_9_lift_12 l _) trivial
  · refine s_27 5 rfl rfl ?_
    refine s_42 6 rfl rfl ?_
    refine s_180I 0 18 9 18 f_9_2 jw_167 rfl rfl ?_
    refine s_161 0 4 13 12 rfl rfl ?_ ?_
    · refine s_42 14 rfl rfl ?_
      refine s_180R 0 11 17 11 f_9_0 jw_163 rfl rfl ?_
      refine s_27 18 rfl rfl ?_
      refine s_50 19 110 jt_110 rfl ?_
      refine s_77L 20 rfl rfl (fun x6 => ?_)
      refine s_42 21 rfl rfl ?_
      refine s_180R 0 14 24 14 f_9_1 jw_165 rfl rfl ?_
      refine s_27 25 rfl rfl ?_
      refine s_46 26 rfl ?_
      refine s_62L 27 rfl rfl (fun x7 => ?_)
      refine s_27 28 rfl rfl ?_
      refine s_54 4 30 rfl rfl ?_
      exact s_jmp (w_9_lift_30 l jfuel _ _ _ _ _) ⟨rfl, rfl, rfl, rfl, trivial⟩
    · exact s_jmp (v_9_lift_12 l _) trivial
theorem m_9_lift (l : Launch) (a0 : Nat) (a1 : Int32) (H : jH) : JMet l y_9_lift prog_11_method_10_code mi_9_lift jeV [.ref a0, .int a1] H (F_9_lift a0 a1 H) := jmet_of n_9_lift (by decide) ⟨rfl, rfl⟩ (Nat.le_of_ble_eq_true rfl) (v_9_lift l a0 a1 H)
