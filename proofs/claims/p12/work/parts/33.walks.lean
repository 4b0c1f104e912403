def mi_4_push : jM := (265852858913654471998902976112068038590551796107990858372748197698993616656928190855351239966832759220101483738120525224205569501171640479403148478427494068932637104447546702482536495572264654294099156579676785067312033997864940828638638005895227126371678397030045420583521569705862752994696507687053165659014584211735161656399842530498203996701150680489676603945339295338603368335261558398332454889590811, 168, 4, "CoinNode$Machine", none, "push", 2, 83)
def y_4_push : MethodName := ⟨"CoinNode$Machine", "push", "(I)V"⟩
theorem n_4_push : jn_is prog_6_method_8_code mi_4_push.1 mi_4_push.2.1 := by unfold jn_is; decide +kernel
theorem k_4_push : jmok y_4_push prog_6_method_8_code mi_4_push 1 := ⟨jw_883, jw_6, ⟨by decide, by decide⟩, by decide +kernel⟩
theorem v_4_push_128 (l : Launch)  (a0 : Nat) (H : jH) : JV l mi_4_push jeV 128 [(0, .ref a0)] [] H (B_4_push_128  a0 H) := by
  unfold B_4_push_128
  refine s_42 129 rfl rfl ?_
  refine s_5 130 rfl ?_
  refine s_181I 0 68 133 68 f_4_9 rfl rfl jw_187 rfl rfl (fun h1 => ?_)
  exact s_177 rfl rfl
theorem v_4_push_157 (l : Launch)  (a0 : Nat) (a3 : Int32) (H : jH) : JV l mi_4_push jeV 157 [(0, .ref a0), (3, .int a3)] [] H (B_4_push_157  a0 a3 H) := by
  unfold B_4_push_157
  refine s_42 158 rfl rfl ?_
  refine s_89 159 rfl rfl ?_
  refine s_180I 0 62 162 62 f_4_6 jw_182 rfl rfl ?_
  refine s_29 163 rfl rfl ?_
  refine s_96 164 rfl ?_
  refine s_181I 0 62 167 62 f_4_6 rfl rfl jw_182 rfl rfl (fun h2 => ?_)
  exact s_177 rfl rfl
theorem v_4_push_99 (l : Launch)  (a0 : Nat) (a2 : Int32) (a3 : Int32) (H : jH) : JV l mi_4_push jeV 99 [(0, .ref a0), (2, .int a2), (3, .int a3)] [] H (B_4_push_99  a0 a2 a3 H) := by
  unfold B_4_push_99
  refine s_42 100 rfl rfl ?_
  refine s_89 101 rfl rfl ?_
  refine s_180I 0 62 104 62 f_4_6 jw_182 rfl rfl ?_
  refine s_28 105 rfl rfl ?_
  refine s_96 106 rfl ?_
  refine s_181I 0 62 109 62 f_4_6 rfl rfl jw_182 rfl rfl (fun h3 => ?_)
  refine s_29 110 rfl rfl ?_
  refine s_16 120 112 120 jbp_120 rfl ?_
  refine s_163 0 16 128 115 rfl rfl ?_ ?_
  · exact s_jmp (v_4_push_128 l _ _) ⟨rfl, trivial⟩
  · refine s_42 116 rfl rfl ?_
    refine s_180I 0 62 119 62 f_4_6 jw_182 rfl rfl ?_
    refine s_29 120 rfl rfl ?_
    refine s_96 121 rfl ?_
    refine s_42 122 rfl rfl ?_
    refine s_180I 0 65 125 65 f_4_7 jw_183 rfl rfl ?_
    refine s_164 0 9 134 128 rfl rfl ?_ ?_
    · refine s_42 135 rfl rfl ?_
      refine s_180I 0 59 138 59 f_4_13 jw_191 rfl rfl ?_
      refine s_154 0 19 157 141 rfl rfl ?_ ?_
      · exact s_jmp (v_4_push_157 l _ _ _) ⟨rfl, rfl, trivial⟩
      · refine s_42 142 rfl rfl ?_
        refine s_180R 0 14 145 14 f_4_1 jw_177 rfl rfl ?_
        refine s_42 146 rfl rfl ?_
        refine s_180R 0 30 149 30 f_4_5 jw_181 rfl rfl ?_
        refine s_42 150 rfl rfl ?_
        refine s_180I 0 62 153 62 f_4_6 jw_182 rfl rfl ?_
        refine s_29 154 rfl rfl ?_
        refine s_182V 0 113 157 113 (m_9_put l _ _ _ _ _) rfl k_9_put jc_9 jw_884 jw_885 jw_886 rfl rfl rfl rfl rfl (fun x4 h5 => ?_)
        exact s_jmp (v_4_push_157 l _ _ _) ⟨rfl, rfl, trivial⟩
    · exact s_jmp (v_4_push_128 l _ _) ⟨rfl, trivial⟩
theorem v_4_push_97 (l : Launch)  (a0 : Nat) (a2 : Int32) (s0 : Int32) (s1 : Int32) (H : jH) : JV l mi_4_push jeV 97 [(0, .ref a0), (2, .int a2)] [.int s1, .int s0] H (B_4_push_97  a0 a2 s0 s1 H) := by
  unfold B_4_push_97
  refine s_128 98 rfl ?_
  refine s_62L 99 rfl rfl (fun x6 => ?_)
  exact s_jmp (v_4_push_99 l _ _ _ _) ⟨rfl, rfl, rfl, trivial⟩
theorem v_4_push_21 (l : Launch)  (a0 : Nat) (a1 : Int32) (s0 : Int32) (H : jH) : JV l mi_4_push jeV 21 [(0, .ref a0), (1, .int a1)] [.int s0] H (B_4_push_21  a0 a1 s0 H) := by
  unfold B_4_push_21
  refine s_61 22 rfl rfl ?_
  refine s_27 23 rfl rfl ?_
  refine s_62 24 rfl rfl ?_
  refine s_28 25 rfl rfl ?_
  refine s_158 0 74 99 28 rfl rfl ?_ ?_
  · exact s_jmp (v_4_push_99 l _ _ _ _) ⟨rfl, rfl, rfl, trivial⟩
  · refine s_42 29 rfl rfl ?_
    refine s_180I 0 62 32 62 f_4_6 jw_182 rfl rfl ?_
    refine s_28 33 rfl rfl ?_
    refine s_96 34 rfl ?_
    refine s_42 35 rfl rfl ?_
    refine s_180I 0 65 38 65 f_4_7 jw_183 rfl rfl ?_
    refine s_163 0 61 99 41 rfl rfl ?_ ?_
    · exact s_jmp (v_4_push_99 l _ _ _ _) ⟨rfl, rfl, rfl, trivial⟩
    · refine s_42 42 rfl rfl ?_
      refine s_180I 0 62 45 62 f_4_6 jw_182 rfl rfl ?_
      refine s_28 46 rfl rfl ?_
      refine s_96 47 rfl ?_
      refine s_42 48 rfl rfl ?_
      refine s_180R 0 30 51 30 f_4_5 jw_181 rfl rfl ?_
      refine s_190 52 101 jm_101 rfl ?_
      refine s_163 0 47 99 55 rfl rfl ?_ ?_
      · exact s_jmp (v_4_push_99 l _ _ _ _) ⟨rfl, rfl, rfl, trivial⟩
      · refine s_42 56 rfl rfl ?_
        refine s_180R 0 30 59 30 f_4_5 jw_181 rfl rfl ?_
        refine s_42 60 rfl rfl ?_
        refine s_180I 0 62 63 62 f_4_6 jw_182 rfl rfl ?_
        refine s_51B 64 rfl ?_
        refine s_17 0 255 67 255 jsp_0_255 rfl ?_
        refine s_126 68 rfl ?_
        refine s_62L 69 rfl rfl (fun x7 => ?_)
        refine s_29 70 rfl rfl ?_
        refine s_28 71 rfl rfl ?_
        refine s_5 72 rfl ?_
        refine s_160 0 24 96 75 rfl rfl ?_ ?_
        · refine s_3 97 rfl ?_
          exact s_jmp (v_4_push_97 l _ _ _ _ _) ⟨rfl, rfl, trivial⟩
        · refine s_42 76 rfl rfl ?_
          refine s_180R 0 30 79 30 f_4_5 jw_181 rfl rfl ?_
          refine s_42 80 rfl rfl ?_
          refine s_180I 0 62 83 62 f_4_6 jw_182 rfl rfl ?_
          refine s_4 84 rfl ?_
          refine s_96 85 rfl ?_
          refine s_51B 86 rfl ?_
          refine s_17 0 255 89 255 jsp_0_255 rfl ?_
          refine s_126 90 rfl ?_
          refine s_16 8 92 8 jbp_8 rfl ?_
          refine s_120 93 rfl ?_
          refine s_167 0 4 97 rfl rfl ?_
          exact s_jmp (v_4_push_97 l _ _ _ _ _) ⟨rfl, rfl, trivial⟩
theorem v_4_push (l : Launch) (a0 : Nat) (a1 : Int32) (H : jH) : JV l mi_4_push jeV 0 [(0, .ref a0), (1, .int a1)] [] H (F_4_push a0 a1 H) := by
  unfold F_4_push
  refine s_27 1 rfl rfl ?_
  refine s_16 76 3 76 jbp_76 rfl ?_
  refine s_160 0 7 10 6 rfl rfl ?_ ?_
  · refine s_27 11 rfl rfl ?_
    refine s_16 77 13 77 jbp_77 rfl ?_
    refine s_160 0 7 20 16 rfl rfl ?_ ?_
    · refine s_3 21 rfl ?_
      exact s_jmp (v_4_push_21 l _ _ _ _) ⟨rfl, rfl, trivial⟩
    · refine s_5 17 rfl ?_
      refine s_167 0 4 21 rfl rfl ?_
      exact s_jmp (v_4_push_21 l _ _ _ _) ⟨rfl, rfl, trivial⟩
  · refine s_4 7 rfl ?_
    refine s_167 0 14 21 rfl rfl ?_
    exact s_jmp (v_4_push_21 l _ _ _ _) ⟨rfl, rfl, trivial⟩
theorem m_4_push (l : Launch) (a0 : Nat) (a1 : Int32) (H : jH) : JMet l y_4_push prog_6_method_8_code mi_4_push jeV [.ref a0, .int a1] H (F_4_push a0 a1 H) := jmet_of n_4_push (by decide) ⟨rfl, rfl⟩ (Nat.le_of_ble_eq_true rfl) (v_4_push l a0 a1 H)
def mi_4_small : jM := (32983943316171227020283288206269291656654536799211806242240743382479383462108083573969711523092232275246223521097491107424780193201956786203, 58, 2, "CoinNode$Machine", none, "small", 2, 42)
def y_4_small : MethodName := ⟨"CoinNode$Machine", "small", "(I)V"⟩
theorem n_4_small : jn_is prog_6_method_10_code mi_4_small.1 mi_4_small.2.1 := by unfold jn_is; decide +kernel
theorem k_4_small : jmok y_4_small prog_6_method_10_code mi_4_small 1 := ⟨jw_911, jw_6, ⟨by decide, by decide⟩, by decide +kernel⟩
theorem v_4_small_57 (l : Launch)   (H : jH) : JV l mi_4_small jeV 57 [] [] H (B_4_small_57   H) := by
  unfold B_4_small_57
  exact s_177 rfl rfl
theorem v_4_small_46 (l : Launch)  (a0 : Nat) (a1 : Int32) (H : jH) : JV l mi_4_small jeV 46 [(0, .ref a0), (1, .int a1)] [] H (B_4_small_46  a0 a1 H) := by
  unfold B_4_small_46
  refine s_27 47 rfl rfl ?_
  refine s_16 97 49 97 jbp_97 rfl ?_
  refine s_159 0 8 57 52 rfl rfl ?_ ?_
  · exact s_jmp (v_4_small_57 l _) trivial
  · refine s_42 53 rfl rfl ?_
    refine s_5 54 rfl ?_
    refine s_181I 0 68 57 68 f_4_9 rfl rfl jw_187 rfl rfl (fun h1 => ?_)
    exact s_jmp (v_4_small_57 l _) trivial
theorem v_4_small (l : Launch) (a0 : Nat) (a1 : Int32) (H : jH) : JV l mi_4_small jeV 0 [(0, .ref a0), (1, .int a1)] [] H (F_4_small a0 a1 H) := by
  unfold F_4_small
  refine s_27 1 rfl rfl ?_
  refine s_16 79 3 79 jbp_79 rfl ?_
  refine s_160 0 16 19 6 rfl rfl ?_ ?_
  · refine s_27 20 rfl rfl ?_
    refine s_16 81 22 81 jbp_81 rfl ?_
    refine s_161 0 24 46 25 rfl rfl ?_ ?_
    · exact s_jmp (v_4_small_46 l _ _ _) ⟨rfl, rfl, trivial⟩
    · refine s_27 26 rfl rfl ?_
      refine s_16 96 28 96 jbp_96 rfl ?_
      refine s_163 0 18 46 31 rfl rfl ?_ ?_
      · exact s_jmp (v_4_small_46 l _ _ _) ⟨rfl, rfl, trivial⟩
      · refine s_42 32 rfl rfl ?_
        refine s_180R 0 14 35 14 f_4_1 jw_177 rfl rfl ?_
        refine s_27 36 rfl rfl ?_
        refine s_16 80 38 80 jbp_80 rfl ?_
        refine s_100 39 rfl ?_
        refine s_133 40 rfl ?_
        refine s_182V 0 124 43 124 (m_9_putNumber l _ _ _) rfl k_9_putNumber jc_9 jw_913 jw_914 jw_915 rfl rfl rfl rfl rfl (fun x2 h3 => ?_)
        refine s_167 0 14 57 rfl rfl ?_
        exact s_jmp (v_4_small_57 l _) trivial
  · refine s_42 7 rfl rfl ?_
    refine s_180R 0 14 10 14 f_4_1 jw_177 rfl rfl ?_
    refine s_20 0 122 13 122 (-1) rfl jw_912 rfl ?_
    refine s_182V 0 124 16 124 (m_9_putNumber l _ _ _) rfl k_9_putNumber jc_9 jw_913 jw_914 jw_915 rfl rfl rfl rfl rfl (fun x4 h5 => ?_)
    refine s_167 0 41 57 rfl rfl ?_
    exact s_jmp (v_4_small_57 l _) trivial
theorem m_4_small (l : Launch) (a0 : Nat) (a1 : Int32) (H : jH) : JMet l y_4_small prog_6_method_10_code mi_4_small jeV [.ref a0, .int a1] H (F_4_small a0 a1 H) := jmet_of n_4_small (by decide) ⟨rfl, rfl⟩ (Nat.le_of_ble_eq_true rfl) (v_4_small l a0 a1 H)
def mi_4_run : jM := (44877220975089907356455439883650849937020071926842508130053105918793359182202118154749341300932893066033169347764022212677191495469991710240446687082796101729493252621713339495310817214205505231407238656487239494396590676466350998491972045988402308602158608584460185960807495559774155632621182540865517133066714655458234819536074687528464179713343518303325887544804877436178114749709816635656619058626953793046549360157589818376279623474671800497570514583459919721349323468742977730297936144709245531005043704716169430649316383265975060737397017353866965313004213381938277707372009309973559013074494474081711835934142087549009436556083458842068685849284277329520828281854267707030285567402261416000012719656556364624707926907385061884916786966921508235108589609742243098095805468218480986935109071495820211511522161094124771479735051469998709000322823233294368525993146192535312088067, 367, 3, "CoinNode$Machine", some FieldType.int, "run", 3, 116)
def y_4_run : MethodName := ⟨"CoinNode$Machine", "run", "()I"⟩
theorem n_4_run : jn_is prog_6_method_6_code mi_4_run.1 mi_4_run.2.1 := by unfold jn_is; decide +kernel
theorem k_4_run : jmok y_4_run prog_6_method_6_code mi_4_run 0 := ⟨jw_879, jw_6, ⟨by decide, by decide⟩, by decide +kernel⟩
theorem v_4_run_333 (l : Launch) (k2 : Nat → Int32 → jH → Option (Int32 × jH)) (hk2 : ∀ a0 a1 H, JV l mi_4_run jeI 2 [(0, .ref a0), (1, .int a1)] [] H (k2 a0 a1 H)) (a0 : Nat) (a1 : Int32) (H : jH) : JV l mi_4_run jeI 333 [(0, .ref a0), (1, .int a1)] [] H (B_4_run_333 k2 a0 a1 H) := by
  unfold B_4_run_333
  refine s_132L 1 1 336 1 ji_1 rfl rfl rfl (fun x1 => ?_)
  refine s_167 254 178 2 rfl rfl ?_
  exact s_jmp (hk2 _ _ _) ⟨rfl, rfl, trivial⟩
theorem v_4_run_308 (l : Launch) (k2 : Nat → Int32 → jH → Option (Int32 × jH)) (hk2 : ∀ a0 a1 H, JV l mi_4_run jeI 2 [(0, .ref a0), (1, .int a1)] [] H (k2 a0 a1 H)) (a0 : Nat) (a1 : Int32) (H : jH) : JV l mi_4_run jeI 308 [(0, .ref a0), (1, .int a1)] [] H (B_4_run_308 k2 a0 a1 H) := by
  unfold B_4_run_308
  refine s_42 309 rfl rfl ?_
  refine s_180R 0 14 312 14 f_4_1 jw_177 rfl rfl ?_
  refine s_180I 0 41 315 41 f_9_2 jw_168 rfl rfl ?_
  refine s_42 316 rfl rfl ?_
  refine s_180R 0 20 319 20 f_4_2 jw_178 rfl rfl ?_
  refine s_180I 0 41 322 41 f_9_2 jw_168 rfl rfl ?_
  refine s_96 323 rfl ?_
  refine s_16 60 325 60 jbp_60 rfl ?_
  refine s_164 0 8 333 328 rfl rfl ?_ ?_
  · exact s_jmp (v_4_run_333 l k2 hk2 _ _ _) ⟨rfl, rfl, trivial⟩
  · refine s_42 329 rfl rfl ?_
    refine s_5 330 rfl ?_
    refine s_181I 0 68 333 68 f_4_9 rfl rfl jw_187 rfl rfl (fun h2 => ?_)
    exact s_jmp (v_4_run_333 l k2 hk2 _ _ _) ⟨rfl, rfl, trivial⟩
theorem v_4_run_288 (l : Launch) (k2 : Nat → Int32 → jH → Option (Int32 × jH)) (hk2 : ∀ a0 a1 H, JV l mi_4_run jeI 2 [(0, .ref a0), (1, .int a1)] [] H (k2 a0 a1 H)) (a0 : Nat) (a1 : Int32) (H : jH) : JV l mi_4_run jeI 288 [(0, .ref a0), (1, .int a1)] [] H (B_4_run_288 k2 a0 a1 H) := by
  unfold B_4_run_288
  refine s_42 289 rfl rfl ?_
  refine s_180I 0 68 292 68 f_4_9 jw_187 rfl rfl ?_
  refine s_6 293 rfl ?_
  refine s_160 0 15 308 296 rfl rfl ?_ ?_
  · exact s_jmp (v_4_run_308 l k2 hk2 _ _ _) ⟨rfl, rfl, trivial⟩
  · refine s_42 297 rfl rfl ?_
    refine s_180I 0 106 300 106 f_4_14 jw_192 rfl rfl ?_
    refine s_154 0 8 308 303 rfl rfl ?_ ?_
    · exact s_jmp (v_4_run_308 l k2 hk2 _ _ _) ⟨rfl, rfl, trivial⟩
    · refine s_42 304 rfl rfl ?_
      refine s_4 305 rfl ?_
      refine s_182V 0 109 308 109 (m_4_finish l _ _ _) rfl k_4_finish jc_4 jw_1001 jw_1003 jps_22 rfl rfl rfl rfl rfl (fun x3 h4 => ?_)
      exact s_jmp (v_4_run_308 l k2 hk2 _ _ _) ⟨rfl, rfl, trivial⟩
theorem v_4_run_138 (l : Launch) (k2 : Nat → Int32 → jH → Option (Int32 × jH)) (hk2 : ∀ a0 a1 H, JV l mi_4_run jeI 2 [(0, .ref a0), (1, .int a1)] [] H (k2 a0 a1 H)) (a0 : Nat) (a1 : Int32) (a2 : Int32) (H : jH) : JV l mi_4_run jeI 138 [(0, .ref a0), (1, .int a1), (2, .int a2)] [] H (B_4_run_138 k2 a0 a1 a2 H) := by
  unfold B_4_run_138
  refine s_42 139 rfl rfl ?_
  refine s_28 140 rfl rfl ?_
  refine s_182V 0 79 143 79 (m_4_part l _ _ _) rfl k_4_part jc_4 jw_889 jw_891 jps_12 rfl rfl rfl rfl rfl (fun x5 h6 => ?_)
  refine s_167 0 145 288 rfl rfl ?_
  exact s_jmp (v_4_run_288 l k2 hk2 _ _ _) ⟨rfl, rfl, trivial⟩
theorem v_4_run_215 (l : Launch) (k2 : Nat → Int32 → jH → Option (Int32 × jH)) (hk2 : ∀ a0 a1 H, JV l mi_4_run jeI 2 [(0, .ref a0), (1, .int a1)] [] H (k2 a0 a1 H)) (a0 : Nat) (a1 : Int32) (a2 : Int32) (H : jH) : JV l mi_4_run jeI 215 [(0, .ref a0), (1, .int a1), (2, .int a2)] [] H (B_4_run_215 k2 a0 a1 a2 H) := by
  unfold B_4_run_215
  refine s_42 216 rfl rfl ?_
  refine s_28 217 rfl rfl ?_
  refine s_182V 0 88 220 88 (m_4_arrange l _ _ _) rfl k_4_arrange jc_4 jw_928 jw_930 jps_16 rfl rfl rfl rfl rfl (fun x7 h8 => ?_)
  refine s_167 0 68 288 rfl rfl ?_
  exact s_jmp (v_4_run_288 l k2 hk2 _ _ _) ⟨rfl, rfl, trivial⟩
theorem v_4_run_79 (l : Launch) (k2 : Nat → Int32 → jH → Option (Int32 × jH)) (hk2 : ∀ a0 a1 H, JV l mi_4_run jeI 2 [(0, .ref a0), (1, .int a1)] [] H (k2 a0 a1 H)) (a0 : Nat) (a1 : Int32) (a2 : Int32) (s0 : Nat) (s1 : Int32) (s2 : Int32) (H : jH) : JV l mi_4_run jeI 79 [(0, .ref a0), (1, .int a1), (2, .int a2)] [.int s2, .int s1, .ref s0] H (B_4_run_79 k2 a0 a1 a2 s0 s1 s2 H) := by
  unfold B_4_run_79
  refine s_96 80 rfl ?_
  refine s_181I 0 53 83 53 f_4_10 rfl rfl jw_188 rfl rfl (fun h9 => ?_)
  refine s_42 84 rfl rfl ?_
  refine s_180I 0 53 87 53 f_4_10 jw_188 rfl rfl ?_
  refine s_16 100 89 100 jbp_100 rfl ?_
  refine s_164 0 11 100 92 rfl rfl ?_ ?_
  · refine s_28 101 rfl rfl ?_
    refine s_16 77 103 77 jbp_77 rfl ?_
    refine s_163 0 11 114 106 rfl rfl ?_ ?_
    · refine s_28 115 rfl rfl ?_
      refine s_16 99 117 99 jbp_99 rfl ?_
      refine s_159 0 21 138 120 rfl rfl ?_ ?_
      · exact s_jmp (v_4_run_138 l k2 hk2 _ _ _ _) ⟨rfl, rfl, rfl, trivial⟩
      · refine s_28 121 rfl rfl ?_
        refine s_16 100 123 100 jbp_100 rfl ?_
        refine s_159 0 15 138 126 rfl rfl ?_ ?_
        · exact s_jmp (v_4_run_138 l k2 hk2 _ _ _ _) ⟨rfl, rfl, rfl, trivial⟩
        · refine s_28 127 rfl rfl ?_
          refine s_16 103 129 103 jbp_103 rfl ?_
          refine s_159 0 9 138 132 rfl rfl ?_ ?_
          · exact s_jmp (v_4_run_138 l k2 hk2 _ _ _ _) ⟨rfl, rfl, rfl, trivial⟩
          · refine s_28 133 rfl rfl ?_
            refine s_16 104 135 104 jbp_104 rfl ?_
            refine s_160 0 11 146 138 rfl rfl ?_ ?_
            · refine s_42 147 rfl rfl ?_
              refine s_180I 0 59 150 59 f_4_13 jw_191 rfl rfl ?_
              refine s_158 0 6 156 153 rfl rfl ?_ ?_
              · refine s_28 157 rfl rfl ?_
                refine s_16 97 159 97 jbp_97 rfl ?_
                refine s_163 0 11 170 162 rfl rfl ?_ ?_
                · refine s_28 171 rfl rfl ?_
                  refine s_16 108 173 108 jbp_108 rfl ?_
                  refine s_163 0 11 184 176 rfl rfl ?_ ?_
                  · refine s_28 185 rfl rfl ?_
                    refine s_16 115 187 115 jbp_115 rfl ?_
                    refine s_159 0 28 215 190 rfl rfl ?_ ?_
                    · exact s_jmp (v_4_run_215 l k2 hk2 _ _ _ _) ⟨rfl, rfl, rfl, trivial⟩
                    · refine s_28 191 rfl rfl ?_
                      refine s_16 116 193 116 jbp_116 rfl ?_
                      refine s_159 0 22 215 196 rfl rfl ?_ ?_
                      · exact s_jmp (v_4_run_215 l k2 hk2 _ _ _ _) ⟨rfl, rfl, rfl, trivial⟩
                      · refine s_28 197 rfl rfl ?_
                        refine s_16 121 199 121 jbp_121 rfl ?_
                        refine s_159 0 16 215 202 rfl rfl ?_ ?_
                        · exact s_jmp (v_4_run_215 l k2 hk2 _ _ _ _) ⟨rfl, rfl, rfl, trivial⟩
                        · refine s_28 203 rfl rfl ?_
                          refine s_16 122 205 122 jbp_122 rfl ?_
                          refine s_159 0 10 215 208 rfl rfl ?_ ?_
                          · exact s_jmp (v_4_run_215 l k2 hk2 _ _ _ _) ⟨rfl, rfl, rfl, trivial⟩
                          · refine s_28 209 rfl rfl ?_
                            refine s_17 0 130 212 130 jsp_0_130 rfl ?_
                            refine s_160 0 11 223 215 rfl rfl ?_ ?_
                            · refine s_28 224 rfl rfl ?_
                              refine s_17 0 130 227 130 jsp_0_130 rfl ?_
                              refine s_163 0 11 238 230 rfl rfl ?_ ?_
                              · refine s_28 239 rfl rfl ?_
                                refine s_17 0 136 242 136 jsp_0_136 rfl ?_
                                refine s_163 0 11 253 245 rfl rfl ?_ ?_
                                · refine s_28 254 rfl rfl ?_
                                  refine s_17 0 165 257 165 jsp_0_165 rfl ?_
                                  refine s_163 0 11 268 260 rfl rfl ?_ ?_
                                  · refine s_28 269 rfl rfl ?_
                                    refine s_17 0 170 272 170 jsp_0_170 rfl ?_
                                    refine s_163 0 11 283 275 rfl rfl ?_ ?_
                                    · refine s_42 284 rfl rfl ?_
                                      refine s_28 285 rfl rfl ?_
                                      refine s_182V 0 103 288 103 (m_4_ask l _ _ _) rfl k_4_ask jc_4 jw_996 jw_998 jps_21 rfl rfl rfl rfl rfl (fun x10 h11 => ?_)
                                      exact s_jmp (v_4_run_288 l k2 hk2 _ _ _) ⟨rfl, rfl, trivial⟩
                                    · refine s_42 276 rfl rfl ?_
                                      refine s_28 277 rfl rfl ?_
                                      refine s_182V 0 100 280 100 (m_4_digest l _ _ _) rfl k_4_digest jc_4 jw_975 jw_977 jps_20 rfl rfl rfl rfl rfl (fun x12 h13 => ?_)
                                      refine s_167 0 8 288 rfl rfl ?_
                                      exact s_jmp (v_4_run_288 l k2 hk2 _ _ _) ⟨rfl, rfl, trivial⟩
                                  · refine s_42 261 rfl rfl ?_
                                    refine s_28 262 rfl rfl ?_
                                    refine s_182V 0 97 265 97 (m_4_calculate l _ _ _) rfl k_4_calculate jc_4 jw_958 jw_960 jps_19 rfl rfl rfl rfl rfl (fun x14 h15 => ?_)
                                    refine s_167 0 23 288 rfl rfl ?_
                                    exact s_jmp (v_4_run_288 l k2 hk2 _ _ _) ⟨rfl, rfl, trivial⟩
                                · refine s_42 246 rfl rfl ?_
                                  refine s_28 247 rfl rfl ?_
                                  refine s_182V 0 94 250 94 (m_4_compare l _ _ _) rfl k_4_compare jc_4 jw_950 jw_952 jps_18 rfl rfl rfl rfl rfl (fun x16 h17 => ?_)
                                  refine s_167 0 38 288 rfl rfl ?_
                                  exact s_jmp (v_4_run_288 l k2 hk2 _ _ _) ⟨rfl, rfl, trivial⟩
                              · refine s_42 231 rfl rfl ?_
                                refine s_28 232 rfl rfl ?_
                                refine s_182V 0 91 235 91 (m_4_move l _ _ _) rfl k_4_move jc_4 jw_944 jw_946 jps_17 rfl rfl rfl rfl rfl (fun x18 h19 => ?_)
                                refine s_167 0 53 288 rfl rfl ?_
                                exact s_jmp (v_4_run_288 l k2 hk2 _ _ _) ⟨rfl, rfl, trivial⟩
                            · exact s_jmp (v_4_run_215 l k2 hk2 _ _ _ _) ⟨rfl, rfl, rfl, trivial⟩
                  · refine s_42 177 rfl rfl ?_
                    refine s_28 178 rfl rfl ?_
                    refine s_182V 0 85 181 85 (m_4_pass l _ _ _) rfl k_4_pass jc_4 jw_920 jw_922 jps_15 rfl rfl rfl rfl rfl (fun x20 h21 => ?_)
                    refine s_167 0 107 288 rfl rfl ?_
                    exact s_jmp (v_4_run_288 l k2 hk2 _ _ _) ⟨rfl, rfl, trivial⟩
                · refine s_42 163 rfl rfl ?_
                  refine s_28 164 rfl rfl ?_
                  refine s_182V 0 82 167 82 (m_4_small l _ _ _) rfl k_4_small jc_4 jw_908 jw_910 jps_14 rfl rfl rfl rfl rfl (fun x22 h23 => ?_)
                  refine s_167 0 121 288 rfl rfl ?_
                  exact s_jmp (v_4_run_288 l k2 hk2 _ _ _) ⟨rfl, rfl, trivial⟩
              · refine s_167 0 180 333 rfl rfl ?_
                exact s_jmp (v_4_run_333 l k2 hk2 _ _ _) ⟨rfl, rfl, trivial⟩
            · exact s_jmp (v_4_run_138 l k2 hk2 _ _ _ _) ⟨rfl, rfl, rfl, trivial⟩
    · refine s_42 107 rfl rfl ?_
      refine s_28 108 rfl rfl ?_
      refine s_182V 0 75 111 75 (m_4_push l _ _ _) rfl k_4_push jc_4 jw_880 jw_882 jps_11 rfl rfl rfl rfl rfl (fun x24 h25 => ?_)
      refine s_167 0 177 288 rfl rfl ?_
      exact s_jmp (v_4_run_288 l k2 hk2 _ _ _) ⟨rfl, rfl, trivial⟩
  · refine s_42 93 rfl rfl ?_
    refine s_5 94 rfl ?_
    refine s_181I 0 68 97 68 f_4_9 rfl rfl jw_187 rfl rfl (fun h26 => ?_)
    refine s_167 0 191 288 rfl rfl ?_
    exact s_jmp (v_4_run_288 l k2 hk2 _ _ _) ⟨rfl, rfl, trivial⟩
theorem v_4_run_362 (l : Launch)  (a0 : Nat) (H : jH) : JV l mi_4_run jeI 362 [(0, .ref a0)] [] H (B_4_run_362  a0 H) := by
  unfold B_4_run_362
  refine s_42 363 rfl rfl ?_
  refine s_180I 0 68 366 68 f_4_9 jw_187 rfl rfl ?_
  exact s_172 rfl rfl
theorem v_4_run_359 (l : Launch)  (a0 : Nat) (s0 : Nat) (s1 : Int32) (H : jH) : JV l mi_4_run jeI 359 [(0, .ref a0)] [.int s1, .ref s0] H (B_4_run_359  a0 s0 s1 H) := by
  unfold B_4_run_359
  refine s_181I 0 68 362 68 f_4_9 rfl rfl jw_187 rfl rfl (fun h27 => ?_)
  exact s_jmp (v_4_run_362 l _ _) ⟨rfl, trivial⟩
theorem v_4_run_339 (l : Launch)  (a0 : Nat) (H : jH) : JV l mi_4_run jeI 339 [(0, .ref a0)] [] H (B_4_run_339  a0 H) := by
  unfold B_4_run_339
  refine s_42 340 rfl rfl ?_
  refine s_180I 0 68 343 68 f_4_9 jw_187 rfl rfl ?_
  refine s_154 0 19 362 346 rfl rfl ?_ ?_
  · exact s_jmp (v_4_run_362 l _ _) ⟨rfl, trivial⟩
  · refine s_42 347 rfl rfl ?_
    refine s_42 348 rfl rfl ?_
    refine s_180I 0 56 351 56 f_4_12 jw_190 rfl rfl ?_
    refine s_154 0 7 358 354 rfl rfl ?_ ?_
    · refine s_5 359 rfl ?_
      exact s_jmp (v_4_run_359 l _ _ _ _) ⟨rfl, trivial⟩
    · refine s_4 355 rfl ?_
      refine s_167 0 4 359 rfl rfl ?_
      exact s_jmp (v_4_run_359 l _ _ _ _) ⟨rfl, trivial⟩
theorem v_4_run_2 (l : Launch) (k2 : Nat → Int32 → jH → Option (Int32 × jH)) (hk2 : ∀ a0 a1 H, JV l mi_4_run jeI 2 [(0, .ref a0), (1, .int a1)] [] H (k2 a0 a1 H)) (a0 : Nat) (a1 : Int32) (H : jH) : JV l mi_4_run jeI 2 [(0, .ref a0), (1, .int a1)] [] H (B_4_run_2 k2 a0 a1 H) := by
  unfold B_4_run_2
  refine s_27 3 rfl rfl ?_
  refine s_17 0 200 6 200 jsp_0_200 rfl ?_
  refine s_162 1 77 339 9 rfl rfl ?_ ?_
  · exact s_jmp (v_4_run_339 l _ _) ⟨rfl, trivial⟩
  · refine s_42 10 rfl rfl ?_
    refine s_180I 0 68 13 68 f_4_9 jw_187 rfl rfl ?_
    refine s_154 1 70 339 16 rfl rfl ?_ ?_
    · exact s_jmp (v_4_run_339 l _ _) ⟨rfl, trivial⟩
    · refine s_42 17 rfl rfl ?_
      refine s_180I 0 62 20 62 f_4_6 jw_182 rfl rfl ?_
      refine s_42 21 rfl rfl ?_
      refine s_180I 0 65 24 65 f_4_7 jw_183 rfl rfl ?_
      refine s_162 1 59 339 27 rfl rfl ?_ ?_
      · exact s_jmp (v_4_run_339 l _ _) ⟨rfl, trivial⟩
      · refine s_42 28 rfl rfl ?_
        refine s_180I 0 62 31 62 f_4_6 jw_182 rfl rfl ?_
        refine s_42 32 rfl rfl ?_
        refine s_180R 0 30 35 30 f_4_5 jw_181 rfl rfl ?_
        refine s_190 36 101 jm_101 rfl ?_
        refine s_162 1 47 339 39 rfl rfl ?_ ?_
        · exact s_jmp (v_4_run_339 l _ _) ⟨rfl, trivial⟩
        · refine s_42 40 rfl rfl ?_
          refine s_180R 0 30 43 30 f_4_5 jw_181 rfl rfl ?_
          refine s_42 44 rfl rfl ?_
          refine s_180I 0 62 47 62 f_4_6 jw_182 rfl rfl ?_
          refine s_51B 48 rfl ?_
          refine s_17 0 255 51 255 jsp_0_255 rfl ?_
          refine s_126 52 rfl ?_
          refine s_61L 53 rfl rfl (fun x28 => ?_)
          refine s_42 54 rfl rfl ?_
          refine s_89 55 rfl rfl ?_
          refine s_180I 0 62 58 62 f_4_6 jw_182 rfl rfl ?_
          refine s_4 59 rfl ?_
          refine s_96 60 rfl ?_
          refine s_181I 0 62 63 62 f_4_6 rfl rfl jw_182 rfl rfl (fun h29 => ?_)
          refine s_42 64 rfl rfl ?_
          refine s_89 65 rfl rfl ?_
          refine s_180I 0 53 68 53 f_4_10 jw_188 rfl rfl ?_
          refine s_28 69 rfl rfl ?_
          refine s_16 96 71 96 jbp_96 rfl ?_
          refine s_164 0 7 78 74 rfl rfl ?_ ?_
          · refine s_3 79 rfl ?_
            exact s_jmp (v_4_run_79 l k2 hk2 _ _ _ _ _ _ _) ⟨rfl, rfl, rfl, trivial⟩
          · refine s_4 75 rfl ?_
            refine s_167 0 4 79 rfl rfl ?_
            exact s_jmp (v_4_run_79 l k2 hk2 _ _ _ _ _ _ _) ⟨rfl, rfl, rfl, trivial⟩
theorem w_4_run_2 (l : Launch)  (n : Nat) : ∀ a0 a1 H, JV l mi_4_run jeI 2 [(0, .ref a0), (1, .int a1)] [] H (F_4_run_2  n a0 a1 H) := by
  induction n with
  | zero => intro _ _ _; exact s_none
  | succ n ih => intro a0 a1 H; exact v_4_run_2 l (F_4_run_2  n) ih a0 a1 H
theorem v_4_run (l : Launch) (a0 : Nat) (H : jH) : JV l mi_4_run jeI 0 [(0, .ref a0)] [] H (F_4_run a0 H) := by
  unfold F_4_run
  refine s_3 1 rfl ?_
  refine s_60 2 rfl rfl ?_
  exact s_jmp (w_4_run_2 l jfuel _ _ _) ⟨rfl, rfl, trivial⟩
theorem m_4_run (l : Launch) (a0 : Nat) (H : jH) : JMet l y_4_run prog_6_method_6_code mi_4_run jeI [.ref a0] H (F_4_run a0 H) := jmet_of n_4_run (by decide) ⟨rfl, rfl⟩ (Nat.le_of_ble_eq_true rfl) (v_4_run l a0 H)
def mi_4_signature : jM := (376357356709607599979759566968988927406651396936246725001560854715485641808860533272490017086813226, 41, 1, "CoinNode$Machine", some (FieldType.array FieldType.byte), "signature", 0, 0)
def y_4_signature : MethodName := ⟨"CoinNode$Machine", "signature", "()[B"⟩
theorem n_4_signature : jn_is prog_6_method_22_code mi_4_signature.1 mi_4_signature.2.1 := by unfold jn_is; decide +kernel
theorem k_4_signature : jmok y_4_signature prog_6_method_22_code mi_4_signature 0 := ⟨jw_1008, jw_6, ⟨by decide, by decide⟩, by decide +kernel⟩
theorem v_4_signature_40 (l : Launch)  (s0 : Nat) (H : jH) : JV l mi_4_signature jeR 40 [] [.ref s0] H (B_4_signature_40  s0 H) := by
  unfold B_4_signature_40
  exact s_176 rfl rfl rfl
theorem v_4_signature_21 (l : Launch)  (a0 : Nat) (H : jH) : JV l mi_4_signature jeR 21 [(0, .ref a0)] [] H (B_4_signature_21  a0 H) := by
  unfold B_4_signature_21
  refine s_42 22 rfl rfl ?_
  refine s_180R 0 26 25 26 f_4_4 jw_180 rfl rfl ?_
  refine s_167 0 15 40 rfl rfl ?_
  exact s_jmp (v_4_signature_40 l _ _) trivial
theorem v_4_signature (l : Launch) (a0 : Nat) (H : jH) : JV l mi_4_signature jeR 0 [(0, .ref a0)] [] H (F_4_signature a0 H) := by
  unfold F_4_signature
  refine s_42 1 rfl rfl ?_
  refine s_180I 0 198 4 198 f_4_15 jw_193 rfl rfl ?_
  refine s_155 0 17 21 7 rfl rfl ?_ ?_
  · exact s_jmp (v_4_signature_21 l _ _) ⟨rfl, trivial⟩
  · refine s_42 8 rfl rfl ?_
    refine s_180I 0 198 11 198 f_4_15 jw_193 rfl rfl ?_
    refine s_42 12 rfl rfl ?_
    refine s_180R 0 14 15 14 f_4_1 jw_177 rfl rfl ?_
    refine s_180I 0 41 18 41 f_9_2 jw_168 rfl rfl ?_
    refine s_161 0 10 28 21 rfl rfl ?_ ?_
    · refine s_42 29 rfl rfl ?_
      refine s_180R 0 14 32 14 f_4_1 jw_177 rfl rfl ?_
      refine s_180R 0 174 35 174 f_9_0 jw_164 rfl rfl ?_
      refine s_42 36 rfl rfl ?_
      refine s_180I 0 198 39 198 f_4_15 jw_193 rfl rfl ?_
      refine s_50 40 110 jt_110 rfl ?_
      exact s_jmp (v_4_signature_40 l _ _) trivial
    · exact s_jmp (v_4_signature_21 l _ _) ⟨rfl, trivial⟩
theorem m_4_signature (l : Launch) (a0 : Nat) (H : jH) : JMet l y_4_signature prog_6_method_22_code mi_4_signature jeR [.ref a0] H (F_4_signature a0 H) := jmet_of n_4_signature (by decide) ⟨rfl, rfl⟩ (Nat.le_of_ble_eq_true rfl) (v_4_signature l a0 H)
def mi_4_signatureSize : jM := (21921398268251863276751669032217142269823988661311584851377585672157721871561748471806473258, 38, 1, "CoinNode$Machine", some FieldType.int, "signatureSize", 0, 0)
def y_4_signatureSize : MethodName := ⟨"CoinNode$Machine", "signatureSize", "()I"⟩
theorem n_4_signatureSize : jn_is prog_6_method_23_code mi_4_signatureSize.1 mi_4_signatureSize.2.1 := by unfold jn_is; decide +kernel
theorem k_4_signatureSize : jmok y_4_signatureSize prog_6_method_23_code mi_4_signatureSize 0 := ⟨jw_1012, jw_6, ⟨by decide, by decide⟩, by decide +kernel⟩
theorem v_4_signatureSize_37 (l : Launch)  (s0 : Int32) (H : jH) : JV l mi_4_signatureSize jeI 37 [] [.int s0] H (B_4_signatureSize_37  s0 H) := by
  unfold B_4_signatureSize_37
  exact s_172 rfl rfl
theorem v_4_signatureSize_21 (l : Launch)   (H : jH) : JV l mi_4_signatureSize jeI 21 [] [] H (B_4_signatureSize_21   H) := by
  unfold B_4_signatureSize_21
  refine s_3 22 rfl ?_
  refine s_167 0 15 37 rfl rfl ?_
  exact s_jmp (v_4_signatureSize_37 l _ _) trivial
theorem v_4_signatureSize (l : Launch) (a0 : Nat) (H : jH) : JV l mi_4_signatureSize jeI 0 [(0, .ref a0)] [] H (F_4_signatureSize a0 H) := by
  unfold F_4_signatureSize
  refine s_42 1 rfl rfl ?_
  refine s_180I 0 198 4 198 f_4_15 jw_193 rfl rfl ?_
  refine s_155 0 17 21 7 rfl rfl ?_ ?_
  · exact s_jmp (v_4_signatureSize_21 l _) trivial
  · refine s_42 8 rfl rfl ?_
    refine s_180I 0 198 11 198 f_4_15 jw_193 rfl rfl ?_
    refine s_42 12 rfl rfl ?_
    refine s_180R 0 14 15 14 f_4_1 jw_177 rfl rfl ?_
    refine s_180I 0 41 18 41 f_9_2 jw_168 rfl rfl ?_
    refine s_161 0 7 25 21 rfl rfl ?_ ?_
    · refine s_42 26 rfl rfl ?_
      refine s_180R 0 14 29 14 f_4_1 jw_177 rfl rfl ?_
      refine s_180R 0 142 32 142 f_9_1 jw_166 rfl rfl ?_
      refine s_42 33 rfl rfl ?_
      refine s_180I 0 198 36 198 f_4_15 jw_193 rfl rfl ?_
      refine s_46 37 rfl ?_
      exact s_jmp (v_4_signatureSize_37 l _ _) trivial
    · exact s_jmp (v_4_signatureSize_21 l _) trivial
theorem m_4_signatureSize (l : Launch) (a0 : Nat) (H : jH) : JMet l y_4_signatureSize prog_6_method_23_code mi_4_signatureSize jeI [.ref a0] H (F_4_signatureSize a0 H) := jmet_of n_4_signatureSize (by decide) ⟨rfl, rfl⟩ (Nat.le_of_ble_eq_true rfl) (v_4_signatureSize l a0 H)
def mi_7_fill : jM := (1631609201117523518479936559817463819345759549040943026863297804717492202798175885751512365781434081220574723, 45, 4, "CoinNode$Scripts", none, "fill", 0, 0)
def y_7_fill : MethodName := ⟨"CoinNode$Scripts", "fill", "(II)V"⟩
theorem n_7_fill : jn_is prog_9_method_6_code mi_7_fill.1 mi_7_fill.2.1 := by unfold jn_is; decide +kernel
theorem k_7_fill : jmok y_7_fill prog_9_method_6_code mi_7_fill 2 := ⟨jw_1121, jw_3, ⟨by decide, by decide⟩, by decide +kernel⟩
theorem v_7_fill_44 (l : Launch)   (H : jH) : JV l mi_7_fill jeV 44 [] [] H (B_7_fill_44   H) := by
  unfold B_7_fill_44
  exact s_177 rfl rfl
theorem v_7_fill_2 (l : Launch) (k2 : Nat → Int32 → Int32 → Int32 → jH → Option (Unit × jH)) (hk2 : ∀ a0 a1 a2 a3 H, JV l mi_7_fill jeV 2 [(0, .ref a0), (1, .int a1), (2, .int a2), (3, .int a3)] [] H (k2 a0 a1 a2 a3 H)) (a0 : Nat) (a1 : Int32) (a2 : Int32) (a3 : Int32) (H : jH) : JV l mi_7_fill jeV 2 [(0, .ref a0), (1, .int a1), (2, .int a2), (3, .int a3)] [] H (B_7_fill_2 k2 a0 a1 a2 a3 H) := by
  unfold B_7_fill_2
  refine s_29 3 rfl rfl ?_
  refine s_27 4 rfl rfl ?_
  refine s_162 0 40 44 7 rfl rfl ?_ ?_
  · exact s_jmp (v_7_fill_44 l _) trivial
  · refine s_42 8 rfl rfl ?_
    refine s_180I 0 104 11 104 f_7_4 jw_244 rfl rfl ?_
    refine s_17 9 96 14 2400 jsp_9_96 rfl ?_
    refine s_162 0 30 44 17 rfl rfl ?_ ?_
    · exact s_jmp (v_7_fill_44 l _) trivial
    · refine s_42 18 rfl rfl ?_
      refine s_180R 0 18 21 18 f_7_3 jw_243 rfl rfl ?_
      refine s_42 22 rfl rfl ?_
      refine s_180I 0 104 25 104 f_7_4 jw_244 rfl rfl ?_
      refine s_28 26 rfl rfl ?_
      refine s_145 27 rfl ?_
      refine s_84B 28 rfl (fun h1 => ?_)
      refine s_42 29 rfl rfl ?_
      refine s_89 30 rfl rfl ?_
      refine s_180I 0 104 33 104 f_7_4 jw_244 rfl rfl ?_
      refine s_4 34 rfl ?_
      refine s_96 35 rfl ?_
      refine s_181I 0 104 38 104 f_7_4 rfl rfl jw_244 rfl rfl (fun h2 => ?_)
      refine s_132L 3 1 41 1 ji_1 rfl rfl rfl (fun x3 => ?_)
      refine s_167 255 217 2 rfl rfl ?_
      exact s_jmp (hk2 _ _ _ _ _) ⟨rfl, rfl, rfl, rfl, trivial⟩
theorem w_7_fill_2 (l : Launch)  (n : Nat) : ∀ a0 a1 a2 a3 H, JV l mi_7_fill jeV 2 [(0, .ref a0), (1, .int a1), (2, .int a2), (3, .int a3)] [] H (F_7_fill_2  n a0 a1 a2 a3 H) := by
  induction n with
  | zero => intro _ _ _ _ _; exact s_none
  | succ n ih => intro a0 a1 a2 a3 H; exact v_7_fill_2 l (F_7_fill_2  n) ih a0 a1 a2 a3 H
theorem v_7_fill (l : Launch) (a0 : Nat) (a1 : Int32) (a2 : Int32) (H : jH) : JV l mi_7_fill jeV 0 [(0, .ref a0), (1, .int a1), (2, .int a2)] [] H (F_7_fill a0 a1 a2 H) := by
  unfold F_7_fill
  refine s_3 1 rfl ?_
  refine s_62 2 rfl rfl ?_
  exact s_jmp (w_7_fill_2 l jfuel _ _ _ _ _) ⟨rfl, rfl, rfl, rfl, trivial⟩
theorem m_7_fill (l : Launch) (a0 : Nat) (a1 : Int32) (a2 : Int32) (H : jH) : JMet l y_7_fill prog_9_method_6_code mi_7_fill jeV [.ref a0, .int a1, .int a2] H (F_7_fill a0 a1 a2 H) := jmet_of n_7_fill (by decide) ⟨rfl, rfl⟩ (Nat.le_of_ble_eq_true rfl) (v_7_fill l a0 a1 a2 H)
def mi_7_put : jM := (7685765045272680478401361371691505680901203540699972475613182905434563666866248684582604713028785425945891245129364924085387172636, 54, 4, "CoinNode$Scripts", none, "put", 1, 60)
def y_7_put : MethodName := ⟨"CoinNode$Scripts", "put", "([BII)V"⟩
theorem n_7_put : jn_is prog_9_method_5_code mi_7_put.1 mi_7_put.2.1 := by unfold jn_is; decide +kernel
theorem k_7_put : jmok y_7_put prog_9_method_5_code mi_7_put 3 := ⟨jw_1116, jw_3, ⟨by decide, by decide⟩, by decide +kernel⟩
theorem v_7_put_28 (l : Launch)   (H : jH) : JV l mi_7_put jeV 28 [] [] H (B_7_put_28   H) := by
  unfold B_7_put_28
  exact s_177 rfl rfl
theorem v_7_put (l : Launch) (a0 : Nat) (a1 : Nat) (a2 : Int32) (a3 : Int32) (H : jH) : JV l mi_7_put jeV 0 [(0, .ref a0), (1, .ref a1), (2, .int a2), (3, .int a3)] [] H (F_7_put a0 a1 a2 a3 H) := by
  unfold F_7_put
  refine s_28 1 rfl rfl ?_
  refine s_155 0 27 28 4 rfl rfl ?_ ?_
  · exact s_jmp (v_7_put_28 l _) trivial
  · refine s_29 5 rfl rfl ?_
    refine s_155 0 23 28 8 rfl rfl ?_ ?_
    · exact s_jmp (v_7_put_28 l _) trivial
    · refine s_28 9 rfl rfl ?_
      refine s_29 10 rfl rfl ?_
      refine s_96 11 rfl ?_
      refine s_43 12 rfl rfl ?_
      refine s_190 13 101 jm_101 rfl ?_
      refine s_163 0 15 28 16 rfl rfl ?_ ?_
      · exact s_jmp (v_7_put_28 l _) trivial
      · refine s_42 17 rfl rfl ?_
        refine s_180I 0 104 20 104 f_7_4 jw_244 rfl rfl ?_
        refine s_29 21 rfl rfl ?_
        refine s_96 22 rfl ?_
        refine s_17 9 96 25 2400 jsp_9_96 rfl ?_
        refine s_164 0 4 29 28 rfl rfl ?_ ?_
        · refine s_43 30 rfl rfl ?_
          refine s_28 31 rfl rfl ?_
          refine s_42 32 rfl rfl ?_
          refine s_180R 0 18 35 18 f_7_3 jw_243 rfl rfl ?_
          refine s_42 36 rfl rfl ?_
          refine s_180I 0 104 39 104 f_7_4 jw_244 rfl rfl ?_
          refine s_29 40 rfl rfl ?_
          refine s_acB 0 150 43 150 jw_1117 jw_372 jw_371 jw_12 rfl rfl rfl rfl (fun h1 => ?_)
          refine s_42 44 rfl rfl ?_
          refine s_89 45 rfl rfl ?_
          refine s_180I 0 104 48 104 f_7_4 jw_244 rfl rfl ?_
          refine s_29 49 rfl rfl ?_
          refine s_96 50 rfl ?_
          refine s_181I 0 104 53 104 f_7_4 rfl rfl jw_244 rfl rfl (fun h2 => ?_)
          exact s_177 rfl rfl
        · exact s_jmp (v_7_put_28 l _) trivial
theorem m_7_put (l : Launch) (a0 : Nat) (a1 : Nat) (a2 : Int32) (a3 : Int32) (H : jH) : JMet l y_7_put prog_9_method_5_code mi_7_put jeV [.ref a0, .ref a1, .int a2, .int a3] H (F_7_put a0 a1 a2 a3 H) := jmet_of n_7_put (by decide) ⟨rfl, rfl⟩ (Nat.le_of_ble_eq_true rfl) (v_7_put l a0 a1 a2 a3 H)
def mi_10_inputScript : jM := (70911194666559839153820531443071189710623633504095676239930497819, 27, 2, "CoinNode$Tx", some FieldType.int, "inputScript", 0, 0)
def y_10_inputScript : MethodName := ⟨"CoinNode$Tx", "inputScript", "(I)I"⟩
theorem n_10_inputScript : jn_is prog_12_method_9_code mi_10_inputScript.1 mi_10_inputScript.2.1 := by unfold jn_is; decide +kernel
theorem k_10_inputScript : jmok y_10_inputScript prog_12_method_9_code mi_10_inputScript 1 := ⟨jw_867, jw_11, ⟨by decide, by decide⟩, by decide +kernel⟩
theorem v_10_inputScript_26 (l : Launch)  (s0 : Int32) (H : jH) : JV l mi_10_inputScript jeI 26 [] [.int s0] H (B_10_inputScript_26  s0 H) := by
  unfold B_10_inputScript_26
  exact s_172 rfl rfl
theorem v_10_inputScript_13 (l : Launch)   (H : jH) : JV l mi_10_inputScript jeI 13 [] [] H (B_10_inputScript_13   H) := by
  unfold B_10_inputScript_13
  refine s_3 14 rfl ?_
  refine s_167 0 12 26 rfl rfl ?_
  exact s_jmp (v_10_inputScript_26 l _ _) trivial
theorem v_10_inputScript (l : Launch) (a0 : Nat) (a1 : Int32) (H : jH) : JV l mi_10_inputScript jeI 0 [(0, .ref a0), (1, .int a1)] [] H (F_10_inputScript a0 a1 H) := by
  unfold F_10_inputScript
  refine s_27 1 rfl rfl ?_
  refine s_155 0 12 13 4 rfl rfl ?_ ?_
  · exact s_jmp (v_10_inputScript_13 l _) trivial
  · refine s_27 5 rfl rfl ?_
    refine s_42 6 rfl rfl ?_
    refine s_180R 0 15 9 15 f_10_4 jw_724 rfl rfl ?_
    refine s_190 10 100 jm_100 rfl ?_
    refine s_161 0 7 17 13 rfl rfl ?_ ?_
    · refine s_42 18 rfl rfl ?_
      refine s_180R 0 15 21 15 f_10_4 jw_724 rfl rfl ?_
      refine s_27 22 rfl rfl ?_
      refine s_46 23 rfl ?_
      refine s_16 37 25 37 jbp_37 rfl ?_
      refine s_96 26 rfl ?_
      exact s_jmp (v_10_inputScript_26 l _ _) trivial
    · exact s_jmp (v_10_inputScript_13 l _) trivial
theorem m_10_inputScript (l : Launch) (a0 : Nat) (a1 : Int32) (H : jH) : JMet l y_10_inputScript prog_12_method_9_code mi_10_inputScript jeI [.ref a0, .int a1] H (F_10_inputScript a0 a1 H) := jmet_of n_10_inputScript (by decide) ⟨rfl, rfl⟩ (Nat.le_of_ble_eq_true rfl) (v_10_inputScript l a0 a1 H)
def mi_10_outputScript : jM := (70911018907711254172765693364579012710703313577062286165532515099, 27, 2, "CoinNode$Tx", some FieldType.int, "outputScript", 0, 0)
def y_10_outputScript : MethodName := ⟨"CoinNode$Tx", "outputScript", "(I)I"⟩
theorem n_10_outputScript : jn_is prog_12_method_10_code mi_10_outputScript.1 mi_10_outputScript.2.1 := by unfold jn_is; decide +kernel
theorem k_10_outputScript : jmok y_10_outputScript prog_12_method_10_code mi_10_outputScript 1 := ⟨jw_859, jw_11, ⟨by decide, by decide⟩, by decide +kernel⟩
theorem v_10_outputScript_26 (l : Launch)  (s0 : Int32) (H : jH) : JV l mi_10_outputScript jeI 26 [] [.int s0] H (B_10_outputScript_26  s0 H) := by
  unfold B_10_outputScript_26
  exact s_172 rfl rfl
theorem v_10_outputScript_13 (l : Launch)   (H : jH) : JV l mi_10_outputScript jeI 13 [] [] H (B_10_outputScript_13   H) := by
  unfold B_10_outputScript_13
  refine s_3 14 rfl ?_
  refine s_167 0 12 26 rfl rfl ?_
  exact s_jmp (v_10_outputScript_26 l _ _) trivial
theorem v_10_outputScript (l : Launch) (a0 : Nat) (a1 : Int32) (H : jH) : JV l mi_10_outputScript jeI 0 [(0, .ref a0), (1, .int a1)] [] H (F_10_outputScript a0 a1 H) := by
  unfold F_10_outputScript
  refine s_27 1 rfl rfl ?_
  refine s_155 0 12 13 4 rfl rfl ?_ ?_
  · exact s_jmp (v_10_outputScript_13 l _) trivial
  · refine s_27 5 rfl rfl ?_
    refine s_42 6 rfl rfl ?_
    refine s_180R 0 19 9 19 f_10_5 jw_729 rfl rfl ?_
    refine s_190 10 100 jm_100 rfl ?_
    refine s_161 0 7 17 13 rfl rfl ?_ ?_
    · refine s_42 18 rfl rfl ?_
      refine s_180R 0 19 21 19 f_10_5 jw_729 rfl rfl ?_
      refine s_27 22 rfl rfl ?_
      refine s_46 23 rfl ?_
      refine s_16 9 25 9 jbp_9 rfl ?_
      refine s_96 26 rfl ?_
      exact s_jmp (v_10_outputScript_26 l _ _) trivial
    · exact s_jmp (v_10_outputScript_13 l _) trivial
theorem m_10_outputScript (l : Launch) (a0 : Nat) (a1 : Int32) (H : jH) : JMet l y_10_outputScript prog_12_method_10_code mi_10_outputScript jeI [.ref a0, .int a1] H (F_10_outputScript a0 a1 H) := jmet_of n_10_outputScript (by decide) ⟨rfl, rfl⟩ (Nat.le_of_ble_eq_true rfl) (v_10_outputScript l a0 a1 H)
def mi_10_scriptSize : jM := (304774189975053815158411495352969521588242721821507559741508955768734417947, 31, 2, "CoinNode$Tx", some FieldType.int, "scriptSize", 0, 0)
def y_10_scriptSize : MethodName := ⟨"CoinNode$Tx", "scriptSize", "(I)I"⟩
theorem n_10_scriptSize : jn_is prog_12_method_11_code mi_10_scriptSize.1 mi_10_scriptSize.2.1 := by unfold jn_is; decide +kernel
theorem k_10_scriptSize : jmok y_10_scriptSize prog_12_method_11_code mi_10_scriptSize 1 := ⟨jw_871, jw_11, ⟨by decide, by decide⟩, by decide +kernel⟩
theorem v_10_scriptSize_30 (l : Launch)  (s0 : Int32) (H : jH) : JV l mi_10_scriptSize jeI 30 [] [.int s0] H (B_10_scriptSize_30  s0 H) := by
  unfold B_10_scriptSize_30
  exact s_172 rfl rfl
theorem v_10_scriptSize_14 (l : Launch)   (H : jH) : JV l mi_10_scriptSize jeI 14 [] [] H (B_10_scriptSize_14   H) := by
  unfold B_10_scriptSize_14
  refine s_3 15 rfl ?_
  refine s_167 0 15 30 rfl rfl ?_
  exact s_jmp (v_10_scriptSize_30 l _ _) trivial
theorem v_10_scriptSize (l : Launch) (a0 : Nat) (a1 : Int32) (H : jH) : JV l mi_10_scriptSize jeI 0 [(0, .ref a0), (1, .int a1)] [] H (F_10_scriptSize a0 a1 H) := by
  unfold F_10_scriptSize
  refine s_27 1 rfl rfl ?_
  refine s_4 2 rfl ?_
  refine s_161 0 12 14 5 rfl rfl ?_ ?_
  · exact s_jmp (v_10_scriptSize_14 l _) trivial
  · refine s_27 6 rfl rfl ?_
    refine s_42 7 rfl rfl ?_
    refine s_180R 0 22 10 22 f_10_0 jw_706 rfl rfl ?_
    refine s_190 11 101 jm_101 rfl ?_
    refine s_164 0 7 18 14 rfl rfl ?_ ?_
    · refine s_42 19 rfl rfl ?_
      refine s_180R 0 22 22 22 f_10_0 jw_706 rfl rfl ?_
      refine s_27 23 rfl rfl ?_
      refine s_4 24 rfl ?_
      refine s_100 25 rfl ?_
      refine s_51B 26 rfl ?_
      refine s_17 0 255 29 255 jsp_0_255 rfl ?_
      refine s_126 30 rfl ?_
      exact s_jmp (v_10_scriptSize_30 l _ _) trivial
    · exact s_jmp (v_10_scriptSize_14 l _) trivial
theorem m_10_scriptSize (l : Launch) (a0 : Nat) (a1 : Int32) (H : jH) : JMet l y_10_scriptSize prog_12_method_11_code mi_10_scriptSize jeI [.ref a0, .int a1] H (F_10_scriptSize a0 a1 H) := jmet_of n_10_scriptSize (by decide) ⟨rfl, rfl⟩ (Nat.le_of_ble_eq_true rfl) (v_10_scriptSize l a0 a1 H)
def mi_7_write : jM := (385947004579702032066512791014567887657294631531487584759970228369424261125926116116625177434295659302086503166978153550414754438991723895674348532457345350854166357424095482804368345848025620494804015371678987155109780818424000280533045931427654252058243130995200285216099779771657405740681405667451658135123720909249832133310177807879012712598199984228708341581092361359563320591480039748551984302400637814373346285638303736508316374399538148222929755965012453366174960287159372625570986986478872941430843750801646518619432227325155049181247039171490952581890893388071148265904571006107570492292090644697716985695378172405244332201072409132989740389177161256334516620573143395378652438051080941838062940530937341294262575085813938616427772405983311615397306232326156479779685210746197728034577248739358873439055824130733991639801480254254788379983972453056086319130424861950415363109222260494512703799754197090545679960554593705680492406975515289882267514922388108903388808469, 406, 11, "CoinNode$Scripts", none, "write", 2, 83)
def y_7_write : MethodName := ⟨"CoinNode$Scripts", "write", "(LCoinNode$Tx;ILCoinNode$Tx;II)V"⟩
theorem n_7_write : jn_is prog_9_method_4_code mi_7_write.1 mi_7_write.2.1 := by unfold jn_is; decide +kernel
theorem k_7_write : jmok y_7_write prog_9_method_4_code mi_7_write 5 := ⟨jw_1112, jw_3, ⟨by decide, by decide⟩, by decide +kernel⟩
theorem v_7_write_246 (l : Launch) (k97 : Nat → Nat → Int32 → Nat → Int32 → Int32 → Int32 → Int32 → Int32 → Int32 → jH → Option (Unit × jH)) (hk97 : ∀ a0 a1 a2 a3 a4 a5 a6 a7 a8 a9 H, JV l mi_7_write jeV 97 [(0, .ref a0), (1, .ref a1), (2, .int a2), (3, .ref a3), (4, .int a4), (5, .int a5), (6, .int a6), (7, .int a7), (8, .int a8), (9, .int a9)] [] H (k97 a0 a1 a2 a3 a4 a5 a6 a7 a8 a9 H)) (a0 : Nat) (a1 : Nat) (a2 : Int32) (a3 : Nat) (a4 : Int32) (a5 : Int32) (a6 : Int32) (a7 : Int32) (a8 : Int32) (a9 : Int32) (H : jH) : JV l mi_7_write jeV 246 [(0, .ref a0), (1, .ref a1), (2, .int a2), (3, .ref a3), (4, .int a4), (5, .int a5), (6, .int a6), (7, .int a7), (8, .int a8), (9, .int a9)] [] H (B_7_write_246 k97 a0 a1 a2 a3 a4 a5 a6 a7 a8 a9 H) := by
  unfold B_7_write_246
  refine s_132L 9 1 249 1 ji_1 rfl rfl rfl (fun x1 => ?_)
  refine s_167 255 104 97 rfl rfl ?_
  exact s_jmp (hk97 _ _ _ _ _ _ _ _ _ _ _) ⟨rfl, rfl, rfl, rfl, rfl, rfl, rfl, rfl, rfl, rfl, trivial⟩
theorem v_7_write_366 (l : Launch) (k291 : Nat → Nat → Int32 → Int32 → Int32 → Int32 → Int32 → jH → Option (Unit × jH)) (hk291 : ∀ a0 a1 a2 a5 a6 a9 a10 H, JV l mi_7_write jeV 291 [(0, .ref a0), (1, .ref a1), (2, .int a2), (5, .int a5), (6, .int a6), (9, .int a9), (10, .int a10)] [] H (k291 a0 a1 a2 a5 a6 a9 a10 H)) (a0 : Nat) (a1 : Nat) (a2 : Int32) (a5 : Int32) (a6 : Int32) (a9 : Int32) (a10 : Int32) (H : jH) : JV l mi_7_write jeV 366 [(0, .ref a0), (1, .ref a1), (2, .int a2), (5, .int a5), (6, .int a6), (9, .int a9), (10, .int a10)] [] H (B_7_write_366 k291 a0 a1 a2 a5 a6 a9 a10 H) := by
  unfold B_7_write_366
  refine s_132L 10 1 369 1 ji_1 rfl rfl rfl (fun x2 => ?_)
  refine s_167 255 178 291 rfl rfl ?_
  exact s_jmp (hk291 _ _ _ _ _ _ _ _) ⟨rfl, rfl, rfl, rfl, rfl, rfl, rfl, trivial⟩
theorem v_7_write_338 (l : Launch) (k291 : Nat → Nat → Int32 → Int32 → Int32 → Int32 → Int32 → jH → Option (Unit × jH)) (hk291 : ∀ a0 a1 a2 a5 a6 a9 a10 H, JV l mi_7_write jeV 291 [(0, .ref a0), (1, .ref a1), (2, .int a2), (5, .int a5), (6, .int a6), (9, .int a9), (10, .int a10)] [] H (k291 a0 a1 a2 a5 a6 a9 a10 H)) (a0 : Nat) (a1 : Nat) (a2 : Int32) (a5 : Int32) (a6 : Int32) (a9 : Int32) (a10 : Int32) (H : jH) : JV l mi_7_write jeV 338 [(0, .ref a0), (1, .ref a1), (2, .int a2), (5, .int a5), (6, .int a6), (9, .int a9), (10, .int a10)] [] H (B_7_write_338 k291 a0 a1 a2 a5 a6 a9 a10 H) := by
  unfold B_7_write_338
  refine s_42 339 rfl rfl ?_
  refine s_43 340 rfl rfl ?_
  refine s_180R 0 58 343 58 f_10_0 jw_707 rfl rfl ?_
  refine s_43 344 rfl rfl ?_
  refine s_180R 0 134 347 134 f_10_5 jw_730 rfl rfl ?_
  refine s_21 10 349 rfl rfl ?_
  refine s_46 350 rfl ?_
  refine s_16 9 352 9 jbp_9 rfl ?_
  refine s_43 353 rfl rfl ?_
  refine s_43 354 rfl rfl ?_
  refine s_21 10 356 rfl rfl ?_
  refine s_182I 0 51 359 51 (m_10_outputScript l _ _ _) rfl k_10_outputScript jc_10 jw_856 jw_857 jw_858 rfl rfl rfl rfl rfl (fun x3 h4 => ?_)
  refine s_182I 0 64 362 64 (m_10_scriptSize l _ _ _) rfl k_10_scriptSize jc_10 jw_868 jw_869 jw_870 rfl rfl rfl rfl rfl (fun x5 h6 => ?_)
  refine s_96 363 rfl ?_
  refine s_182V 0 140 366 140 (m_7_put l _ _ _ _ _) rfl k_7_put jc_7 jw_1113 jw_1115 jps_24 rfl rfl rfl rfl rfl (fun x7 h8 => ?_)
  exact s_jmp (v_7_write_366 l k291 hk291 _ _ _ _ _ _ _ _) ⟨rfl, rfl, rfl, rfl, rfl, rfl, rfl, trivial⟩
theorem v_7_write_372 (l : Launch)  (a0 : Nat) (a1 : Nat) (a5 : Int32) (H : jH) : JV l mi_7_write jeV 372 [(0, .ref a0), (1, .ref a1), (5, .int a5)] [] H (B_7_write_372  a0 a1 a5 H) := by
  unfold B_7_write_372
  refine s_42 373 rfl rfl ?_
  refine s_43 374 rfl rfl ?_
  refine s_180R 0 58 377 58 f_10_0 jw_707 rfl rfl ?_
  refine s_43 378 rfl rfl ?_
  refine s_180I 0 137 381 137 f_10_1 jw_712 rfl rfl ?_
  refine s_43 382 rfl rfl ?_
  refine s_180I 0 147 385 147 f_10_2 jw_716 rfl rfl ?_
  refine s_96 386 rfl ?_
  refine s_7 387 rfl ?_
  refine s_100 388 rfl ?_
  refine s_7 389 rfl ?_
  refine s_182V 0 140 392 140 (m_7_put l _ _ _ _ _) rfl k_7_put jc_7 jw_1113 jw_1115 jps_24 rfl rfl rfl rfl rfl (fun x9 h10 => ?_)
  refine s_42 393 rfl rfl ?_
  refine s_4 394 rfl ?_
  refine s_21 5 396 rfl rfl ?_
  refine s_182V 0 143 399 143 (m_7_fill l _ _ _ _) rfl k_7_fill jc_7 jw_1118 jw_1120 jps_25 rfl rfl rfl rfl rfl (fun x11 h12 => ?_)
  refine s_42 400 rfl rfl ?_
  refine s_6 401 rfl ?_
  refine s_3 402 rfl ?_
  refine s_182V 0 143 405 143 (m_7_fill l _ _ _ _) rfl k_7_fill jc_7 jw_1118 jw_1120 jps_25 rfl rfl rfl rfl rfl (fun x13 h14 => ?_)
  exact s_177 rfl rfl
theorem v_7_write_291 (l : Launch) (k291 : Nat → Nat → Int32 → Int32 → Int32 → Int32 → Int32 → jH → Option (Unit × jH)) (hk291 : ∀ a0 a1 a2 a5 a6 a9 a10 H, JV l mi_7_write jeV 291 [(0, .ref a0), (1, .ref a1), (2, .int a2), (5, .int a5), (6, .int a6), (9, .int a9), (10, .int a10)] [] H (k291 a0 a1 a2 a5 a6 a9 a10 H)) (a0 : Nat) (a1 : Nat) (a2 : Int32) (a5 : Int32) (a6 : Int32) (a9 : Int32) (a10 : Int32) (H : jH) : JV l mi_7_write jeV 291 [(0, .ref a0), (1, .ref a1), (2, .int a2), (5, .int a5), (6, .int a6), (9, .int a9), (10, .int a10)] [] H (B_7_write_291 k291 a0 a1 a2 a5 a6 a9 a10 H) := by
  unfold B_7_write_291
  refine s_21 10 293 rfl rfl ?_
  refine s_21 9 295 rfl rfl ?_
  refine s_162 0 77 372 298 rfl rfl ?_ ?_
  · exact s_jmp (v_7_write_372 l _ _ _ _) ⟨rfl, rfl, rfl, trivial⟩
  · refine s_21 10 300 rfl rfl ?_
    refine s_43 301 rfl rfl ?_
    refine s_180R 0 134 304 134 f_10_5 jw_730 rfl rfl ?_
    refine s_190 305 100 jm_100 rfl ?_
    refine s_162 0 67 372 308 rfl rfl ?_ ?_
    · exact s_jmp (v_7_write_372 l _ _ _ _) ⟨rfl, rfl, rfl, trivial⟩
    · refine s_21 6 310 rfl rfl ?_
      refine s_6 311 rfl ?_
      refine s_160 0 27 338 314 rfl rfl ?_ ?_
      · exact s_jmp (v_7_write_338 l k291 hk291 _ _ _ _ _ _ _ _) ⟨rfl, rfl, rfl, rfl, rfl, rfl, rfl, trivial⟩
      · refine s_21 10 316 rfl rfl ?_
        refine s_28 317 rfl rfl ?_
        refine s_162 0 21 338 320 rfl rfl ?_ ?_
        · exact s_jmp (v_7_write_338 l k291 hk291 _ _ _ _ _ _ _ _) ⟨rfl, rfl, rfl, rfl, rfl, rfl, rfl, trivial⟩
        · refine s_42 321 rfl rfl ?_
          refine s_16 8 323 8 jbp_8 rfl ?_
          refine s_17 0 255 326 255 jsp_0_255 rfl ?_
          refine s_182V 0 143 329 143 (m_7_fill l _ _ _ _) rfl k_7_fill jc_7 jw_1118 jw_1120 jps_25 rfl rfl rfl rfl rfl (fun x15 h16 => ?_)
          refine s_42 330 rfl rfl ?_
          refine s_4 331 rfl ?_
          refine s_3 332 rfl ?_
          refine s_182V 0 143 335 143 (m_7_fill l _ _ _ _) rfl k_7_fill jc_7 jw_1118 jw_1120 jps_25 rfl rfl rfl rfl rfl (fun x17 h18 => ?_)
          refine s_167 0 31 366 rfl rfl ?_
          exact s_jmp (v_7_write_366 l k291 hk291 _ _ _ _ _ _ _ _) ⟨rfl, rfl, rfl, rfl, rfl, rfl, rfl, trivial⟩
theorem w_7_write_291 (l : Launch)  (n : Nat) : ∀ a0 a1 a2 a5 a6 a9 a10 H, JV l mi_7_write jeV 291 [(0, .ref a0), (1, .ref a1), (2, .int a2), (5, .int a5), (6, .int a6), (9, .int a9), (10, .int a10)] [] H (F_7_write_291  n a0 a1 a2 a5 a6 a9 a10 H) := by
  induction n with
  | zero => intro _ _ _ _ _ _ _ _; exact s_none
  | succ n ih => intro a0 a1 a2 a5 a6 a9 a10 H; exact v_7_write_291 l (F_7_write_291  n) ih a0 a1 a2 a5 a6 a9 a10 H
theorem v_7_write_279 (l : Launch)  (a0 : Nat) (a1 : Nat) (a2 : Int32) (a5 : Int32) (a6 : Int32) (s0 : Int32) (H : jH) : JV l mi_7_write jeV 279 [(0, .ref a0), (1, .ref a1), (2, .int a2), (5, .int a5), (6, .int a6)] [.int s0] H (B_7_write_279  a0 a1 a2 a5 a6 s0 H) := by
  unfold B_7_write_279
  refine s_54 9 281 rfl rfl ?_
  refine s_42 282 rfl rfl ?_
  refine s_4 283 rfl ?_
  refine s_21 9 285 rfl rfl ?_
  refine s_182V 0 143 288 143 (m_7_fill l _ _ _ _) rfl k_7_fill jc_7 jw_1118 jw_1120 jps_25 rfl rfl rfl rfl rfl (fun x19 h20 => ?_)
  refine s_3 289 rfl ?_
  refine s_54 10 291 rfl rfl ?_
  exact s_jmp (w_7_write_291 l jfuel _ _ _ _ _ _ _ _) ⟨rfl, rfl, rfl, rfl, rfl, rfl, rfl, trivial⟩
theorem v_7_write_97 (l : Launch) (k97 : Nat → Nat → Int32 → Nat → Int32 → Int32 → Int32 → Int32 → Int32 → Int32 → jH → Option (Unit × jH)) (hk97 : ∀ a0 a1 a2 a3 a4 a5 a6 a7 a8 a9 H, JV l mi_7_write jeV 97 [(0, .ref a0), (1, .ref a1), (2, .int a2), (3, .ref a3), (4, .int a4), (5, .int a5), (6, .int a6), (7, .int a7), (8, .int a8), (9, .int a9)] [] H (k97 a0 a1 a2 a3 a4 a5 a6 a7 a8 a9 H)) (a0 : Nat) (a1 : Nat) (a2 : Int32) (a3 : Nat) (a4 : Int32) (a5 : Int32) (a6 : Int32) (a7 : Int32) (a8 : Int32) (a9 : Int32) (H : jH) : JV l mi_7_write jeV 97 [(0, .ref a0), (1, .ref a1), (2, .int a2), (3, .ref a3), (4, .int a4), (5, .int a5), (6, .int a6), (7, .int a7), (8, .int a8), (9, .int a9)] [] H (B_7_write_97 k97 a0 a1 a2 a3 a4 a5 a6 a7 a8 a9 H) := by
  unfold B_7_write_97
  refine s_21 9 99 rfl rfl ?_
  refine s_43 100 rfl rfl ?_
  refine s_180R 0 45 103 45 f_10_4 jw_725 rfl rfl ?_
  refine s_190 104 100 jm_100 rfl ?_
  refine s_162 0 148 252 107 rfl rfl ?_ ?_
  · refine s_21 6 254 rfl rfl ?_
    refine s_5 255 rfl ?_
    refine s_160 0 7 262 258 rfl rfl ?_ ?_
    · refine s_21 6 264 rfl rfl ?_
      refine s_6 265 rfl ?_
      refine s_160 0 9 274 268 rfl rfl ?_ ?_
      · refine s_43 275 rfl rfl ?_
        refine s_180R 0 134 278 134 f_10_5 jw_730 rfl rfl ?_
        refine s_190 279 100 jm_100 rfl ?_
        exact s_jmp (v_7_write_279 l _ _ _ _ _ _ _) ⟨rfl, rfl, rfl, rfl, rfl, trivial⟩
      · refine s_28 269 rfl rfl ?_
        refine s_4 270 rfl ?_
        refine s_96 271 rfl ?_
        refine s_167 0 8 279 rfl rfl ?_
        exact s_jmp (v_7_write_279 l _ _ _ _ _ _ _) ⟨rfl, rfl, rfl, rfl, rfl, trivial⟩
    · refine s_3 259 rfl ?_
      refine s_167 0 20 279 rfl rfl ?_
      exact s_jmp (v_7_write_279 l _ _ _ _ _ _ _) ⟨rfl, rfl, rfl, rfl, rfl, trivial⟩
  · refine s_43 108 rfl rfl ?_
    refine s_21 9 110 rfl rfl ?_
    refine s_182I 0 61 113 61 (m_10_inputScript l _ _ _) rfl k_10_inputScript jc_10 jw_864 jw_865 jw_866 rfl rfl rfl rfl rfl (fun x21 h22 => ?_)
    refine s_54 10 115 rfl rfl ?_
    refine s_21 9 117 rfl rfl ?_
    refine s_28 118 rfl rfl ?_
    refine s_160 0 68 186 121 rfl rfl ?_ ?_
    · refine s_21 7 188 rfl rfl ?_
      refine s_154 0 58 246 191 rfl rfl ?_ ?_
      · exact s_jmp (v_7_write_246 l k97 hk97 _ _ _ _ _ _ _ _ _ _ _) ⟨rfl, rfl, rfl, rfl, rfl, rfl, rfl, rfl, rfl, rfl, trivial⟩
      · refine s_42 192 rfl rfl ?_
        refine s_43 193 rfl rfl ?_
        refine s_180R 0 58 196 58 f_10_0 jw_707 rfl rfl ?_
        refine s_43 197 rfl rfl ?_
        refine s_180R 0 45 200 45 f_10_4 jw_725 rfl rfl ?_
        refine s_21 9 202 rfl rfl ?_
        refine s_46 203 rfl ?_
        refine s_16 36 205 36 jbp_36 rfl ?_
        refine s_182V 0 140 208 140 (m_7_put l _ _ _ _ _) rfl k_7_put jc_7 jw_1113 jw_1115 jps_24 rfl rfl rfl rfl rfl (fun x23 h24 => ?_)
        refine s_42 209 rfl rfl ?_
        refine s_4 210 rfl ?_
        refine s_3 211 rfl ?_
        refine s_182V 0 143 214 143 (m_7_fill l _ _ _ _) rfl k_7_fill jc_7 jw_1118 jw_1120 jps_25 rfl rfl rfl rfl rfl (fun x25 h26 => ?_)
        refine s_21 8 216 rfl rfl ?_
        refine s_153 0 12 228 219 rfl rfl ?_ ?_
        · refine s_42 229 rfl rfl ?_
          refine s_43 230 rfl rfl ?_
          refine s_180R 0 58 233 58 f_10_0 jw_707 rfl rfl ?_
          refine s_21 10 235 rfl rfl ?_
          refine s_43 236 rfl rfl ?_
          refine s_21 10 238 rfl rfl ?_
          refine s_182I 0 64 241 64 (m_10_scriptSize l _ _ _) rfl k_10_scriptSize jc_10 jw_868 jw_869 jw_870 rfl rfl rfl rfl rfl (fun x27 h28 => ?_)
          refine s_96 242 rfl ?_
          refine s_7 243 rfl ?_
          refine s_182V 0 140 246 140 (m_7_put l _ _ _ _ _) rfl k_7_put jc_7 jw_1113 jw_1115 jps_24 rfl rfl rfl rfl rfl (fun x29 h30 => ?_)
          exact s_jmp (v_7_write_246 l k97 hk97 _ _ _ _ _ _ _ _ _ _ _) ⟨rfl, rfl, rfl, rfl, rfl, rfl, rfl, rfl, rfl, rfl, trivial⟩
        · refine s_42 220 rfl rfl ?_
          refine s_7 221 rfl ?_
          refine s_3 222 rfl ?_
          refine s_182V 0 143 225 143 (m_7_fill l _ _ _ _) rfl k_7_fill jc_7 jw_1118 jw_1120 jps_25 rfl rfl rfl rfl rfl (fun x31 h32 => ?_)
          refine s_167 0 21 246 rfl rfl ?_
          exact s_jmp (v_7_write_246 l k97 hk97 _ _ _ _ _ _ _ _ _ _ _) ⟨rfl, rfl, rfl, rfl, rfl, rfl, rfl, rfl, rfl, rfl, trivial⟩
    · refine s_42 122 rfl rfl ?_
      refine s_43 123 rfl rfl ?_
      refine s_180R 0 58 126 58 f_10_0 jw_707 rfl rfl ?_
      refine s_43 127 rfl rfl ?_
      refine s_180R 0 45 130 45 f_10_4 jw_725 rfl rfl ?_
      refine s_21 9 132 rfl rfl ?_
      refine s_46 133 rfl ?_
      refine s_16 36 135 36 jbp_36 rfl ?_
      refine s_182V 0 140 138 140 (m_7_put l _ _ _ _ _) rfl k_7_put jc_7 jw_1113 jw_1115 jps_24 rfl rfl rfl rfl rfl (fun x33 h34 => ?_)
      refine s_42 139 rfl rfl ?_
      refine s_4 140 rfl ?_
      refine s_45 141 rfl rfl ?_
      refine s_21 4 143 rfl rfl ?_
      refine s_182I 0 64 146 64 (m_10_scriptSize l _ _ _) rfl k_10_scriptSize jc_10 jw_868 jw_869 jw_870 rfl rfl rfl rfl rfl (fun x35 h36 => ?_)
      refine s_182V 0 143 149 143 (m_7_fill l _ _ _ _) rfl k_7_fill jc_7 jw_1118 jw_1120 jps_25 rfl rfl rfl rfl rfl (fun x37 h38 => ?_)
      refine s_42 150 rfl rfl ?_
      refine s_45 151 rfl rfl ?_
      refine s_180R 0 58 154 58 f_10_0 jw_707 rfl rfl ?_
      refine s_21 4 156 rfl rfl ?_
      refine s_45 157 rfl rfl ?_
      refine s_21 4 159 rfl rfl ?_
      refine s_182I 0 64 162 64 (m_10_scriptSize l _ _ _) rfl k_10_scriptSize jc_10 jw_868 jw_869 jw_870 rfl rfl rfl rfl rfl (fun x39 h40 => ?_)
      refine s_182V 0 140 165 140 (m_7_put l _ _ _ _ _) rfl k_7_put jc_7 jw_1113 jw_1115 jps_24 rfl rfl rfl rfl rfl (fun x41 h42 => ?_)
      refine s_42 166 rfl rfl ?_
      refine s_43 167 rfl rfl ?_
      refine s_180R 0 58 170 58 f_10_0 jw_707 rfl rfl ?_
      refine s_21 10 172 rfl rfl ?_
      refine s_43 173 rfl rfl ?_
      refine s_21 10 175 rfl rfl ?_
      refine s_182I 0 64 178 64 (m_10_scriptSize l _ _ _) rfl k_10_scriptSize jc_10 jw_868 jw_869 jw_870 rfl rfl rfl rfl rfl (fun x43 h44 => ?_)
      refine s_96 179 rfl ?_
      refine s_7 180 rfl ?_
      refine s_182V 0 140 183 140 (m_7_put l _ _ _ _ _) rfl k_7_put jc_7 jw_1113 jw_1115 jps_24 rfl rfl rfl rfl rfl (fun x45 h46 => ?_)
      refine s_167 0 63 246 rfl rfl ?_
      exact s_jmp (v_7_write_246 l k97 hk97 _ _ _ _ _ _ _ _ _ _ _) ⟨rfl, rfl, rfl, rfl, rfl, rfl, rfl, rfl, rfl, rfl, trivial⟩
theorem w_7_write_97 (l : Launch)  (n : Nat) : ∀ a0 a1 a2 a3 a4 a5 a6 a7 a8 a9 H, JV l mi_7_write jeV 97 [(0, .ref a0), (1, .ref a1), (2, .int a2), (3, .ref a3), (4, .int a4), (5, .int a5), (6, .int a6), (7, .int a7), (8, .int a8), (9, .int a9)] [] H (F_7_write_97  n a0 a1 a2 a3 a4 a5 a6 a7 a8 a9 H) := by
  induction n with
  | zero => intro _ _ _ _ _ _ _ _ _ _ _; exact s_none
  | succ n ih => intro a0 a1 a2 a3 a4 a5 a6 a7 a8 a9 H; exact v_7_write_97 l (F_7_write_97  n) ih a0 a1 a2 a3 a4 a5 a6 a7 a8 a9 H
theorem v_7_write_91 (l : Launch)  (a0 : Nat) (a1 : Nat) (a2 : Int32) (a3 : Nat) (a4 : Int32) (a5 : Int32) (a6 : Int32) (a7 : Int32) (a8 : Int32) (s0 : Nat) (s1 : Int32) (s2 : Int32) (H : jH) : JV l mi_7_write jeV 91 [(0, .ref a0), (1, .ref a1), (2, .int a2), (3, .ref a3), (4, .int a4), (5, .int a5), (6, .int a6), (7, .int a7), (8, .int a8)] [.int s2, .int s1, .ref s0] H (B_7_write_91  a0 a1 a2 a3 a4 a5 a6 a7 a8 s0 s1 s2 H) := by
  unfold B_7_write_91
  refine s_182V 0 143 94 143 (m_7_fill l _ _ _ _) rfl k_7_fill jc_7 jw_1118 jw_1120 jps_25 rfl rfl rfl rfl rfl (fun x47 h48 => ?_)
  refine s_3 95 rfl ?_
  refine s_54 9 97 rfl rfl ?_
  exact s_jmp (w_7_write_97 l jfuel _ _ _ _ _ _ _ _ _ _ _) ⟨rfl, rfl, rfl, rfl, rfl, rfl, rfl, rfl, rfl, rfl, trivial⟩
theorem v_7_write_62 (l : Launch)  (a0 : Nat) (a1 : Nat) (a2 : Int32) (a3 : Nat) (a4 : Int32) (a5 : Int32) (a6 : Int32) (a7 : Int32) (a8 : Int32) (H : jH) : JV l mi_7_write jeV 62 [(0, .ref a0), (1, .ref a1), (2, .int a2), (3, .ref a3), (4, .int a4), (5, .int a5), (6, .int a6), (7, .int a7), (8, .int a8)] [] H (B_7_write_62  a0 a1 a2 a3 a4 a5 a6 a7 a8 H) := by
  unfold B_7_write_62
  refine s_42 63 rfl rfl ?_
  refine s_43 64 rfl rfl ?_
  refine s_180R 0 58 67 58 f_10_0 jw_707 rfl rfl ?_
  refine s_43 68 rfl rfl ?_
  refine s_180I 0 137 71 137 f_10_1 jw_712 rfl rfl ?_
  refine s_7 72 rfl ?_
  refine s_182V 0 140 75 140 (m_7_put l _ _ _ _ _) rfl k_7_put jc_7 jw_1113 jw_1115 jps_24 rfl rfl rfl rfl rfl (fun x49 h50 => ?_)
  refine s_42 76 rfl rfl ?_
  refine s_4 77 rfl ?_
  refine s_21 7 79 rfl rfl ?_
  refine s_153 0 7 86 82 rfl rfl ?_ ?_
  · refine s_43 87 rfl rfl ?_
    refine s_180R 0 45 90 45 f_10_4 jw_725 rfl rfl ?_
    refine s_190 91 100 jm_100 rfl ?_
    exact s_jmp (v_7_write_91 l _ _ _ _ _ _ _ _ _ _ _ _ _) ⟨rfl, rfl, rfl, rfl, rfl, rfl, rfl, rfl, rfl, trivial⟩
  · refine s_4 83 rfl ?_
    refine s_167 0 8 91 rfl rfl ?_
    exact s_jmp (v_7_write_91 l _ _ _ _ _ _ _ _ _ _ _ _ _) ⟨rfl, rfl, rfl, rfl, rfl, rfl, rfl, rfl, rfl, trivial⟩
theorem v_7_write_39 (l : Launch)  (a0 : Nat) (a1 : Nat) (a2 : Int32) (a3 : Nat) (a4 : Int32) (a5 : Int32) (a6 : Int32) (a7 : Int32) (s0 : Int32) (H : jH) : JV l mi_7_write jeV 39 [(0, .ref a0), (1, .ref a1), (2, .int a2), (3, .ref a3), (4, .int a4), (5, .int a5), (6, .int a6), (7, .int a7)] [.int s0] H (B_7_write_39  a0 a1 a2 a3 a4 a5 a6 a7 s0 H) := by
  unfold B_7_write_39
  refine s_54 8 41 rfl rfl ?_
  refine s_42 42 rfl rfl ?_
  refine s_3 43 rfl ?_
  refine s_181I 0 104 46 104 f_7_4 rfl rfl jw_244 rfl rfl (fun h51 => ?_)
  refine s_21 6 48 rfl rfl ?_
  refine s_6 49 rfl ?_
  refine s_160 0 13 62 52 rfl rfl ?_ ?_
  · exact s_jmp (v_7_write_62 l _ _ _ _ _ _ _ _ _ _) ⟨rfl, rfl, rfl, rfl, rfl, rfl, rfl, rfl, rfl, trivial⟩
  · refine s_28 53 rfl rfl ?_
    refine s_43 54 rfl rfl ?_
    refine s_180R 0 134 57 134 f_10_5 jw_730 rfl rfl ?_
    refine s_190 58 100 jm_100 rfl ?_
    refine s_161 0 4 62 61 rfl rfl ?_ ?_
    · exact s_jmp (v_7_write_62 l _ _ _ _ _ _ _ _ _ _) ⟨rfl, rfl, rfl, rfl, rfl, rfl, rfl, rfl, rfl, trivial⟩
    · exact s_177 rfl rfl
theorem v_7_write_34 (l : Launch)  (a0 : Nat) (a1 : Nat) (a2 : Int32) (a3 : Nat) (a4 : Int32) (a5 : Int32) (a6 : Int32) (a7 : Int32) (H : jH) : JV l mi_7_write jeV 34 [(0, .ref a0), (1, .ref a1), (2, .int a2), (3, .ref a3), (4, .int a4), (5, .int a5), (6, .int a6), (7, .int a7)] [] H (B_7_write_34  a0 a1 a2 a3 a4 a5 a6 a7 H) := by
  unfold B_7_write_34
  refine s_4 35 rfl ?_
  refine s_167 0 4 39 rfl rfl ?_
  exact s_jmp (v_7_write_39 l _ _ _ _ _ _ _ _ _ _) ⟨rfl, rfl, rfl, rfl, rfl, rfl, rfl, rfl, trivial⟩
theorem v_7_write_20 (l : Launch)  (a0 : Nat) (a1 : Nat) (a2 : Int32) (a3 : Nat) (a4 : Int32) (a5 : Int32) (a6 : Int32) (s0 : Int32) (H : jH) : JV l mi_7_write jeV 20 [(0, .ref a0), (1, .ref a1), (2, .int a2), (3, .ref a3), (4, .int a4), (5, .int a5), (6, .int a6)] [.int s0] H (B_7_write_20  a0 a1 a2 a3 a4 a5 a6 s0 H) := by
  unfold B_7_write_20
  refine s_54 7 22 rfl rfl ?_
  refine s_21 6 24 rfl rfl ?_
  refine s_5 25 rfl ?_
  refine s_159 0 9 34 28 rfl rfl ?_ ?_
  · exact s_jmp (v_7_write_34 l _ _ _ _ _ _ _ _ _) ⟨rfl, rfl, rfl, rfl, rfl, rfl, rfl, rfl, trivial⟩
  · refine s_21 6 30 rfl rfl ?_
    refine s_6 31 rfl ?_
    refine s_160 0 7 38 34 rfl rfl ?_ ?_
    · refine s_3 39 rfl ?_
      exact s_jmp (v_7_write_39 l _ _ _ _ _ _ _ _ _ _) ⟨rfl, rfl, rfl, rfl, rfl, rfl, rfl, rfl, trivial⟩
    · exact s_jmp (v_7_write_34 l _ _ _ _ _ _ _ _ _) ⟨rfl, rfl, rfl, rfl, rfl, rfl, rfl, rfl, trivial⟩
theorem v_7_write (l : Launch) (a0 : Nat) (a1 : Nat) (a2 : Int32) (a3 : Nat) (a4 : Int32) (a5 : Int32) (H : jH) : JV l mi_7_write jeV 0 [(0, .ref a0), (1, .ref a1), (2, .int a2), (3, .ref a3), (4, .int a4), (5, .int a5)] [] H (F_7_write a0 a1 a2 a3 a4 a5 H) := by
  unfold F_7_write
  refine s_21 5 2 rfl rfl ?_
  refine s_16 31 4 31 jbp_31 rfl ?_
  refine s_126 5 rfl ?_
  refine s_54L 6 7 rfl rfl (fun x52 => ?_)
  refine s_21 5 9 rfl rfl ?_
  refine s_17 0 128 12 128 jsp_0_128 rfl ?_
  refine s_161 0 7 19 15 rfl rfl ?_ ?_
  · refine s_3 20 rfl ?_
    exact s_jmp (v_7_write_20 l _ _ _ _ _ _ _ _ _) ⟨rfl, rfl, rfl, rfl, rfl, rfl, rfl, trivial⟩
  · refine s_4 16 rfl ?_
    refine s_167 0 4 20 rfl rfl ?_
    exact s_jmp (v_7_write_20 l _ _ _ _ _ _ _ _ _) ⟨rfl, rfl, rfl, rfl, rfl, rfl, rfl, trivial⟩
theorem m_7_write (l : Launch) (a0 : Nat) (a1 : Nat) (a2 : Int32) (a3 : Nat) (a4 : Int32) (a5 : Int32) (H : jH) : JMet l y_7_write prog_9_method_4_code mi_7_write jeV [.ref a0, .ref a1, .int a2, .ref a3, .int a4, .int a5] H (F_7_write a0 a1 a2 a3 a4 a5 H) := jmet_of n_7_write (by decide) ⟨rfl, rfl⟩ (Nat.le_of_ble_eq_true rfl) (v_7_write l a0 a1 a2 a3 a4 a5 H)
def mi_5_mix : jM := (345582573101062237360999797732884241507757438411198414400590716886107741824082655000067, 36, 8, "CoinNode$Point", none, "mix", 0, 0)
def y_5_mix : MethodName := ⟨"CoinNode$Point", "mix", "([J[JJ[JJ)V"⟩
theorem n_5_mix : jn_is prog_7_method_7_code mi_5_mix.1 mi_5_mix.2.1 := by unfold jn_is; decide +kernel
theorem k_5_mix : jmok y_5_mix prog_7_method_7_code mi_5_mix 5 := ⟨jw_1066, jw_5, ⟨by decide, by decide⟩, by decide +kernel⟩
theorem v_5_mix_3 (l : Launch) (k3 : Nat → Nat → Int64 → Nat → Int64 → Int32 → jH → Option (Unit × jH)) (hk3 : ∀ a0 a1 a2 a4 a5 a7 H, JV l mi_5_mix jeV 3 [(0, .ref a0), (1, .ref a1), (2, .long a2), (4, .ref a4), (5, .long a5), (7, .int a7)] [] H (k3 a0 a1 a2 a4 a5 a7 H)) (a0 : Nat) (a1 : Nat) (a2 : Int64) (a4 : Nat) (a5 : Int64) (a7 : Int32) (H : jH) : JV l mi_5_mix jeV 3 [(0, .ref a0), (1, .ref a1), (2, .long a2), (4, .ref a4), (5, .long a5), (7, .int a7)] [] H (B_5_mix_3 k3 a0 a1 a2 a4 a5 a7 H) := by
  unfold B_5_mix_3
  refine s_21 7 5 rfl rfl ?_
  refine s_16 10 7 10 jbp_10 rfl ?_
  refine s_162 0 28 35 10 rfl rfl ?_ ?_
  · exact s_177 rfl rfl
  · refine s_42 11 rfl rfl ?_
    refine s_21 7 13 rfl rfl ?_
    refine s_32 14 rfl rfl ?_
    refine s_43 15 rfl rfl ?_
    refine s_21 7 17 rfl rfl ?_
    refine s_47 18 rfl ?_
    refine s_105 19 rfl ?_
    refine s_22 5 21 rfl rfl ?_
    refine s_25 4 23 rfl rfl ?_
    refine s_21 7 25 rfl rfl ?_
    refine s_47 26 rfl ?_
    refine s_105 27 rfl ?_
    refine s_97 28 rfl ?_
    refine s_80 29 rfl (fun h1 => ?_)
    refine s_132L 7 1 32 1 ji_1 rfl rfl rfl (fun x2 => ?_)
    refine s_167 255 227 3 rfl rfl ?_
    exact s_jmp (hk3 _ _ _ _ _ _ _) ⟨rfl, rfl, rfl, rfl, rfl, rfl, trivial⟩
theorem w_5_mix_3 (l : Launch)  (n : Nat) : ∀ a0 a1 a2 a4 a5 a7 H, JV l mi_5_mix jeV 3 [(0, .ref a0), (1, .ref a1), (2, .long a2), (4, .ref a4), (5, .long a5), (7, .int a7)] [] H (F_5_mix_3  n a0 a1 a2 a4 a5 a7 H) := by
  induction n with
  | zero => intro _ _ _ _ _ _ _; exact s_none
  | succ n ih => intro a0 a1 a2 a4 a5 a7 H; exact v_5_mix_3 l (F_5_mix_3  n) ih a0 a1 a2 a4 a5 a7 H
theorem v_5_mix (l : Launch) (a0 : Nat) (a1 : Nat) (a2 : Int64) (a4 : Nat) (a5 : Int64) (H : jH) : JV l mi_5_mix jeV 0 [(0, .ref a0), (1, .ref a1), (2, .long a2), (4, .ref a4), (5, .long a5)] [] H (F_5_mix a0 a1 a2 a4 a5 H) := by
  unfold F_5_mix
  refine s_3 1 rfl ?_
  refine s_54 7 3 rfl rfl ?_
  exact s_jmp (w_5_mix_3 l jfuel _ _ _ _ _ _ _) ⟨rfl, rfl, rfl, rfl, rfl, rfl, trivial⟩
theorem m_5_mix (l : Launch) (a0 : Nat) (a1 : Nat) (a2 : Int64) (a4 : Nat) (a5 : Int64) (H : jH) : JMet l y_5_mix prog_7_method_7_code mi_5_mix jeV [.ref a0, .ref a1, .long a2, .ref a4, .long a5] H (F_5_mix a0 a1 a2 a4 a5 H) := jmet_of n_5_mix (by decide) ⟨rfl, rfl⟩ (Nat.le_of_ble_eq_true rfl) (v_5_mix l a0 a1 a2 a4 a5 H)
def mi_5_multiply : jM := (7820971647314087793280981139893861840006526899438911035972214879586885317974230803771362834998364757091696992234355589387317098322912484416239913680004389468536652466686221906121362350908061167271438228499735404123533596334757363054118992409558250011729729829868942908721424714834739157032448041482837428936477917948220271474014045762049861522606251893783751528023428224696420363681466646174239369888742689556131448906759633935431684393642373423554274954834226203225139993032827055706782591855945951668625694187738963366418019924233451519509085359470310038444571005119666031811168267601054977249281054367423520198245443007828490293469079779464880821966118299149608636761852431161492523175781446401280799327677051616792976361466974671897593407474998347855114550871441271659248340032323527045022891410349353442405311642773513768679267072963685995515191720643203287389964883178111397827651784478829924714446181822640577203672185565517973415142855279715196968450856126162373837245297463666755022812427832495144449914877107456387454000140289175047542674775717449837597031548005803669689436504538810216704412584407697288196819063165076564609068807272696855188759317266967670756203269590331787876130385851124732472448601451158893065214522674371894460552487914791010157995374858615096270170605163694113180058507677369609810264158846615853642022709892768609059941391538236383870063077189895963682352564094280517844407588503598045813115754964461746206648318271347233801767520171022169236296402955663126263984371514818425703931049299350773493589190432558491017974434469608360755596776226448911150768881089718545105989620869133361724898330040616774035363647822104229534001719123978276230471659415440176783538436348444313191768981028613202737494157469397083446568928289309587980113752326391880148078957098061277472255821350445516022943417251288087920920021897298720052569393300362435666138285838061511734418382739383503708294794065567574584903465527440695022796914076074928076075899690386575261692165168609222291693331780896876496243339553463254869424850846384108107651874996590622968266446563926510838881227539115726292778332644992450407615321264841021628641343887563050981796685235320028439313494641344172521428278948996600182116726902906168943932492205840936397049408331089613225105665376409792548168837568237064057437242530852006713262148883637028943365361473794137400121893776355090154710713859173520547311954479878258837607018344909165441882267232516296990571639838353223196461134898610079652604830469523016209662900199744616042576722329975901562353057603911991234495313840623558795331821421709299458884751223075292532077863648639283907750871685644624355501850833587931299799076796861185241693902346133979205793759331317656195545671823399794253104629230260555597450347867658833924875971739461935538803664326560060024286476910026059707378190988979834726575786287145876986459031551813361710027899161833337655485534579575485737711436452838696336938, 1220, 67, "CoinNode$Point", none, "multiply", 0, 0)
def y_5_multiply : MethodName := ⟨"CoinNode$Point", "multiply", "([J[J[J)V"⟩
theorem n_5_multiply : jn_is prog_7_method_10_code mi_5_multiply.1 mi_5_multiply.2.1 := by unfold jn_is; decide +kernel
theorem k_5_multiply : jmok y_5_multiply prog_7_method_10_code mi_5_multiply 3 := ⟨jw_1056, jw_5, ⟨by decide, by decide⟩, by decide +kernel⟩
theorem v_5_multiply_21 (l : Launch)   (H : jH) : JV l mi_5_multiply jeV 21 [] [] H (B_5_multiply_21   H) := by
  unfold B_5_multiply_21
  exact s_177 rfl rfl
theorem v_5_multiply (l : Launch) (a0 : Nat) (a1 : Nat) (a2 : Nat) (H : jH) : JV l mi_5_multiply jeV 0 [(0, .ref a0), (1, .ref a1), (2, .ref a2)] [] H (F_5_multiply a0 a1 a2 H) := by
  unfold F_5_multiply
  refine s_42 1 rfl rfl ?_
  refine s_190 2 103 jm_103 rfl ?_
  refine s_16 10 4 10 jbp_10 rfl ?_
  refine s_161 0 17 21 7 rfl rfl ?_ ?_
  · exact s_jmp (v_5_multiply_21 l _) trivial
  · refine s_43 8 rfl rfl ?_
    refine s_190 9 103 jm_103 rfl ?_
    refine s_16 10 11 10 jbp_10 rfl ?_
    refine s_161 0 10 21 14 rfl rfl ?_ ?_
    · exact s_jmp (v_5_multiply_21 l _) trivial
    · refine s_44 15 rfl rfl ?_
      refine s_190 16 103 jm_103 rfl ?_
      refine s_16 10 18 10 jbp_10 rfl ?_
      refine s_162 0 4 22 21 rfl rfl ?_ ?_
      · refine s_43 23 rfl rfl ?_
        refine s_3 24 rfl ?_
        refine s_47 25 rfl ?_
        refine s_66L 26 rfl rfl (fun x1 => ?_)
        refine s_43 27 rfl rfl ?_
        refine s_4 28 rfl ?_
        refine s_47 29 rfl ?_
        refine s_55L 5 31 rfl rfl (fun x2 => ?_)
        refine s_43 32 rfl rfl ?_
        refine s_5 33 rfl ?_
        refine s_47 34 rfl ?_
        refine s_55L 7 36 rfl rfl (fun x3 => ?_)
        refine s_43 37 rfl rfl ?_
        refine s_6 38 rfl ?_
        refine s_47 39 rfl ?_
        refine s_55L 9 41 rfl rfl (fun x4 => ?_)
        refine s_43 42 rfl rfl ?_
        refine s_7 43 rfl ?_
        refine s_47 44 rfl ?_
        refine s_55L 11 46 rfl rfl (fun x5 => ?_)
        refine s_43 47 rfl rfl ?_
        refine s_8 48 rfl ?_
        refine s_47 49 rfl ?_
        refine s_55L 13 51 rfl rfl (fun x6 => ?_)
        refine s_43 52 rfl rfl ?_
        refine s_16 6 54 6 jbp_6 rfl ?_
        refine s_47 55 rfl ?_
        refine s_55L 15 57 rfl rfl (fun x7 => ?_)
        refine s_43 58 rfl rfl ?_
        refine s_16 7 60 7 jbp_7 rfl ?_
        refine s_47 61 rfl ?_
        refine s_55L 17 63 rfl rfl (fun x8 => ?_)
        refine s_43 64 rfl rfl ?_
        refine s_16 8 66 8 jbp_8 rfl ?_
        refine s_47 67 rfl ?_
        refine s_55L 19 69 rfl rfl (fun x9 => ?_)
        refine s_43 70 rfl rfl ?_
        refine s_16 9 72 9 jbp_9 rfl ?_
        refine s_47 73 rfl ?_
        refine s_55L 21 75 rfl rfl (fun x10 => ?_)
        refine s_44 76 rfl rfl ?_
        refine s_3 77 rfl ?_
        refine s_47 78 rfl ?_
        refine s_55L 23 80 rfl rfl (fun x11 => ?_)
        refine s_44 81 rfl rfl ?_
        refine s_4 82 rfl ?_
        refine s_47 83 rfl ?_
        refine s_55L 25 85 rfl rfl (fun x12 => ?_)
        refine s_44 86 rfl rfl ?_
        refine s_5 87 rfl ?_
        refine s_47 88 rfl ?_
        refine s_55L 27 90 rfl rfl (fun x13 => ?_)
        refine s_44 91 rfl rfl ?_
        refine s_6 92 rfl ?_
        refine s_47 93 rfl ?_
        refine s_55L 29 95 rfl rfl (fun x14 => ?_)
        refine s_44 96 rfl rfl ?_
        refine s_7 97 rfl ?_
        refine s_47 98 rfl ?_
        refine s_55L 31 100 rfl rfl (fun x15 => ?_)
        refine s_44 101 rfl rfl ?_
        refine s_8 102 rfl ?_
        refine s_47 103 rfl ?_
        refine s_55L 33 105 rfl rfl (fun x16 => ?_)
        refine s_44 106 rfl rfl ?_
        refine s_16 6 108 6 jbp_6 rfl ?_
        refine s_47 109 rfl ?_
        refine s_55L 35 111 rfl rfl (fun x17 => ?_)
        refine s_44 112 rfl rfl ?_
        refine s_16 7 114 7 jbp_7 rfl ?_
        refine s_47 115 rfl ?_
        refine s_55L 37 117 rfl rfl (fun x18 => ?_)
        refine s_44 118 rfl rfl ?_
        refine s_16 8 120 8 jbp_8 rfl ?_
        refine s_47 121 rfl ?_
        refine s_55L 39 123 rfl rfl (fun x19 => ?_)
        refine s_44 124 rfl rfl ?_
        refine s_16 9 126 9 jbp_9 rfl ?_
        refine s_47 127 rfl ?_
        refine s_55L 41 129 rfl rfl (fun x20 => ?_)
        refine s_22 5 131 rfl rfl ?_
        refine s_22 41 133 rfl rfl ?_
        refine s_105 134 rfl ?_
        refine s_22 7 136 rfl rfl ?_
        refine s_22 39 138 rfl rfl ?_
        refine s_105 139 rfl ?_
        refine s_97 140 rfl ?_
        refine s_22 9 142 rfl rfl ?_
        refine s_22 37 144 rfl rfl ?_
        refine s_105 145 rfl ?_
        refine s_97 146 rfl ?_
        refine s_22 11 148 rfl rfl ?_
        refine s_22 35 150 rfl rfl ?_
        refine s_105 151 rfl ?_
        refine s_97 152 rfl ?_
        refine s_22 13 154 rfl rfl ?_
        refine s_22 33 156 rfl rfl ?_
        refine s_105 157 rfl ?_
        refine s_97 158 rfl ?_
        refine s_22 15 160 rfl rfl ?_
        refine s_22 31 162 rfl rfl ?_
        refine s_105 163 rfl ?_
        refine s_97 164 rfl ?_
        refine s_22 17 166 rfl rfl ?_
        refine s_22 29 168 rfl rfl ?_
        refine s_105 169 rfl ?_
        refine s_97 170 rfl ?_
        refine s_22 19 172 rfl rfl ?_
        refine s_22 27 174 rfl rfl ?_
        refine s_105 175 rfl ?_
        refine s_97 176 rfl ?_
        refine s_22 21 178 rfl rfl ?_
        refine s_22 25 180 rfl rfl ?_
        refine s_105 181 rfl ?_
        refine s_97 182 rfl ?_
        refine s_55L 43 184 rfl rfl (fun x21 => ?_)
        refine s_22 43 186 rfl rfl ?_
        refine s_20 0 67 189 67 67108863 rfl jw_1057 rfl ?_
        refine s_127 190 rfl ?_
        refine s_55L 45 192 rfl rfl (fun x22 => ?_)
        refine s_22 43 194 rfl rfl ?_
        refine s_16 26 196 26 jbp_26 rfl ?_
        refine s_123 197 rfl ?_
        refine s_22 7 199 rfl rfl ?_
        refine s_22 41 201 rfl rfl ?_
        refine s_105 202 rfl ?_
        refine s_97 203 rfl ?_
        refine s_22 9 205 rfl rfl ?_
        refine s_22 39 207 rfl rfl ?_
        refine s_105 208 rfl ?_
        refine s_97 209 rfl ?_
        refine s_22 11 211 rfl rfl ?_
        refine s_22 37 213 rfl rfl ?_
        refine s_105 214 rfl ?_
        refine s_97 215 rfl ?_
        refine s_22 13 217 rfl rfl ?_
        refine s_22 35 219 rfl rfl ?_
        refine s_105 220 rfl ?_
        refine s_97 221 rfl ?_
        refine s_22 15 223 rfl rfl ?_
        refine s_22 33 225 rfl rfl ?_
        refine s_105 226 rfl ?_
        refine s_97 227 rfl ?_
        refine s_22 17 229 rfl rfl ?_
        refine s_22 31 231 rfl rfl ?_
        refine s_105 232 rfl ?_
        refine s_97 233 rfl ?_
        refine s_22 19 235 rfl rfl ?_
        refine s_22 29 237 rfl rfl ?_
        refine s_105 238 rfl ?_
        refine s_97 239 rfl ?_
        refine s_22 21 241 rfl rfl ?_
        refine s_22 27 243 rfl rfl ?_
        refine s_105 244 rfl ?_
        refine s_97 245 rfl ?_
        refine s_55L 43 247 rfl rfl (fun x23 => ?_)
        refine s_22 43 249 rfl rfl ?_
        refine s_20 0 67 252 67 67108863 rfl jw_1057 rfl ?_
        refine s_127 253 rfl ?_
        refine s_55L 47 255 rfl rfl (fun x24 => ?_)
        refine s_22 43 257 rfl rfl ?_
        refine s_16 26 259 26 jbp_26 rfl ?_
        refine s_123 260 rfl ?_
        refine s_22 9 262 rfl rfl ?_
        refine s_22 41 264 rfl rfl ?_
        refine s_105 265 rfl ?_
        refine s_97 266 rfl ?_
        refine s_22 11 268 rfl rfl ?_
        refine s_22 39 270 rfl rfl ?_
        refine s_105 271 rfl ?_
        refine s_97 272 rfl ?_
        refine s_22 13 274 rfl rfl ?_
        refine s_22 37 276 rfl rfl ?_
        refine s_105 277 rfl ?_
        refine s_97 278 rfl ?_
        refine s_22 15 280 rfl rfl ?_
        refine s_22 35 282 rfl rfl ?_
        refine s_105 283 rfl ?_
        refine s_97 284 rfl ?_
        refine s_22 17 286 rfl rfl ?_
        refine s_22 33 288 rfl rfl ?_
        refine s_105 289 rfl ?_
        refine s_97 290 rfl ?_
        refine s_22 19 292 rfl rfl ?_
        refine s_22 31 294 rfl rfl ?_
        refine s_105 295 rfl ?_
        refine s_97 296 rfl ?_
        refine s_22 21 298 rfl rfl ?_
        refine s_22 29 300 rfl rfl ?_
        refine s_105 301 rfl ?_
        refine s_97 302 rfl ?_
        refine s_55L 43 304 rfl rfl (fun x25 => ?_)
        refine s_22 43 306 rfl rfl ?_
        refine s_20 0 67 309 67 67108863 rfl jw_1057 rfl ?_
        refine s_127 310 rfl ?_
        refine s_55L 49 312 rfl rfl (fun x26 => ?_)
        refine s_22 43 314 rfl rfl ?_
        refine s_16 26 316 26 jbp_26 rfl ?_
        refine s_123 317 rfl ?_
        refine s_22 11 319 rfl rfl ?_
        refine s_22 41 321 rfl rfl ?_
        refine s_105 322 rfl ?_
        refine s_97 323 rfl ?_
        refine s_22 13 325 rfl rfl ?_
        refine s_22 39 327 rfl rfl ?_
        refine s_105 328 rfl ?_
        refine s_97 329 rfl ?_
        refine s_22 15 331 rfl rfl ?_
        refine s_22 37 333 rfl rfl ?_
        refine s_105 334 rfl ?_
        refine s_97 335 rfl ?_
        refine s_22 17 337 rfl rfl ?_
        refine s_22 35 339 rfl rfl ?_
        refine s_105 340 rfl ?_
        refine s_97 341 rfl ?_
        refine s_22 19 343 rfl rfl ?_
        refine s_22 33 345 rfl rfl ?_
        refine s_105 346 rfl ?_
        refine s_97 347 rfl ?_
        refine s_22 21 349 rfl rfl ?_
        refine s_22 31 351 rfl rfl ?_
        refine s_105 352 rfl ?_
        refine s_97 353 rfl ?_
        refine s_55L 43 355 rfl rfl (fun x27 => ?_)
        refine s_22 43 357 rfl rfl ?_
        refine s_20 0 67 360 67 67108863 rfl jw_1057 rfl ?_
        refine s_127 361 rfl ?_
        refine s_55L 51 363 rfl rfl (fun x28 => ?_)
        refine s_22 43 365 rfl rfl ?_
        refine s_16 26 367 26 jbp_26 rfl ?_
        refine s_123 368 rfl ?_
        refine s_22 13 370 rfl rfl ?_
        refine s_22 41 372 rfl rfl ?_
        refine s_105 373 rfl ?_
        refine s_97 374 rfl ?_
        refine s_22 15 376 rfl rfl ?_
        refine s_22 39 378 rfl rfl ?_
        refine s_105 379 rfl ?_
        refine s_97 380 rfl ?_
        refine s_22 17 382 rfl rfl ?_
        refine s_22 37 384 rfl rfl ?_
        refine s_105 385 rfl ?_
        refine s_97 386 rfl ?_
        refine s_22 19 388 rfl rfl ?_
        refine s_22 35 390 rfl rfl ?_
        refine s_105 391 rfl ?_
        refine s_97 392 rfl ?_
        refine s_22 21 394 rfl rfl ?_
        refine s_22 33 396 rfl rfl ?_
        refine s_105 397 rfl ?_
        refine s_97 398 rfl ?_
        refine s_55L 43 400 rfl rfl (fun x29 => ?_)
        refine s_22 43 402 rfl rfl ?_
        refine s_20 0 67 405 67 67108863 rfl jw_1057 rfl ?_
        refine s_127 406 rfl ?_
        refine s_55L 53 408 rfl rfl (fun x30 => ?_)
        refine s_22 43 410 rfl rfl ?_
        refine s_16 26 412 26 jbp_26 rfl ?_
        refine s_123 413 rfl ?_
        refine s_22 15 415 rfl rfl ?_
        refine s_22 41 417 rfl rfl ?_
        refine s_105 418 rfl ?_
        refine s_97 419 rfl ?_
        refine s_22 17 421 rfl rfl ?_
        refine s_22 39 423 rfl rfl ?_
        refine s_105 424 rfl ?_
        refine s_97 425 rfl ?_
        refine s_22 19 427 rfl rfl ?_
        refine s_22 37 429 rfl rfl ?_
        refine s_105 430 rfl ?_
        refine s_97 431 rfl ?_
        refine s_22 21 433 rfl rfl ?_
        refine s_22 35 435 rfl rfl ?_
        refine s_105 436 rfl ?_
        refine s_97 437 rfl ?_
        refine s_55L 43 439 rfl rfl (fun x31 => ?_)
        refine s_22 43 441 rfl rfl ?_
        refine s_20 0 67 444 67 67108863 rfl jw_1057 rfl ?_
        refine s_127 445 rfl ?_
        refine s_55L 55 447 rfl rfl (fun x32 => ?_)
        refine s_22 43 449 rfl rfl ?_
        refine s_16 26 451 26 jbp_26 rfl ?_
        refine s_123 452 rfl ?_
        refine s_22 17 454 rfl rfl ?_
        refine s_22 41 456 rfl rfl ?_
        refine s_105 457 rfl ?_
        refine s_97 458 rfl ?_
        refine s_22 19 460 rfl rfl ?_
        refine s_22 39 462 rfl rfl ?_
        refine s_105 463 rfl ?_
        refine s_97 464 rfl ?_
        refine s_22 21 466 rfl rfl ?_
        refine s_22 37 468 rfl rfl ?_
        refine s_105 469 rfl ?_
        refine s_97 470 rfl ?_
        refine s_55L 43 472 rfl rfl (fun x33 => ?_)
        refine s_22 43 474 rfl rfl ?_
        refine s_20 0 67 477 67 67108863 rfl jw_1057 rfl ?_
        refine s_127 478 rfl ?_
        refine s_55L 57 480 rfl rfl (fun x34 => ?_)
        refine s_22 43 482 rfl rfl ?_
        refine s_16 26 484 26 jbp_26 rfl ?_
        refine s_123 485 rfl ?_
        refine s_22 19 487 rfl rfl ?_
        refine s_22 41 489 rfl rfl ?_
        refine s_105 490 rfl ?_
        refine s_97 491 rfl ?_
        refine s_22 21 493 rfl rfl ?_
        refine s_22 39 495 rfl rfl ?_
        refine s_105 496 rfl ?_
        refine s_97 497 rfl ?_
        refine s_55L 43 499 rfl rfl (fun x35 => ?_)
        refine s_22 43 501 rfl rfl ?_
        refine s_20 0 67 504 67 67108863 rfl jw_1057 rfl ?_
        refine s_127 505 rfl ?_
        refine s_55L 59 507 rfl rfl (fun x36 => ?_)
        refine s_22 43 509 rfl rfl ?_
        refine s_16 26 511 26 jbp_26 rfl ?_
        refine s_123 512 rfl ?_
        refine s_22 21 514 rfl rfl ?_
        refine s_22 41 516 rfl rfl ?_
        refine s_105 517 rfl ?_
        refine s_97 518 rfl ?_
        refine s_55L 43 520 rfl rfl (fun x37 => ?_)
        refine s_22 43 522 rfl rfl ?_
        refine s_20 0 67 525 67 67108863 rfl jw_1057 rfl ?_
        refine s_127 526 rfl ?_
        refine s_55L 61 528 rfl rfl (fun x38 => ?_)
        refine s_22 43 530 rfl rfl ?_
        refine s_16 26 532 26 jbp_26 rfl ?_
        refine s_123 533 rfl ?_
        refine s_55L 63 535 rfl rfl (fun x39 => ?_)
        refine s_33 536 rfl rfl ?_
        refine s_22 23 538 rfl rfl ?_
        refine s_105 539 rfl ?_
        refine s_22 45 541 rfl rfl ?_
        refine s_20 0 69 544 69 15632 rfl jw_1058 rfl ?_
        refine s_105 545 rfl ?_
        refine s_97 546 rfl ?_
        refine s_55L 43 548 rfl rfl (fun x40 => ?_)
        refine s_42 549 rfl rfl ?_
        refine s_3 550 rfl ?_
        refine s_22 43 552 rfl rfl ?_
        refine s_20 0 67 555 67 67108863 rfl jw_1057 rfl ?_
        refine s_127 556 rfl ?_
        refine s_80 557 rfl (fun h41 => ?_)
        refine s_22 43 559 rfl rfl ?_
        refine s_16 26 561 26 jbp_26 rfl ?_
        refine s_123 562 rfl ?_
        refine s_33 563 rfl rfl ?_
        refine s_22 25 565 rfl rfl ?_
        refine s_105 566 rfl ?_
        refine s_97 567 rfl ?_
        refine s_22 5 569 rfl rfl ?_
        refine s_22 23 571 rfl rfl ?_
        refine s_105 572 rfl ?_
        refine s_97 573 rfl ?_
        refine s_22 47 575 rfl rfl ?_
        refine s_20 0 69 578 69 15632 rfl jw_1058 rfl ?_
        refine s_105 579 rfl ?_
        refine s_97 580 rfl ?_
        refine s_22 45 582 rfl rfl ?_
        refine s_20 0 71 585 71 1024 rfl jw_1059 rfl ?_
        refine s_105 586 rfl ?_
        refine s_97 587 rfl ?_
        refine s_55L 43 589 rfl rfl (fun x42 => ?_)
        refine s_42 590 rfl rfl ?_
        refine s_4 591 rfl ?_
        refine s_22 43 593 rfl rfl ?_
        refine s_20 0 67 596 67 67108863 rfl jw_1057 rfl ?_
        refine s_127 597 rfl ?_
        refine s_80 598 rfl (fun h43 => ?_)
        refine s_22 43 600 rfl rfl ?_
        refine s_16 26 602 26 jbp_26 rfl ?_
        refine s_123 603 rfl ?_
        refine s_33 604 rfl rfl ?_
        refine s_22 27 606 rfl rfl ?_
        refine s_105 607 rfl ?_
        refine s_97 608 rfl ?_
        refine s_22 5 610 rfl rfl ?_
        refine s_22 25 612 rfl rfl ?_
        refine s_105 613 rfl ?_
        refine s_97 614 rfl ?_
        refine s_22 7 616 rfl rfl ?_
        refine s_22 23 618 rfl rfl ?_
        refine s_105 619 rfl ?_
        refine s_97 620 rfl ?_
        refine s_22 49 622 rfl rfl ?_
        refine s_20 0 69 625 69 15632 rfl jw_1058 rfl ?_
        refine s_105 626 rfl ?_
        refine s_97 627 rfl ?_
        refine s_22 47 629 rfl rfl ?_
        refine s_20 0 71 632 71 1024 rfl jw_1059 rfl ?_
        refine s_105 633 rfl ?_
        refine s_97 634 rfl ?_
        refine s_55L 43 636 rfl rfl (fun x44 => ?_)
        refine s_42 637 rfl rfl ?_
        refine s_5 638 rfl ?_
        refine s_22 43 640 rfl rfl ?_
        refine s_20 0 67 643 67 67108863 rfl jw_1057 rfl ?_
        refine s_127 644 rfl ?_
        refine s_80 645 rfl (fun h45 => ?_)
        refine s_22 43 647 rfl rfl ?_
        refine s_16 26 649 26 jbp_26 rfl ?_
        refine s_123 650 rfl ?_
        refine s_33 651 rfl rfl ?_
        refine s_22 29 653 rfl rfl ?_
        refine s_105 654 rfl ?_
        refine s_97 655 rfl ?_
        refine s_22 5 657 rfl rfl ?_
        refine s_22 27 659 rfl rfl ?_
        refine s_105 660 rfl ?_
        refine s_97 661 rfl ?_
        refine s_22 7 663 rfl rfl ?_
        refine s_22 25 665 rfl rfl ?_
        refine s_105 666 rfl ?_
        refine s_97 667 rfl ?_
        refine s_22 9 669 rfl rfl ?_
        refine s_22 23 671 rfl rfl ?_
        refine s_105 672 rfl ?_
        refine s_97 673 rfl ?_
        refine s_22 51 675 rfl rfl ?_
        refine s_20 0 69 678 69 15632 rfl jw_1058 rfl ?_
        refine s_105 679 rfl ?_
        refine s_97 680 rfl ?_
        refine s_22 49 682 rfl rfl ?_
        refine s_20 0 71 685 71 1024 rfl jw_1059 rfl ?_
        refine s_105 686 rfl ?_
        refine s_97 687 rfl ?_
        refine s_55L 43 689 rfl rfl (fun x46 => ?_)
        refine s_42 690 rfl rfl ?_
        refine s_6 691 rfl ?_
        refine s_22 43 693 rfl rfl ?_
        refine s_20 0 67 696 67 67108863 rfl jw_1057 rfl ?_
        refine s_127 697 rfl ?_
        refine s_80 698 rfl (fun h47 => ?_)
        refine s_22 43 700 rfl rfl ?_
        refine s_16 26 702 26 jbp_26 rfl ?_
        refine s_123 703 rfl ?_
        refine s_33 704 rfl rfl ?_
        refine s_22 31 706 rfl rfl ?_
        refine s_105 707 rfl ?_
        refine s_97 708 rfl ?_
        refine s_22 5 710 rfl rfl ?_
        refine s_22 29 712 rfl rfl ?_
        refine s_105 713 rfl ?_
        refine s_97 714 rfl ?_
        refine s_22 7 716 rfl rfl ?_
        refine s_22 27 718 rfl rfl ?_
        refine s_105 719 rfl ?_
        refine s_97 720 rfl ?_
        refine s_22 9 722 rfl rfl ?_
        refine s_22 25 724 rfl rfl ?_
        refine s_105 725 rfl ?_
        refine s_97 726 rfl ?_
        refine s_22 11 728 rfl rfl ?_
        refine s_22 23 730 rfl rfl ?_
        refine s_105 731 rfl ?_
        refine s_97 732 rfl ?_
        refine s_22 53 734 rfl rfl ?_
        refine s_20 0 69 737 69 15632 rfl jw_1058 rfl ?_
        refine s_105 738 rfl ?_
        refine s_97 739 rfl ?_
        refine s_22 51 741 rfl rfl ?_
        refine s_20 0 71 744 71 1024 rfl jw_1059 rfl ?_
        refine s_105 745 rfl ?_
        refine s_97 746 rfl ?_
        refine s_55L 43 748 rfl rfl (fun x48 => ?_)
        refine s_42 749 rfl rfl ?_
        refine s_7 750 rfl ?_
        refine s_22 43 752 rfl rfl ?_
        refine s_20 0 67 755 67 67108863 rfl jw_1057 rfl ?_
        refine s_127 756 rfl ?_
        refine s_80 757 rfl (fun h49 => ?_)
        refine s_22 43 759 rfl rfl ?_
        refine s_16 26 761 26 jbp_26 rfl ?_
        refine s_123 762 rfl ?_
        refine s_33 763 rfl rfl ?_
        refine s_22 33 765 rfl rfl ?_
        refine s_105 766 rfl ?_
        refine s_97 767 rfl ?_
        refine s_22 5 769 rfl rfl ?_
        refine s_22 31 771 rfl rfl ?_
        refine s_105 772 rfl ?_
        refine s_97 773 rfl ?_
        refine s_22 7 775 rfl rfl ?_
        refine s_22 29 777 rfl rfl ?_
        refine s_105 778 rfl ?_
        refine s_97 779 rfl ?_
        refine s_22 9 781 rfl rfl ?_
        refine s_22 27 783 rfl rfl ?_
        refine s_105 784 rfl ?_
        refine s_97 785 rfl ?_
        refine s_22 11 787 rfl rfl ?_
        refine s_22 25 789 rfl rfl ?_
        refine s_105 790 rfl ?_
        refine s_97 791 rfl ?_
        refine s_22 13 793 rfl rfl ?_
        refine s_22 23 795 rfl rfl ?_
        refine s_105 796 rfl ?_
        refine s_97 797 rfl ?_
        refine s_22 55 799 rfl rfl ?_
        refine s_20 0 69 802 69 15632 rfl jw_1058 rfl ?_
        refine s_105 803 rfl ?_
        refine s_97 804 rfl ?_
        refine s_22 53 806 rfl rfl ?_
        refine s_20 0 71 809 71 1024 rfl jw_1059 rfl ?_
        refine s_105 810 rfl ?_
        refine s_97 811 rfl ?_
        refine s_55L 43 813 rfl rfl (fun x50 => ?_)
        refine s_42 814 rfl rfl ?_
        refine s_8 815 rfl ?_
        refine s_22 43 817 rfl rfl ?_
        refine s_20 0 67 820 67 67108863 rfl jw_1057 rfl ?_
        refine s_127 821 rfl ?_
        refine s_80 822 rfl (fun h51 => ?_)
        refine s_22 43 824 rfl rfl ?_
        refine s_16 26 826 26 jbp_26 rfl ?_
        refine s_123 827 rfl ?_
        refine s_33 828 rfl rfl ?_
        refine s_22 35 830 rfl rfl ?_
        refine s_105 831 rfl ?_
        refine s_97 832 rfl ?_
        refine s_22 5 834 rfl rfl ?_
        refine s_22 33 836 rfl rfl ?_
        refine s_105 837 rfl ?_
        refine s_97 838 rfl ?_
        refine s_22 7 840 rfl rfl ?_
        refine s_22 31 842 rfl rfl ?_
        refine s_105 843 rfl ?_
        refine s_97 844 rfl ?_
        refine s_22 9 846 rfl rfl ?_
        refine s_22 29 848 rfl rfl ?_
        refine s_105 849 rfl ?_
        refine s_97 850 rfl ?_
        refine s_22 11 852 rfl rfl ?_
        refine s_22 27 854 rfl rfl ?_
        refine s_105 855 rfl ?_
        refine s_97 856 rfl ?_
        refine s_22 13 858 rfl rfl ?_
        refine s_22 25 860 rfl rfl ?_
        refine s_105 861 rfl ?_
        refine s_97 862 rfl ?_
        refine s_22 15 864 rfl rfl ?_
        refine s_22 23 866 rfl rfl ?_
        refine s_105 867 rfl ?_
        refine s_97 868 rfl ?_
        refine s_22 57 870 rfl rfl ?_
        refine s_20 0 69 873 69 15632 rfl jw_1058 rfl ?_
        refine s_105 874 rfl ?_
        refine s_97 875 rfl ?_
        refine s_22 55 877 rfl rfl ?_
        refine s_20 0 71 880 71 1024 rfl jw_1059 rfl ?_
        refine s_105 881 rfl ?_
        refine s_97 882 rfl ?_
        refine s_55L 43 884 rfl rfl (fun x52 => ?_)
        refine s_42 885 rfl rfl ?_
        refine s_16 6 887 6 jbp_6 rfl ?_
        refine s_22 43 889 rfl rfl ?_
        refine s_20 0 67 892 67 67108863 rfl jw_1057 rfl ?_
        refine s_127 893 rfl ?_
        refine s_80 894 rfl (fun h53 => ?_)
        refine s_22 43 896 rfl rfl ?_
        refine s_16 26 898 26 jbp_26 rfl ?_
        refine s_123 899 rfl ?_
        refine s_33 900 rfl rfl ?_
        refine s_22 37 902 rfl rfl ?_
        refine s_105 903 rfl ?_
        refine s_97 904 rfl ?_
        refine s_22 5 906 rfl rfl ?_
        refine s_22 35 908 rfl rfl ?_
        refine s_105 909 rfl ?_
        refine s_97 910 rfl ?_
        refine s_22 7 912 rfl rfl ?_
        refine s_22 33 914 rfl rfl ?_
        refine s_105 915 rfl ?_
        refine s_97 916 rfl ?_
        refine s_22 9 918 rfl rfl ?_
        refine s_22 31 920 rfl rfl ?_
        refine s_105 921 rfl ?_
        refine s_97 922 rfl ?_
        refine s_22 11 924 rfl rfl ?_
        refine s_22 29 926 rfl rfl ?_
        refine s_105 927 rfl ?_
        refine s_97 928 rfl ?_
        refine s_22 13 930 rfl rfl ?_
        refine s_22 27 932 rfl rfl ?_
        refine s_105 933 rfl ?_
        refine s_97 934 rfl ?_
        refine s_22 15 936 rfl rfl ?_
        refine s_22 25 938 rfl rfl ?_
        refine s_105 939 rfl ?_
        refine s_97 940 rfl ?_
        refine s_22 17 942 rfl rfl ?_
        refine s_22 23 944 rfl rfl ?_
        refine s_105 945 rfl ?_
        refine s_97 946 rfl ?_
        refine s_22 59 948 rfl rfl ?_
        refine s_20 0 69 951 69 15632 rfl jw_1058 rfl ?_
        refine s_105 952 rfl ?_
        refine s_97 953 rfl ?_
        refine s_22 57 955 rfl rfl ?_
        refine s_20 0 71 958 71 1024 rfl jw_1059 rfl ?_
        refine s_105 959 rfl ?_
        refine s_97 960 rfl ?_
        refine s_55L 43 962 rfl rfl (fun x54 => ?_)
        refine s_42 963 rfl rfl ?_
        refine s_16 7 965 7 jbp_7 rfl ?_
        refine s_22 43 967 rfl rfl ?_
        refine s_20 0 67 970 67 67108863 rfl jw_1057 rfl ?_
        refine s_127 971 rfl ?_
        refine s_80 972 rfl (fun h55 => ?_)
        refine s_22 43 974 rfl rfl ?_
        refine s_16 26 976 26 jbp_26 rfl ?_
        refine s_123 977 rfl ?_
        refine s_33 978 rfl rfl ?_
        refine s_22 39 980 rfl rfl ?_
        refine s_105 981 rfl ?_
        refine s_97 982 rfl ?_
        refine s_22 5 984 rfl rfl ?_
        refine s_22 37 986 rfl rfl ?_
        refine s_105 987 rfl ?_
        refine s_97 988 rfl ?_
        refine s_22 7 990 rfl rfl ?_
        refine s_22 35 992 rfl rfl ?_
        refine s_105 993 rfl ?_
        refine s_97 994 rfl ?_
        refine s_22 9 996 rfl rfl ?_
        refine s_22 33 998 rfl rfl ?_
        refine s_105 999 rfl ?_
        refine s_97 1000 rfl ?_
        refine s_22 11 1002 rfl rfl ?_
        refine s_22 31 1004 rfl rfl ?_
        refine s_105 1005 rfl ?_
        refine s_97 1006 rfl ?_
        refine s_22 13 1008 rfl rfl ?_
        refine s_22 29 1010 rfl rfl ?_
        refine s_105 1011 rfl ?_
        refine s_97 1012 rfl ?_
        refine s_22 15 1014 rfl rfl ?_
        refine s_22 27 1016 rfl rfl ?_
        refine s_105 1017 rfl ?_
        refine s_97 1018 rfl ?_
        refine s_22 17 1020 rfl rfl ?_
        refine s_22 25 1022 rfl rfl ?_
        refine s_105 1023 rfl ?_
        refine s_97 1024 rfl ?_
        refine s_22 19 1026 rfl rfl ?_
        refine s_22 23 1028 rfl rfl ?_
        refine s_105 1029 rfl ?_
        refine s_97 1030 rfl ?_
        refine s_22 61 1032 rfl rfl ?_
        refine s_20 0 69 1035 69 15632 rfl jw_1058 rfl ?_
        refine s_105 1036 rfl ?_
        refine s_97 1037 rfl ?_
        refine s_22 59 1039 rfl rfl ?_
        refine s_20 0 71 1042 71 1024 rfl jw_1059 rfl ?_
        refine s_105 1043 rfl ?_
        refine s_97 1044 rfl ?_
        refine s_55L 43 1046 rfl rfl (fun x56 => ?_)
        refine s_42 1047 rfl rfl ?_
        refine s_16 8 1049 8 jbp_8 rfl ?_
        refine s_22 43 1051 rfl rfl ?_
        refine s_20 0 67 1054 67 67108863 rfl jw_1057 rfl ?_
        refine s_127 1055 rfl ?_
        refine s_80 1056 rfl (fun h57 => ?_)
        refine s_22 43 1058 rfl rfl ?_
        refine s_16 26 1060 26 jbp_26 rfl ?_
        refine s_123 1061 rfl ?_
        refine s_33 1062 rfl rfl ?_
        refine s_22 41 1064 rfl rfl ?_
        refine s_105 1065 rfl ?_
        refine s_97 1066 rfl ?_
        refine s_22 5 1068 rfl rfl ?_
        refine s_22 39 1070 rfl rfl ?_
        refine s_105 1071 rfl ?_
        refine s_97 1072 rfl ?_
        refine s_22 7 1074 rfl rfl ?_
        refine s_22 37 1076 rfl rfl ?_
        refine s_105 1077 rfl ?_
        refine s_97 1078 rfl ?_
        refine s_22 9 1080 rfl rfl ?_
        refine s_22 35 1082 rfl rfl ?_
        refine s_105 1083 rfl ?_
        refine s_97 1084 rfl ?_
        refine s_22 11 1086 rfl rfl ?_
        refine s_22 33 1088 rfl rfl ?_
        refine s_105 1089 rfl ?_
        refine s_97 1090 rfl ?_
        refine s_22 13 1092 rfl rfl ?_
        refine s_22 31 1094 rfl rfl ?_
        refine s_105 1095 rfl ?_
        refine s_97 1096 rfl ?_
        refine s_22 15 1098 rfl rfl ?_
        refine s_22 29 1100 rfl rfl ?_
        refine s_105 1101 rfl ?_
        refine s_97 1102 rfl ?_
        refine s_22 17 1104 rfl rfl ?_
        refine s_22 27 1106 rfl rfl ?_
        refine s_105 1107 rfl ?_
        refine s_97 1108 rfl ?_
        refine s_22 19 1110 rfl rfl ?_
        refine s_22 25 1112 rfl rfl ?_
        refine s_105 1113 rfl ?_
        refine s_97 1114 rfl ?_
        refine s_22 21 1116 rfl rfl ?_
        refine s_22 23 1118 rfl rfl ?_
        refine s_105 1119 rfl ?_
        refine s_97 1120 rfl ?_
        refine s_22 63 1122 rfl rfl ?_
        refine s_20 0 69 1125 69 15632 rfl jw_1058 rfl ?_
        refine s_105 1126 rfl ?_
        refine s_97 1127 rfl ?_
        refine s_22 61 1129 rfl rfl ?_
        refine s_20 0 71 1132 71 1024 rfl jw_1059 rfl ?_
        refine s_105 1133 rfl ?_
        refine s_97 1134 rfl ?_
        refine s_55L 43 1136 rfl rfl (fun x58 => ?_)
        refine s_42 1137 rfl rfl ?_
        refine s_16 9 1139 9 jbp_9 rfl ?_
        refine s_22 43 1141 rfl rfl ?_
        refine s_20 0 67 1144 67 67108863 rfl jw_1057 rfl ?_
        refine s_127 1145 rfl ?_
        refine s_80 1146 rfl (fun h59 => ?_)
        refine s_22 43 1148 rfl rfl ?_
        refine s_16 26 1150 26 jbp_26 rfl ?_
        refine s_123 1151 rfl ?_
        refine s_22 63 1153 rfl rfl ?_
        refine s_20 0 71 1156 71 1024 rfl jw_1059 rfl ?_
        refine s_105 1157 rfl ?_
        refine s_97 1158 rfl ?_
        refine s_55L 43 1160 rfl rfl (fun x60 => ?_)
        refine s_42 1161 rfl rfl ?_
        refine s_3 1162 rfl ?_
        refine s_47 1163 rfl ?_
        refine s_22 43 1165 rfl rfl ?_
        refine s_20 0 69 1168 69 15632 rfl jw_1058 rfl ?_
        refine s_105 1169 rfl ?_
        refine s_97 1170 rfl ?_
        refine s_55L 65 1172 rfl rfl (fun x61 => ?_)
        refine s_42 1173 rfl rfl ?_
        refine s_3 1174 rfl ?_
        refine s_22 65 1176 rfl rfl ?_
        refine s_20 0 67 1179 67 67108863 rfl jw_1057 rfl ?_
        refine s_127 1180 rfl ?_
        refine s_80 1181 rfl (fun h62 => ?_)
        refine s_22 65 1183 rfl rfl ?_
        refine s_16 26 1185 26 jbp_26 rfl ?_
        refine s_123 1186 rfl ?_
        refine s_42 1187 rfl rfl ?_
        refine s_4 1188 rfl ?_
        refine s_47 1189 rfl ?_
        refine s_97 1190 rfl ?_
        refine s_22 43 1192 rfl rfl ?_
        refine s_20 0 71 1195 71 1024 rfl jw_1059 rfl ?_
        refine s_105 1196 rfl ?_
        refine s_97 1197 rfl ?_
        refine s_55L 65 1199 rfl rfl (fun x63 => ?_)
        refine s_42 1200 rfl rfl ?_
        refine s_4 1201 rfl ?_
        refine s_22 65 1203 rfl rfl ?_
        refine s_20 0 67 1206 67 67108863 rfl jw_1057 rfl ?_
        refine s_127 1207 rfl ?_
        refine s_80 1208 rfl (fun h64 => ?_)
        refine s_42 1209 rfl rfl ?_
        refine s_5 1210 rfl ?_
        refine s_92 1211 rfl rfl rfl ?_
        refine s_47 1212 rfl ?_
        refine s_22 65 1214 rfl rfl ?_
        refine s_16 26 1216 26 jbp_26 rfl ?_
        refine s_123 1217 rfl ?_
        refine s_97 1218 rfl ?_
        refine s_80 1219 rfl (fun h65 => ?_)
        exact s_177 rfl rfl
      · exact s_jmp (v_5_multiply_21 l _) trivial
theorem m_5_multiply (l : Launch) (a0 : Nat) (a1 : Nat) (a2 : Nat) (H : jH) : JMet l y_5_multiply prog_7_method_10_code mi_5_multiply jeV [.ref a0, .ref a1, .ref a2] H (F_5_multiply a0 a1 a2 H) := jmet_of n_5_multiply (by decide) ⟨rfl, rfl⟩ (Nat.le_of_ble_eq_true rfl) (v_5_multiply l a0 a1 a2 H)
def mi_5_normalize : jM := (93262962204679409925898111729442264258469748759218603913947562877478836156572655983861173814161467278743243712493043798709392362863299616426973813788740746890223708971358485061733838242444472524761842601093359478183217942187895636175043383873641412591172211546601258651197906215220813191168582695649577358479566435724172111335492258876568513001583898784049159163391047925044058114420693564312872568292986819378382959269863905223308942570038523569148864339628717948576127676046072507019512855153272394027551146283488162512060683794793635279098749974403707040898886270693847477027522043328254352511455992329699103729605850905603, 260, 6, "CoinNode$Point", some FieldType.boolean, "normalize", 0, 0)
def y_5_normalize : MethodName := ⟨"CoinNode$Point", "normalize", "([J)Z"⟩
theorem n_5_normalize : jn_is prog_7_method_9_code mi_5_normalize.1 mi_5_normalize.2.1 := by unfold jn_is; decide +kernel
theorem k_5_normalize : jmok y_5_normalize prog_7_method_9_code mi_5_normalize 1 := ⟨jw_1074, jw_5, ⟨by decide, by decide⟩, by decide +kernel⟩
theorem v_5_normalize_50 (l : Launch) (k2 : Nat → Int32 → jH → Option (Int32 × jH)) (hk2 : ∀ a0 a1 H, JV l mi_5_normalize jeI 2 [(0, .ref a0), (1, .int a1)] [] H (k2 a0 a1 H)) (k50 : Nat → Int32 → Int32 → jH → Option (Int32 × jH)) (hk50 : ∀ a0 a1 a4 H, JV l mi_5_normalize jeI 50 [(0, .ref a0), (1, .int a1), (4, .int a4)] [] H (k50 a0 a1 a4 H)) (a0 : Nat) (a1 : Int32) (a4 : Int32) (H : jH) : JV l mi_5_normalize jeI 50 [(0, .ref a0), (1, .int a1), (4, .int a4)] [] H (B_5_normalize_50 k2 k50 a0 a1 a4 H) := by
  unfold B_5_normalize_50
  refine s_21 4 52 rfl rfl ?_
  refine s_16 9 54 9 jbp_9 rfl ?_
  refine s_162 0 35 89 57 rfl rfl ?_ ?_
  · refine s_132L 1 1 92 1 ji_1 rfl rfl rfl (fun x1 => ?_)
    refine s_167 255 166 2 rfl rfl ?_
    exact s_jmp (hk2 _ _ _) ⟨rfl, rfl, trivial⟩
  · refine s_42 58 rfl rfl ?_
    refine s_21 4 60 rfl rfl ?_
    refine s_4 61 rfl ?_
    refine s_96 62 rfl ?_
    refine s_92 63 rfl rfl rfl ?_
    refine s_47 64 rfl ?_
    refine s_42 65 rfl rfl ?_
    refine s_21 4 67 rfl rfl ?_
    refine s_47 68 rfl ?_
    refine s_16 26 70 26 jbp_26 rfl ?_
    refine s_123 71 rfl ?_
    refine s_97 72 rfl ?_
    refine s_80 73 rfl (fun h2 => ?_)
    refine s_42 74 rfl rfl ?_
    refine s_21 4 76 rfl rfl ?_
    refine s_92 77 rfl rfl rfl ?_
    refine s_47 78 rfl ?_
    refine s_20 0 67 81 67 67108863 rfl jw_1057 rfl ?_
    refine s_127 82 rfl ?_
    refine s_80 83 rfl (fun h3 => ?_)
    refine s_132L 4 1 86 1 ji_1 rfl rfl rfl (fun x4 => ?_)
    refine s_167 255 220 50 rfl rfl ?_
    exact s_jmp (hk50 _ _ _ _) ⟨rfl, rfl, rfl, trivial⟩
theorem w_5_normalize_50 (l : Launch) (k2 : Nat → Int32 → jH → Option (Int32 × jH)) (hk2 : ∀ a0 a1 H, JV l mi_5_normalize jeI 2 [(0, .ref a0), (1, .int a1)] [] H (k2 a0 a1 H)) (n : Nat) : ∀ a0 a1 a4 H, JV l mi_5_normalize jeI 50 [(0, .ref a0), (1, .int a1), (4, .int a4)] [] H (F_5_normalize_50 k2 n a0 a1 a4 H) := by
  induction n with
  | zero => intro _ _ _ _; exact s_none
  | succ n ih => intro a0 a1 a4 H; exact v_5_normalize_50 l k2 hk2 (F_5_normalize_50 k2 n) ih a0 a1 a4 H
theorem v_5_normalize_259 (l : Launch)  (s0 : Int32) (H : jH) : JV l mi_5_normalize jeI 259 [] [.int s0] H (B_5_normalize_259  s0 H) := by
  unfold B_5_normalize_259
  exact s_172Z rfl rfl
theorem v_5_normalize_228 (l : Launch) (k228 : Nat → Int64 → Int32 → jH → Option (Int32 × jH)) (hk228 : ∀ a0 a3 a5 H, JV l mi_5_normalize jeI 228 [(0, .ref a0), (3, .long a3), (5, .int a5)] [] H (k228 a0 a3 a5 H)) (a0 : Nat) (a3 : Int64) (a5 : Int32) (H : jH) : JV l mi_5_normalize jeI 228 [(0, .ref a0), (3, .long a3), (5, .int a5)] [] H (B_5_normalize_228 k228 a0 a3 a5 H) := by
  unfold B_5_normalize_228
  refine s_21 5 230 rfl rfl ?_
  refine s_16 9 232 9 jbp_9 rfl ?_
  refine s_162 0 16 248 235 rfl rfl ?_ ?_
  · refine s_33 249 rfl rfl ?_
    refine s_9 250 rfl ?_
    refine s_148_154 0 7 258 251 254 rfl rfl rfl ?_ ?_
    · refine s_3 259 rfl ?_
      exact s_jmp (v_5_normalize_259 l _ _) trivial
    · refine s_4 255 rfl ?_
      refine s_167 0 4 259 rfl rfl ?_
      exact s_jmp (v_5_normalize_259 l _ _) trivial
  · refine s_33 236 rfl rfl ?_
    refine s_42 237 rfl rfl ?_
    refine s_21 5 239 rfl rfl ?_
    refine s_47 240 rfl ?_
    refine s_129 241 rfl ?_
    refine s_jmp (ls' := [(0, .ref a0), (3, .long a3), (5, .int a5)]) ?_ ⟨rfl, rfl, rfl, trivial⟩
    refine s_66L 242 rfl rfl (fun x5 => ?_)
    refine s_132L 5 1 245 1 ji_1 rfl rfl rfl (fun x6 => ?_)
    refine s_167 255 239 228 rfl rfl ?_
    exact s_jmp (hk228 _ _ _ _) ⟨rfl, rfl, rfl, trivial⟩
theorem w_5_normalize_228 (l : Launch)  (n : Nat) : ∀ a0 a3 a5 H, JV l mi_5_normalize jeI 228 [(0, .ref a0), (3, .long a3), (5, .int a5)] [] H (F_5_normalize_228  n a0 a3 a5 H) := by
  induction n with
  | zero => intro _ _ _ _; exact s_none
  | succ n ih => intro a0 a3 a5 H; exact v_5_normalize_228 l (F_5_normalize_228  n) ih a0 a3 a5 H
theorem v_5_normalize_220 (l : Launch)  (a0 : Nat) (H : jH) : JV l mi_5_normalize jeI 220 [(0, .ref a0)] [] H (B_5_normalize_220  a0 H) := by
  unfold B_5_normalize_220
  refine s_42 221 rfl rfl ?_
  refine s_16 9 223 9 jbp_9 rfl ?_
  refine s_47 224 rfl ?_
  refine s_jmp (ls' := [(0, .ref a0)]) ?_ ⟨rfl, trivial⟩
  refine s_66L 225 rfl rfl (fun x7 => ?_)
  refine s_3 226 rfl ?_
  refine s_54 5 228 rfl rfl ?_
  exact s_jmp (w_5_normalize_228 l jfuel _ _ _ _) ⟨rfl, rfl, rfl, trivial⟩
theorem v_5_normalize_175 (l : Launch) (k175 : Nat → Int32 → jH → Option (Int32 × jH)) (hk175 : ∀ a0 a3 H, JV l mi_5_normalize jeI 175 [(0, .ref a0), (3, .int a3)] [] H (k175 a0 a3 H)) (a0 : Nat) (a3 : Int32) (H : jH) : JV l mi_5_normalize jeI 175 [(0, .ref a0), (3, .int a3)] [] H (B_5_normalize_175 k175 a0 a3 H) := by
  unfold B_5_normalize_175
  refine s_29 176 rfl rfl ?_
  refine s_16 9 178 9 jbp_9 rfl ?_
  refine s_162 0 32 210 181 rfl rfl ?_ ?_
  · refine s_42 211 rfl rfl ?_
    refine s_16 9 213 9 jbp_9 rfl ?_
    refine s_92 214 rfl rfl rfl ?_
    refine s_47 215 rfl ?_
    refine s_20 0 73 218 73 4194303 rfl jw_1075 rfl ?_
    refine s_127 219 rfl ?_
    refine s_80 220 rfl (fun h8 => ?_)
    exact s_jmp (v_5_normalize_220 l _ _) ⟨rfl, trivial⟩
  · refine s_42 182 rfl rfl ?_
    refine s_29 183 rfl rfl ?_
    refine s_4 184 rfl ?_
    refine s_96 185 rfl ?_
    refine s_92 186 rfl rfl rfl ?_
    refine s_47 187 rfl ?_
    refine s_42 188 rfl rfl ?_
    refine s_29 189 rfl rfl ?_
    refine s_47 190 rfl ?_
    refine s_16 26 192 26 jbp_26 rfl ?_
    refine s_123 193 rfl ?_
    refine s_97 194 rfl ?_
    refine s_80 195 rfl (fun h9 => ?_)
    refine s_42 196 rfl rfl ?_
    refine s_29 197 rfl rfl ?_
    refine s_92 198 rfl rfl rfl ?_
    refine s_47 199 rfl ?_
    refine s_20 0 67 202 67 67108863 rfl jw_1057 rfl ?_
    refine s_127 203 rfl ?_
    refine s_80 204 rfl (fun h10 => ?_)
    refine s_132L 3 1 207 1 ji_1 rfl rfl rfl (fun x11 => ?_)
    refine s_167 255 224 175 rfl rfl ?_
    exact s_jmp (hk175 _ _ _) ⟨rfl, rfl, trivial⟩
theorem w_5_normalize_175 (l : Launch)  (n : Nat) : ∀ a0 a3 H, JV l mi_5_normalize jeI 175 [(0, .ref a0), (3, .int a3)] [] H (F_5_normalize_175  n a0 a3 H) := by
  induction n with
  | zero => intro _ _ _; exact s_none
  | succ n ih => intro a0 a3 H; exact v_5_normalize_175 l (F_5_normalize_175  n) ih a0 a3 H
theorem v_5_normalize_121 (l : Launch) (k121 : Nat → Int64 → Int32 → jH → Option (Int32 × jH)) (hk121 : ∀ a0 a1 a3 H, JV l mi_5_normalize jeI 121 [(0, .ref a0), (1, .long a1), (3, .int a3)] [] H (k121 a0 a1 a3 H)) (a0 : Nat) (a1 : Int64) (a3 : Int32) (H : jH) : JV l mi_5_normalize jeI 121 [(0, .ref a0), (1, .long a1), (3, .int a3)] [] H (B_5_normalize_121 k121 a0 a1 a3 H) := by
  unfold B_5_normalize_121
  refine s_29 122 rfl rfl ?_
  refine s_16 9 124 9 jbp_9 rfl ?_
  refine s_162 0 18 142 127 rfl rfl ?_ ?_
  · refine s_42 143 rfl rfl ?_
    refine s_16 9 145 9 jbp_9 rfl ?_
    refine s_47 146 rfl ?_
    refine s_31 147 rfl rfl ?_
    refine s_97 148 rfl ?_
    refine s_20 0 73 151 73 4194303 rfl jw_1075 rfl ?_
    refine s_148_158 0 68 220 152 155 rfl rfl rfl ?_ ?_
    · exact s_jmp (v_5_normalize_220 l _ _) ⟨rfl, trivial⟩
    · refine s_42 156 rfl rfl ?_
      refine s_3 157 rfl ?_
      refine s_92 158 rfl rfl rfl ?_
      refine s_47 159 rfl ?_
      refine s_20 0 75 162 75 977 rfl jw_1076 rfl ?_
      refine s_97 163 rfl ?_
      refine s_80 164 rfl (fun h12 => ?_)
      refine s_42 165 rfl rfl ?_
      refine s_4 166 rfl ?_
      refine s_92 167 rfl rfl rfl ?_
      refine s_47 168 rfl ?_
      refine s_20 0 77 171 77 64 rfl jw_1077 rfl ?_
      refine s_97 172 rfl ?_
      refine s_80 173 rfl (fun h13 => ?_)
      refine s_3 174 rfl ?_
      refine s_jmp (ls' := [(0, .ref a0), (1, .long a1), (3, .int a3)]) ?_ ⟨rfl, rfl, rfl, trivial⟩
      refine s_62 175 rfl rfl ?_
      exact s_jmp (w_5_normalize_175 l jfuel _ _ _) ⟨rfl, rfl, trivial⟩
  · refine s_42 128 rfl rfl ?_
    refine s_29 129 rfl rfl ?_
    refine s_47 130 rfl ?_
    refine s_31 131 rfl rfl ?_
    refine s_97 132 rfl ?_
    refine s_16 26 134 26 jbp_26 rfl ?_
    refine s_123 135 rfl ?_
    refine s_jmp (ls' := [(0, .ref a0), (1, .long a1), (3, .int a3)]) ?_ ⟨rfl, rfl, rfl, trivial⟩
    refine s_64L 136 rfl rfl (fun x14 => ?_)
    refine s_132L 3 1 139 1 ji_1 rfl rfl rfl (fun x15 => ?_)
    refine s_167 255 238 121 rfl rfl ?_
    exact s_jmp (hk121 _ _ _ _) ⟨rfl, rfl, rfl, trivial⟩
theorem w_5_normalize_121 (l : Launch)  (n : Nat) : ∀ a0 a1 a3 H, JV l mi_5_normalize jeI 121 [(0, .ref a0), (1, .long a1), (3, .int a3)] [] H (F_5_normalize_121  n a0 a1 a3 H) := by
  induction n with
  | zero => intro _ _ _ _; exact s_none
  | succ n ih => intro a0 a1 a3 H; exact v_5_normalize_121 l (F_5_normalize_121  n) ih a0 a1 a3 H
theorem v_5_normalize_2 (l : Launch) (k2 : Nat → Int32 → jH → Option (Int32 × jH)) (hk2 : ∀ a0 a1 H, JV l mi_5_normalize jeI 2 [(0, .ref a0), (1, .int a1)] [] H (k2 a0 a1 H)) (a0 : Nat) (a1 : Int32) (H : jH) : JV l mi_5_normalize jeI 2 [(0, .ref a0), (1, .int a1)] [] H (B_5_normalize_2 k2 a0 a1 H) := by
  unfold B_5_normalize_2
  refine s_27 3 rfl rfl ?_
  refine s_7 4 rfl ?_
  refine s_162 0 91 95 7 rfl rfl ?_ ?_
  · refine s_42 96 rfl rfl ?_
    refine s_3 97 rfl ?_
    refine s_47 98 rfl ?_
    refine s_20 0 75 101 75 977 rfl jw_1076 rfl ?_
    refine s_97 102 rfl ?_
    refine s_16 26 104 26 jbp_26 rfl ?_
    refine s_123 105 rfl ?_
    refine s_jmp (ls' := [(0, .ref a0), (1, .int a1)]) ?_ ⟨rfl, rfl, trivial⟩
    refine s_64L 106 rfl rfl (fun x16 => ?_)
    refine s_42 107 rfl rfl ?_
    refine s_4 108 rfl ?_
    refine s_47 109 rfl ?_
    refine s_20 0 77 112 77 64 rfl jw_1077 rfl ?_
    refine s_97 113 rfl ?_
    refine s_31 114 rfl rfl ?_
    refine s_97 115 rfl ?_
    refine s_16 26 117 26 jbp_26 rfl ?_
    refine s_123 118 rfl ?_
    refine s_jmp (ls' := [(0, .ref a0), (1, .long x16)]) ?_ ⟨rfl, rfl, trivial⟩
    refine s_64L 119 rfl rfl (fun x17 => ?_)
    refine s_5 120 rfl ?_
    refine s_jmp (ls' := [(0, .ref a0), (1, .long x17)]) ?_ ⟨rfl, rfl, trivial⟩
    refine s_62 121 rfl rfl ?_
    exact s_jmp (w_5_normalize_121 l jfuel _ _ _ _) ⟨rfl, rfl, rfl, trivial⟩
  · refine s_42 8 rfl rfl ?_
    refine s_16 9 10 9 jbp_9 rfl ?_
    refine s_47 11 rfl ?_
    refine s_16 22 13 22 jbp_22 rfl ?_
    refine s_123 14 rfl ?_
    refine s_jmp (ls' := [(0, .ref a0), (1, .int a1)]) ?_ ⟨rfl, rfl, trivial⟩
    refine s_65L 15 rfl rfl (fun x18 => ?_)
    refine s_42 16 rfl rfl ?_
    refine s_16 9 18 9 jbp_9 rfl ?_
    refine s_92 19 rfl rfl rfl ?_
    refine s_47 20 rfl ?_
    refine s_20 0 73 23 73 4194303 rfl jw_1075 rfl ?_
    refine s_127 24 rfl ?_
    refine s_80 25 rfl (fun h19 => ?_)
    refine s_42 26 rfl rfl ?_
    refine s_3 27 rfl ?_
    refine s_92 28 rfl rfl rfl ?_
    refine s_47 29 rfl ?_
    refine s_32 30 rfl rfl ?_
    refine s_20 0 75 33 75 977 rfl jw_1076 rfl ?_
    refine s_105 34 rfl ?_
    refine s_97 35 rfl ?_
    refine s_80 36 rfl (fun h20 => ?_)
    refine s_42 37 rfl rfl ?_
    refine s_4 38 rfl ?_
    refine s_92 39 rfl rfl rfl ?_
    refine s_47 40 rfl ?_
    refine s_32 41 rfl rfl ?_
    refine s_20 0 77 44 77 64 rfl jw_1077 rfl ?_
    refine s_105 45 rfl ?_
    refine s_97 46 rfl ?_
    refine s_80 47 rfl (fun h21 => ?_)
    refine s_3 48 rfl ?_
    refine s_jmp (ls' := [(0, .ref a0), (1, .int a1), (2, .long x18)]) ?_ ⟨rfl, rfl, rfl, trivial⟩
    refine s_54 4 50 rfl rfl ?_
    exact s_jmp (w_5_normalize_50 l k2 hk2 jfuel _ _ _ _) ⟨rfl, rfl, rfl, trivial⟩
theorem w_5_normalize_2 (l : Launch)  (n : Nat) : ∀ a0 a1 H, JV l mi_5_normalize jeI 2 [(0, .ref a0), (1, .int a1)] [] H (F_5_normalize_2  n a0 a1 H) := by
  induction n with
  | zero => intro _ _ _; exact s_none
  | succ n ih => intro a0 a1 H; exact v_5_normalize_2 l (F_5_normalize_2  n) ih a0 a1 H
theorem v_5_normalize (l : Launch) (a0 : Nat) (H : jH) : JV l mi_5_normalize jeI 0 [(0, .ref a0)] [] H (F_5_normalize a0 H) := by
  unfold F_5_normalize
  refine s_3 1 rfl ?_
  refine s_60 2 rfl rfl ?_
  exact s_jmp (w_5_normalize_2 l jfuel _ _ _) ⟨rfl, rfl, trivial⟩
theorem m_5_normalize (l : Launch) (a0 : Nat) (H : jH) : JMet l y_5_normalize prog_7_method_9_code mi_5_normalize jeI [.ref a0] H (F_5_normalize a0 H) := jmet_of n_5_normalize (by decide) ⟨rfl, rfl⟩ (Nat.le_of_ble_eq_true rfl) (v_5_normalize l a0 H)
def mi_5_set : jM := (43795840283377499328389300769732231655029499509279484710625962223423578879748523411951161608246485869599640188366692897859405715503907879940129147843341591812508336669679500803, 73, 4, "CoinNode$Point", none, "set", 0, 0)
def y_5_set : MethodName := ⟨"CoinNode$Point", "set", "(LCoinNode$Point;Z)V"⟩
theorem n_5_set : jn_is prog_7_method_3_code mi_5_set.1 mi_5_set.2.1 := by unfold jn_is; decide +kernel
theorem k_5_set : jmok y_5_set prog_7_method_3_code mi_5_set 2 := ⟨jw_1088, jw_5, ⟨by decide, by decide⟩, by decide +kernel⟩
theorem v_5_set_45 (l : Launch) (k2 : Nat → Nat → Int32 → Int32 → jH → Option (Unit × jH)) (hk2 : ∀ a0 a1 a2 a3 H, JV l mi_5_set jeV 2 [(0, .ref a0), (1, .ref a1), (2, .int a2), (3, .int a3)] [] H (k2 a0 a1 a2 a3 H)) (a0 : Nat) (a1 : Nat) (a2 : Int32) (a3 : Int32) (s0 : Nat) (s1 : Int32) (s2 : Int64) (H : jH) : JV l mi_5_set jeV 45 [(0, .ref a0), (1, .ref a1), (2, .int a2), (3, .int a3)] [.long s2, .int s1, .ref s0] H (B_5_set_45 k2 a0 a1 a2 a3 s0 s1 s2 H) := by
  unfold B_5_set_45
  refine s_80 46 rfl (fun h1 => ?_)
  refine s_42 47 rfl rfl ?_
  refine s_180R 0 16 50 16 f_5_2 jw_83 rfl rfl ?_
  refine s_29 51 rfl rfl ?_
  refine s_43 52 rfl rfl ?_
  refine s_180R 0 16 55 16 f_5_2 jw_83 rfl rfl ?_
  refine s_29 56 rfl rfl ?_
  refine s_47 57 rfl ?_
  refine s_80 58 rfl (fun h2 => ?_)
  refine s_132L 3 1 61 1 ji_1 rfl rfl rfl (fun x3 => ?_)
  refine s_167 255 197 2 rfl rfl ?_
  exact s_jmp (hk2 _ _ _ _ _) ⟨rfl, rfl, rfl, rfl, trivial⟩
theorem v_5_set_2 (l : Launch) (k2 : Nat → Nat → Int32 → Int32 → jH → Option (Unit × jH)) (hk2 : ∀ a0 a1 a2 a3 H, JV l mi_5_set jeV 2 [(0, .ref a0), (1, .ref a1), (2, .int a2), (3, .int a3)] [] H (k2 a0 a1 a2 a3 H)) (a0 : Nat) (a1 : Nat) (a2 : Int32) (a3 : Int32) (H : jH) : JV l mi_5_set jeV 2 [(0, .ref a0), (1, .ref a1), (2, .int a2), (3, .int a3)] [] H (B_5_set_2 k2 a0 a1 a2 a3 H) := by
  unfold B_5_set_2
  refine s_29 3 rfl rfl ?_
  refine s_16 10 5 10 jbp_10 rfl ?_
  refine s_162 0 59 64 8 rfl rfl ?_ ?_
  · refine s_42 65 rfl rfl ?_
    refine s_43 66 rfl rfl ?_
    refine s_180I 0 19 69 19 f_5_3 jw_85 rfl rfl ?_
    refine s_181Z 0 19 72 19 f_5_3 rfl rfl jw_85 rfl rfl (fun h4 => ?_)
    exact s_177 rfl rfl
  · refine s_42 9 rfl rfl ?_
    refine s_180R 0 7 12 7 f_5_0 jw_79 rfl rfl ?_
    refine s_29 13 rfl rfl ?_
    refine s_43 14 rfl rfl ?_
    refine s_180R 0 7 17 7 f_5_0 jw_79 rfl rfl ?_
    refine s_29 18 rfl rfl ?_
    refine s_47 19 rfl ?_
    refine s_80 20 rfl (fun h5 => ?_)
    refine s_42 21 rfl rfl ?_
    refine s_180R 0 13 24 13 f_5_1 jw_81 rfl rfl ?_
    refine s_29 25 rfl rfl ?_
    refine s_28 26 rfl rfl ?_
    refine s_153 0 13 39 29 rfl rfl ?_ ?_
    · refine s_43 40 rfl rfl ?_
      refine s_180R 0 13 43 13 f_5_1 jw_81 rfl rfl ?_
      refine s_29 44 rfl rfl ?_
      refine s_47 45 rfl ?_
      exact s_jmp (v_5_set_45 l k2 hk2 _ _ _ _ _ _ _ _) ⟨rfl, rfl, rfl, rfl, trivial⟩
    · refine s_43 30 rfl rfl ?_
      refine s_180R 0 13 33 13 f_5_1 jw_81 rfl rfl ?_
      refine s_29 34 rfl rfl ?_
      refine s_47 35 rfl ?_
      refine s_117 36 rfl ?_
      refine s_167 0 9 45 rfl rfl ?_
      exact s_jmp (v_5_set_45 l k2 hk2 _ _ _ _ _ _ _ _) ⟨rfl, rfl, rfl, rfl, trivial⟩
theorem w_5_set_2 (l : Launch)  (n : Nat) : ∀ a0 a1 a2 a3 H, JV l mi_5_set jeV 2 [(0, .ref a0), (1, .ref a1), (2, .int a2), (3, .int a3)] [] H (F_5_set_2  n a0 a1 a2 a3 H) := by
  induction n with
  | zero => intro _ _ _ _ _; exact s_none
  | succ n ih => intro a0 a1 a2 a3 H; exact v_5_set_2 l (F_5_set_2  n) ih a0 a1 a2 a3 H
theorem v_5_set (l : Launch) (a0 : Nat) (a1 : Nat) (a2 : Int32) (H : jH) : JV l mi_5_set jeV 0 [(0, .ref a0), (1, .ref a1), (2, .int a2)] [] H (F_5_set a0 a1 a2 H) := by
  unfold F_5_set
  refine s_3 1 rfl ?_
  refine s_62 2 rfl rfl ?_
  exact s_jmp (w_5_set_2 l jfuel _ _ _ _ _) ⟨rfl, rfl, rfl, rfl, trivial⟩
theorem m_5_set (l : Launch) (a0 : Nat) (a1 : Nat) (a2 : Int32) (H : jH) : JMet l y_5_set prog_7_method_3_code mi_5_set jeV [.ref a0, .ref a1, .int a2] H (F_5_set a0 a1 a2 H) := jmet_of n_5_set (by decide) ⟨rfl, rfl⟩ (Nat.le_of_ble_eq_true rfl) (v_5_set l a0 a1 a2 H)
def mi_5_settle : jM := (48219235749332807610151092625700419998887139537805570940422731618977605241684194224640014128324886377814358172006272893017810244031395431711384594810985954109639191175063128236780823460867, 78, 3, "CoinNode$Point", none, "settle", 0, 0)
def y_5_settle : MethodName := ⟨"CoinNode$Point", "settle", "([J)V"⟩
theorem n_5_settle : jn_is prog_7_method_8_code mi_5_settle.1 mi_5_settle.2.1 := by unfold jn_is; decide +kernel
theorem k_5_settle : jmok y_5_settle prog_7_method_8_code mi_5_settle 1 := ⟨jw_1098, jw_5, ⟨by decide, by decide⟩, by decide +kernel⟩
theorem v_5_settle_2 (l : Launch) (k2 : Nat → Int32 → jH → Option (Unit × jH)) (hk2 : ∀ a0 a1 H, JV l mi_5_settle jeV 2 [(0, .ref a0), (1, .int a1)] [] H (k2 a0 a1 H)) (a0 : Nat) (a1 : Int32) (H : jH) : JV l mi_5_settle jeV 2 [(0, .ref a0), (1, .int a1)] [] H (B_5_settle_2 k2 a0 a1 H) := by
  unfold B_5_settle_2
  refine s_27 3 rfl rfl ?_
  refine s_16 9 5 9 jbp_9 rfl ?_
  refine s_162 0 32 37 8 rfl rfl ?_ ?_
  · refine s_42 38 rfl rfl ?_
    refine s_16 9 40 9 jbp_9 rfl ?_
    refine s_47 41 rfl ?_
    refine s_16 26 43 26 jbp_26 rfl ?_
    refine s_123 44 rfl ?_
    refine s_64L 45 rfl rfl (fun x1 => ?_)
    refine s_42 46 rfl rfl ?_
    refine s_16 9 48 9 jbp_9 rfl ?_
    refine s_92 49 rfl rfl rfl ?_
    refine s_47 50 rfl ?_
    refine s_20 0 67 53 67 67108863 rfl jw_1057 rfl ?_
    refine s_127 54 rfl ?_
    refine s_80 55 rfl (fun h2 => ?_)
    refine s_42 56 rfl rfl ?_
    refine s_3 57 rfl ?_
    refine s_92 58 rfl rfl rfl ?_
    refine s_47 59 rfl ?_
    refine s_31 60 rfl rfl ?_
    refine s_20 0 69 63 69 15632 rfl jw_1058 rfl ?_
    refine s_105 64 rfl ?_
    refine s_97 65 rfl ?_
    refine s_80 66 rfl (fun h3 => ?_)
    refine s_42 67 rfl rfl ?_
    refine s_4 68 rfl ?_
    refine s_92 69 rfl rfl rfl ?_
    refine s_47 70 rfl ?_
    refine s_31 71 rfl rfl ?_
    refine s_20 0 71 74 71 1024 rfl jw_1059 rfl ?_
    refine s_105 75 rfl ?_
    refine s_97 76 rfl ?_
    refine s_80 77 rfl (fun h4 => ?_)
    exact s_177 rfl rfl
  · refine s_42 9 rfl rfl ?_
    refine s_27 10 rfl rfl ?_
    refine s_4 11 rfl ?_
    refine s_96 12 rfl ?_
    refine s_92 13 rfl rfl rfl ?_
    refine s_47 14 rfl ?_
    refine s_42 15 rfl rfl ?_
    refine s_27 16 rfl rfl ?_
    refine s_47 17 rfl ?_
    refine s_16 26 19 26 jbp_26 rfl ?_
    refine s_123 20 rfl ?_
    refine s_97 21 rfl ?_
    refine s_80 22 rfl (fun h5 => ?_)
    refine s_42 23 rfl rfl ?_
    refine s_27 24 rfl rfl ?_
    refine s_92 25 rfl rfl rfl ?_
    refine s_47 26 rfl ?_
    refine s_20 0 67 29 67 67108863 rfl jw_1057 rfl ?_
    refine s_127 30 rfl ?_
    refine s_80 31 rfl (fun h6 => ?_)
    refine s_132L 1 1 34 1 ji_1 rfl rfl rfl (fun x7 => ?_)
    refine s_167 255 224 2 rfl rfl ?_
    exact s_jmp (hk2 _ _ _) ⟨rfl, rfl, trivial⟩
theorem w_5_settle_2 (l : Launch)  (n : Nat) : ∀ a0 a1 H, JV l mi_5_settle jeV 2 [(0, .ref a0), (1, .int a1)] [] H (F_5_settle_2  n a0 a1 H) := by
  induction n with
  | zero => intro _ _ _; exact s_none
  | succ n ih => intro a0 a1 H; exact v_5_settle_2 l (F_5_settle_2  n) ih a0 a1 H
theorem v_5_settle (l : Launch) (a0 : Nat) (H : jH) : JV l mi_5_settle jeV 0 [(0, .ref a0)] [] H (F_5_settle a0 H) := by
  unfold F_5_settle
  refine s_3 1 rfl ?_
  refine s_60 2 rfl rfl ?_
  exact s_jmp (w_5_settle_2 l jfuel _ _ _) ⟨rfl, rfl, trivial⟩
theorem m_5_settle (l : Launch) (a0 : Nat) (H : jH) : JMet l y_5_settle prog_7_method_8_code mi_5_settle jeV [.ref a0] H (F_5_settle a0 H) := jmet_of n_5_settle (by decide) ⟨rfl, rfl⟩ (Nat.le_of_ble_eq_true rfl) (v_5_settle l a0 H)
def mi_5_add : jM := (87055324010362652250499655102394745937486538975750208258290693608220320569434591466340030679526782216992707168134396216089001755542866031819815408480460025999843775466529928655163595535779199428733973177460327475425184985225617170627091361832280681462321474910664712207186935464006918764476334206413921364491806884093897079133113606924790062242119473220962012532018066188192345383565647183879061865313232970775718747366992713414712212729484435513642725155297817689017344836649418884540322252319778730446556322567189452235811927567948810525157954389942513378750225894476813191930853914934505640198841586418117228944272900710500496345714737712314794886947355235593516249493336458573726728874233441164497824675934638923688357544968815472058524065580694726021813342142485306460282472341686283783588079140741481149040574317364704152136003911445685640059690448842131284045627124068164839051730431567157478687668688507948746428377865868734897767322506498632989493523485078571, 402, 10, "CoinNode$Point", some FieldType.boolean, "add", 1, 86)
def y_5_add : MethodName := ⟨"CoinNode$Point", "add", "(LCoinNode$Point;Z[[J)Z"⟩
theorem n_5_add : jn_is prog_7_method_5_code mi_5_add.1 mi_5_add.2.1 := by unfold jn_is; decide +kernel
theorem k_5_add : jmok y_5_add prog_7_method_5_code mi_5_add 3 := ⟨jw_1105, jw_5, ⟨by decide, by decide⟩, by decide +kernel⟩
theorem v_5_add_14 (l : Launch)   (H : jH) : JV l mi_5_add jeI 14 [] [] H (B_5_add_14   H) := by
  unfold B_5_add_14
  refine s_4 15 rfl ?_
  exact s_172Z rfl rfl
theorem v_5_add_241 (l : Launch)  (a0 : Nat) (s0 : Nat) (s1 : Int32) (H : jH) : JV l mi_5_add jeI 241 [(0, .ref a0)] [.int s1, .ref s0] H (B_5_add_241  a0 s0 s1 H) := by
  unfold B_5_add_241
  refine s_181Z 0 19 244 19 f_5_3 rfl rfl jw_85 rfl rfl (fun h1 => ?_)
  refine s_42 245 rfl rfl ?_
  refine s_180I 0 19 248 19 f_5_3 jw_85 rfl rfl ?_
  exact s_172Z rfl rfl
theorem v_5_add_181 (l : Launch)  (a0 : Nat) (a1 : Nat) (a3 : Nat) (a4 : Nat) (a5 : Nat) (a6 : Nat) (a7 : Nat) (a8 : Nat) (a9 : Nat) (s0 : Nat) (s1 : Nat) (s2 : Int64) (H : jH) : JV l mi_5_add jeI 181 [(0, .ref a0), (1, .ref a1), (3, .ref a3), (4, .ref a4), (5, .ref a5), (6, .ref a6), (7, .ref a7), (8, .ref a8), (9, .ref a9)] [.long s2, .ref s1, .ref s0] H (B_5_add_181  a0 a1 a3 a4 a5 a6 a7 a8 a9 s0 s1 s2 H) := by
  unfold B_5_add_181
  refine s_25 8 183 rfl rfl ?_
  refine s_20 0 49 186 49 (-1) rfl jw_1100 rfl ?_
  refine s_184V 0 35 189 35 (m_5_mix l _ _ _ _ _ _) rfl k_5_mix jw_1064 jw_1065 rfl rfl rfl rfl rfl (fun x2 h3 => ?_)
  refine s_45 190 rfl rfl ?_
  refine s_16 6 192 6 jbp_6 rfl ?_
  refine s_50 193 112 jt_112 rfl ?_
  refine s_25 7 195 rfl rfl ?_
  refine s_10 196 rfl ?_
  refine s_25 7 198 rfl rfl ?_
  refine s_9 199 rfl ?_
  refine s_184V 0 35 202 35 (m_5_mix l _ _ _ _ _ _) rfl k_5_mix jw_1064 jw_1065 rfl rfl rfl rfl rfl (fun x4 h5 => ?_)
  refine s_45 203 rfl rfl ?_
  refine s_16 6 205 6 jbp_6 rfl ?_
  refine s_50 206 112 jt_112 rfl ?_
  refine s_184I 0 57 209 57 (m_5_normalize l _ _) rfl k_5_normalize jw_1107 jw_1073 rfl rfl rfl rfl rfl (fun x6 h7 => ?_)
  refine s_153 0 40 249 212 rfl rfl ?_ ?_
  · refine s_42 250 rfl rfl ?_
    refine s_180R 0 16 253 16 f_5_2 jw_83 rfl rfl ?_
    refine s_42 254 rfl rfl ?_
    refine s_180R 0 16 257 16 f_5_2 jw_83 rfl rfl ?_
    refine s_43 258 rfl rfl ?_
    refine s_180R 0 16 261 16 f_5_2 jw_83 rfl rfl ?_
    refine s_184V 0 29 264 29 (m_5_multiply l _ _ _ _) rfl k_5_multiply jw_1069 jw_1055 rfl rfl rfl rfl rfl (fun x8 h9 => ?_)
    refine s_42 265 rfl rfl ?_
    refine s_180R 0 16 268 16 f_5_2 jw_83 rfl rfl ?_
    refine s_42 269 rfl rfl ?_
    refine s_180R 0 16 272 16 f_5_2 jw_83 rfl rfl ?_
    refine s_25 7 274 rfl rfl ?_
    refine s_184V 0 29 277 29 (m_5_multiply l _ _ _ _) rfl k_5_multiply jw_1069 jw_1055 rfl rfl rfl rfl rfl (fun x10 h11 => ?_)
    refine s_25 4 279 rfl rfl ?_
    refine s_25 7 281 rfl rfl ?_
    refine s_25 7 283 rfl rfl ?_
    refine s_184V 0 29 286 29 (m_5_multiply l _ _ _ _) rfl k_5_multiply jw_1069 jw_1055 rfl rfl rfl rfl rfl (fun x12 h13 => ?_)
    refine s_25 5 288 rfl rfl ?_
    refine s_25 4 290 rfl rfl ?_
    refine s_25 7 292 rfl rfl ?_
    refine s_184V 0 29 295 29 (m_5_multiply l _ _ _ _) rfl k_5_multiply jw_1069 jw_1055 rfl rfl rfl rfl rfl (fun x14 h15 => ?_)
    refine s_25 6 297 rfl rfl ?_
    refine s_25 6 299 rfl rfl ?_
    refine s_25 4 301 rfl rfl ?_
    refine s_184V 0 29 304 29 (m_5_multiply l _ _ _ _) rfl k_5_multiply jw_1069 jw_1055 rfl rfl rfl rfl rfl (fun x16 h17 => ?_)
    refine s_25 4 306 rfl rfl ?_
    refine s_25 9 308 rfl rfl ?_
    refine s_25 9 310 rfl rfl ?_
    refine s_184V 0 29 313 29 (m_5_multiply l _ _ _ _) rfl k_5_multiply jw_1069 jw_1055 rfl rfl rfl rfl rfl (fun x18 h19 => ?_)
    refine s_42 314 rfl rfl ?_
    refine s_180R 0 7 317 7 f_5_0 jw_79 rfl rfl ?_
    refine s_25 4 319 rfl rfl ?_
    refine s_10 320 rfl ?_
    refine s_25 5 322 rfl rfl ?_
    refine s_20 0 49 325 49 (-1) rfl jw_1100 rfl ?_
    refine s_184V 0 35 328 35 (m_5_mix l _ _ _ _ _ _) rfl k_5_mix jw_1064 jw_1065 rfl rfl rfl rfl rfl (fun x20 h21 => ?_)
    refine s_42 329 rfl rfl ?_
    refine s_180R 0 7 332 7 f_5_0 jw_79 rfl rfl ?_
    refine s_42 333 rfl rfl ?_
    refine s_180R 0 7 336 7 f_5_0 jw_79 rfl rfl ?_
    refine s_10 337 rfl ?_
    refine s_25 6 339 rfl rfl ?_
    refine s_20 0 61 342 61 (-2) rfl jw_1108 rfl ?_
    refine s_184V 0 35 345 35 (m_5_mix l _ _ _ _ _ _) rfl k_5_mix jw_1064 jw_1065 rfl rfl rfl rfl rfl (fun x22 h23 => ?_)
    refine s_42 346 rfl rfl ?_
    refine s_180R 0 7 349 7 f_5_0 jw_79 rfl rfl ?_
    refine s_184V 0 43 352 43 (m_5_settle l _ _) rfl k_5_settle jw_1096 jw_1097 rfl rfl rfl rfl rfl (fun x24 h25 => ?_)
    refine s_25 6 354 rfl rfl ?_
    refine s_25 6 356 rfl rfl ?_
    refine s_10 357 rfl ?_
    refine s_42 358 rfl rfl ?_
    refine s_180R 0 7 361 7 f_5_0 jw_79 rfl rfl ?_
    refine s_20 0 49 364 49 (-1) rfl jw_1100 rfl ?_
    refine s_184V 0 35 367 35 (m_5_mix l _ _ _ _ _ _) rfl k_5_mix jw_1064 jw_1065 rfl rfl rfl rfl rfl (fun x26 h27 => ?_)
    refine s_25 6 369 rfl rfl ?_
    refine s_25 6 371 rfl rfl ?_
    refine s_25 9 373 rfl rfl ?_
    refine s_184V 0 29 376 29 (m_5_multiply l _ _ _ _) rfl k_5_multiply jw_1069 jw_1055 rfl rfl rfl rfl rfl (fun x28 h29 => ?_)
    refine s_25 8 378 rfl rfl ?_
    refine s_25 8 380 rfl rfl ?_
    refine s_25 5 382 rfl rfl ?_
    refine s_184V 0 29 385 29 (m_5_multiply l _ _ _ _) rfl k_5_multiply jw_1069 jw_1055 rfl rfl rfl rfl rfl (fun x30 h31 => ?_)
    refine s_42 386 rfl rfl ?_
    refine s_180R 0 13 389 13 f_5_1 jw_81 rfl rfl ?_
    refine s_25 6 391 rfl rfl ?_
    refine s_10 392 rfl ?_
    refine s_25 8 394 rfl rfl ?_
    refine s_20 0 49 397 49 (-1) rfl jw_1100 rfl ?_
    refine s_184V 0 35 400 35 (m_5_mix l _ _ _ _ _ _) rfl k_5_mix jw_1064 jw_1065 rfl rfl rfl rfl rfl (fun x32 h33 => ?_)
    refine s_4 401 rfl ?_
    exact s_172Z rfl rfl
  · refine s_45 213 rfl rfl ?_
    refine s_16 7 215 7 jbp_7 rfl ?_
    refine s_50 216 112 jt_112 rfl ?_
    refine s_25 9 218 rfl rfl ?_
    refine s_10 219 rfl ?_
    refine s_25 9 221 rfl rfl ?_
    refine s_9 222 rfl ?_
    refine s_184V 0 35 225 35 (m_5_mix l _ _ _ _ _ _) rfl k_5_mix jw_1064 jw_1065 rfl rfl rfl rfl rfl (fun x34 h35 => ?_)
    refine s_42 226 rfl rfl ?_
    refine s_45 227 rfl rfl ?_
    refine s_16 7 229 7 jbp_7 rfl ?_
    refine s_50 230 112 jt_112 rfl ?_
    refine s_184I 0 57 233 57 (m_5_normalize l _ _) rfl k_5_normalize jw_1107 jw_1073 rfl rfl rfl rfl rfl (fun x36 h37 => ?_)
    refine s_154 0 7 240 236 rfl rfl ?_ ?_
    · refine s_3 241 rfl ?_
      exact s_jmp (v_5_add_241 l _ _ _ _) ⟨rfl, trivial⟩
    · refine s_4 237 rfl ?_
      refine s_167 0 4 241 rfl rfl ?_
      exact s_jmp (v_5_add_241 l _ _ _ _) ⟨rfl, trivial⟩
theorem v_5_add (l : Launch) (a0 : Nat) (a1 : Nat) (a2 : Int32) (a3 : Nat) (H : jH) : JV l mi_5_add jeI 0 [(0, .ref a0), (1, .ref a1), (2, .int a2), (3, .ref a3)] [] H (F_5_add a0 a1 a2 a3 H) := by
  unfold F_5_add
  refine s_43 1 rfl rfl ?_
  refine s_180I 0 19 4 19 f_5_3 jw_85 rfl rfl ?_
  refine s_154 0 10 14 7 rfl rfl ?_ ?_
  · exact s_jmp (v_5_add_14 l _) trivial
  · refine s_45 8 rfl rfl ?_
    refine s_190 9 112 jm_112 rfl ?_
    refine s_16 8 11 8 jbp_8 rfl ?_
    refine s_162 0 5 16 14 rfl rfl ?_ ?_
    · refine s_42 17 rfl rfl ?_
      refine s_180I 0 19 20 19 f_5_3 jw_85 rfl rfl ?_
      refine s_153 0 11 31 23 rfl rfl ?_ ?_
      · refine s_45 32 rfl rfl ?_
        refine s_3 33 rfl ?_
        refine s_50 34 112 jt_112 rfl ?_
        refine s_58L 4 36 rfl rfl (fun x38 => ?_)
        refine s_45 37 rfl rfl ?_
        refine s_4 38 rfl ?_
        refine s_50 39 112 jt_112 rfl ?_
        refine s_58L 5 41 rfl rfl (fun x39 => ?_)
        refine s_45 42 rfl rfl ?_
        refine s_5 43 rfl ?_
        refine s_50 44 112 jt_112 rfl ?_
        refine s_58L 6 46 rfl rfl (fun x40 => ?_)
        refine s_45 47 rfl rfl ?_
        refine s_6 48 rfl ?_
        refine s_50 49 112 jt_112 rfl ?_
        refine s_58L 7 51 rfl rfl (fun x41 => ?_)
        refine s_45 52 rfl rfl ?_
        refine s_7 53 rfl ?_
        refine s_50 54 112 jt_112 rfl ?_
        refine s_58L 8 56 rfl rfl (fun x42 => ?_)
        refine s_45 57 rfl rfl ?_
        refine s_8 58 rfl ?_
        refine s_50 59 112 jt_112 rfl ?_
        refine s_58L 9 61 rfl rfl (fun x43 => ?_)
        refine s_25 4 63 rfl rfl ?_
        refine s_42 64 rfl rfl ?_
        refine s_180R 0 16 67 16 f_5_2 jw_83 rfl rfl ?_
        refine s_42 68 rfl rfl ?_
        refine s_180R 0 16 71 16 f_5_2 jw_83 rfl rfl ?_
        refine s_184V 0 29 74 29 (m_5_multiply l _ _ _ _) rfl k_5_multiply jw_1069 jw_1055 rfl rfl rfl rfl rfl (fun x44 h45 => ?_)
        refine s_25 5 76 rfl rfl ?_
        refine s_43 77 rfl rfl ?_
        refine s_180R 0 16 80 16 f_5_2 jw_83 rfl rfl ?_
        refine s_43 81 rfl rfl ?_
        refine s_180R 0 16 84 16 f_5_2 jw_83 rfl rfl ?_
        refine s_184V 0 29 87 29 (m_5_multiply l _ _ _ _) rfl k_5_multiply jw_1069 jw_1055 rfl rfl rfl rfl rfl (fun x46 h47 => ?_)
        refine s_25 6 89 rfl rfl ?_
        refine s_42 90 rfl rfl ?_
        refine s_180R 0 7 93 7 f_5_0 jw_79 rfl rfl ?_
        refine s_25 5 95 rfl rfl ?_
        refine s_184V 0 29 98 29 (m_5_multiply l _ _ _ _) rfl k_5_multiply jw_1069 jw_1055 rfl rfl rfl rfl rfl (fun x48 h49 => ?_)
        refine s_25 7 100 rfl rfl ?_
        refine s_43 101 rfl rfl ?_
        refine s_180R 0 7 104 7 f_5_0 jw_79 rfl rfl ?_
        refine s_25 4 106 rfl rfl ?_
        refine s_184V 0 29 109 29 (m_5_multiply l _ _ _ _) rfl k_5_multiply jw_1069 jw_1055 rfl rfl rfl rfl rfl (fun x50 h51 => ?_)
        refine s_25 7 111 rfl rfl ?_
        refine s_25 7 113 rfl rfl ?_
        refine s_10 114 rfl ?_
        refine s_25 6 116 rfl rfl ?_
        refine s_20 0 49 119 49 (-1) rfl jw_1100 rfl ?_
        refine s_184V 0 35 122 35 (m_5_mix l _ _ _ _ _ _) rfl k_5_mix jw_1064 jw_1065 rfl rfl rfl rfl rfl (fun x52 h53 => ?_)
        refine s_25 8 124 rfl rfl ?_
        refine s_25 5 126 rfl rfl ?_
        refine s_43 127 rfl rfl ?_
        refine s_180R 0 16 130 16 f_5_2 jw_83 rfl rfl ?_
        refine s_184V 0 29 133 29 (m_5_multiply l _ _ _ _) rfl k_5_multiply jw_1069 jw_1055 rfl rfl rfl rfl rfl (fun x54 h55 => ?_)
        refine s_25 8 135 rfl rfl ?_
        refine s_25 8 137 rfl rfl ?_
        refine s_42 138 rfl rfl ?_
        refine s_180R 0 13 141 13 f_5_1 jw_81 rfl rfl ?_
        refine s_184V 0 29 144 29 (m_5_multiply l _ _ _ _) rfl k_5_multiply jw_1069 jw_1055 rfl rfl rfl rfl rfl (fun x56 h57 => ?_)
        refine s_25 9 146 rfl rfl ?_
        refine s_25 4 148 rfl rfl ?_
        refine s_42 149 rfl rfl ?_
        refine s_180R 0 16 152 16 f_5_2 jw_83 rfl rfl ?_
        refine s_184V 0 29 155 29 (m_5_multiply l _ _ _ _) rfl k_5_multiply jw_1069 jw_1055 rfl rfl rfl rfl rfl (fun x58 h59 => ?_)
        refine s_25 9 157 rfl rfl ?_
        refine s_25 9 159 rfl rfl ?_
        refine s_43 160 rfl rfl ?_
        refine s_180R 0 13 163 13 f_5_1 jw_81 rfl rfl ?_
        refine s_184V 0 29 166 29 (m_5_multiply l _ _ _ _) rfl k_5_multiply jw_1069 jw_1055 rfl rfl rfl rfl rfl (fun x60 h61 => ?_)
        refine s_25 9 168 rfl rfl ?_
        refine s_25 9 170 rfl rfl ?_
        refine s_28 171 rfl rfl ?_
        refine s_153 0 9 180 174 rfl rfl ?_ ?_
        · refine s_10 181 rfl ?_
          exact s_jmp (v_5_add_181 l _ _ _ _ _ _ _ _ _ _ _ _ _) ⟨rfl, rfl, rfl, rfl, rfl, rfl, rfl, rfl, rfl, trivial⟩
        · refine s_20 0 49 177 49 (-1) rfl jw_1100 rfl ?_
          refine s_167 0 4 181 rfl rfl ?_
          exact s_jmp (v_5_add_181 l _ _ _ _ _ _ _ _ _ _ _ _ _) ⟨rfl, rfl, rfl, rfl, rfl, rfl, rfl, rfl, rfl, trivial⟩
      · refine s_42 24 rfl rfl ?_
        refine s_43 25 rfl rfl ?_
        refine s_28 26 rfl rfl ?_
        refine s_182V 0 53 29 53 (m_5_set l _ _ _ _) rfl k_5_set jc_5 jw_1106 jw_1086 jw_1087 rfl rfl rfl rfl rfl (fun x62 h63 => ?_)
        refine s_4 30 rfl ?_
        exact s_172Z rfl rfl
    · exact s_jmp (v_5_add_14 l _) trivial
theorem m_5_add (l : Launch) (a0 : Nat) (a1 : Nat) (a2 : Int32) (a3 : Nat) (H : jH) : JMet l y_5_add prog_7_method_5_code mi_5_add jeI [.ref a0, .ref a1, .int a2, .ref a3] H (F_5_add a0 a1 a2 a3 H) := jmet_of n_5_add (by decide) ⟨rfl, rfl⟩ (Nat.le_of_ble_eq_true rfl) (v_5_add l a0 a1 a2 a3 H)
