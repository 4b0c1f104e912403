def mi_2_take : jM := (10522360928025455249992252685436606090642908118707006644824573894634668132640732605735617492168522018041557804111542247412907707556208431868318392902483014597649460985873469398904406452492327736398359314144749917806334964302558920998171276699710341958512120359329858914277012912397975389604486350144567495965417901432666040986385286282907156621180419, 145, 6, "CoinNode$Coins", some FieldType.int, "take", 3, 64)
def y_2_take : MethodName := ⟨"CoinNode$Coins", "take", "(LCoinNode$Tx;I)I"⟩
theorem n_2_take : jn_is prog_4_method_9_code mi_2_take.1 mi_2_take.2.1 := by unfold jn_is; decide +kernel
theorem k_2_take : jmok y_2_take prog_4_method_9_code mi_2_take 2 := ⟨jw_1317, jw_8, ⟨by decide, by decide⟩, by decide +kernel⟩
theorem v_2_take_144 (l : Launch)  (s0 : Int32) (H : jH) : JV l mi_2_take jeI 144 [] [.int s0] H (B_2_take_144  s0 H) := by
  unfold B_2_take_144
  exact s_172 rfl rfl
theorem v_2_take_117 (l : Launch)  (a0 : Nat) (a1 : Nat) (a3 : Int32) (H : jH) : JV l mi_2_take jeI 117 [(0, .ref a0), (1, .ref a1), (3, .int a3)] [] H (B_2_take_117  a0 a1 a3 H) := by
  unfold B_2_take_117
  refine s_29 118 rfl rfl ?_
  refine s_153 0 8 126 121 rfl rfl ?_ ?_
  · refine s_43 127 rfl rfl ?_
    refine s_180L 0 88 130 88 f_10_6 jw_736 rfl rfl ?_
    refine s_42 131 rfl rfl ?_
    refine s_180L 0 85 134 85 f_2_8 jw_283 rfl rfl ?_
    refine s_148_158 0 8 143 135 138 rfl rfl rfl ?_ ?_
    · refine s_3 144 rfl ?_
      exact s_jmp (v_2_take_144 l _ _) trivial
    · refine s_16 33 140 33 jbp_33 rfl ?_
      refine s_167 0 4 144 rfl rfl ?_
      exact s_jmp (v_2_take_144 l _ _) trivial
  · refine s_16 32 123 32 jbp_32 rfl ?_
    refine s_167 0 21 144 rfl rfl ?_
    exact s_jmp (v_2_take_144 l _ _) trivial
theorem v_2_take_10 (l : Launch) (k10 : Nat → Nat → Int32 → Int32 → Int32 → jH → Option (Int32 × jH)) (hk10 : ∀ a0 a1 a2 a3 a4 H, JV l mi_2_take jeI 10 [(0, .ref a0), (1, .ref a1), (2, .int a2), (3, .int a3), (4, .int a4)] [] H (k10 a0 a1 a2 a3 a4 H)) (a0 : Nat) (a1 : Nat) (a2 : Int32) (a3 : Int32) (a4 : Int32) (H : jH) : JV l mi_2_take jeI 10 [(0, .ref a0), (1, .ref a1), (2, .int a2), (3, .int a3), (4, .int a4)] [] H (B_2_take_10 k10 a0 a1 a2 a3 a4 H) := by
  unfold B_2_take_10
  refine s_21 4 12 rfl rfl ?_
  refine s_43 13 rfl rfl ?_
  refine s_180R 0 79 16 79 f_10_4 jw_728 rfl rfl ?_
  refine s_190 17 100 jm_100 rfl ?_
  refine s_162 0 100 117 20 rfl rfl ?_ ?_
  · exact s_jmp (v_2_take_117 l _ _ _ _) ⟨rfl, rfl, rfl, trivial⟩
  · refine s_21 4 22 rfl rfl ?_
    refine s_16 8 24 8 jbp_8 rfl ?_
    refine s_162 0 93 117 27 rfl rfl ?_ ?_
    · exact s_jmp (v_2_take_117 l _ _ _ _) ⟨rfl, rfl, rfl, trivial⟩
    · refine s_42 28 rfl rfl ?_
      refine s_43 29 rfl rfl ?_
      refine s_180R 0 95 32 95 f_10_0 jw_709 rfl rfl ?_
      refine s_43 33 rfl rfl ?_
      refine s_180R 0 79 36 79 f_10_4 jw_728 rfl rfl ?_
      refine s_21 4 38 rfl rfl ?_
      refine s_46 39 rfl ?_
      refine s_43 40 rfl rfl ?_
      refine s_21 4 42 rfl rfl ?_
      refine s_182I 0 98 45 98 (m_10_index l _ _ _) rfl k_10_index jc_10 jw_1306 jw_810 jw_811 rfl rfl rfl rfl rfl (fun x1 h2 => ?_)
      refine s_182I 0 102 48 102 (m_2_find l _ _ _ _ _) rfl k_2_find jc_2 jw_1307 jw_835 jw_836 rfl rfl rfl rfl rfl (fun x3 h4 => ?_)
      refine s_54 5 50 rfl rfl ?_
      refine s_21 5 52 rfl rfl ?_
      refine s_156 0 6 58 55 rfl rfl ?_ ?_
      · refine s_29 59 rfl rfl ?_
        refine s_42 60 rfl rfl ?_
        refine s_21 5 62 rfl rfl ?_
        refine s_28 63 rfl rfl ?_
        refine s_182I 0 106 66 106 (m_2_isUnripe l _ _ _ _) rfl k_2_isUnripe jc_2 jw_1318 jw_844 jw_845 rfl rfl rfl rfl rfl (fun x5 h6 => ?_)
        refine s_128 67 rfl ?_
        refine s_62L 68 rfl rfl (fun x7 => ?_)
        refine s_42 69 rfl rfl ?_
        refine s_180R 0 22 72 22 f_2_6 jw_281 rfl rfl ?_
        refine s_21 4 74 rfl rfl ?_
        refine s_42 75 rfl rfl ?_
        refine s_180R 0 11 78 11 f_2_0 jw_273 rfl rfl ?_
        refine s_21 5 80 rfl rfl ?_
        refine s_50 81 113 jt_113 rfl ?_
        refine s_83 82 113 10 js_113 jc_10 rfl (fun h8 => ?_)
        refine s_42 83 rfl rfl ?_
        refine s_180R 0 25 86 25 f_2_7 jw_282 rfl rfl ?_
        refine s_21 4 88 rfl rfl ?_
        refine s_42 89 rfl rfl ?_
        refine s_180R 0 15 92 15 f_2_1 jw_274 rfl rfl ?_
        refine s_21 5 94 rfl rfl ?_
        refine s_46 95 rfl ?_
        refine s_79 96 rfl (fun h9 => ?_)
        refine s_42 97 rfl rfl ?_
        refine s_89 98 rfl rfl ?_
        refine s_180L 0 85 101 85 f_2_8 jw_283 rfl rfl ?_
        refine s_42 102 rfl rfl ?_
        refine s_21 5 104 rfl rfl ?_
        refine s_182L 0 110 107 110 (m_2_worth l _ _ _) rfl k_2_worth jc_2 jw_1319 jw_1320 jw_1321 rfl rfl rfl rfl rfl (fun x10 h11 => ?_)
        refine s_97 108 rfl ?_
        refine s_181L 0 85 111 85 f_2_8 rfl rfl jw_283 rfl rfl (fun h12 => ?_)
        refine s_132L 4 1 114 1 ji_1 rfl rfl rfl (fun x13 => ?_)
        refine s_167 255 152 10 rfl rfl ?_
        exact s_jmp (hk10 _ _ _ _ _ _) ⟨rfl, rfl, rfl, rfl, rfl, trivial⟩
      · refine s_16 31 57 31 jbp_31 rfl ?_
        exact s_172 rfl rfl
theorem w_2_take_10 (l : Launch)  (n : Nat) : ∀ a0 a1 a2 a3 a4 H, JV l mi_2_take jeI 10 [(0, .ref a0), (1, .ref a1), (2, .int a2), (3, .int a3), (4, .int a4)] [] H (F_2_take_10  n a0 a1 a2 a3 a4 H) := by
  induction n with
  | zero => intro _ _ _ _ _ _; exact s_none
  | succ n ih => intro a0 a1 a2 a3 a4 H; exact v_2_take_10 l (F_2_take_10  n) ih a0 a1 a2 a3 a4 H
theorem v_2_take (l : Launch) (a0 : Nat) (a1 : Nat) (a2 : Int32) (H : jH) : JV l mi_2_take jeI 0 [(0, .ref a0), (1, .ref a1), (2, .int a2)] [] H (F_2_take a0 a1 a2 H) := by
  unfold F_2_take
  refine s_3 1 rfl ?_
  refine s_62 2 rfl rfl ?_
  refine s_42 3 rfl rfl ?_
  refine s_9 4 rfl ?_
  refine s_181L 0 85 7 85 f_2_8 rfl rfl jw_283 rfl rfl (fun h14 => ?_)
  refine s_3 8 rfl ?_
  refine s_54 4 10 rfl rfl ?_
  exact s_jmp (w_2_take_10 l jfuel _ _ _ _ _ _) ⟨rfl, rfl, rfl, rfl, rfl, trivial⟩
theorem m_2_take (l : Launch) (a0 : Nat) (a1 : Nat) (a2 : Int32) (H : jH) : JMet l y_2_take prog_4_method_9_code mi_2_take jeI [.ref a0, .ref a1, .int a2] H (F_2_take a0 a1 a2 H) := jmet_of n_2_take (by decide) ⟨rfl, rfl⟩ (Nat.le_of_ble_eq_true rfl) (v_2_take l a0 a1 a2 H)
def mi_2_judge : jM := (2861478739458597956405001556904522172035283192759162302042043235690294491989226350016084895260160688211160934897753589671778024459994183533097152984633009342373148052767049334813296046474436148609846054167536336386971524262321961730579048342714547336288860300150055925926796625221751360568459387455636125357171994799771205446173499539179361575571654392292357043722170440254362598771114032464507810009083393589426661559344810176097499206307780667321853553809602802418862583935641373142802132148089736061341123649704708547783835599520265, 222, 8, "CoinNode$Coins", some FieldType.int, "judge", 5, 171)
def y_2_judge : MethodName := ⟨"CoinNode$Coins", "judge", "(LCoinNode$Block;LCoinNode$Scripts;)I"⟩
theorem n_2_judge : jn_is prog_4_method_7_code mi_2_judge.1 mi_2_judge.2.1 := by unfold jn_is; decide +kernel
theorem k_2_judge : jmok y_2_judge prog_4_method_7_code mi_2_judge 2 := ⟨jw_1312, jw_8, ⟨by decide, by decide⟩, by decide +kernel⟩
theorem v_2_judge_153 (l : Launch) (k11 : Nat → Nat → Nat → Int64 → Int32 → jH → Option (Int32 × jH)) (hk11 : ∀ a0 a1 a2 a3 a5 H, JV l mi_2_judge jeI 11 [(0, .ref a0), (1, .ref a1), (2, .ref a2), (3, .long a3), (5, .int a5)] [] H (k11 a0 a1 a2 a3 a5 H)) (a0 : Nat) (a1 : Nat) (a2 : Nat) (a3 : Int64) (a5 : Int32) (s0 : Nat) (s1 : Nat) (s2 : Int32) (s3 : Int32) (H : jH) : JV l mi_2_judge jeI 153 [(0, .ref a0), (1, .ref a1), (2, .ref a2), (3, .long a3), (5, .int a5)] [.int s3, .int s2, .ref s1, .ref s0] H (B_2_judge_153 k11 a0 a1 a2 a3 a5 s0 s1 s2 s3 H) := by
  unfold B_2_judge_153
  refine s_182V 0 89 156 89 (m_2_change l _ _ _ _ _) rfl k_2_change jc_2 jw_1302 jw_1304 jps_40 rfl rfl rfl rfl rfl (fun x1 h2 => ?_)
  refine s_132L 5 1 159 1 ji_1 rfl rfl rfl (fun x3 => ?_)
  refine s_167 255 108 11 rfl rfl ?_
  exact s_jmp (hk11 _ _ _ _ _ _) ⟨rfl, rfl, rfl, rfl, rfl, trivial⟩
theorem v_2_judge_136 (l : Launch) (k11 : Nat → Nat → Nat → Int64 → Int32 → jH → Option (Int32 × jH)) (hk11 : ∀ a0 a1 a2 a3 a5 H, JV l mi_2_judge jeI 11 [(0, .ref a0), (1, .ref a1), (2, .ref a2), (3, .long a3), (5, .int a5)] [] H (k11 a0 a1 a2 a3 a5 H)) (a0 : Nat) (a1 : Nat) (a2 : Nat) (a3 : Int64) (a5 : Int32) (a6 : Nat) (H : jH) : JV l mi_2_judge jeI 136 [(0, .ref a0), (1, .ref a1), (2, .ref a2), (3, .long a3), (5, .int a5), (6, .ref a6)] [] H (B_2_judge_136 k11 a0 a1 a2 a3 a5 a6 H) := by
  unfold B_2_judge_136
  refine s_42 137 rfl rfl ?_
  refine s_25 6 139 rfl rfl ?_
  refine s_43 140 rfl rfl ?_
  refine s_180I 0 68 143 68 f_0_6 jw_339 rfl rfl ?_
  refine s_21 5 145 rfl rfl ?_
  refine s_154 0 7 152 148 rfl rfl ?_ ?_
  · refine s_3 153 rfl ?_
    exact s_jmp (v_2_judge_153 l k11 hk11 _ _ _ _ _ _ _ _ _ _) ⟨rfl, rfl, rfl, rfl, rfl, trivial⟩
  · refine s_4 149 rfl ?_
    refine s_167 0 4 153 rfl rfl ?_
    exact s_jmp (v_2_judge_153 l k11 hk11 _ _ _ _ _ _ _ _ _ _) ⟨rfl, rfl, rfl, rfl, rfl, trivial⟩
theorem v_2_judge_110 (l : Launch) (k11 : Nat → Nat → Nat → Int64 → Int32 → jH → Option (Int32 × jH)) (hk11 : ∀ a0 a1 a2 a3 a5 H, JV l mi_2_judge jeI 11 [(0, .ref a0), (1, .ref a1), (2, .ref a2), (3, .long a3), (5, .int a5)] [] H (k11 a0 a1 a2 a3 a5 H)) (a0 : Nat) (a1 : Nat) (a2 : Nat) (a3 : Int64) (a5 : Int32) (a6 : Nat) (a7 : Int32) (H : jH) : JV l mi_2_judge jeI 110 [(0, .ref a0), (1, .ref a1), (2, .ref a2), (3, .long a3), (5, .int a5), (6, .ref a6), (7, .int a7)] [] H (B_2_judge_110 k11 a0 a1 a2 a3 a5 a6 a7 H) := by
  unfold B_2_judge_110
  refine s_21 7 112 rfl rfl ?_
  refine s_153 0 6 118 115 rfl rfl ?_ ?_
  · refine s_21 5 120 rfl rfl ?_
    refine s_158 0 16 136 123 rfl rfl ?_ ?_
    · exact s_jmp (v_2_judge_136 l k11 hk11 _ _ _ _ _ _ _) ⟨rfl, rfl, rfl, rfl, rfl, rfl, trivial⟩
    · refine s_33 124 rfl rfl ?_
      refine s_42 125 rfl rfl ?_
      refine s_180L 0 85 128 85 f_2_8 jw_283 rfl rfl ?_
      refine s_25 6 130 rfl rfl ?_
      refine s_180L 0 88 133 88 f_10_6 jw_736 rfl rfl ?_
      refine s_101 134 rfl ?_
      refine s_97 135 rfl ?_
      refine s_66L 136 rfl rfl (fun x4 => ?_)
      exact s_jmp (v_2_judge_136 l k11 hk11 _ _ _ _ _ _ _) ⟨rfl, rfl, rfl, rfl, rfl, rfl, trivial⟩
  · refine s_21 7 117 rfl rfl ?_
    exact s_172 rfl rfl
theorem v_2_judge_105 (l : Launch) (k11 : Nat → Nat → Nat → Int64 → Int32 → jH → Option (Int32 × jH)) (hk11 : ∀ a0 a1 a2 a3 a5 H, JV l mi_2_judge jeI 11 [(0, .ref a0), (1, .ref a1), (2, .ref a2), (3, .long a3), (5, .int a5)] [] H (k11 a0 a1 a2 a3 a5 H)) (a0 : Nat) (a1 : Nat) (a2 : Nat) (a3 : Int64) (a5 : Int32) (a6 : Nat) (s0 : Nat) (s1 : Nat) (s2 : Int32) (H : jH) : JV l mi_2_judge jeI 105 [(0, .ref a0), (1, .ref a1), (2, .ref a2), (3, .long a3), (5, .int a5), (6, .ref a6)] [.int s2, .ref s1, .ref s0] H (B_2_judge_105 k11 a0 a1 a2 a3 a5 a6 s0 s1 s2 H) := by
  unfold B_2_judge_105
  refine s_182I 0 82 108 82 (m_2_faultOfMaking l _ _ _ _) rfl k_2_faultOfMaking jc_2 jw_1324 jw_1326 jps_42 rfl rfl rfl rfl rfl (fun x5 h6 => ?_)
  refine s_jmp (ls' := [(0, .ref a0), (1, .ref a1), (2, .ref a2), (3, .long a3), (5, .int a5), (6, .ref a6)]) ?_ ⟨rfl, rfl, rfl, rfl, rfl, rfl, trivial⟩
  refine s_54 7 110 rfl rfl ?_
  exact s_jmp (v_2_judge_110 l k11 hk11 _ _ _ _ _ _ _ _) ⟨rfl, rfl, rfl, rfl, rfl, rfl, rfl, trivial⟩
theorem v_2_judge_82 (l : Launch) (k11 : Nat → Nat → Nat → Int64 → Int32 → jH → Option (Int32 × jH)) (hk11 : ∀ a0 a1 a2 a3 a5 H, JV l mi_2_judge jeI 11 [(0, .ref a0), (1, .ref a1), (2, .ref a2), (3, .long a3), (5, .int a5)] [] H (k11 a0 a1 a2 a3 a5 H)) (a0 : Nat) (a1 : Nat) (a2 : Nat) (a3 : Int64) (a5 : Int32) (a6 : Nat) (a7 : Int32) (H : jH) : JV l mi_2_judge jeI 82 [(0, .ref a0), (1, .ref a1), (2, .ref a2), (3, .long a3), (5, .int a5), (6, .ref a6), (7, .int a7)] [] H (B_2_judge_82 k11 a0 a1 a2 a3 a5 a6 a7 H) := by
  unfold B_2_judge_82
  refine s_21 7 84 rfl rfl ?_
  refine s_154 0 26 110 87 rfl rfl ?_ ?_
  · exact s_jmp (v_2_judge_110 l k11 hk11 _ _ _ _ _ _ _ _) ⟨rfl, rfl, rfl, rfl, rfl, rfl, rfl, trivial⟩
  · refine s_42 88 rfl rfl ?_
    refine s_25 6 90 rfl rfl ?_
    refine s_21 5 92 rfl rfl ?_
    refine s_154 0 7 99 95 rfl rfl ?_ ?_
    · refine s_25 6 101 rfl rfl ?_
      refine s_180R 0 79 104 79 f_10_4 jw_728 rfl rfl ?_
      refine s_190 105 100 jm_100 rfl ?_
      exact s_jmp (v_2_judge_105 l k11 hk11 _ _ _ _ _ _ _ _ _ _) ⟨rfl, rfl, rfl, rfl, rfl, rfl, trivial⟩
    · refine s_3 96 rfl ?_
      refine s_167 0 9 105 rfl rfl ?_
      exact s_jmp (v_2_judge_105 l k11 hk11 _ _ _ _ _ _ _ _ _ _) ⟨rfl, rfl, rfl, rfl, rfl, rfl, trivial⟩
theorem v_2_judge_49 (l : Launch) (k11 : Nat → Nat → Nat → Int64 → Int32 → jH → Option (Int32 × jH)) (hk11 : ∀ a0 a1 a2 a3 a5 H, JV l mi_2_judge jeI 11 [(0, .ref a0), (1, .ref a1), (2, .ref a2), (3, .long a3), (5, .int a5)] [] H (k11 a0 a1 a2 a3 a5 H)) (a0 : Nat) (a1 : Nat) (a2 : Nat) (a3 : Int64) (a5 : Int32) (a6 : Nat) (s0 : Int32) (H : jH) : JV l mi_2_judge jeI 49 [(0, .ref a0), (1, .ref a1), (2, .ref a2), (3, .long a3), (5, .int a5), (6, .ref a6)] [.int s0] H (B_2_judge_49 k11 a0 a1 a2 a3 a5 a6 s0 H) := by
  unfold B_2_judge_49
  refine s_jmp (ls' := [(0, .ref a0), (1, .ref a1), (2, .ref a2), (3, .long a3), (5, .int a5), (6, .ref a6)]) ?_ ⟨rfl, rfl, rfl, rfl, rfl, rfl, trivial⟩
  refine s_54 7 51 rfl rfl ?_
  refine s_21 7 53 rfl rfl ?_
  refine s_154 0 29 82 56 rfl rfl ?_ ?_
  · exact s_jmp (v_2_judge_82 l k11 hk11 _ _ _ _ _ _ _ _) ⟨rfl, rfl, rfl, rfl, rfl, rfl, rfl, trivial⟩
  · refine s_21 5 58 rfl rfl ?_
    refine s_158 0 24 82 61 rfl rfl ?_ ?_
    · exact s_jmp (v_2_judge_82 l k11 hk11 _ _ _ _ _ _ _ _) ⟨rfl, rfl, rfl, rfl, rfl, rfl, rfl, trivial⟩
    · refine s_44 62 rfl rfl ?_
      refine s_25 6 64 rfl rfl ?_
      refine s_42 65 rfl rfl ?_
      refine s_180R 0 22 68 22 f_2_6 jw_281 rfl rfl ?_
      refine s_42 69 rfl rfl ?_
      refine s_180R 0 25 72 25 f_2_7 jw_282 rfl rfl ?_
      refine s_182I 0 75 75 75 (m_7_pass l _ _ _ _ _) rfl k_7_pass jc_7 jw_1323 jw_853 jw_854 rfl rfl rfl rfl rfl (fun x7 h8 => ?_)
      refine s_154 0 7 82 78 rfl rfl ?_ ?_
      · exact s_jmp (v_2_judge_82 l k11 hk11 _ _ _ _ _ _ _ _) ⟨rfl, rfl, rfl, rfl, rfl, rfl, rfl, trivial⟩
      · refine s_16 34 80 34 jbp_34 rfl ?_
        refine s_jmp (ls' := [(0, .ref a0), (1, .ref a1), (2, .ref a2), (3, .long a3), (5, .int a5), (6, .ref a6), (7, .int s0)]) ?_ ⟨rfl, rfl, rfl, rfl, rfl, rfl, rfl, trivial⟩
        refine s_54 7 82 rfl rfl ?_
        exact s_jmp (v_2_judge_82 l k11 hk11 _ _ _ _ _ _ _ _) ⟨rfl, rfl, rfl, rfl, rfl, rfl, rfl, trivial⟩
theorem v_2_judge_221 (l : Launch)  (s0 : Int32) (H : jH) : JV l mi_2_judge jeI 221 [] [.int s0] H (B_2_judge_221  s0 H) := by
  unfold B_2_judge_221
  exact s_172 rfl rfl
theorem v_2_judge_220 (l : Launch)   (H : jH) : JV l mi_2_judge jeI 220 [] [] H (B_2_judge_220   H) := by
  unfold B_2_judge_220
  refine s_3 221 rfl ?_
  exact s_jmp (v_2_judge_221 l _ _) trivial
theorem v_2_judge_188 (l : Launch)  (a1 : Nat) (a3 : Int64) (s0 : Int64) (H : jH) : JV l mi_2_judge jeI 188 [(1, .ref a1), (3, .long a3)] [.long s0] H (B_2_judge_188  a1 a3 s0 H) := by
  unfold B_2_judge_188
  refine s_jmp (ls' := [(1, .ref a1), (3, .long a3)]) ?_ ⟨rfl, rfl, trivial⟩
  refine s_55 6 190 rfl rfl ?_
  refine s_43 191 rfl rfl ?_
  refine s_180R 0 63 194 63 f_0_4 jw_335 rfl rfl ?_
  refine s_190 195 113 jm_113 rfl ?_
  refine s_158 0 25 220 198 rfl rfl ?_ ?_
  · exact s_jmp (v_2_judge_220 l _) trivial
  · refine s_43 199 rfl rfl ?_
    refine s_180R 0 63 202 63 f_0_4 jw_335 rfl rfl ?_
    refine s_3 203 rfl ?_
    refine s_50 204 113 jt_113 rfl ?_
    refine s_180L 0 88 207 88 f_10_6 jw_736 rfl rfl ?_
    refine s_22 6 209 rfl rfl ?_
    refine s_33 210 rfl rfl ?_
    refine s_97 211 rfl ?_
    refine s_148_158 0 8 220 212 215 rfl rfl rfl ?_ ?_
    · exact s_jmp (v_2_judge_220 l _) trivial
    · refine s_16 35 217 35 jbp_35 rfl ?_
      refine s_167 0 4 221 rfl rfl ?_
      exact s_jmp (v_2_judge_221 l _ _) trivial
theorem v_2_judge_11 (l : Launch) (k11 : Nat → Nat → Nat → Int64 → Int32 → jH → Option (Int32 × jH)) (hk11 : ∀ a0 a1 a2 a3 a5 H, JV l mi_2_judge jeI 11 [(0, .ref a0), (1, .ref a1), (2, .ref a2), (3, .long a3), (5, .int a5)] [] H (k11 a0 a1 a2 a3 a5 H)) (a0 : Nat) (a1 : Nat) (a2 : Nat) (a3 : Int64) (a5 : Int32) (H : jH) : JV l mi_2_judge jeI 11 [(0, .ref a0), (1, .ref a1), (2, .ref a2), (3, .long a3), (5, .int a5)] [] H (B_2_judge_11 k11 a0 a1 a2 a3 a5 H) := by
  unfold B_2_judge_11
  refine s_21 5 13 rfl rfl ?_
  refine s_43 14 rfl rfl ?_
  refine s_180R 0 63 17 63 f_0_4 jw_335 rfl rfl ?_
  refine s_190 18 113 jm_113 rfl ?_
  refine s_162 0 144 162 21 rfl rfl ?_ ?_
  · refine s_43 163 rfl rfl ?_
    refine s_180I 0 68 166 68 f_0_6 jw_339 rfl rfl ?_
    refine s_16 32 168 32 jbp_32 rfl ?_
    refine s_108 169 rfl ?_
    refine s_54L 5 171 rfl rfl (fun x9 => ?_)
    refine s_21 5 173 rfl rfl ?_
    refine s_16 62 175 62 jbp_62 rfl ?_
    refine s_164 0 7 182 178 rfl rfl ?_ ?_
    · refine s_20 0 93 185 93 5000000000 rfl jw_1328 rfl ?_
      refine s_21 5 187 rfl rfl ?_
      refine s_123 188 rfl ?_
      exact s_jmp (v_2_judge_188 l _ _ _ _) ⟨rfl, rfl, trivial⟩
    · refine s_9 179 rfl ?_
      refine s_167 0 9 188 rfl rfl ?_
      exact s_jmp (v_2_judge_188 l _ _ _ _) ⟨rfl, rfl, trivial⟩
  · refine s_43 22 rfl rfl ?_
    refine s_180R 0 63 25 63 f_0_4 jw_335 rfl rfl ?_
    refine s_21 5 27 rfl rfl ?_
    refine s_50 28 113 jt_113 rfl ?_
    refine s_58L 6 30 rfl rfl (fun x10 => ?_)
    refine s_21 5 32 rfl rfl ?_
    refine s_154 0 7 39 35 rfl rfl ?_ ?_
    · refine s_42 40 rfl rfl ?_
      refine s_25 6 42 rfl rfl ?_
      refine s_43 43 rfl rfl ?_
      refine s_180I 0 68 46 68 f_0_6 jw_339 rfl rfl ?_
      refine s_182I 0 71 49 71 (m_2_take l _ _ _ _) rfl k_2_take jc_2 jw_1314 jw_1316 jps_41 rfl rfl rfl rfl rfl (fun x11 h12 => ?_)
      exact s_jmp (v_2_judge_49 l k11 hk11 _ _ _ _ _ _ _ _) ⟨rfl, rfl, rfl, rfl, rfl, rfl, trivial⟩
    · refine s_3 36 rfl ?_
      refine s_167 0 13 49 rfl rfl ?_
      exact s_jmp (v_2_judge_49 l k11 hk11 _ _ _ _ _ _ _ _) ⟨rfl, rfl, rfl, rfl, rfl, rfl, trivial⟩
theorem w_2_judge_11 (l : Launch)  (n : Nat) : ∀ a0 a1 a2 a3 a5 H, JV l mi_2_judge jeI 11 [(0, .ref a0), (1, .ref a1), (2, .ref a2), (3, .long a3), (5, .int a5)] [] H (F_2_judge_11  n a0 a1 a2 a3 a5 H) := by
  induction n with
  | zero => intro _ _ _ _ _ _; exact s_none
  | succ n ih => intro a0 a1 a2 a3 a5 H; exact v_2_judge_11 l (F_2_judge_11  n) ih a0 a1 a2 a3 a5 H
theorem v_2_judge (l : Launch) (a0 : Nat) (a1 : Nat) (a2 : Nat) (H : jH) : JV l mi_2_judge jeI 0 [(0, .ref a0), (1, .ref a1), (2, .ref a2)] [] H (F_2_judge a0 a1 a2 H) := by
  unfold F_2_judge
  refine s_9 1 rfl ?_
  refine s_66 2 rfl rfl ?_
  refine s_44 3 rfl rfl ?_
  refine s_16 24 5 24 jbp_24 rfl ?_
  refine s_182V 0 57 8 57 (m_7_begin l _ _ _) rfl k_7_begin jc_7 jw_1313 jw_849 jw_850 rfl rfl rfl rfl rfl (fun x13 h14 => ?_)
  refine s_3 9 rfl ?_
  refine s_54 5 11 rfl rfl ?_
  exact s_jmp (w_2_judge_11 l jfuel _ _ _ _ _ _) ⟨rfl, rfl, rfl, rfl, rfl, trivial⟩
theorem m_2_judge (l : Launch) (a0 : Nat) (a1 : Nat) (a2 : Nat) (H : jH) : JMet l y_2_judge prog_4_method_7_code mi_2_judge jeI [.ref a0, .ref a1, .ref a2] H (F_2_judge a0 a1 a2 H) := jmet_of n_2_judge (by decide) ⟨rfl, rfl⟩ (Nat.le_of_ble_eq_true rfl) (v_2_judge l a0 a1 a2 H)
def mi_1_adopt : jM := (187638715866119551919199169451537640713937174239740277626326305876920572615291097053662488783417446922135334123458974433546392615460393606489806216362537587364321956710302440047584425525018423625606073118372266935807016329966469637240016111944528967649964155508712761096753193678694552060718241071238827940650493401710477777208941274290918615321337949731067435775464499159430405273896766428722902862287675449930596046128291065902401556825406873551868187440013213703081384110223957813827218127740306130227717496016061780332127782122135290666, 224, 9, "CoinNode$Chain", some FieldType.int, "adopt", 6, 198)
def y_1_adopt : MethodName := ⟨"CoinNode$Chain", "adopt", "(LCoinNode$Block;)I"⟩
theorem n_1_adopt : jn_is prog_3_method_5_code mi_1_adopt.1 mi_1_adopt.2.1 := by unfold jn_is; decide +kernel
theorem k_1_adopt : jmok y_1_adopt prog_3_method_5_code mi_1_adopt 1 := ⟨jw_1273, jw_9, ⟨by decide, by decide⟩, by decide +kernel⟩
theorem v_1_adopt_189 (l : Launch) (k50 : Nat → Nat → Int32 → Int32 → Int32 → jH → Option (Int32 × jH)) (hk50 : ∀ a0 a1 a2 a3 a4 H, JV l mi_1_adopt jeI 50 [(0, .ref a0), (1, .ref a1), (2, .int a2), (3, .int a3), (4, .int a4)] [] H (k50 a0 a1 a2 a3 a4 H)) (a0 : Nat) (a1 : Nat) (a3 : Int32) (a4 : Int32) (a8 : Int32) (s0 : Int32) (H : jH) : JV l mi_1_adopt jeI 189 [(0, .ref a0), (1, .ref a1), (3, .int a3), (4, .int a4), (8, .int a8)] [.int s0] H (B_1_adopt_189 k50 a0 a1 a3 a4 a8 s0 H) := by
  unfold B_1_adopt_189
  refine s_61 190 rfl rfl ?_
  refine s_42 191 rfl rfl ?_
  refine s_42 192 rfl rfl ?_
  refine s_180R 0 20 195 20 f_1_8 jw_392 rfl rfl ?_
  refine s_21 8 197 rfl rfl ?_
  refine s_50 198 114 jt_114 rfl ?_
  refine s_182V 0 161 201 161 (m_1_condemn l _ _ _) rfl k_1_condemn jc_1 jw_1333 jw_1335 jps_44 rfl rfl rfl rfl rfl (fun x1 h2 => ?_)
  refine s_132L 4 1 204 1 ji_1 rfl rfl rfl (fun x3 => ?_)
  refine s_167 255 102 50 rfl rfl ?_
  exact s_jmp (hk50 _ _ _ _ _ _) ⟨rfl, rfl, rfl, rfl, rfl, trivial⟩
theorem v_1_adopt_156 (l : Launch) (k50 : Nat → Nat → Int32 → Int32 → Int32 → jH → Option (Int32 × jH)) (hk50 : ∀ a0 a1 a2 a3 a4 H, JV l mi_1_adopt jeI 50 [(0, .ref a0), (1, .ref a1), (2, .int a2), (3, .int a3), (4, .int a4)] [] H (k50 a0 a1 a2 a3 a4 H)) (a0 : Nat) (a1 : Nat) (a2 : Int32) (a3 : Int32) (a4 : Int32) (a5 : Nat) (a6 : Int32) (a7 : Int32) (a8 : Int32) (H : jH) : JV l mi_1_adopt jeI 156 [(0, .ref a0), (1, .ref a1), (2, .int a2), (3, .int a3), (4, .int a4), (5, .ref a5), (6, .int a6), (7, .int a7), (8, .int a8)] [] H (B_1_adopt_156 k50 a0 a1 a2 a3 a4 a5 a6 a7 a8 H) := by
  unfold B_1_adopt_156
  refine s_21 7 158 rfl rfl ?_
  refine s_154 0 13 171 161 rfl rfl ?_ ?_
  · refine s_42 172 rfl rfl ?_
    refine s_180R 0 20 175 20 f_1_8 jw_392 rfl rfl ?_
    refine s_21 8 177 rfl rfl ?_
    refine s_50 178 114 jt_114 rfl ?_
    refine s_43 179 rfl rfl ?_
    refine s_166 0 8 187 182 rfl rfl ?_ ?_
    · refine s_16 22 189 22 jbp_22 rfl ?_
      exact s_jmp (v_1_adopt_189 l k50 hk50 _ _ _ _ _ _ _) ⟨rfl, rfl, rfl, rfl, rfl, trivial⟩
    · refine s_21 7 184 rfl rfl ?_
      refine s_167 0 5 189 rfl rfl ?_
      exact s_jmp (v_1_adopt_189 l k50 hk50 _ _ _ _ _ _ _) ⟨rfl, rfl, rfl, rfl, rfl, trivial⟩
  · refine s_42 162 rfl rfl ?_
    refine s_21 6 164 rfl rfl ?_
    refine s_25 5 166 rfl rfl ?_
    refine s_182V 0 157 169 157 (m_1_move l _ _ _ _) rfl k_1_move jc_1 jw_1329 jw_1331 jps_43 rfl rfl rfl rfl rfl (fun x4 h5 => ?_)
    refine s_28 170 rfl rfl ?_
    exact s_172 rfl rfl
theorem v_1_adopt_115 (l : Launch) (k50 : Nat → Nat → Int32 → Int32 → Int32 → jH → Option (Int32 × jH)) (hk50 : ∀ a0 a1 a2 a3 a4 H, JV l mi_1_adopt jeI 50 [(0, .ref a0), (1, .ref a1), (2, .int a2), (3, .int a3), (4, .int a4)] [] H (k50 a0 a1 a2 a3 a4 H)) (k115 : Nat → Nat → Int32 → Int32 → Int32 → Nat → Int32 → Int32 → Int32 → jH → Option (Int32 × jH)) (hk115 : ∀ a0 a1 a2 a3 a4 a5 a6 a7 a8 H, JV l mi_1_adopt jeI 115 [(0, .ref a0), (1, .ref a1), (2, .int a2), (3, .int a3), (4, .int a4), (5, .ref a5), (6, .int a6), (7, .int a7), (8, .int a8)] [] H (k115 a0 a1 a2 a3 a4 a5 a6 a7 a8 H)) (a0 : Nat) (a1 : Nat) (a2 : Int32) (a3 : Int32) (a4 : Int32) (a5 : Nat) (a6 : Int32) (a7 : Int32) (a8 : Int32) (H : jH) : JV l mi_1_adopt jeI 115 [(0, .ref a0), (1, .ref a1), (2, .int a2), (3, .int a3), (4, .int a4), (5, .ref a5), (6, .int a6), (7, .int a7), (8, .int a8)] [] H (B_1_adopt_115 k50 k115 a0 a1 a2 a3 a4 a5 a6 a7 a8 H) := by
  unfold B_1_adopt_115
  refine s_21 7 117 rfl rfl ?_
  refine s_154 0 39 156 120 rfl rfl ?_ ?_
  · exact s_jmp (v_1_adopt_156 l k50 hk50 _ _ _ _ _ _ _ _ _ _) ⟨rfl, rfl, rfl, rfl, rfl, rfl, rfl, rfl, rfl, trivial⟩
  · refine s_21 8 122 rfl rfl ?_
    refine s_25 5 124 rfl rfl ?_
    refine s_180I 0 78 127 78 f_0_6 jw_337 rfl rfl ?_
    refine s_162 0 29 156 130 rfl rfl ?_ ?_
    · exact s_jmp (v_1_adopt_156 l k50 hk50 _ _ _ _ _ _ _ _ _ _) ⟨rfl, rfl, rfl, rfl, rfl, rfl, rfl, rfl, rfl, trivial⟩
    · refine s_132L 8 1 133 1 ji_1 rfl rfl rfl (fun x6 => ?_)
      refine s_42 134 rfl rfl ?_
      refine s_180R 0 51 137 51 f_1_1 jw_382 rfl rfl ?_
      refine s_42 138 rfl rfl ?_
      refine s_180R 0 20 141 20 f_1_8 jw_392 rfl rfl ?_
      refine s_21 8 143 rfl rfl ?_
      refine s_50 144 114 jt_114 rfl ?_
      refine s_42 145 rfl rfl ?_
      refine s_180R 0 55 148 55 f_1_2 jw_383 rfl rfl ?_
      refine s_182I 0 151 151 151 (m_2_judge l _ _ _ _) rfl k_2_judge jc_2 jw_1309 jw_1310 jw_1311 rfl rfl rfl rfl rfl (fun x7 h8 => ?_)
      refine s_54 7 153 rfl rfl ?_
      refine s_167 255 218 115 rfl rfl ?_
      exact s_jmp (hk115 _ _ _ _ _ _ _ _ _ _) ⟨rfl, rfl, rfl, rfl, rfl, rfl, rfl, rfl, rfl, trivial⟩
theorem w_1_adopt_115 (l : Launch) (k50 : Nat → Nat → Int32 → Int32 → Int32 → jH → Option (Int32 × jH)) (hk50 : ∀ a0 a1 a2 a3 a4 H, JV l mi_1_adopt jeI 50 [(0, .ref a0), (1, .ref a1), (2, .int a2), (3, .int a3), (4, .int a4)] [] H (k50 a0 a1 a2 a3 a4 H)) (n : Nat) : ∀ a0 a1 a2 a3 a4 a5 a6 a7 a8 H, JV l mi_1_adopt jeI 115 [(0, .ref a0), (1, .ref a1), (2, .int a2), (3, .int a3), (4, .int a4), (5, .ref a5), (6, .int a6), (7, .int a7), (8, .int a8)] [] H (F_1_adopt_115 k50 n a0 a1 a2 a3 a4 a5 a6 a7 a8 H) := by
  induction n with
  | zero => intro _ _ _ _ _ _ _ _ _ _; exact s_none
  | succ n ih => intro a0 a1 a2 a3 a4 a5 a6 a7 a8 H; exact v_1_adopt_115 l k50 hk50 (F_1_adopt_115 k50 n) ih a0 a1 a2 a3 a4 a5 a6 a7 a8 H
theorem v_1_adopt_106 (l : Launch) (k50 : Nat → Nat → Int32 → Int32 → Int32 → jH → Option (Int32 × jH)) (hk50 : ∀ a0 a1 a2 a3 a4 H, JV l mi_1_adopt jeI 50 [(0, .ref a0), (1, .ref a1), (2, .int a2), (3, .int a3), (4, .int a4)] [] H (k50 a0 a1 a2 a3 a4 H)) (a0 : Nat) (a1 : Nat) (a2 : Int32) (a4 : Int32) (a5 : Nat) (a6 : Int32) (H : jH) : JV l mi_1_adopt jeI 106 [(0, .ref a0), (1, .ref a1), (2, .int a2), (4, .int a4), (5, .ref a5), (6, .int a6)] [] H (B_1_adopt_106 k50 a0 a1 a2 a4 a5 a6 H) := by
  unfold B_1_adopt_106
  refine s_4 107 rfl ?_
  refine s_62 108 rfl rfl ?_
  refine s_3 109 rfl ?_
  refine s_54 7 111 rfl rfl ?_
  refine s_21 6 113 rfl rfl ?_
  refine s_54 8 115 rfl rfl ?_
  exact s_jmp (w_1_adopt_115 l k50 hk50 jfuel _ _ _ _ _ _ _ _ _ _) ⟨rfl, rfl, rfl, rfl, rfl, rfl, rfl, rfl, rfl, trivial⟩
theorem v_1_adopt_100 (l : Launch) (k50 : Nat → Nat → Int32 → Int32 → Int32 → jH → Option (Int32 × jH)) (hk50 : ∀ a0 a1 a2 a3 a4 H, JV l mi_1_adopt jeI 50 [(0, .ref a0), (1, .ref a1), (2, .int a2), (3, .int a3), (4, .int a4)] [] H (k50 a0 a1 a2 a3 a4 H)) (a0 : Nat) (a1 : Nat) (a2 : Int32) (a4 : Int32) (a5 : Nat) (a6 : Int32) (H : jH) : JV l mi_1_adopt jeI 100 [(0, .ref a0), (1, .ref a1), (2, .int a2), (4, .int a4), (5, .ref a5), (6, .int a6)] [] H (B_1_adopt_100 k50 a0 a1 a2 a4 a5 a6 H) := by
  unfold B_1_adopt_100
  refine s_42 101 rfl rfl ?_
  refine s_21 6 103 rfl rfl ?_
  refine s_182V 0 147 106 147 (m_1_replay l _ _ _) rfl k_1_replay jc_1 jw_1290 jw_1292 jps_39 rfl rfl rfl rfl rfl (fun x9 h10 => ?_)
  exact s_jmp (v_1_adopt_106 l k50 hk50 _ _ _ _ _ _ _) ⟨rfl, rfl, rfl, rfl, rfl, rfl, trivial⟩
theorem v_1_adopt_222 (l : Launch)  (a2 : Int32) (H : jH) : JV l mi_1_adopt jeI 222 [(2, .int a2)] [] H (B_1_adopt_222  a2 H) := by
  unfold B_1_adopt_222
  refine s_28 223 rfl rfl ?_
  exact s_172 rfl rfl
theorem v_1_adopt_207 (l : Launch)  (a0 : Nat) (a2 : Int32) (a3 : Int32) (H : jH) : JV l mi_1_adopt jeI 207 [(0, .ref a0), (2, .int a2), (3, .int a3)] [] H (B_1_adopt_207  a0 a2 a3 H) := by
  unfold B_1_adopt_207
  refine s_29 208 rfl rfl ?_
  refine s_153 0 14 222 211 rfl rfl ?_ ?_
  · exact s_jmp (v_1_adopt_222 l _ _) ⟨rfl, trivial⟩
  · refine s_42 212 rfl rfl ?_
    refine s_42 213 rfl rfl ?_
    refine s_180R 0 74 216 74 f_1_6 jw_389 rfl rfl ?_
    refine s_180I 0 78 219 78 f_0_6 jw_337 rfl rfl ?_
    refine s_182V 0 147 222 147 (m_1_replay l _ _ _) rfl k_1_replay jc_1 jw_1290 jw_1292 jps_39 rfl rfl rfl rfl rfl (fun x11 h12 => ?_)
    exact s_jmp (v_1_adopt_222 l _ _) ⟨rfl, trivial⟩
theorem v_1_adopt_50 (l : Launch) (k50 : Nat → Nat → Int32 → Int32 → Int32 → jH → Option (Int32 × jH)) (hk50 : ∀ a0 a1 a2 a3 a4 H, JV l mi_1_adopt jeI 50 [(0, .ref a0), (1, .ref a1), (2, .int a2), (3, .int a3), (4, .int a4)] [] H (k50 a0 a1 a2 a3 a4 H)) (a0 : Nat) (a1 : Nat) (a2 : Int32) (a3 : Int32) (a4 : Int32) (H : jH) : JV l mi_1_adopt jeI 50 [(0, .ref a0), (1, .ref a1), (2, .int a2), (3, .int a3), (4, .int a4)] [] H (B_1_adopt_50 k50 a0 a1 a2 a3 a4 H) := by
  unfold B_1_adopt_50
  refine s_21 4 52 rfl rfl ?_
  refine s_17 1 44 55 300 jsp_1_44 rfl ?_
  refine s_162 0 152 207 58 rfl rfl ?_ ?_
  · exact s_jmp (v_1_adopt_207 l _ _ _ _) ⟨rfl, rfl, rfl, trivial⟩
  · refine s_42 59 rfl rfl ?_
    refine s_182R 0 140 62 140 (m_1_best l _ _) rfl k_1_best jc_1 jw_1278 jw_1280 jps_37 rfl rfl rfl rfl rfl (fun x13 h14 => ?_)
    refine s_58 5 64 rfl rfl ?_
    refine s_25 5 66 rfl rfl ?_
    refine s_42 67 rfl rfl ?_
    refine s_180R 0 74 70 74 f_1_6 jw_389 rfl rfl ?_
    refine s_166 0 6 76 73 rfl rfl ?_ ?_
    · refine s_42 77 rfl rfl ?_
      refine s_25 5 79 rfl rfl ?_
      refine s_182I 0 144 82 144 (m_1_layWay l _ _ _) rfl k_1_layWay jc_1 jw_1282 jw_1284 jps_38 rfl rfl rfl rfl rfl (fun x15 h16 => ?_)
      refine s_54 6 84 rfl rfl ?_
      refine s_29 85 rfl rfl ?_
      refine s_154 0 15 100 88 rfl rfl ?_ ?_
      · exact s_jmp (v_1_adopt_100 l k50 hk50 _ _ _ _ _ _ _) ⟨rfl, rfl, rfl, rfl, rfl, rfl, trivial⟩
      · refine s_21 6 90 rfl rfl ?_
        refine s_42 91 rfl rfl ?_
        refine s_180R 0 74 94 74 f_1_6 jw_389 rfl rfl ?_
        refine s_180I 0 78 97 78 f_0_6 jw_337 rfl rfl ?_
        refine s_162 0 9 106 100 rfl rfl ?_ ?_
        · exact s_jmp (v_1_adopt_106 l k50 hk50 _ _ _ _ _ _ _) ⟨rfl, rfl, rfl, rfl, rfl, rfl, trivial⟩
        · exact s_jmp (v_1_adopt_100 l k50 hk50 _ _ _ _ _ _ _) ⟨rfl, rfl, rfl, rfl, rfl, rfl, trivial⟩
    · refine s_167 0 134 207 rfl rfl ?_
      exact s_jmp (v_1_adopt_207 l _ _ _ _) ⟨rfl, rfl, rfl, trivial⟩
theorem w_1_adopt_50 (l : Launch)  (n : Nat) : ∀ a0 a1 a2 a3 a4 H, JV l mi_1_adopt jeI 50 [(0, .ref a0), (1, .ref a1), (2, .int a2), (3, .int a3), (4, .int a4)] [] H (F_1_adopt_50  n a0 a1 a2 a3 a4 H) := by
  induction n with
  | zero => intro _ _ _ _ _ _; exact s_none
  | succ n ih => intro a0 a1 a2 a3 a4 H; exact v_1_adopt_50 l (F_1_adopt_50  n) ih a0 a1 a2 a3 a4 H
theorem v_1_adopt (l : Launch) (a0 : Nat) (a1 : Nat) (H : jH) : JV l mi_1_adopt jeI 0 [(0, .ref a0), (1, .ref a1)] [] H (F_1_adopt a0 a1 H) := by
  unfold F_1_adopt
  refine s_42 1 rfl rfl ?_
  refine s_3 2 rfl ?_
  refine s_181I 0 133 5 133 f_1_10 rfl rfl jw_396 rfl rfl (fun h17 => ?_)
  refine s_42 6 rfl rfl ?_
  refine s_180I 0 70 9 70 f_1_4 jw_385 rfl rfl ?_
  refine s_17 1 44 12 300 jsp_1_44 rfl ?_
  refine s_161 0 6 18 15 rfl rfl ?_ ?_
  · refine s_42 19 rfl rfl ?_
    refine s_43 20 rfl rfl ?_
    refine s_182V 0 136 23 136 (m_1_setWork l _ _ _) rfl k_1_setWork jc_1 jw_1274 jw_1276 jps_36 rfl rfl rfl rfl rfl (fun x18 h19 => ?_)
    refine s_42 24 rfl rfl ?_
    refine s_180R 0 13 27 13 f_1_3 jw_384 rfl rfl ?_
    refine s_42 28 rfl rfl ?_
    refine s_180I 0 70 31 70 f_1_4 jw_385 rfl rfl ?_
    refine s_43 32 rfl rfl ?_
    refine s_83 33 114 0 js_114 jc_0 rfl (fun h20 => ?_)
    refine s_42 34 rfl rfl ?_
    refine s_89 35 rfl rfl ?_
    refine s_180I 0 70 38 70 f_1_4 jw_385 rfl rfl ?_
    refine s_4 39 rfl ?_
    refine s_96 40 rfl ?_
    refine s_181I 0 70 43 70 f_1_4 rfl rfl jw_385 rfl rfl (fun h21 => ?_)
    refine s_3 44 rfl ?_
    refine s_61 45 rfl rfl ?_
    refine s_3 46 rfl ?_
    refine s_62 47 rfl rfl ?_
    refine s_3 48 rfl ?_
    refine s_54 4 50 rfl rfl ?_
    exact s_jmp (w_1_adopt_50 l jfuel _ _ _ _ _ _) ⟨rfl, rfl, rfl, rfl, rfl, trivial⟩
  · refine s_16 30 17 30 jbp_30 rfl ?_
    exact s_172 rfl rfl
theorem m_1_adopt (l : Launch) (a0 : Nat) (a1 : Nat) (H : jH) : JMet l y_1_adopt prog_3_method_5_code mi_1_adopt jeI [.ref a0, .ref a1] H (F_1_adopt a0 a1 H) := jmet_of n_1_adopt (by decide) ⟨rfl, rfl⟩ (Nat.le_of_ble_eq_true rfl) (v_1_adopt l a0 a1 H)
def mi_0_isFaulty : jM := (166189265828815907121592980070305884097807365779103325838216180245827069983559150675373316316684623659769496109744753333342217932434796184703560118367474881706177784740264963, 72, 4, "CoinNode$Block", some FieldType.boolean, "isFaulty", 4, 90)
def y_0_isFaulty : MethodName := ⟨"CoinNode$Block", "isFaulty", "()Z"⟩
theorem n_0_isFaulty : jn_is prog_2_method_5_code mi_0_isFaulty.1 mi_0_isFaulty.2.1 := by unfold jn_is; decide +kernel
theorem k_0_isFaulty : jmok y_0_isFaulty prog_2_method_5_code mi_0_isFaulty 0 := ⟨jw_1267, jw_10, ⟨by decide, by decide⟩, by decide +kernel⟩
theorem v_0_isFaulty_57 (l : Launch) (k2 : Nat → Int32 → jH → Option (Int32 × jH)) (hk2 : ∀ a0 a1 H, JV l mi_0_isFaulty jeI 2 [(0, .ref a0), (1, .int a1)] [] H (k2 a0 a1 H)) (a0 : Nat) (a1 : Int32) (s0 : Int32) (H : jH) : JV l mi_0_isFaulty jeI 57 [(0, .ref a0), (1, .int a1)] [.int s0] H (B_0_isFaulty_57 k2 a0 a1 s0 H) := by
  unfold B_0_isFaulty_57
  refine s_62 58 rfl rfl ?_
  refine s_29 59 rfl rfl ?_
  refine s_153 0 5 64 62 rfl rfl ?_ ?_
  · refine s_132L 1 1 67 1 ji_1 rfl rfl rfl (fun x1 => ?_)
    refine s_167 255 191 2 rfl rfl ?_
    exact s_jmp (hk2 _ _ _) ⟨rfl, rfl, trivial⟩
  · refine s_4 63 rfl ?_
    exact s_172Z rfl rfl
theorem v_0_isFaulty_37 (l : Launch) (k2 : Nat → Int32 → jH → Option (Int32 × jH)) (hk2 : ∀ a0 a1 H, JV l mi_0_isFaulty jeI 2 [(0, .ref a0), (1, .int a1)] [] H (k2 a0 a1 H)) (a0 : Nat) (a1 : Int32) (H : jH) : JV l mi_0_isFaulty jeI 37 [(0, .ref a0), (1, .int a1)] [] H (B_0_isFaulty_37 k2 a0 a1 H) := by
  unfold B_0_isFaulty_37
  refine s_4 38 rfl ?_
  refine s_167 0 19 57 rfl rfl ?_
  exact s_jmp (v_0_isFaulty_57 l k2 hk2 _ _ _ _) ⟨rfl, rfl, trivial⟩
theorem v_0_isFaulty_2 (l : Launch) (k2 : Nat → Int32 → jH → Option (Int32 × jH)) (hk2 : ∀ a0 a1 H, JV l mi_0_isFaulty jeI 2 [(0, .ref a0), (1, .int a1)] [] H (k2 a0 a1 H)) (a0 : Nat) (a1 : Int32) (H : jH) : JV l mi_0_isFaulty jeI 2 [(0, .ref a0), (1, .int a1)] [] H (B_0_isFaulty_2 k2 a0 a1 H) := by
  unfold B_0_isFaulty_2
  refine s_27 3 rfl rfl ?_
  refine s_42 4 rfl rfl ?_
  refine s_180R 0 17 7 17 f_0_4 jw_333 rfl rfl ?_
  refine s_190 8 113 jm_113 rfl ?_
  refine s_162 0 62 70 11 rfl rfl ?_ ?_
  · refine s_3 71 rfl ?_
    exact s_172Z rfl rfl
  · refine s_42 12 rfl rfl ?_
    refine s_180R 0 17 15 17 f_0_4 jw_333 rfl rfl ?_
    refine s_27 16 rfl rfl ?_
    refine s_50 17 113 jt_113 rfl ?_
    refine s_77L 18 rfl rfl (fun x2 => ?_)
    refine s_27 19 rfl rfl ?_
    refine s_154 0 26 45 22 rfl rfl ?_ ?_
    · refine s_44 46 rfl rfl ?_
      refine s_182I 0 99 49 99 (m_10_fault l _ _) rfl k_10_fault jc_10 jw_1269 jw_801 jw_802 rfl rfl rfl rfl rfl (fun x3 h4 => ?_)
      refine s_153 0 7 56 52 rfl rfl ?_ ?_
      · refine s_3 57 rfl ?_
        exact s_jmp (v_0_isFaulty_57 l k2 hk2 _ _ _ _) ⟨rfl, rfl, trivial⟩
      · refine s_4 53 rfl ?_
        refine s_167 0 4 57 rfl rfl ?_
        exact s_jmp (v_0_isFaulty_57 l k2 hk2 _ _ _ _) ⟨rfl, rfl, trivial⟩
    · refine s_44 23 rfl rfl ?_
      refine s_180R 0 92 26 92 f_10_5 jw_731 rfl rfl ?_
      refine s_190 27 100 jm_100 rfl ?_
      refine s_153 0 10 37 30 rfl rfl ?_ ?_
      · exact s_jmp (v_0_isFaulty_37 l k2 hk2 _ _ _) ⟨rfl, rfl, trivial⟩
      · refine s_44 31 rfl rfl ?_
        refine s_182I 0 95 34 95 (m_10_isTooMuch l _ _) rfl k_10_isTooMuch jc_10 jw_1268 jw_805 jw_806 rfl rfl rfl rfl rfl (fun x5 h6 => ?_)
        refine s_153 0 7 41 37 rfl rfl ?_ ?_
        · refine s_3 42 rfl ?_
          refine s_167 0 15 57 rfl rfl ?_
          exact s_jmp (v_0_isFaulty_57 l k2 hk2 _ _ _ _) ⟨rfl, rfl, trivial⟩
        · exact s_jmp (v_0_isFaulty_37 l k2 hk2 _ _ _) ⟨rfl, rfl, trivial⟩
theorem w_0_isFaulty_2 (l : Launch)  (n : Nat) : ∀ a0 a1 H, JV l mi_0_isFaulty jeI 2 [(0, .ref a0), (1, .int a1)] [] H (F_0_isFaulty_2  n a0 a1 H) := by
  induction n with
  | zero => intro _ _ _; exact s_none
  | succ n ih => intro a0 a1 H; exact v_0_isFaulty_2 l (F_0_isFaulty_2  n) ih a0 a1 H
theorem v_0_isFaulty (l : Launch) (a0 : Nat) (H : jH) : JV l mi_0_isFaulty jeI 0 [(0, .ref a0)] [] H (F_0_isFaulty a0 H) := by
  unfold F_0_isFaulty
  refine s_3 1 rfl ?_
  refine s_60 2 rfl rfl ?_
  exact s_jmp (w_0_isFaulty_2 l jfuel _ _ _) ⟨rfl, rfl, trivial⟩
theorem m_0_isFaulty (l : Launch) (a0 : Nat) (H : jH) : JMet l y_0_isFaulty prog_2_method_5_code mi_0_isFaulty jeI [.ref a0] H (F_0_isFaulty a0 H) := jmet_of n_0_isFaulty (by decide) ⟨rfl, rfl⟩ (Nat.le_of_ble_eq_true rfl) (v_0_isFaulty l a0 H)
def mi_0_isRooted : jM := (12313677109229633762123883082578345475719759734522901567103073225867559232742996670558763010739198706760308354125684221631100152602215903662518592871512016761330016362210245563399684537255001179796440088490202954554653503792850563517431718951123588820359621831406411632389481211212507608913230053876463299760708741503684285821761868816717220092388784664931262034273319259716459620770865814767756062241854233991802892314648659623286614668676437394494033431723462592113181623651077832983641063034732886188783801312256465084710714119954843977167914, 226, 9, "CoinNode$Block", some FieldType.boolean, "isRooted", 3, 118)
def y_0_isRooted : MethodName := ⟨"CoinNode$Block", "isRooted", "([B[BLCoinNode$Hash;)Z"⟩
theorem n_0_isRooted : jn_is prog_2_method_4_code mi_0_isRooted.1 mi_0_isRooted.2.1 := by unfold jn_is; decide +kernel
theorem k_0_isRooted : jmok y_0_isRooted prog_2_method_4_code mi_0_isRooted 3 := ⟨jw_1260, jw_10, ⟨by decide, by decide⟩, by decide +kernel⟩
theorem v_0_isRooted_169 (l : Launch) (k83 : Nat → Nat → Nat → Nat → Int32 → Int32 → Int32 → Int32 → jH → Option (Int32 × jH)) (hk83 : ∀ a0 a1 a2 a3 a4 a5 a6 a7 H, JV l mi_0_isRooted jeI 83 [(0, .ref a0), (1, .ref a1), (2, .ref a2), (3, .ref a3), (4, .int a4), (5, .int a5), (6, .int a6), (7, .int a7)] [] H (k83 a0 a1 a2 a3 a4 a5 a6 a7 H)) (a0 : Nat) (a1 : Nat) (a2 : Nat) (a3 : Nat) (a4 : Int32) (a5 : Int32) (a6 : Int32) (a7 : Int32) (H : jH) : JV l mi_0_isRooted jeI 169 [(0, .ref a0), (1, .ref a1), (2, .ref a2), (3, .ref a3), (4, .int a4), (5, .int a5), (6, .int a6), (7, .int a7)] [] H (B_0_isRooted_169 k83 a0 a1 a2 a3 a4 a5 a6 a7 H) := by
  unfold B_0_isRooted_169
  refine s_45 170 rfl rfl ?_
  refine s_43 171 rfl rfl ?_
  refine s_16 32 173 32 jbp_32 rfl ?_
  refine s_21 7 175 rfl rfl ?_
  refine s_104 176 rfl ?_
  refine s_16 64 178 64 jbp_64 rfl ?_
  refine s_44 179 rfl rfl ?_
  refine s_182V 0 57 182 57 (m_3_name l _ _ _ _ _ _) rfl k_3_name jc_3 jw_1208 jw_363 jw_364 rfl rfl rfl rfl rfl (fun x1 h2 => ?_)
  refine s_44 183 rfl rfl ?_
  refine s_3 184 rfl ?_
  refine s_43 185 rfl rfl ?_
  refine s_16 32 187 32 jbp_32 rfl ?_
  refine s_21 6 189 rfl rfl ?_
  refine s_104 190 rfl ?_
  refine s_16 32 192 32 jbp_32 rfl ?_
  refine s_acB 0 82 195 82 jw_1262 jw_372 jw_371 jw_12 rfl rfl rfl rfl (fun h3 => ?_)
  refine s_132L 6 1 198 1 ji_1 rfl rfl rfl (fun x4 => ?_)
  refine s_132L 7 2 201 2 ji_2 rfl rfl rfl (fun x5 => ?_)
  refine s_167 255 138 83 rfl rfl ?_
  exact s_jmp (hk83 _ _ _ _ _ _ _ _ _) ⟨rfl, rfl, rfl, rfl, rfl, rfl, rfl, rfl, trivial⟩
theorem v_0_isRooted_133 (l : Launch) (k83 : Nat → Nat → Nat → Nat → Int32 → Int32 → Int32 → Int32 → jH → Option (Int32 × jH)) (hk83 : ∀ a0 a1 a2 a3 a4 a5 a6 a7 H, JV l mi_0_isRooted jeI 83 [(0, .ref a0), (1, .ref a1), (2, .ref a2), (3, .ref a3), (4, .int a4), (5, .int a5), (6, .int a6), (7, .int a7)] [] H (k83 a0 a1 a2 a3 a4 a5 a6 a7 H)) (a0 : Nat) (a1 : Nat) (a2 : Nat) (a3 : Nat) (a4 : Int32) (a5 : Int32) (a6 : Int32) (a7 : Int32) (a8 : Int32) (H : jH) : JV l mi_0_isRooted jeI 133 [(0, .ref a0), (1, .ref a1), (2, .ref a2), (3, .ref a3), (4, .int a4), (5, .int a5), (6, .int a6), (7, .int a7), (8, .int a8)] [] H (B_0_isRooted_133 k83 a0 a1 a2 a3 a4 a5 a6 a7 a8 H) := by
  unfold B_0_isRooted_133
  refine s_21 8 135 rfl rfl ?_
  refine s_153 0 34 169 138 rfl rfl ?_ ?_
  · exact s_jmp (v_0_isRooted_169 l k83 hk83 _ _ _ _ _ _ _ _ _) ⟨rfl, rfl, rfl, rfl, rfl, rfl, rfl, rfl, trivial⟩
  · refine s_16 32 140 32 jbp_32 rfl ?_
    refine s_21 7 142 rfl rfl ?_
    refine s_5 143 rfl ?_
    refine s_96 144 rfl ?_
    refine s_104 145 rfl ?_
    refine s_43 146 rfl rfl ?_
    refine s_190 147 101 jm_101 rfl ?_
    refine s_163 0 22 169 150 rfl rfl ?_ ?_
    · exact s_jmp (v_0_isRooted_169 l k83 hk83 _ _ _ _ _ _ _ _ _) ⟨rfl, rfl, rfl, rfl, rfl, rfl, rfl, rfl, trivial⟩
    · refine s_43 151 rfl rfl ?_
      refine s_16 32 153 32 jbp_32 rfl ?_
      refine s_21 7 155 rfl rfl ?_
      refine s_104 156 rfl ?_
      refine s_43 157 rfl rfl ?_
      refine s_16 32 159 32 jbp_32 rfl ?_
      refine s_21 7 161 rfl rfl ?_
      refine s_4 162 rfl ?_
      refine s_96 163 rfl ?_
      refine s_104 164 rfl ?_
      refine s_16 32 166 32 jbp_32 rfl ?_
      refine s_acB 0 82 169 82 jw_1262 jw_372 jw_371 jw_12 rfl rfl rfl rfl (fun h6 => ?_)
      exact s_jmp (v_0_isRooted_169 l k83 hk83 _ _ _ _ _ _ _ _ _) ⟨rfl, rfl, rfl, rfl, rfl, rfl, rfl, rfl, trivial⟩
theorem v_0_isRooted_104 (l : Launch) (k83 : Nat → Nat → Nat → Nat → Int32 → Int32 → Int32 → Int32 → jH → Option (Int32 × jH)) (hk83 : ∀ a0 a1 a2 a3 a4 a5 a6 a7 H, JV l mi_0_isRooted jeI 83 [(0, .ref a0), (1, .ref a1), (2, .ref a2), (3, .ref a3), (4, .int a4), (5, .int a5), (6, .int a6), (7, .int a7)] [] H (k83 a0 a1 a2 a3 a4 a5 a6 a7 H)) (a0 : Nat) (a1 : Nat) (a2 : Nat) (a3 : Nat) (a4 : Int32) (a5 : Int32) (a6 : Int32) (a7 : Int32) (s0 : Int32) (H : jH) : JV l mi_0_isRooted jeI 104 [(0, .ref a0), (1, .ref a1), (2, .ref a2), (3, .ref a3), (4, .int a4), (5, .int a5), (6, .int a6), (7, .int a7)] [.int s0] H (B_0_isRooted_104 k83 a0 a1 a2 a3 a4 a5 a6 a7 s0 H) := by
  unfold B_0_isRooted_104
  refine s_54 8 106 rfl rfl ?_
  refine s_21 8 108 rfl rfl ?_
  refine s_154 0 25 133 111 rfl rfl ?_ ?_
  · exact s_jmp (v_0_isRooted_133 l k83 hk83 _ _ _ _ _ _ _ _ _ _) ⟨rfl, rfl, rfl, rfl, rfl, rfl, rfl, rfl, rfl, trivial⟩
  · refine s_43 112 rfl rfl ?_
    refine s_16 32 114 32 jbp_32 rfl ?_
    refine s_21 7 116 rfl rfl ?_
    refine s_104 117 rfl ?_
    refine s_43 118 rfl rfl ?_
    refine s_16 32 120 32 jbp_32 rfl ?_
    refine s_21 7 122 rfl rfl ?_
    refine s_4 123 rfl ?_
    refine s_96 124 rfl ?_
    refine s_104 125 rfl ?_
    refine s_184I 0 88 128 88 (m_3_same l _ _ _ _ _) rfl k_3_same jw_1263 jw_814 rfl rfl rfl rfl rfl (fun x7 h8 => ?_)
    refine s_153 0 5 133 131 rfl rfl ?_ ?_
    · exact s_jmp (v_0_isRooted_133 l k83 hk83 _ _ _ _ _ _ _ _ _ _) ⟨rfl, rfl, rfl, rfl, rfl, rfl, rfl, rfl, rfl, trivial⟩
    · refine s_3 132 rfl ?_
      exact s_172Z rfl rfl
theorem v_0_isRooted_83 (l : Launch) (k64 : Nat → Nat → Nat → Nat → Int32 → Int32 → jH → Option (Int32 × jH)) (hk64 : ∀ a0 a1 a2 a3 a4 a5 H, JV l mi_0_isRooted jeI 64 [(0, .ref a0), (1, .ref a1), (2, .ref a2), (3, .ref a3), (4, .int a4), (5, .int a5)] [] H (k64 a0 a1 a2 a3 a4 a5 H)) (k83 : Nat → Nat → Nat → Nat → Int32 → Int32 → Int32 → Int32 → jH → Option (Int32 × jH)) (hk83 : ∀ a0 a1 a2 a3 a4 a5 a6 a7 H, JV l mi_0_isRooted jeI 83 [(0, .ref a0), (1, .ref a1), (2, .ref a2), (3, .ref a3), (4, .int a4), (5, .int a5), (6, .int a6), (7, .int a7)] [] H (k83 a0 a1 a2 a3 a4 a5 a6 a7 H)) (a0 : Nat) (a1 : Nat) (a2 : Nat) (a3 : Nat) (a4 : Int32) (a5 : Int32) (a6 : Int32) (a7 : Int32) (H : jH) : JV l mi_0_isRooted jeI 83 [(0, .ref a0), (1, .ref a1), (2, .ref a2), (3, .ref a3), (4, .int a4), (5, .int a5), (6, .int a6), (7, .int a7)] [] H (B_0_isRooted_83 k64 k83 a0 a1 a2 a3 a4 a5 a6 a7 H) := by
  unfold B_0_isRooted_83
  refine s_21 7 85 rfl rfl ?_
  refine s_21 4 87 rfl rfl ?_
  refine s_162 0 117 204 90 rfl rfl ?_ ?_
  · refine s_21 6 206 rfl rfl ?_
    refine s_54 4 208 rfl rfl ?_
    refine s_132L 5 1 211 1 ji_1 rfl rfl rfl (fun x9 => ?_)
    refine s_167 255 109 64 rfl rfl ?_
    exact s_jmp (hk64 _ _ _ _ _ _ _) ⟨rfl, rfl, rfl, rfl, rfl, rfl, trivial⟩
  · refine s_21 7 92 rfl rfl ?_
    refine s_4 93 rfl ?_
    refine s_96 94 rfl ?_
    refine s_21 4 96 rfl rfl ?_
    refine s_160 0 7 103 99 rfl rfl ?_ ?_
    · refine s_3 104 rfl ?_
      exact s_jmp (v_0_isRooted_104 l k83 hk83 _ _ _ _ _ _ _ _ _ _) ⟨rfl, rfl, rfl, rfl, rfl, rfl, rfl, rfl, trivial⟩
    · refine s_4 100 rfl ?_
      refine s_167 0 4 104 rfl rfl ?_
      exact s_jmp (v_0_isRooted_104 l k83 hk83 _ _ _ _ _ _ _ _ _ _) ⟨rfl, rfl, rfl, rfl, rfl, rfl, rfl, rfl, trivial⟩
theorem w_0_isRooted_83 (l : Launch) (k64 : Nat → Nat → Nat → Nat → Int32 → Int32 → jH → Option (Int32 × jH)) (hk64 : ∀ a0 a1 a2 a3 a4 a5 H, JV l mi_0_isRooted jeI 64 [(0, .ref a0), (1, .ref a1), (2, .ref a2), (3, .ref a3), (4, .int a4), (5, .int a5)] [] H (k64 a0 a1 a2 a3 a4 a5 H)) (n : Nat) : ∀ a0 a1 a2 a3 a4 a5 a6 a7 H, JV l mi_0_isRooted jeI 83 [(0, .ref a0), (1, .ref a1), (2, .ref a2), (3, .ref a3), (4, .int a4), (5, .int a5), (6, .int a6), (7, .int a7)] [] H (F_0_isRooted_83 k64 n a0 a1 a2 a3 a4 a5 a6 a7 H) := by
  induction n with
  | zero => intro _ _ _ _ _ _ _ _ _; exact s_none
  | succ n ih => intro a0 a1 a2 a3 a4 a5 a6 a7 H; exact v_0_isRooted_83 l k64 hk64 (F_0_isRooted_83 k64 n) ih a0 a1 a2 a3 a4 a5 a6 a7 H
theorem v_0_isRooted_214 (l : Launch)  (a0 : Nat) (a1 : Nat) (H : jH) : JV l mi_0_isRooted jeI 214 [(0, .ref a0), (1, .ref a1)] [] H (B_0_isRooted_214  a0 a1 H) := by
  unfold B_0_isRooted_214
  refine s_43 215 rfl rfl ?_
  refine s_3 216 rfl ?_
  refine s_42 217 rfl rfl ?_
  refine s_180R 0 25 220 25 f_0_0 jw_323 rfl rfl ?_
  refine s_16 37 222 37 jbp_37 rfl ?_
  refine s_184I 0 88 225 88 (m_3_same l _ _ _ _ _) rfl k_3_same jw_1263 jw_814 rfl rfl rfl rfl rfl (fun x10 h11 => ?_)
  exact s_172Z rfl rfl
theorem v_0_isRooted_64 (l : Launch) (k64 : Nat → Nat → Nat → Nat → Int32 → Int32 → jH → Option (Int32 × jH)) (hk64 : ∀ a0 a1 a2 a3 a4 a5 H, JV l mi_0_isRooted jeI 64 [(0, .ref a0), (1, .ref a1), (2, .ref a2), (3, .ref a3), (4, .int a4), (5, .int a5)] [] H (k64 a0 a1 a2 a3 a4 a5 H)) (a0 : Nat) (a1 : Nat) (a2 : Nat) (a3 : Nat) (a4 : Int32) (a5 : Int32) (H : jH) : JV l mi_0_isRooted jeI 64 [(0, .ref a0), (1, .ref a1), (2, .ref a2), (3, .ref a3), (4, .int a4), (5, .int a5)] [] H (B_0_isRooted_64 k64 a0 a1 a2 a3 a4 a5 H) := by
  unfold B_0_isRooted_64
  refine s_21 5 66 rfl rfl ?_
  refine s_16 12 68 12 jbp_12 rfl ?_
  refine s_162 0 146 214 71 rfl rfl ?_ ?_
  · exact s_jmp (v_0_isRooted_214 l _ _ _) ⟨rfl, rfl, trivial⟩
  · refine s_21 4 73 rfl rfl ?_
    refine s_4 74 rfl ?_
    refine s_164 0 140 214 77 rfl rfl ?_ ?_
    · exact s_jmp (v_0_isRooted_214 l _ _ _) ⟨rfl, rfl, trivial⟩
    · refine s_3 78 rfl ?_
      refine s_54 6 80 rfl rfl ?_
      refine s_3 81 rfl ?_
      refine s_54 7 83 rfl rfl ?_
      exact s_jmp (w_0_isRooted_83 l k64 hk64 jfuel _ _ _ _ _ _ _ _ _) ⟨rfl, rfl, rfl, rfl, rfl, rfl, rfl, rfl, trivial⟩
theorem w_0_isRooted_64 (l : Launch)  (n : Nat) : ∀ a0 a1 a2 a3 a4 a5 H, JV l mi_0_isRooted jeI 64 [(0, .ref a0), (1, .ref a1), (2, .ref a2), (3, .ref a3), (4, .int a4), (5, .int a5)] [] H (F_0_isRooted_64  n a0 a1 a2 a3 a4 a5 H) := by
  induction n with
  | zero => intro _ _ _ _ _ _ _; exact s_none
  | succ n ih => intro a0 a1 a2 a3 a4 a5 H; exact v_0_isRooted_64 l (F_0_isRooted_64  n) ih a0 a1 a2 a3 a4 a5 H
theorem v_0_isRooted_26 (l : Launch) (k26 : Nat → Nat → Nat → Nat → Int32 → Int32 → jH → Option (Int32 × jH)) (hk26 : ∀ a0 a1 a2 a3 a4 a5 H, JV l mi_0_isRooted jeI 26 [(0, .ref a0), (1, .ref a1), (2, .ref a2), (3, .ref a3), (4, .int a4), (5, .int a5)] [] H (k26 a0 a1 a2 a3 a4 a5 H)) (a0 : Nat) (a1 : Nat) (a2 : Nat) (a3 : Nat) (a4 : Int32) (a5 : Int32) (H : jH) : JV l mi_0_isRooted jeI 26 [(0, .ref a0), (1, .ref a1), (2, .ref a2), (3, .ref a3), (4, .int a4), (5, .int a5)] [] H (B_0_isRooted_26 k26 a0 a1 a2 a3 a4 a5 H) := by
  unfold B_0_isRooted_26
  refine s_21 5 28 rfl rfl ?_
  refine s_21 4 30 rfl rfl ?_
  refine s_162 0 31 61 33 rfl rfl ?_ ?_
  · refine s_3 62 rfl ?_
    refine s_54 5 64 rfl rfl ?_
    exact s_jmp (w_0_isRooted_64 l jfuel _ _ _ _ _ _ _) ⟨rfl, rfl, rfl, rfl, rfl, rfl, trivial⟩
  · refine s_42 34 rfl rfl ?_
    refine s_180R 0 17 37 17 f_0_4 jw_333 rfl rfl ?_
    refine s_21 5 39 rfl rfl ?_
    refine s_50 40 113 jt_113 rfl ?_
    refine s_180R 0 56 43 56 f_10_3 jw_720 rfl rfl ?_
    refine s_3 44 rfl ?_
    refine s_43 45 rfl rfl ?_
    refine s_16 32 47 32 jbp_32 rfl ?_
    refine s_21 5 49 rfl rfl ?_
    refine s_104 50 rfl ?_
    refine s_16 32 52 32 jbp_32 rfl ?_
    refine s_acB 0 82 55 82 jw_1262 jw_372 jw_371 jw_12 rfl rfl rfl rfl (fun h12 => ?_)
    refine s_132L 5 1 58 1 ji_1 rfl rfl rfl (fun x13 => ?_)
    refine s_167 255 224 26 rfl rfl ?_
    exact s_jmp (hk26 _ _ _ _ _ _ _) ⟨rfl, rfl, rfl, rfl, rfl, rfl, trivial⟩
theorem w_0_isRooted_26 (l : Launch)  (n : Nat) : ∀ a0 a1 a2 a3 a4 a5 H, JV l mi_0_isRooted jeI 26 [(0, .ref a0), (1, .ref a1), (2, .ref a2), (3, .ref a3), (4, .int a4), (5, .int a5)] [] H (F_0_isRooted_26  n a0 a1 a2 a3 a4 a5 H) := by
  induction n with
  | zero => intro _ _ _ _ _ _ _; exact s_none
  | succ n ih => intro a0 a1 a2 a3 a4 a5 H; exact v_0_isRooted_26 l (F_0_isRooted_26  n) ih a0 a1 a2 a3 a4 a5 H
theorem v_0_isRooted (l : Launch) (a0 : Nat) (a1 : Nat) (a2 : Nat) (a3 : Nat) (H : jH) : JV l mi_0_isRooted jeI 0 [(0, .ref a0), (1, .ref a1), (2, .ref a2), (3, .ref a3)] [] H (F_0_isRooted a0 a1 a2 a3 H) := by
  unfold F_0_isRooted
  refine s_42 1 rfl rfl ?_
  refine s_180R 0 17 4 17 f_0_4 jw_333 rfl rfl ?_
  refine s_190 5 113 jm_113 rfl ?_
  refine s_43 6 rfl rfl ?_
  refine s_190 7 101 jm_101 rfl ?_
  refine s_16 32 9 32 jbp_32 rfl ?_
  refine s_108 10 rfl ?_
  refine s_minI 0 76 13 76 jw_1261 jw_690 jw_15 jw_691 rfl rfl rfl ?_
  refine s_54L 4 15 rfl rfl (fun x14 => ?_)
  refine s_21 4 17 rfl rfl ?_
  refine s_4 18 rfl ?_
  refine s_162 0 5 23 21 rfl rfl ?_ ?_
  · refine s_3 24 rfl ?_
    refine s_54 5 26 rfl rfl ?_
    exact s_jmp (w_0_isRooted_26 l jfuel _ _ _ _ _ _ _) ⟨rfl, rfl, rfl, rfl, rfl, rfl, trivial⟩
  · refine s_3 22 rfl ?_
    exact s_172Z rfl rfl
theorem m_0_isRooted (l : Launch) (a0 : Nat) (a1 : Nat) (a2 : Nat) (a3 : Nat) (H : jH) : JMet l y_0_isRooted prog_2_method_4_code mi_0_isRooted jeI [.ref a0, .ref a1, .ref a2, .ref a3] H (F_0_isRooted a0 a1 a2 a3 H) := jmet_of n_0_isRooted (by decide) ⟨rfl, rfl⟩ (Nat.le_of_ble_eq_true rfl) (v_0_isRooted l a0 a1 a2 a3 H)
def mi_0_isShaped : jM := (293638700372074677319483613257919304309596972801143816130167268465454637712079707243869362868303216114068101191353451802824026584259920344594355637016534781737442686561751835704354043622325374094305705968784553815109204405086935127551599790044202, 102, 3, "CoinNode$Block", some FieldType.boolean, "isShaped", 1, 21)
def y_0_isShaped : MethodName := ⟨"CoinNode$Block", "isShaped", "()Z"⟩
theorem n_0_isShaped : jn_is prog_2_method_3_code mi_0_isShaped.1 mi_0_isShaped.2.1 := by unfold jn_is; decide +kernel
theorem k_0_isShaped : jmok y_0_isShaped prog_2_method_3_code mi_0_isShaped 0 := ⟨jw_1254, jw_10, ⟨by decide, by decide⟩, by decide +kernel⟩
theorem v_0_isShaped_34 (l : Launch)   (H : jH) : JV l mi_0_isShaped jeI 34 [] [] H (B_0_isShaped_34   H) := by
  unfold B_0_isShaped_34
  refine s_3 35 rfl ?_
  exact s_172Z rfl rfl
theorem v_0_isShaped_67 (l : Launch)   (H : jH) : JV l mi_0_isShaped jeI 67 [] [] H (B_0_isShaped_67   H) := by
  unfold B_0_isShaped_67
  refine s_3 68 rfl ?_
  exact s_172Z rfl rfl
theorem v_0_isShaped_71 (l : Launch) (k71 : Nat → Int32 → jH → Option (Int32 × jH)) (hk71 : ∀ a0 a2 H, JV l mi_0_isShaped jeI 71 [(0, .ref a0), (2, .int a2)] [] H (k71 a0 a2 H)) (a0 : Nat) (a2 : Int32) (H : jH) : JV l mi_0_isShaped jeI 71 [(0, .ref a0), (2, .int a2)] [] H (B_0_isShaped_71 k71 a0 a2 H) := by
  unfold B_0_isShaped_71
  refine s_28 72 rfl rfl ?_
  refine s_42 73 rfl rfl ?_
  refine s_180R 0 17 76 17 f_0_4 jw_333 rfl rfl ?_
  refine s_190 77 113 jm_113 rfl ?_
  refine s_162 0 23 100 80 rfl rfl ?_ ?_
  · refine s_4 101 rfl ?_
    exact s_172Z rfl rfl
  · refine s_42 81 rfl rfl ?_
    refine s_180R 0 17 84 17 f_0_4 jw_333 rfl rfl ?_
    refine s_28 85 rfl rfl ?_
    refine s_50 86 113 jt_113 rfl ?_
    refine s_180I 0 65 89 65 f_10_7 jw_737 rfl rfl ?_
    refine s_153 0 5 94 92 rfl rfl ?_ ?_
    · refine s_132L 2 1 97 1 ji_1 rfl rfl rfl (fun x1 => ?_)
      refine s_167 255 230 71 rfl rfl ?_
      exact s_jmp (hk71 _ _ _) ⟨rfl, rfl, trivial⟩
    · refine s_3 93 rfl ?_
      exact s_172Z rfl rfl
theorem w_0_isShaped_71 (l : Launch)  (n : Nat) : ∀ a0 a2 H, JV l mi_0_isShaped jeI 71 [(0, .ref a0), (2, .int a2)] [] H (F_0_isShaped_71  n a0 a2 H) := by
  induction n with
  | zero => intro _ _ _; exact s_none
  | succ n ih => intro a0 a2 H; exact v_0_isShaped_71 l (F_0_isShaped_71  n) ih a0 a2 H
theorem v_0_isShaped (l : Launch) (a0 : Nat) (H : jH) : JV l mi_0_isShaped jeI 0 [(0, .ref a0)] [] H (F_0_isShaped a0 H) := by
  unfold F_0_isShaped
  refine s_42 1 rfl rfl ?_
  refine s_180R 0 17 4 17 f_0_4 jw_333 rfl rfl ?_
  refine s_190 5 113 jm_113 rfl ?_
  refine s_153 0 29 34 8 rfl rfl ?_ ?_
  · exact s_jmp (v_0_isShaped_34 l _) trivial
  · refine s_42 9 rfl rfl ?_
    refine s_180R 0 17 12 17 f_0_4 jw_333 rfl rfl ?_
    refine s_3 13 rfl ?_
    refine s_50 14 113 jt_113 rfl ?_
    refine s_180R 0 62 17 62 f_10_4 jw_726 rfl rfl ?_
    refine s_190 18 100 jm_100 rfl ?_
    refine s_4 19 rfl ?_
    refine s_160 0 15 34 22 rfl rfl ?_ ?_
    · exact s_jmp (v_0_isShaped_34 l _) trivial
    · refine s_42 23 rfl rfl ?_
      refine s_180R 0 17 26 17 f_0_4 jw_333 rfl rfl ?_
      refine s_3 27 rfl ?_
      refine s_50 28 113 jt_113 rfl ?_
      refine s_180I 0 65 31 65 f_10_7 jw_737 rfl rfl ?_
      refine s_154 0 5 36 34 rfl rfl ?_ ?_
      · refine s_42 37 rfl rfl ?_
        refine s_180R 0 17 40 17 f_0_4 jw_333 rfl rfl ?_
        refine s_3 41 rfl ?_
        refine s_50 42 113 jt_113 rfl ?_
        refine s_42 43 rfl rfl ?_
        refine s_180R 0 17 46 17 f_0_4 jw_333 rfl rfl ?_
        refine s_3 47 rfl ?_
        refine s_50 48 113 jt_113 rfl ?_
        refine s_3 49 rfl ?_
        refine s_182I 0 69 52 69 (m_10_inputScript l _ _ _) rfl k_10_inputScript jc_10 jw_1255 jw_865 jw_866 rfl rfl rfl rfl rfl (fun x2 h3 => ?_)
        refine s_182I 0 73 55 73 (m_10_scriptSize l _ _ _) rfl k_10_scriptSize jc_10 jw_1256 jw_869 jw_870 rfl rfl rfl rfl rfl (fun x4 h5 => ?_)
        refine s_60 56 rfl rfl ?_
        refine s_27 57 rfl rfl ?_
        refine s_5 58 rfl ?_
        refine s_161 0 9 67 61 rfl rfl ?_ ?_
        · exact s_jmp (v_0_isShaped_67 l _) trivial
        · refine s_27 62 rfl rfl ?_
          refine s_16 100 64 100 jbp_100 rfl ?_
          refine s_164 0 5 69 67 rfl rfl ?_ ?_
          · refine s_4 70 rfl ?_
            refine s_61 71 rfl rfl ?_
            exact s_jmp (w_0_isShaped_71 l jfuel _ _ _) ⟨rfl, rfl, trivial⟩
          · exact s_jmp (v_0_isShaped_67 l _) trivial
      · exact s_jmp (v_0_isShaped_34 l _) trivial
theorem m_0_isShaped (l : Launch) (a0 : Nat) (H : jH) : JMet l y_0_isShaped prog_2_method_3_code mi_0_isShaped jeI [.ref a0] H (F_0_isShaped a0 H) := jmet_of n_0_isShaped (by decide) ⟨rfl, rfl⟩ (Nat.le_of_ble_eq_true rfl) (v_0_isShaped l a0 H)
def mi_1_byteOf : jM := (19973681314212816446441907805088148930018618980766081908182743175512927984720667, 33, 2, "CoinNode$Chain", some FieldType.int, "byteOf", 0, 0)
def y_1_byteOf : MethodName := ⟨"CoinNode$Chain", "byteOf", "([II)I"⟩
theorem n_1_byteOf : jn_is prog_3_method_14_code mi_1_byteOf.1 mi_1_byteOf.2.1 := by unfold jn_is; decide +kernel
theorem k_1_byteOf : jmok y_1_byteOf prog_3_method_14_code mi_1_byteOf 2 := ⟨jw_1242, jw_9, ⟨by decide, by decide⟩, by decide +kernel⟩
theorem v_1_byteOf_32 (l : Launch)  (s0 : Int32) (H : jH) : JV l mi_1_byteOf jeI 32 [] [.int s0] H (B_1_byteOf_32  s0 H) := by
  unfold B_1_byteOf_32
  exact s_172 rfl rfl
theorem v_1_byteOf_12 (l : Launch)   (H : jH) : JV l mi_1_byteOf jeI 12 [] [] H (B_1_byteOf_12   H) := by
  unfold B_1_byteOf_12
  refine s_3 13 rfl ?_
  refine s_167 0 19 32 rfl rfl ?_
  exact s_jmp (v_1_byteOf_32 l _ _) trivial
theorem v_1_byteOf (l : Launch) (a0 : Nat) (a1 : Int32) (H : jH) : JV l mi_1_byteOf jeI 0 [(0, .ref a0), (1, .int a1)] [] H (F_1_byteOf a0 a1 H) := by
  unfold F_1_byteOf
  refine s_27 1 rfl rfl ?_
  refine s_155 0 11 12 4 rfl rfl ?_ ?_
  · exact s_jmp (v_1_byteOf_12 l _) trivial
  · refine s_27 5 rfl rfl ?_
    refine s_7 6 rfl ?_
    refine s_108 7 rfl ?_
    refine s_42 8 rfl rfl ?_
    refine s_190 9 100 jm_100 rfl ?_
    refine s_161 0 7 16 12 rfl rfl ?_ ?_
    · refine s_42 17 rfl rfl ?_
      refine s_27 18 rfl rfl ?_
      refine s_7 19 rfl ?_
      refine s_108 20 rfl ?_
      refine s_46 21 rfl ?_
      refine s_16 8 23 8 jbp_8 rfl ?_
      refine s_27 24 rfl rfl ?_
      refine s_7 25 rfl ?_
      refine s_112 26 rfl ?_
      refine s_104 27 rfl ?_
      refine s_124 28 rfl ?_
      refine s_17 0 255 31 255 jsp_0_255 rfl ?_
      refine s_126 32 rfl ?_
      exact s_jmp (v_1_byteOf_32 l _ _) trivial
    · exact s_jmp (v_1_byteOf_12 l _) trivial
theorem m_1_byteOf (l : Launch) (a0 : Nat) (a1 : Int32) (H : jH) : JMet l y_1_byteOf prog_3_method_14_code mi_1_byteOf jeI [.ref a0, .int a1] H (F_1_byteOf a0 a1 H) := jmet_of n_1_byteOf (by decide) ⟨rfl, rfl⟩ (Nat.le_of_ble_eq_true rfl) (v_1_byteOf l a0 a1 H)
def mi_1_compact : jM := (715793238199185227959162017949495091720627461015432910688535147792985842151804679048508739458045632598706673957060486383193455485959604518481759013480713901566527108427525175348439559, 76, 3, "CoinNode$Chain", some FieldType.int, "compact", 1, 21)
def y_1_compact : MethodName := ⟨"CoinNode$Chain", "compact", "([I)I"⟩
theorem n_1_compact : jn_is prog_3_method_13_code mi_1_compact.1 mi_1_compact.2.1 := by unfold jn_is; decide +kernel
theorem k_1_compact : jmok y_1_compact prog_3_method_13_code mi_1_compact 1 := ⟨jw_1239, jw_9, ⟨by decide, by decide⟩, by decide +kernel⟩
theorem v_1_compact_69 (l : Launch)  (a1 : Int32) (a2 : Int32) (H : jH) : JV l mi_1_compact jeI 69 [(1, .int a1), (2, .int a2)] [] H (B_1_compact_69  a1 a2 H) := by
  unfold B_1_compact_69
  refine s_27 70 rfl rfl ?_
  refine s_16 24 72 24 jbp_24 rfl ?_
  refine s_120 73 rfl ?_
  refine s_28 74 rfl rfl ?_
  refine s_128 75 rfl ?_
  exact s_172 rfl rfl
theorem v_1_compact_25 (l : Launch)  (a0 : Nat) (a1 : Int32) (H : jH) : JV l mi_1_compact jeI 25 [(0, .ref a0), (1, .int a1)] [] H (B_1_compact_25  a0 a1 H) := by
  unfold B_1_compact_25
  refine s_42 26 rfl rfl ?_
  refine s_27 27 rfl rfl ?_
  refine s_4 28 rfl ?_
  refine s_100 29 rfl ?_
  refine s_184I 0 204 32 204 (m_1_byteOf l _ _ _) rfl k_1_byteOf jw_1240 jw_1241 rfl rfl rfl rfl rfl (fun x1 h2 => ?_)
  refine s_16 16 34 16 jbp_16 rfl ?_
  refine s_120 35 rfl ?_
  refine s_42 36 rfl rfl ?_
  refine s_27 37 rfl rfl ?_
  refine s_5 38 rfl ?_
  refine s_100 39 rfl ?_
  refine s_184I 0 204 42 204 (m_1_byteOf l _ _ _) rfl k_1_byteOf jw_1240 jw_1241 rfl rfl rfl rfl rfl (fun x3 h4 => ?_)
  refine s_16 8 44 8 jbp_8 rfl ?_
  refine s_120 45 rfl ?_
  refine s_128 46 rfl ?_
  refine s_42 47 rfl rfl ?_
  refine s_27 48 rfl rfl ?_
  refine s_6 49 rfl ?_
  refine s_100 50 rfl ?_
  refine s_184I 0 204 53 204 (m_1_byteOf l _ _ _) rfl k_1_byteOf jw_1240 jw_1241 rfl rfl rfl rfl rfl (fun x5 h6 => ?_)
  refine s_128 54 rfl ?_
  refine s_61L 55 rfl rfl (fun x7 => ?_)
  refine s_28 56 rfl rfl ?_
  refine s_18 208 58 8388608 jw_1243 rfl ?_
  refine s_161 0 11 69 61 rfl rfl ?_ ?_
  · exact s_jmp (v_1_compact_69 l _ _ _) ⟨rfl, rfl, trivial⟩
  · refine s_28 62 rfl rfl ?_
    refine s_16 8 64 8 jbp_8 rfl ?_
    refine s_122 65 rfl ?_
    refine s_61L 66 rfl rfl (fun x8 => ?_)
    refine s_132L 1 1 69 1 ji_1 rfl rfl rfl (fun x9 => ?_)
    exact s_jmp (v_1_compact_69 l _ _ _) ⟨rfl, rfl, trivial⟩
theorem v_1_compact_5 (l : Launch) (k5 : Nat → Int32 → jH → Option (Int32 × jH)) (hk5 : ∀ a0 a1 H, JV l mi_1_compact jeI 5 [(0, .ref a0), (1, .int a1)] [] H (k5 a0 a1 H)) (a0 : Nat) (a1 : Int32) (H : jH) : JV l mi_1_compact jeI 5 [(0, .ref a0), (1, .int a1)] [] H (B_1_compact_5 k5 a0 a1 H) := by
  unfold B_1_compact_5
  refine s_27 6 rfl rfl ?_
  refine s_158 0 19 25 9 rfl rfl ?_ ?_
  · exact s_jmp (v_1_compact_25 l _ _ _) ⟨rfl, rfl, trivial⟩
  · refine s_42 10 rfl rfl ?_
    refine s_27 11 rfl rfl ?_
    refine s_4 12 rfl ?_
    refine s_100 13 rfl ?_
    refine s_184I 0 204 16 204 (m_1_byteOf l _ _ _) rfl k_1_byteOf jw_1240 jw_1241 rfl rfl rfl rfl rfl (fun x10 h11 => ?_)
    refine s_154 0 9 25 19 rfl rfl ?_ ?_
    · exact s_jmp (v_1_compact_25 l _ _ _) ⟨rfl, rfl, trivial⟩
    · refine s_132L 1 255 22 (-1) ji_255 rfl rfl rfl (fun x12 => ?_)
      refine s_167 255 239 5 rfl rfl ?_
      exact s_jmp (hk5 _ _ _) ⟨rfl, rfl, trivial⟩
theorem w_1_compact_5 (l : Launch)  (n : Nat) : ∀ a0 a1 H, JV l mi_1_compact jeI 5 [(0, .ref a0), (1, .int a1)] [] H (F_1_compact_5  n a0 a1 H) := by
  induction n with
  | zero => intro _ _ _; exact s_none
  | succ n ih => intro a0 a1 H; exact v_1_compact_5 l (F_1_compact_5  n) ih a0 a1 H
theorem v_1_compact (l : Launch) (a0 : Nat) (H : jH) : JV l mi_1_compact jeI 0 [(0, .ref a0)] [] H (F_1_compact a0 H) := by
  unfold F_1_compact
  refine s_7 1 rfl ?_
  refine s_42 2 rfl rfl ?_
  refine s_190 3 100 jm_100 rfl ?_
  refine s_104 4 rfl ?_
  refine s_60L 5 rfl rfl (fun x13 => ?_)
  exact s_jmp (w_1_compact_5 l jfuel _ _ _) ⟨rfl, rfl, trivial⟩
theorem m_1_compact (l : Launch) (a0 : Nat) (H : jH) : JMet l y_1_compact prog_3_method_13_code mi_1_compact jeI [.ref a0] H (F_1_compact a0 H) := jmet_of n_1_compact (by decide) ⟨rfl, rfl⟩ (Nat.le_of_ble_eq_true rfl) (v_1_compact l a0 H)
def mi_1_bitsBehind : jM := (13573400413969755964644364341716796131896948917990122376531010441410853574281830136474939567775340587482730368785624244941290620621117487103062927945637145225533983636719776132547840695228008916318276750516999867282113264851103967931972073834013304467366236554355808407486127775615775790240162013721868991659809092131364918453408349774620984469503956071382039354024166713898866025103022629585784204537104776918431851293961649433400028452744016239369483126264910516139429426694656418450815093054066588900828129028091316106858065415345363302850242350996829227, 231, 8, "CoinNode$Chain", some FieldType.int, "bitsBehind", 2, 48)
def y_1_bitsBehind : MethodName := ⟨"CoinNode$Chain", "bitsBehind", "(LCoinNode$Block;)I"⟩
theorem n_1_bitsBehind : jn_is prog_3_method_12_code mi_1_bitsBehind.1 mi_1_bitsBehind.2.1 := by unfold jn_is; decide +kernel
theorem k_1_bitsBehind : jmok y_1_bitsBehind prog_3_method_12_code mi_1_bitsBehind 1 := ⟨jw_1221, jw_9, ⟨by decide, by decide⟩, by decide +kernel⟩
theorem v_1_bitsBehind_227 (l : Launch)  (s0 : Nat) (H : jH) : JV l mi_1_bitsBehind jeI 227 [] [.ref s0] H (B_1_bitsBehind_227  s0 H) := by
  unfold B_1_bitsBehind_227
  refine s_184I 0 200 230 200 (m_1_compact l _ _) rfl k_1_compact jw_1237 jw_1238 rfl rfl rfl rfl rfl (fun x1 h2 => ?_)
  exact s_172 rfl rfl
theorem v_1_bitsBehind_140 (l : Launch) (k140 : Nat → Int64 → Int32 → jH → Option (Int32 × jH)) (hk140 : ∀ a0 a5 a7 H, JV l mi_1_bitsBehind jeI 140 [(0, .ref a0), (5, .long a5), (7, .int a7)] [] H (k140 a0 a5 a7 H)) (a0 : Nat) (a5 : Int64) (a7 : Int32) (H : jH) : JV l mi_1_bitsBehind jeI 140 [(0, .ref a0), (5, .long a5), (7, .int a7)] [] H (B_1_bitsBehind_140 k140 a0 a5 a7 H) := by
  unfold B_1_bitsBehind_140
  refine s_21 7 142 rfl rfl ?_
  refine s_155 0 51 193 145 rfl rfl ?_ ?_
  · refine s_42 194 rfl rfl ?_
    refine s_180R 0 30 197 30 f_1_12 jw_398 rfl rfl ?_
    refine s_18 60 199 545259519 jw_312 rfl ?_
    refine s_184V 0 114 202 114 (m_1_setTarget l _ _ _) rfl k_1_setTarget jw_1226 jw_1227 rfl rfl rfl rfl rfl (fun x3 h4 => ?_)
    refine s_42 203 rfl rfl ?_
    refine s_180R 0 26 206 26 f_1_11 jw_397 rfl rfl ?_
    refine s_42 207 rfl rfl ?_
    refine s_180R 0 30 210 30 f_1_12 jw_398 rfl rfl ?_
    refine s_184I 0 167 213 167 (m_1_compare l _ _ _) rfl k_1_compare jw_1233 jw_1234 rfl rfl rfl rfl rfl (fun x5 h6 => ?_)
    refine s_158 0 10 223 216 rfl rfl ?_ ?_
    · refine s_42 224 rfl rfl ?_
      refine s_180R 0 26 227 26 f_1_11 jw_397 rfl rfl ?_
      exact s_jmp (v_1_bitsBehind_227 l _ _) trivial
    · refine s_42 217 rfl rfl ?_
      refine s_180R 0 30 220 30 f_1_12 jw_398 rfl rfl ?_
      refine s_167 0 7 227 rfl rfl ?_
      exact s_jmp (v_1_bitsBehind_227 l _ _) trivial
  · refine s_22 5 147 rfl rfl ?_
    refine s_16 32 149 32 jbp_32 rfl ?_
    refine s_121 150 rfl ?_
    refine s_42 151 rfl rfl ?_
    refine s_180R 0 26 154 26 f_1_11 jw_397 rfl rfl ?_
    refine s_21 7 156 rfl rfl ?_
    refine s_46 157 rfl ?_
    refine s_133 158 rfl ?_
    refine s_20 0 196 161 196 4294967295 rfl jw_1231 rfl ?_
    refine s_127 162 rfl ?_
    refine s_129 163 rfl ?_
    refine s_55L 5 165 rfl rfl (fun x7 => ?_)
    refine s_42 166 rfl rfl ?_
    refine s_180R 0 26 169 26 f_1_11 jw_397 rfl rfl ?_
    refine s_21 7 171 rfl rfl ?_
    refine s_22 5 173 rfl rfl ?_
    refine s_20 0 198 176 198 4800 rfl jw_1232 rfl ?_
    refine s_109 177 rfl ?_
    refine s_136 178 rfl ?_
    refine s_79 179 rfl (fun h8 => ?_)
    refine s_22 5 181 rfl rfl ?_
    refine s_20 0 198 184 198 4800 rfl jw_1232 rfl ?_
    refine s_113 185 rfl ?_
    refine s_55L 5 187 rfl rfl (fun x9 => ?_)
    refine s_132L 7 255 190 (-1) ji_255 rfl rfl rfl (fun x10 => ?_)
    refine s_167 255 206 140 rfl rfl ?_
    exact s_jmp (hk140 _ _ _ _) ⟨rfl, rfl, rfl, trivial⟩
theorem w_1_bitsBehind_140 (l : Launch)  (n : Nat) : ∀ a0 a5 a7 H, JV l mi_1_bitsBehind jeI 140 [(0, .ref a0), (5, .long a5), (7, .int a7)] [] H (F_1_bitsBehind_140  n a0 a5 a7 H) := by
  induction n with
  | zero => intro _ _ _ _; exact s_none
  | succ n ih => intro a0 a5 a7 H; exact v_1_bitsBehind_140 l (F_1_bitsBehind_140  n) ih a0 a5 a7 H
theorem v_1_bitsBehind_84 (l : Launch) (k84 : Nat → Int64 → Int64 → Int32 → jH → Option (Int32 × jH)) (hk84 : ∀ a0 a3 a5 a7 H, JV l mi_1_bitsBehind jeI 84 [(0, .ref a0), (3, .long a3), (5, .long a5), (7, .int a7)] [] H (k84 a0 a3 a5 a7 H)) (a0 : Nat) (a3 : Int64) (a5 : Int64) (a7 : Int32) (H : jH) : JV l mi_1_bitsBehind jeI 84 [(0, .ref a0), (3, .long a3), (5, .long a5), (7, .int a7)] [] H (B_1_bitsBehind_84 k84 a0 a3 a5 a7 H) := by
  unfold B_1_bitsBehind_84
  refine s_21 7 86 rfl rfl ?_
  refine s_16 9 88 9 jbp_9 rfl ?_
  refine s_162 0 45 133 91 rfl rfl ?_ ?_
  · refine s_9 134 rfl ?_
    refine s_55 5 136 rfl rfl ?_
    refine s_16 8 138 8 jbp_8 rfl ?_
    refine s_54 7 140 rfl rfl ?_
    exact s_jmp (w_1_bitsBehind_140 l jfuel _ _ _ _) ⟨rfl, rfl, rfl, trivial⟩
  · refine s_22 5 93 rfl rfl ?_
    refine s_42 94 rfl rfl ?_
    refine s_180R 0 26 97 26 f_1_11 jw_397 rfl rfl ?_
    refine s_21 7 99 rfl rfl ?_
    refine s_46 100 rfl ?_
    refine s_133 101 rfl ?_
    refine s_20 0 196 104 196 4294967295 rfl jw_1231 rfl ?_
    refine s_127 105 rfl ?_
    refine s_33 106 rfl rfl ?_
    refine s_105 107 rfl ?_
    refine s_97 108 rfl ?_
    refine s_55L 5 110 rfl rfl (fun x11 => ?_)
    refine s_42 111 rfl rfl ?_
    refine s_180R 0 26 114 26 f_1_11 jw_397 rfl rfl ?_
    refine s_21 7 116 rfl rfl ?_
    refine s_22 5 118 rfl rfl ?_
    refine s_136 119 rfl ?_
    refine s_79 120 rfl (fun h12 => ?_)
    refine s_22 5 122 rfl rfl ?_
    refine s_16 32 124 32 jbp_32 rfl ?_
    refine s_125 125 rfl ?_
    refine s_55L 5 127 rfl rfl (fun x13 => ?_)
    refine s_132L 7 1 130 1 ji_1 rfl rfl rfl (fun x14 => ?_)
    refine s_167 255 210 84 rfl rfl ?_
    exact s_jmp (hk84 _ _ _ _ _) ⟨rfl, rfl, rfl, rfl, trivial⟩
theorem w_1_bitsBehind_84 (l : Launch)  (n : Nat) : ∀ a0 a3 a5 a7 H, JV l mi_1_bitsBehind jeI 84 [(0, .ref a0), (3, .long a3), (5, .long a5), (7, .int a7)] [] H (F_1_bitsBehind_84  n a0 a3 a5 a7 H) := by
  induction n with
  | zero => intro _ _ _ _ _; exact s_none
  | succ n ih => intro a0 a3 a5 a7 H; exact v_1_bitsBehind_84 l (F_1_bitsBehind_84  n) ih a0 a3 a5 a7 H
theorem v_1_bitsBehind_45 (l : Launch)  (a0 : Nat) (a1 : Nat) (a2 : Nat) (H : jH) : JV l mi_1_bitsBehind jeI 45 [(0, .ref a0), (1, .ref a1), (2, .ref a2)] [] H (B_1_bitsBehind_45  a0 a1 a2 H) := by
  unfold B_1_bitsBehind_45
  refine s_20 0 183 48 183 1200 rfl jw_1222 rfl ?_
  refine s_20 0 185 51 185 19200 rfl jw_1223 rfl ?_
  refine s_43 52 rfl rfl ?_
  refine s_180L 0 106 55 106 f_0_3 jw_332 rfl rfl ?_
  refine s_44 56 rfl rfl ?_
  refine s_180L 0 106 59 106 f_0_3 jw_332 rfl rfl ?_
  refine s_101 60 rfl ?_
  refine s_minL 0 187 63 187 jw_1224 jw_970 jw_15 jw_971 rfl rfl rfl ?_
  refine s_maxL 0 193 66 193 jw_1225 jw_973 jw_15 jw_974 rfl rfl rfl ?_
  refine s_66L 67 rfl rfl (fun x15 => ?_)
  refine s_42 68 rfl rfl ?_
  refine s_180R 0 26 71 26 f_1_11 jw_397 rfl rfl ?_
  refine s_43 72 rfl rfl ?_
  refine s_180I 0 99 75 99 f_0_2 jw_330 rfl rfl ?_
  refine s_184V 0 114 78 114 (m_1_setTarget l _ _ _) rfl k_1_setTarget jw_1226 jw_1227 rfl rfl rfl rfl rfl (fun x16 h17 => ?_)
  refine s_9 79 rfl ?_
  refine s_55 5 81 rfl rfl ?_
  refine s_3 82 rfl ?_
  refine s_54 7 84 rfl rfl ?_
  exact s_jmp (w_1_bitsBehind_84 l jfuel _ _ _ _ _) ⟨rfl, rfl, rfl, rfl, trivial⟩
theorem v_1_bitsBehind_21 (l : Launch) (k21 : Nat → Nat → Nat → Int32 → jH → Option (Int32 × jH)) (hk21 : ∀ a0 a1 a2 a3 H, JV l mi_1_bitsBehind jeI 21 [(0, .ref a0), (1, .ref a1), (2, .ref a2), (3, .int a3)] [] H (k21 a0 a1 a2 a3 H)) (a0 : Nat) (a1 : Nat) (a2 : Nat) (a3 : Int32) (H : jH) : JV l mi_1_bitsBehind jeI 21 [(0, .ref a0), (1, .ref a1), (2, .ref a2), (3, .int a3)] [] H (B_1_bitsBehind_21 k21 a0 a1 a2 a3 H) := by
  unfold B_1_bitsBehind_21
  refine s_29 22 rfl rfl ?_
  refine s_16 7 24 7 jbp_7 rfl ?_
  refine s_162 0 21 45 27 rfl rfl ?_ ?_
  · exact s_jmp (v_1_bitsBehind_45 l _ _ _ _) ⟨rfl, rfl, rfl, trivial⟩
  · refine s_44 28 rfl rfl ?_
    refine s_180R 0 92 31 92 f_0_5 jw_336 rfl rfl ?_
    refine s_198 0 14 45 34 rfl rfl ?_ ?_
    · exact s_jmp (v_1_bitsBehind_45 l _ _ _ _) ⟨rfl, rfl, rfl, trivial⟩
    · refine s_44 35 rfl rfl ?_
      refine s_180R 0 92 38 92 f_0_5 jw_336 rfl rfl ?_
      refine s_77L 39 rfl rfl (fun x18 => ?_)
      refine s_132L 3 1 42 1 ji_1 rfl rfl rfl (fun x19 => ?_)
      refine s_167 255 235 21 rfl rfl ?_
      exact s_jmp (hk21 _ _ _ _ _) ⟨rfl, rfl, rfl, rfl, trivial⟩
theorem w_1_bitsBehind_21 (l : Launch)  (n : Nat) : ∀ a0 a1 a2 a3 H, JV l mi_1_bitsBehind jeI 21 [(0, .ref a0), (1, .ref a1), (2, .ref a2), (3, .int a3)] [] H (F_1_bitsBehind_21  n a0 a1 a2 a3 H) := by
  induction n with
  | zero => intro _ _ _ _ _; exact s_none
  | succ n ih => intro a0 a1 a2 a3 H; exact v_1_bitsBehind_21 l (F_1_bitsBehind_21  n) ih a0 a1 a2 a3 H
theorem v_1_bitsBehind (l : Launch) (a0 : Nat) (a1 : Nat) (H : jH) : JV l mi_1_bitsBehind jeI 0 [(0, .ref a0), (1, .ref a1)] [] H (F_1_bitsBehind a0 a1 H) := by
  unfold F_1_bitsBehind
  refine s_43 1 rfl rfl ?_
  refine s_180I 0 78 4 78 f_0_6 jw_337 rfl rfl ?_
  refine s_4 5 rfl ?_
  refine s_96 6 rfl ?_
  refine s_16 8 8 8 jbp_8 rfl ?_
  refine s_112 9 rfl ?_
  refine s_153 0 8 17 12 rfl rfl ?_ ?_
  · refine s_43 18 rfl rfl ?_
    refine s_77 19 rfl rfl ?_
    refine s_3 20 rfl ?_
    refine s_62 21 rfl rfl ?_
    exact s_jmp (w_1_bitsBehind_21 l jfuel _ _ _ _ _) ⟨rfl, rfl, rfl, rfl, trivial⟩
  · refine s_43 13 rfl rfl ?_
    refine s_180I 0 99 16 99 f_0_2 jw_330 rfl rfl ?_
    exact s_172 rfl rfl
theorem m_1_bitsBehind (l : Launch) (a0 : Nat) (a1 : Nat) (H : jH) : JMet l y_1_bitsBehind prog_3_method_12_code mi_1_bitsBehind jeI [.ref a0, .ref a1] H (F_1_bitsBehind a0 a1 H) := jmet_of n_1_bitsBehind (by decide) ⟨rfl, rfl⟩ (Nat.le_of_ble_eq_true rfl) (v_1_bitsBehind l a0 a1 H)
def mi_1_isAbove : jM := (32006930937794184431183487708960365925344025957503048713644608572158066721110863614976189654412183143099575929845103989618207365273701130000, 58, 5, "CoinNode$Chain", some FieldType.boolean, "isAbove", 1, 21)
def y_1_isAbove : MethodName := ⟨"CoinNode$Chain", "isAbove", "([B[I)Z"⟩
theorem n_1_isAbove : jn_is prog_3_method_17_code mi_1_isAbove.1 mi_1_isAbove.2.1 := by unfold jn_is; decide +kernel
theorem k_1_isAbove : jmok y_1_isAbove prog_3_method_17_code mi_1_isAbove 2 := ⟨jw_1250, jw_9, ⟨by decide, by decide⟩, by decide +kernel⟩
theorem v_1_isAbove_49 (l : Launch)  (s0 : Int32) (H : jH) : JV l mi_1_isAbove jeI 49 [] [.int s0] H (B_1_isAbove_49  s0 H) := by
  unfold B_1_isAbove_49
  exact s_172Z rfl rfl
theorem v_1_isAbove_24 (l : Launch) (k3 : Nat → Nat → Int32 → jH → Option (Int32 × jH)) (hk3 : ∀ a0 a1 a2 H, JV l mi_1_isAbove jeI 3 [(0, .ref a0), (1, .ref a1), (2, .int a2)] [] H (k3 a0 a1 a2 H)) (a0 : Nat) (a1 : Nat) (a2 : Int32) (s0 : Int32) (H : jH) : JV l mi_1_isAbove jeI 24 [(0, .ref a0), (1, .ref a1), (2, .int a2)] [.int s0] H (B_1_isAbove_24 k3 a0 a1 a2 s0 H) := by
  unfold B_1_isAbove_24
  refine s_62 25 rfl rfl ?_
  refine s_43 26 rfl rfl ?_
  refine s_28 27 rfl rfl ?_
  refine s_184I 0 204 30 204 (m_1_byteOf l _ _ _) rfl k_1_byteOf jw_1240 jw_1241 rfl rfl rfl rfl rfl (fun x1 h2 => ?_)
  refine s_54 4 32 rfl rfl ?_
  refine s_29 33 rfl rfl ?_
  refine s_21 4 35 rfl rfl ?_
  refine s_159 0 15 50 38 rfl rfl ?_ ?_
  · refine s_132L 2 255 53 (-1) ji_255 rfl rfl rfl (fun x3 => ?_)
    refine s_167 255 206 3 rfl rfl ?_
    exact s_jmp (hk3 _ _ _ _) ⟨rfl, rfl, rfl, trivial⟩
  · refine s_29 39 rfl rfl ?_
    refine s_21 4 41 rfl rfl ?_
    refine s_164 0 7 48 44 rfl rfl ?_ ?_
    · refine s_3 49 rfl ?_
      exact s_jmp (v_1_isAbove_49 l _ _) trivial
    · refine s_4 45 rfl ?_
      refine s_167 0 4 49 rfl rfl ?_
      exact s_jmp (v_1_isAbove_49 l _ _) trivial
theorem v_1_isAbove_3 (l : Launch) (k3 : Nat → Nat → Int32 → jH → Option (Int32 × jH)) (hk3 : ∀ a0 a1 a2 H, JV l mi_1_isAbove jeI 3 [(0, .ref a0), (1, .ref a1), (2, .int a2)] [] H (k3 a0 a1 a2 H)) (a0 : Nat) (a1 : Nat) (a2 : Int32) (H : jH) : JV l mi_1_isAbove jeI 3 [(0, .ref a0), (1, .ref a1), (2, .int a2)] [] H (B_1_isAbove_3 k3 a0 a1 a2 H) := by
  unfold B_1_isAbove_3
  refine s_28 4 rfl rfl ?_
  refine s_155 0 52 56 7 rfl rfl ?_ ?_
  · refine s_3 57 rfl ?_
    exact s_172Z rfl rfl
  · refine s_28 8 rfl rfl ?_
    refine s_42 9 rfl rfl ?_
    refine s_190 10 101 jm_101 rfl ?_
    refine s_162 0 13 23 13 rfl rfl ?_ ?_
    · refine s_3 24 rfl ?_
      exact s_jmp (v_1_isAbove_24 l k3 hk3 _ _ _ _ _) ⟨rfl, rfl, rfl, trivial⟩
    · refine s_42 14 rfl rfl ?_
      refine s_28 15 rfl rfl ?_
      refine s_51B 16 rfl ?_
      refine s_17 0 255 19 255 jsp_0_255 rfl ?_
      refine s_126 20 rfl ?_
      refine s_167 0 4 24 rfl rfl ?_
      exact s_jmp (v_1_isAbove_24 l k3 hk3 _ _ _ _ _) ⟨rfl, rfl, rfl, trivial⟩
theorem w_1_isAbove_3 (l : Launch)  (n : Nat) : ∀ a0 a1 a2 H, JV l mi_1_isAbove jeI 3 [(0, .ref a0), (1, .ref a1), (2, .int a2)] [] H (F_1_isAbove_3  n a0 a1 a2 H) := by
  induction n with
  | zero => intro _ _ _ _; exact s_none
  | succ n ih => intro a0 a1 a2 H; exact v_1_isAbove_3 l (F_1_isAbove_3  n) ih a0 a1 a2 H
theorem v_1_isAbove (l : Launch) (a0 : Nat) (a1 : Nat) (H : jH) : JV l mi_1_isAbove jeI 0 [(0, .ref a0), (1, .ref a1)] [] H (F_1_isAbove a0 a1 H) := by
  unfold F_1_isAbove
  refine s_16 31 2 31 jbp_31 rfl ?_
  refine s_61 3 rfl rfl ?_
  exact s_jmp (w_1_isAbove_3 l jfuel _ _ _ _) ⟨rfl, rfl, rfl, trivial⟩
theorem m_1_isAbove (l : Launch) (a0 : Nat) (a1 : Nat) (H : jH) : JMet l y_1_isAbove prog_3_method_17_code mi_1_isAbove jeI [.ref a0, .ref a1] H (F_1_isAbove a0 a1 H) := jmet_of n_1_isAbove (by decide) ⟨rfl, rfl⟩ (Nat.le_of_ble_eq_true rfl) (v_1_isAbove l a0 a1 H)
def mi_1_median : jM := (5453346357940786547387468228123795946750992763028139065472306603856883137220900098780890303801655515808182246184319032991701775512362768389244493290780939412839921510823859632399773584375037497726771554219278292464847833228455556626017235380791386535969045456043267, 110, 5, "CoinNode$Chain", some FieldType.long, "median", 0, 0)
def y_1_median : MethodName := ⟨"CoinNode$Chain", "median", "(LCoinNode$Block;)J"⟩
theorem n_1_median : jn_is prog_3_method_11_code mi_1_median.1 mi_1_median.2.1 := by unfold jn_is; decide +kernel
theorem k_1_median : jmok y_1_median prog_3_method_11_code mi_1_median 1 := ⟨jw_1247, jw_9, ⟨by decide, by decide⟩, by decide +kernel⟩
theorem v_1_median_64 (l : Launch) (k4 : Nat → Int32 → Nat → jH → Option (Int64 × jH)) (hk4 : ∀ a0 a2 a3 H, JV l mi_1_median jeL 4 [(0, .ref a0), (2, .int a2), (3, .ref a3)] [] H (k4 a0 a2 a3 H)) (a0 : Nat) (a2 : Int32) (a3 : Nat) (a4 : Int32) (H : jH) : JV l mi_1_median jeL 64 [(0, .ref a0), (2, .int a2), (3, .ref a3), (4, .int a4)] [] H (B_1_median_64 k4 a0 a2 a3 a4 H) := by
  unfold B_1_median_64
  refine s_42 65 rfl rfl ?_
  refine s_180R 0 36 68 36 f_1_14 jw_400 rfl rfl ?_
  refine s_21 4 70 rfl rfl ?_
  refine s_45 71 rfl rfl ?_
  refine s_180L 0 106 74 106 f_0_3 jw_332 rfl rfl ?_
  refine s_80 75 rfl (fun h1 => ?_)
  refine s_132L 2 1 78 1 ji_1 rfl rfl rfl (fun x2 => ?_)
  refine s_45 79 rfl rfl ?_
  refine s_180R 0 92 82 92 f_0_5 jw_336 rfl rfl ?_
  refine s_78L 83 rfl rfl (fun x3 => ?_)
  refine s_167 255 177 4 rfl rfl ?_
  exact s_jmp (hk4 _ _ _ _) ⟨rfl, rfl, rfl, trivial⟩
theorem v_1_median_20 (l : Launch) (k4 : Nat → Int32 → Nat → jH → Option (Int64 × jH)) (hk4 : ∀ a0 a2 a3 H, JV l mi_1_median jeL 4 [(0, .ref a0), (2, .int a2), (3, .ref a3)] [] H (k4 a0 a2 a3 H)) (k20 : Nat → Int32 → Nat → Int32 → jH → Option (Int64 × jH)) (hk20 : ∀ a0 a2 a3 a4 H, JV l mi_1_median jeL 20 [(0, .ref a0), (2, .int a2), (3, .ref a3), (4, .int a4)] [] H (k20 a0 a2 a3 a4 H)) (a0 : Nat) (a2 : Int32) (a3 : Nat) (a4 : Int32) (H : jH) : JV l mi_1_median jeL 20 [(0, .ref a0), (2, .int a2), (3, .ref a3), (4, .int a4)] [] H (B_1_median_20 k4 k20 a0 a2 a3 a4 H) := by
  unfold B_1_median_20
  refine s_21 4 22 rfl rfl ?_
  refine s_158 0 42 64 25 rfl rfl ?_ ?_
  · exact s_jmp (v_1_median_64 l k4 hk4 _ _ _ _ _) ⟨rfl, rfl, rfl, rfl, trivial⟩
  · refine s_42 26 rfl rfl ?_
    refine s_180R 0 36 29 36 f_1_14 jw_400 rfl rfl ?_
    refine s_21 4 31 rfl rfl ?_
    refine s_4 32 rfl ?_
    refine s_100 33 rfl ?_
    refine s_47 34 rfl ?_
    refine s_45 35 rfl rfl ?_
    refine s_180L 0 106 38 106 f_0_3 jw_332 rfl rfl ?_
    refine s_148_158 0 25 64 39 42 rfl rfl rfl ?_ ?_
    · exact s_jmp (v_1_median_64 l k4 hk4 _ _ _ _ _) ⟨rfl, rfl, rfl, rfl, trivial⟩
    · refine s_42 43 rfl rfl ?_
      refine s_180R 0 36 46 36 f_1_14 jw_400 rfl rfl ?_
      refine s_21 4 48 rfl rfl ?_
      refine s_42 49 rfl rfl ?_
      refine s_180R 0 36 52 36 f_1_14 jw_400 rfl rfl ?_
      refine s_21 4 54 rfl rfl ?_
      refine s_4 55 rfl ?_
      refine s_100 56 rfl ?_
      refine s_47 57 rfl ?_
      refine s_80 58 rfl (fun h4 => ?_)
      refine s_132L 4 255 61 (-1) ji_255 rfl rfl rfl (fun x5 => ?_)
      refine s_167 255 215 20 rfl rfl ?_
      exact s_jmp (hk20 _ _ _ _ _) ⟨rfl, rfl, rfl, rfl, trivial⟩
theorem w_1_median_20 (l : Launch) (k4 : Nat → Int32 → Nat → jH → Option (Int64 × jH)) (hk4 : ∀ a0 a2 a3 H, JV l mi_1_median jeL 4 [(0, .ref a0), (2, .int a2), (3, .ref a3)] [] H (k4 a0 a2 a3 H)) (n : Nat) : ∀ a0 a2 a3 a4 H, JV l mi_1_median jeL 20 [(0, .ref a0), (2, .int a2), (3, .ref a3), (4, .int a4)] [] H (F_1_median_20 k4 n a0 a2 a3 a4 H) := by
  induction n with
  | zero => intro _ _ _ _ _; exact s_none
  | succ n ih => intro a0 a2 a3 a4 H; exact v_1_median_20 l k4 hk4 (F_1_median_20 k4 n) ih a0 a2 a3 a4 H
theorem v_1_median_108 (l : Launch)  (s0 : Nat) (s1 : Int32) (H : jH) : JV l mi_1_median jeL 108 [] [.int s1, .ref s0] H (B_1_median_108  s0 s1 H) := by
  unfold B_1_median_108
  refine s_47 109 rfl ?_
  exact s_173 rfl rfl
theorem v_1_median_86 (l : Launch)  (a0 : Nat) (a2 : Int32) (H : jH) : JV l mi_1_median jeL 86 [(0, .ref a0), (2, .int a2)] [] H (B_1_median_86  a0 a2 H) := by
  unfold B_1_median_86
  refine s_42 87 rfl rfl ?_
  refine s_180R 0 36 90 36 f_1_14 jw_400 rfl rfl ?_
  refine s_28 91 rfl rfl ?_
  refine s_5 92 rfl ?_
  refine s_108 93 rfl ?_
  refine s_42 94 rfl rfl ?_
  refine s_180R 0 36 97 36 f_1_14 jw_400 rfl rfl ?_
  refine s_190 98 103 jm_103 rfl ?_
  refine s_162 0 9 107 101 rfl rfl ?_ ?_
  · refine s_3 108 rfl ?_
    exact s_jmp (v_1_median_108 l _ _ _) trivial
  · refine s_28 102 rfl rfl ?_
    refine s_5 103 rfl ?_
    refine s_108 104 rfl ?_
    refine s_167 0 4 108 rfl rfl ?_
    exact s_jmp (v_1_median_108 l _ _ _) trivial
theorem v_1_median_4 (l : Launch) (k4 : Nat → Int32 → Nat → jH → Option (Int64 × jH)) (hk4 : ∀ a0 a2 a3 H, JV l mi_1_median jeL 4 [(0, .ref a0), (2, .int a2), (3, .ref a3)] [] H (k4 a0 a2 a3 H)) (a0 : Nat) (a2 : Int32) (a3 : Nat) (H : jH) : JV l mi_1_median jeL 4 [(0, .ref a0), (2, .int a2), (3, .ref a3)] [] H (B_1_median_4 k4 a0 a2 a3 H) := by
  unfold B_1_median_4
  refine s_45 5 rfl rfl ?_
  refine s_198 0 81 86 8 rfl rfl ?_ ?_
  · exact s_jmp (v_1_median_86 l _ _ _) ⟨rfl, rfl, trivial⟩
  · refine s_28 9 rfl rfl ?_
    refine s_42 10 rfl rfl ?_
    refine s_180R 0 36 13 36 f_1_14 jw_400 rfl rfl ?_
    refine s_190 14 103 jm_103 rfl ?_
    refine s_162 0 72 86 17 rfl rfl ?_ ?_
    · exact s_jmp (v_1_median_86 l _ _ _) ⟨rfl, rfl, trivial⟩
    · refine s_28 18 rfl rfl ?_
      refine s_54 4 20 rfl rfl ?_
      exact s_jmp (w_1_median_20 l k4 hk4 jfuel _ _ _ _ _) ⟨rfl, rfl, rfl, rfl, trivial⟩
theorem w_1_median_4 (l : Launch)  (n : Nat) : ∀ a0 a2 a3 H, JV l mi_1_median jeL 4 [(0, .ref a0), (2, .int a2), (3, .ref a3)] [] H (F_1_median_4  n a0 a2 a3 H) := by
  induction n with
  | zero => intro _ _ _ _; exact s_none
  | succ n ih => intro a0 a2 a3 H; exact v_1_median_4 l (F_1_median_4  n) ih a0 a2 a3 H
theorem v_1_median (l : Launch) (a0 : Nat) (a1 : Nat) (H : jH) : JV l mi_1_median jeL 0 [(0, .ref a0), (1, .ref a1)] [] H (F_1_median a0 a1 H) := by
  unfold F_1_median
  refine s_3 1 rfl ?_
  refine s_61 2 rfl rfl ?_
  refine s_43 3 rfl rfl ?_
  refine s_78 4 rfl rfl ?_
  exact s_jmp (w_1_median_4 l jfuel _ _ _ _) ⟨rfl, rfl, rfl, trivial⟩
theorem m_1_median (l : Launch) (a0 : Nat) (a1 : Nat) (H : jH) : JMet l y_1_median prog_3_method_11_code mi_1_median jeL [.ref a0, .ref a1] H (F_1_median a0 a1 H) := jmet_of n_1_median (by decide) ⟨rfl, rfl⟩ (Nat.le_of_ble_eq_true rfl) (v_1_median l a0 a1 H)
def mi_1_refusal : jM := (22475626529542732320441230180542299316722290945656401025399421533572496956614100346396713044369278056685040986397134978289701913134497749745298305948746658102833254558258731522137542538573635590236654150586152998821153465832327090540793901980298304320264601987551576130526987077122117073035161641451792504480211778942198564346832843517527026972116246153342386904894285585150614928603604917863033431709805461461339850312204492229799171599331765034, 185, 3, "CoinNode$Chain", some FieldType.int, "refusal", 5, 146)
def y_1_refusal : MethodName := ⟨"CoinNode$Chain", "refusal", "(LCoinNode$Block;)I"⟩
theorem n_1_refusal : jn_is prog_3_method_4_code mi_1_refusal.1 mi_1_refusal.2.1 := by unfold jn_is; decide +kernel
theorem k_1_refusal : jmok y_1_refusal prog_3_method_4_code mi_1_refusal 1 := ⟨jw_1212, jw_9, ⟨by decide, by decide⟩, by decide +kernel⟩
theorem v_1_refusal_184 (l : Launch)  (s0 : Int32) (H : jH) : JV l mi_1_refusal jeI 184 [] [.int s0] H (B_1_refusal_184  s0 H) := by
  unfold B_1_refusal_184
  exact s_172 rfl rfl
theorem v_1_refusal_178 (l : Launch)   (H : jH) : JV l mi_1_refusal jeI 178 [] [] H (B_1_refusal_178   H) := by
  unfold B_1_refusal_178
  refine s_16 30 180 30 jbp_30 rfl ?_
  refine s_167 0 4 184 rfl rfl ?_
  exact s_jmp (v_1_refusal_184 l _ _) trivial
theorem v_1_refusal (l : Launch) (a0 : Nat) (a1 : Nat) (H : jH) : JV l mi_1_refusal jeI 0 [(0, .ref a0), (1, .ref a1)] [] H (F_1_refusal a0 a1 H) := by
  unfold F_1_refusal
  refine s_42 1 rfl rfl ?_
  refine s_43 2 rfl rfl ?_
  refine s_180R 0 64 5 64 f_0_1 jw_327 rfl rfl ?_
  refine s_3 6 rfl ?_
  refine s_182R 0 85 9 85 (m_1_find l _ _ _ _) rfl k_1_find jc_1 jw_1213 jw_1214 jw_1215 rfl rfl rfl rfl rfl (fun x1 h2 => ?_)
  refine s_198 0 6 15 12 rfl rfl ?_ ?_
  · refine s_42 16 rfl rfl ?_
    refine s_43 17 rfl rfl ?_
    refine s_180R 0 89 20 89 f_0_0 jw_324 rfl rfl ?_
    refine s_8 21 rfl ?_
    refine s_182R 0 85 24 85 (m_1_find l _ _ _ _) rfl k_1_find jc_1 jw_1213 jw_1214 jw_1215 rfl rfl rfl rfl rfl (fun x3 h4 => ?_)
    refine s_77 25 rfl rfl ?_
    refine s_44 26 rfl rfl ?_
    refine s_199 0 6 32 29 rfl rfl ?_ ?_
    · refine s_43 33 rfl rfl ?_
      refine s_44 34 rfl rfl ?_
      refine s_181R 0 92 37 92 f_0_5 rfl rfl jw_336 rfl rfl (fun h5 => ?_)
      refine s_43 38 rfl rfl ?_
      refine s_44 39 rfl rfl ?_
      refine s_180I 0 78 42 78 f_0_6 jw_337 rfl rfl ?_
      refine s_4 43 rfl ?_
      refine s_96 44 rfl ?_
      refine s_181I 0 78 47 78 f_0_6 rfl rfl jw_337 rfl rfl (fun h6 => ?_)
      refine s_44 48 rfl rfl ?_
      refine s_180I 0 95 51 95 f_0_7 jw_340 rfl rfl ?_
      refine s_153 0 6 57 54 rfl rfl ?_ ?_
      · refine s_43 58 rfl rfl ?_
        refine s_180I 0 99 61 99 f_0_2 jw_330 rfl rfl ?_
        refine s_42 62 rfl rfl ?_
        refine s_44 63 rfl rfl ?_
        refine s_182I 0 102 66 102 (m_1_bitsBehind l _ _ _) rfl k_1_bitsBehind jc_1 jw_1218 jw_1220 jps_34 rfl rfl rfl rfl rfl (fun x7 h8 => ?_)
        refine s_159 0 6 72 69 rfl rfl ?_ ?_
        · refine s_43 73 rfl rfl ?_
          refine s_180L 0 106 76 106 f_0_3 jw_332 rfl rfl ?_
          refine s_42 77 rfl rfl ?_
          refine s_44 78 rfl rfl ?_
          refine s_182L 0 110 81 110 (m_1_median l _ _ _) rfl k_1_median jc_1 jw_1244 jw_1246 jps_35 rfl rfl rfl rfl rfl (fun x9 h10 => ?_)
          refine s_148_157 0 6 88 82 85 rfl rfl rfl ?_ ?_
          · refine s_42 89 rfl rfl ?_
            refine s_180R 0 26 92 26 f_1_11 jw_397 rfl rfl ?_
            refine s_43 93 rfl rfl ?_
            refine s_180I 0 99 96 99 f_0_2 jw_330 rfl rfl ?_
            refine s_184V 0 114 99 114 (m_1_setTarget l _ _ _) rfl k_1_setTarget jw_1226 jw_1227 rfl rfl rfl rfl rfl (fun x11 h12 => ?_)
            refine s_43 100 rfl rfl ?_
            refine s_180R 0 64 103 64 f_0_1 jw_327 rfl rfl ?_
            refine s_42 104 rfl rfl ?_
            refine s_180R 0 26 107 26 f_1_11 jw_397 rfl rfl ?_
            refine s_184I 0 118 110 118 (m_1_isAbove l _ _ _) rfl k_1_isAbove jw_1248 jw_1249 rfl rfl rfl rfl rfl (fun x13 h14 => ?_)
            refine s_153 0 6 116 113 rfl rfl ?_ ?_
            · refine s_43 117 rfl rfl ?_
              refine s_182I 0 122 120 122 (m_0_isShaped l _ _) rfl k_0_isShaped jc_0 jw_1251 jw_1252 jw_1253 rfl rfl rfl rfl rfl (fun x15 h16 => ?_)
              refine s_154 0 6 126 123 rfl rfl ?_ ?_
              · refine s_43 127 rfl rfl ?_
                refine s_42 128 rfl rfl ?_
                refine s_180R 0 40 131 40 f_1_15 jw_401 rfl rfl ?_
                refine s_42 132 rfl rfl ?_
                refine s_180R 0 44 135 44 f_1_16 jw_402 rfl rfl ?_
                refine s_42 136 rfl rfl ?_
                refine s_180R 0 47 139 47 f_1_0 jw_381 rfl rfl ?_
                refine s_182I 0 126 142 126 (m_0_isRooted l _ _ _ _ _) rfl k_0_isRooted jc_0 jw_1257 jw_1258 jw_1259 rfl rfl rfl rfl rfl (fun x17 h18 => ?_)
                refine s_154 0 6 148 145 rfl rfl ?_ ?_
                · refine s_43 149 rfl rfl ?_
                  refine s_182I 0 130 152 130 (m_0_isFaulty l _ _) rfl k_0_isFaulty jc_0 jw_1264 jw_1265 jw_1266 rfl rfl rfl rfl rfl (fun x19 h20 => ?_)
                  refine s_153 0 6 158 155 rfl rfl ?_ ?_
                  · refine s_42 159 rfl rfl ?_
                    refine s_180I 0 70 162 70 f_1_4 jw_385 rfl rfl ?_
                    refine s_17 1 44 165 300 jsp_1_44 rfl ?_
                    refine s_162 0 13 178 168 rfl rfl ?_ ?_
                    · exact s_jmp (v_1_refusal_178 l _) trivial
                    · refine s_43 169 rfl rfl ?_
                      refine s_180I 0 78 172 78 f_0_6 jw_337 rfl rfl ?_
                      refine s_17 1 44 175 300 jsp_1_44 rfl ?_
                      refine s_161 0 8 183 178 rfl rfl ?_ ?_
                      · refine s_3 184 rfl ?_
                        exact s_jmp (v_1_refusal_184 l _ _) trivial
                      · exact s_jmp (v_1_refusal_178 l _) trivial
                  · refine s_16 28 157 28 jbp_28 rfl ?_
                    exact s_172 rfl rfl
                · refine s_16 27 147 27 jbp_27 rfl ?_
                  exact s_172 rfl rfl
              · refine s_16 26 125 26 jbp_26 rfl ?_
                exact s_172 rfl rfl
            · refine s_16 25 115 25 jbp_25 rfl ?_
              exact s_172 rfl rfl
          · refine s_16 24 87 24 jbp_24 rfl ?_
            exact s_172 rfl rfl
        · refine s_16 23 71 23 jbp_23 rfl ?_
          exact s_172 rfl rfl
      · refine s_16 22 56 22 jbp_22 rfl ?_
        exact s_172 rfl rfl
    · refine s_16 21 31 21 jbp_21 rfl ?_
      exact s_172 rfl rfl
  · refine s_16 20 14 20 jbp_20 rfl ?_
    exact s_172 rfl rfl
theorem m_1_refusal (l : Launch) (a0 : Nat) (a1 : Nat) (H : jH) : JMet l y_1_refusal prog_3_method_4_code mi_1_refusal jeI [.ref a0, .ref a1] H (F_1_refusal a0 a1 H) := jmet_of n_1_refusal (by decide) ⟨rfl, rfl⟩ (Nat.le_of_ble_eq_true rfl) (v_1_refusal l a0 a1 H)
def mi_6_makeAnew : jM := (103341954158469069903783632812894433813159872315089780183983546308071830974789182447317159430146659204451366023418566304600646231118302824962957307883528613845167788828499365944240314059513730894830378695323262495485546849593238702557136164310257988727302856849335562032536929200813098, 118, 7, "CoinNode$Pool", none, "makeAnew", 6, 195)
def y_6_makeAnew : MethodName := ⟨"CoinNode$Pool", "makeAnew", "([LCoinNode$Block;II)V"⟩
theorem n_6_makeAnew : jn_is prog_8_method_5_code mi_6_makeAnew.1 mi_6_makeAnew.2.1 := by unfold jn_is; decide +kernel
theorem k_6_makeAnew : jmok y_6_makeAnew prog_8_method_5_code mi_6_makeAnew 3 := ⟨jw_1340, jw_13, ⟨by decide, by decide⟩, by decide +kernel⟩
theorem v_6_makeAnew_45 (l : Launch) (k29 : Nat → Nat → Int32 → Int32 → Int32 → Int32 → jH → Option (Unit × jH)) (hk29 : ∀ a0 a1 a2 a3 a4 a5 H, JV l mi_6_makeAnew jeV 29 [(0, .ref a0), (1, .ref a1), (2, .int a2), (3, .int a3), (4, .int a4), (5, .int a5)] [] H (k29 a0 a1 a2 a3 a4 a5 H)) (k45 : Nat → Nat → Int32 → Int32 → Int32 → Int32 → Int32 → jH → Option (Unit × jH)) (hk45 : ∀ a0 a1 a2 a3 a4 a5 a6 H, JV l mi_6_makeAnew jeV 45 [(0, .ref a0), (1, .ref a1), (2, .int a2), (3, .int a3), (4, .int a4), (5, .int a5), (6, .int a6)] [] H (k45 a0 a1 a2 a3 a4 a5 a6 H)) (a0 : Nat) (a1 : Nat) (a2 : Int32) (a3 : Int32) (a4 : Int32) (a5 : Int32) (a6 : Int32) (H : jH) : JV l mi_6_makeAnew jeV 45 [(0, .ref a0), (1, .ref a1), (2, .int a2), (3, .int a3), (4, .int a4), (5, .int a5), (6, .int a6)] [] H (B_6_makeAnew_45 k29 k45 a0 a1 a2 a3 a4 a5 a6 H) := by
  unfold B_6_makeAnew_45
  refine s_21 6 47 rfl rfl ?_
  refine s_43 48 rfl rfl ?_
  refine s_21 5 50 rfl rfl ?_
  refine s_50 51 114 jt_114 rfl ?_
  refine s_180R 0 101 54 101 f_0_4 jw_334 rfl rfl ?_
  refine s_190 55 113 jm_113 rfl ?_
  refine s_162 0 26 81 58 rfl rfl ?_ ?_
  · refine s_132L 5 1 84 1 ji_1 rfl rfl rfl (fun x1 => ?_)
    refine s_167 255 201 29 rfl rfl ?_
    exact s_jmp (hk29 _ _ _ _ _ _ _) ⟨rfl, rfl, rfl, rfl, rfl, rfl, trivial⟩
  · refine s_42 59 rfl rfl ?_
    refine s_43 60 rfl rfl ?_
    refine s_21 5 62 rfl rfl ?_
    refine s_50 63 114 jt_114 rfl ?_
    refine s_180R 0 101 66 101 f_0_4 jw_334 rfl rfl ?_
    refine s_21 6 68 rfl rfl ?_
    refine s_50 69 113 jt_113 rfl ?_
    refine s_29 70 rfl rfl ?_
    refine s_3 71 rfl ?_
    refine s_182I 0 104 74 104 (m_6_offer l _ _ _ _ _) rfl k_6_offer jc_6 jw_1342 jw_797 jw_798 rfl rfl rfl rfl rfl (fun x2 h3 => ?_)
    refine s_87 75 rfl rfl ?_
    refine s_132L 6 1 78 1 ji_1 rfl rfl rfl (fun x4 => ?_)
    refine s_167 255 223 45 rfl rfl ?_
    exact s_jmp (hk45 _ _ _ _ _ _ _ _) ⟨rfl, rfl, rfl, rfl, rfl, rfl, rfl, trivial⟩
theorem w_6_makeAnew_45 (l : Launch) (k29 : Nat → Nat → Int32 → Int32 → Int32 → Int32 → jH → Option (Unit × jH)) (hk29 : ∀ a0 a1 a2 a3 a4 a5 H, JV l mi_6_makeAnew jeV 29 [(0, .ref a0), (1, .ref a1), (2, .int a2), (3, .int a3), (4, .int a4), (5, .int a5)] [] H (k29 a0 a1 a2 a3 a4 a5 H)) (n : Nat) : ∀ a0 a1 a2 a3 a4 a5 a6 H, JV l mi_6_makeAnew jeV 45 [(0, .ref a0), (1, .ref a1), (2, .int a2), (3, .int a3), (4, .int a4), (5, .int a5), (6, .int a6)] [] H (F_6_makeAnew_45 k29 n a0 a1 a2 a3 a4 a5 a6 H) := by
  induction n with
  | zero => intro _ _ _ _ _ _ _ _; exact s_none
  | succ n ih => intro a0 a1 a2 a3 a4 a5 a6 H; exact v_6_makeAnew_45 l k29 hk29 (F_6_makeAnew_45 k29 n) ih a0 a1 a2 a3 a4 a5 a6 H
theorem v_6_makeAnew_90 (l : Launch) (k90 : Nat → Int32 → Int32 → Int32 → jH → Option (Unit × jH)) (hk90 : ∀ a0 a3 a4 a5 H, JV l mi_6_makeAnew jeV 90 [(0, .ref a0), (3, .int a3), (4, .int a4), (5, .int a5)] [] H (k90 a0 a3 a4 a5 H)) (a0 : Nat) (a3 : Int32) (a4 : Int32) (a5 : Int32) (H : jH) : JV l mi_6_makeAnew jeV 90 [(0, .ref a0), (3, .int a3), (4, .int a4), (5, .int a5)] [] H (B_6_makeAnew_90 k90 a0 a3 a4 a5 H) := by
  unfold B_6_makeAnew_90
  refine s_21 5 92 rfl rfl ?_
  refine s_21 4 94 rfl rfl ?_
  refine s_162 0 23 117 97 rfl rfl ?_ ?_
  · exact s_177 rfl rfl
  · refine s_42 98 rfl rfl ?_
    refine s_42 99 rfl rfl ?_
    refine s_180R 0 19 102 19 f_6_5 jw_451 rfl rfl ?_
    refine s_21 5 104 rfl rfl ?_
    refine s_50 105 113 jt_113 rfl ?_
    refine s_29 106 rfl rfl ?_
    refine s_3 107 rfl ?_
    refine s_182I 0 104 110 104 (m_6_offer l _ _ _ _ _) rfl k_6_offer jc_6 jw_1342 jw_797 jw_798 rfl rfl rfl rfl rfl (fun x5 h6 => ?_)
    refine s_87 111 rfl rfl ?_
    refine s_132L 5 1 114 1 ji_1 rfl rfl rfl (fun x7 => ?_)
    refine s_167 255 232 90 rfl rfl ?_
    exact s_jmp (hk90 _ _ _ _ _) ⟨rfl, rfl, rfl, rfl, trivial⟩
theorem w_6_makeAnew_90 (l : Launch)  (n : Nat) : ∀ a0 a3 a4 a5 H, JV l mi_6_makeAnew jeV 90 [(0, .ref a0), (3, .int a3), (4, .int a4), (5, .int a5)] [] H (F_6_makeAnew_90  n a0 a3 a4 a5 H) := by
  induction n with
  | zero => intro _ _ _ _ _; exact s_none
  | succ n ih => intro a0 a3 a4 a5 H; exact v_6_makeAnew_90 l (F_6_makeAnew_90  n) ih a0 a3 a4 a5 H
theorem v_6_makeAnew_87 (l : Launch)  (a0 : Nat) (a3 : Int32) (a4 : Int32) (H : jH) : JV l mi_6_makeAnew jeV 87 [(0, .ref a0), (3, .int a3), (4, .int a4)] [] H (B_6_makeAnew_87  a0 a3 a4 H) := by
  unfold B_6_makeAnew_87
  refine s_3 88 rfl ?_
  refine s_54 5 90 rfl rfl ?_
  exact s_jmp (w_6_makeAnew_90 l jfuel _ _ _ _ _) ⟨rfl, rfl, rfl, rfl, trivial⟩
theorem v_6_makeAnew_29 (l : Launch) (k29 : Nat → Nat → Int32 → Int32 → Int32 → Int32 → jH → Option (Unit × jH)) (hk29 : ∀ a0 a1 a2 a3 a4 a5 H, JV l mi_6_makeAnew jeV 29 [(0, .ref a0), (1, .ref a1), (2, .int a2), (3, .int a3), (4, .int a4), (5, .int a5)] [] H (k29 a0 a1 a2 a3 a4 a5 H)) (a0 : Nat) (a1 : Nat) (a2 : Int32) (a3 : Int32) (a4 : Int32) (a5 : Int32) (H : jH) : JV l mi_6_makeAnew jeV 29 [(0, .ref a0), (1, .ref a1), (2, .int a2), (3, .int a3), (4, .int a4), (5, .int a5)] [] H (B_6_makeAnew_29 k29 a0 a1 a2 a3 a4 a5 H) := by
  unfold B_6_makeAnew_29
  refine s_21 5 31 rfl rfl ?_
  refine s_28 32 rfl rfl ?_
  refine s_162 0 55 87 35 rfl rfl ?_ ?_
  · exact s_jmp (v_6_makeAnew_87 l _ _ _ _) ⟨rfl, rfl, rfl, trivial⟩
  · refine s_21 5 37 rfl rfl ?_
    refine s_43 38 rfl rfl ?_
    refine s_190 39 114 jm_114 rfl ?_
    refine s_162 0 48 87 42 rfl rfl ?_ ?_
    · exact s_jmp (v_6_makeAnew_87 l _ _ _ _) ⟨rfl, rfl, rfl, trivial⟩
    · refine s_4 43 rfl ?_
      refine s_54 6 45 rfl rfl ?_
      exact s_jmp (w_6_makeAnew_45 l k29 hk29 jfuel _ _ _ _ _ _ _ _) ⟨rfl, rfl, rfl, rfl, rfl, rfl, rfl, trivial⟩
theorem w_6_makeAnew_29 (l : Launch)  (n : Nat) : ∀ a0 a1 a2 a3 a4 a5 H, JV l mi_6_makeAnew jeV 29 [(0, .ref a0), (1, .ref a1), (2, .int a2), (3, .int a3), (4, .int a4), (5, .int a5)] [] H (F_6_makeAnew_29  n a0 a1 a2 a3 a4 a5 H) := by
  induction n with
  | zero => intro _ _ _ _ _ _ _; exact s_none
  | succ n ih => intro a0 a1 a2 a3 a4 a5 H; exact v_6_makeAnew_29 l (F_6_makeAnew_29  n) ih a0 a1 a2 a3 a4 a5 H
theorem v_6_makeAnew (l : Launch) (a0 : Nat) (a1 : Nat) (a2 : Int32) (a3 : Int32) (H : jH) : JV l mi_6_makeAnew jeV 0 [(0, .ref a0), (1, .ref a1), (2, .int a2), (3, .int a3)] [] H (F_6_makeAnew a0 a1 a2 a3 H) := by
  unfold F_6_makeAnew
  refine s_42 1 rfl rfl ?_
  refine s_180I 0 41 4 41 f_6_4 jw_449 rfl rfl ?_
  refine s_54L 4 6 rfl rfl (fun x8 => ?_)
  refine s_42 7 rfl rfl ?_
  refine s_180R 0 11 10 11 f_6_2 jw_447 rfl rfl ?_
  refine s_3 11 rfl ?_
  refine s_42 12 rfl rfl ?_
  refine s_180R 0 19 15 19 f_6_5 jw_451 rfl rfl ?_
  refine s_3 16 rfl ?_
  refine s_21 4 18 rfl rfl ?_
  refine s_acR 0 95 21 95 js_113 jc_10 jw_1341 jw_372 jw_371 jw_12 rfl rfl rfl rfl (fun h9 => ?_)
  refine s_42 22 rfl rfl ?_
  refine s_3 23 rfl ?_
  refine s_181I 0 41 26 41 f_6_4 rfl rfl jw_449 rfl rfl (fun h10 => ?_)
  refine s_3 27 rfl ?_
  refine s_54 5 29 rfl rfl ?_
  exact s_jmp (w_6_makeAnew_29 l jfuel _ _ _ _ _ _ _) ⟨rfl, rfl, rfl, rfl, rfl, rfl, trivial⟩
theorem m_6_makeAnew (l : Launch) (a0 : Nat) (a1 : Nat) (a2 : Int32) (a3 : Int32) (H : jH) : JMet l y_6_makeAnew prog_8_method_5_code mi_6_makeAnew jeV [.ref a0, .ref a1, .int a2, .int a3] H (F_6_makeAnew a0 a1 a2 a3 H) := jmet_of n_6_makeAnew (by decide) ⟨rfl, rfl⟩ (Nat.le_of_ble_eq_true rfl) (v_6_makeAnew l a0 a1 a2 a3 H)
def mi_A_copyOf : jM := (20399574503130716757269049617625728389457072230910182589797522205398613343742491, 33, 3, "java/util/Arrays", some (FieldType.array FieldType.byte), "copyOf", 1, 60)
def y_A_copyOf : MethodName := ⟨"java/util/Arrays", "copyOf", "([BI)[B"⟩
theorem n_A_copyOf : jn_is prog_25_method_121_code mi_A_copyOf.1 mi_A_copyOf.2.1 := by unfold jn_is; decide +kernel
theorem k_A_copyOf : jmok y_A_copyOf prog_25_method_121_code mi_A_copyOf 2 := ⟨jw_681, jw_14, ⟨by decide, by decide⟩, by decide +kernel⟩
theorem v_A_copyOf (l : Launch) (a0 : Nat) (a1 : Int32) (H : jH) : JV l mi_A_copyOf jeR 0 [(0, .ref a0), (1, .int a1)] [] H (F_A_copyOf a0 a1 H) := by
  unfold F_A_copyOf
  refine s_27 1 rfl rfl ?_
  refine s_42 2 rfl rfl ?_
  refine s_190 3 101 jm_101 rfl ?_
  refine s_160 0 11 14 6 rfl rfl ?_ ?_
  · refine s_27 15 rfl rfl ?_
    refine s_188_8 17 jw_54 rfl (fun r1 h2 => ?_)
    refine s_77 18 rfl rfl ?_
    refine s_42 19 rfl rfl ?_
    refine s_3 20 rfl ?_
    refine s_44 21 rfl rfl ?_
    refine s_3 22 rfl ?_
    refine s_42 23 rfl rfl ?_
    refine s_190 24 101 jm_101 rfl ?_
    refine s_27 25 rfl rfl ?_
    refine s_minI 1 48 28 304 jw_689 jw_690 jw_15 jw_691 rfl rfl rfl ?_
    refine s_acB 0 150 31 150 jw_692 jw_372 jw_371 jw_12 rfl rfl rfl rfl (fun h3 => ?_)
    refine s_44 32 rfl rfl ?_
    exact s_176 rfl rfl rfl
  · refine s_42 7 rfl rfl ?_
    refine s_clone 1 54 10 310 jw_682 jw_683 jw_684 jw_685 jw_686 rfl rfl rfl (fun r4 h5 => ?_)
    refine s_192B 1 55 13 311 jw_688 rfl rfl ?_
    exact s_176 rfl rfl rfl
theorem m_A_copyOf (l : Launch) (a0 : Nat) (a1 : Int32) (H : jH) : JMet l y_A_copyOf prog_25_method_121_code mi_A_copyOf jeR [.ref a0, .int a1] H (F_A_copyOf a0 a1 H) := jmet_of n_A_copyOf (by decide) ⟨rfl, rfl⟩ (Nat.le_of_ble_eq_true rfl) (v_A_copyOf l a0 a1 H)
def mi_11_send : jM := (6720534780862272142348436421516678094005165459075673484694326846189602060451366015798758556005660855440167802439551699505610487029398649789740523481833332272223607998335781756150886362229972621754922091295571042969662817876588346621503476127252519496581845477670350971277642276624267362844466427888641178989595791032135247806833605744563262499550175967765793488894798897709352105505371659974742501533137558521361887341440411002486564482034288568401700372789575252081229392026237477245998042095484063045947512896349001363613378364016772694676128422735330566148154424663749992403269601467258054355673832840303913544216158490670656287219719904027, 267, 7, "CoinNode", some FieldType.boolean, "send", 7, 226)
def y_11_send : MethodName := ⟨"CoinNode", "send", "(II)Z"⟩
theorem n_11_send : jn_is prog_1_method_3_code mi_11_send.1 mi_11_send.2.1 := by unfold jn_is; decide +kernel
theorem k_11_send : jmok y_11_send prog_1_method_3_code mi_11_send 2 := ⟨jw_678, jw_1, ⟨by decide, by decide⟩, by decide +kernel⟩
theorem v_11_send_31 (l : Launch)   (H : jH) : JV l mi_11_send jeI 31 [] [] H (B_11_send_31   H) := by
  unfold B_11_send_31
  refine s_3 32 rfl ?_
  exact s_172Z rfl rfl
theorem v_11_send_265 (l : Launch)   (H : jH) : JV l mi_11_send jeI 265 [] [] H (B_11_send_265   H) := by
  unfold B_11_send_265
  refine s_4 266 rfl ?_
  exact s_172Z rfl rfl
theorem v_11_send_225 (l : Launch)  (s0 : Nat) (s1 : Int32) (s2 : Nat) (s3 : Int32) (s4 : Int32) (H : jH) : JV l mi_11_send jeI 225 [] [.int s4, .int s3, .ref s2, .int s1, .ref s0] H (B_11_send_225  s0 s1 s2 s3 s4 H) := by
  unfold B_11_send_225
  refine s_182V 0 121 228 121 (m_11_answerBlock l _ _ _ _ _ _) rfl k_11_answerBlock jc_11 jw_1343 jw_1345 jps_45 rfl rfl rfl rfl rfl (fun x1 h2 => ?_)
  refine s_167 0 37 265 rfl rfl ?_
  exact s_jmp (v_11_send_265 l _) trivial
theorem v_11_send_202 (l : Launch)  (a0 : Nat) (a1 : Int32) (a4 : Nat) (a5 : Nat) (a6 : Int32) (H : jH) : JV l mi_11_send jeI 202 [(0, .ref a0), (1, .int a1), (4, .ref a4), (5, .ref a5), (6, .int a6)] [] H (B_11_send_202  a0 a1 a4 a5 a6 H) := by
  unfold B_11_send_202
  refine s_42 203 rfl rfl ?_
  refine s_27 204 rfl rfl ?_
  refine s_25 5 206 rfl rfl ?_
  refine s_21 6 208 rfl rfl ?_
  refine s_42 209 rfl rfl ?_
  refine s_180R 0 59 212 59 f_11_12 jw_489 rfl rfl ?_
  refine s_180R 0 90 215 90 f_1_6 jw_390 rfl rfl ?_
  refine s_25 4 217 rfl rfl ?_
  refine s_165 0 7 224 220 rfl rfl ?_ ?_
  · refine s_3 225 rfl ?_
    exact s_jmp (v_11_send_225 l _ _ _ _ _ _) trivial
  · refine s_4 221 rfl ?_
    refine s_167 0 4 225 rfl rfl ?_
    exact s_jmp (v_11_send_225 l _ _ _ _ _ _) trivial
theorem v_11_send_157 (l : Launch)  (a0 : Nat) (a1 : Int32) (a4 : Nat) (a5 : Nat) (a6 : Int32) (H : jH) : JV l mi_11_send jeI 157 [(0, .ref a0), (1, .int a1), (4, .ref a4), (5, .ref a5), (6, .int a6)] [] H (B_11_send_157  a0 a1 a4 a5 a6 H) := by
  unfold B_11_send_157
  refine s_42 158 rfl rfl ?_
  refine s_180R 0 59 161 59 f_11_12 jw_489 rfl rfl ?_
  refine s_180R 0 90 164 90 f_1_6 jw_390 rfl rfl ?_
  refine s_25 4 166 rfl rfl ?_
  refine s_165 0 36 202 169 rfl rfl ?_ ?_
  · exact s_jmp (v_11_send_202 l _ _ _ _ _ _) ⟨rfl, rfl, rfl, rfl, rfl, trivial⟩
  · refine s_42 170 rfl rfl ?_
    refine s_180R 0 68 173 68 f_11_13 jw_490 rfl rfl ?_
    refine s_42 174 rfl rfl ?_
    refine s_180R 0 59 177 59 f_11_12 jw_489 rfl rfl ?_
    refine s_180R 0 107 180 107 f_1_9 jw_394 rfl rfl ?_
    refine s_42 181 rfl rfl ?_
    refine s_180R 0 59 184 59 f_11_12 jw_489 rfl rfl ?_
    refine s_180I 0 111 187 111 f_1_10 jw_395 rfl rfl ?_
    refine s_42 188 rfl rfl ?_
    refine s_180R 0 59 191 59 f_11_12 jw_489 rfl rfl ?_
    refine s_180R 0 90 194 90 f_1_6 jw_390 rfl rfl ?_
    refine s_180I 0 114 197 114 f_0_6 jw_338 rfl rfl ?_
    refine s_4 198 rfl ?_
    refine s_96 199 rfl ?_
    refine s_182V 0 117 202 117 (m_6_makeAnew l _ _ _ _ _) rfl k_6_makeAnew jc_6 jw_1337 jw_1338 jw_1339 rfl rfl rfl rfl rfl (fun x3 h4 => ?_)
    exact s_jmp (v_11_send_202 l _ _ _ _ _ _) ⟨rfl, rfl, rfl, rfl, rfl, trivial⟩
theorem v_11_send_134 (l : Launch)  (a0 : Nat) (a1 : Int32) (a4 : Nat) (a5 : Nat) (s0 : Int32) (H : jH) : JV l mi_11_send jeI 134 [(0, .ref a0), (1, .int a1), (4, .ref a4), (5, .ref a5)] [.int s0] H (B_11_send_134  a0 a1 a4 a5 s0 H) := by
  unfold B_11_send_134
  refine s_54 6 136 rfl rfl ?_
  refine s_25 5 138 rfl rfl ?_
  refine s_198 0 19 157 141 rfl rfl ?_ ?_
  · exact s_jmp (v_11_send_157 l _ _ _ _ _ _) ⟨rfl, rfl, rfl, rfl, rfl, trivial⟩
  · refine s_21 6 143 rfl rfl ?_
    refine s_154 0 14 157 146 rfl rfl ?_ ?_
    · exact s_jmp (v_11_send_157 l _ _ _ _ _ _) ⟨rfl, rfl, rfl, rfl, rfl, trivial⟩
    · refine s_42 147 rfl rfl ?_
      refine s_180R 0 59 150 59 f_11_12 jw_489 rfl rfl ?_
      refine s_25 5 152 rfl rfl ?_
      refine s_182I 0 104 155 104 (m_1_adopt l _ _ _) rfl k_1_adopt jc_1 jw_1270 jw_1271 jw_1272 rfl rfl rfl rfl rfl (fun x5 h6 => ?_)
      refine s_54 6 157 rfl rfl ?_
      exact s_jmp (v_11_send_157 l _ _ _ _ _ _) ⟨rfl, rfl, rfl, rfl, rfl, trivial⟩
theorem v_11_send (l : Launch) (a0 : Nat) (a1 : Int32) (a2 : Int32) (H : jH) : JV l mi_11_send jeI 0 [(0, .ref a0), (1, .int a1), (2, .int a2)] [] H (F_11_send a0 a1 a2 H) := by
  unfold F_11_send
  refine s_27 1 rfl rfl ?_
  refine s_155 0 30 31 4 rfl rfl ?_ ?_
  · exact s_jmp (v_11_send_31 l _) trivial
  · refine s_27 5 rfl rfl ?_
    refine s_7 6 rfl ?_
    refine s_162 0 25 31 9 rfl rfl ?_ ?_
    · exact s_jmp (v_11_send_31 l _) trivial
    · refine s_28 10 rfl rfl ?_
      refine s_4 11 rfl ?_
      refine s_161 0 20 31 14 rfl rfl ?_ ?_
      · exact s_jmp (v_11_send_31 l _) trivial
      · refine s_28 15 rfl rfl ?_
        refine s_42 16 rfl rfl ?_
        refine s_180I 0 72 19 72 f_11_1 jw_478 rfl rfl ?_
        refine s_163 0 12 31 22 rfl rfl ?_ ?_
        · exact s_jmp (v_11_send_31 l _) trivial
        · refine s_28 23 rfl rfl ?_
          refine s_42 24 rfl rfl ?_
          refine s_180R 0 9 27 9 f_11_0 jw_477 rfl rfl ?_
          refine s_190 28 101 jm_101 rfl ?_
          refine s_164 0 5 33 31 rfl rfl ?_ ?_
          · refine s_42 34 rfl rfl ?_
            refine s_180R 0 9 37 9 f_11_0 jw_477 rfl rfl ?_
            refine s_28 38 rfl rfl ?_
            refine s_184R 0 80 41 80 (m_A_copyOf l _ _ _) rfl k_A_copyOf jw_679 jw_680 rfl rfl rfl rfl rfl (fun x7 h8 => ?_)
            refine s_78 42 rfl rfl ?_
            refine s_42 43 rfl rfl ?_
            refine s_3 44 rfl ?_
            refine s_181I 0 72 47 72 f_11_1 rfl rfl jw_478 rfl rfl (fun h9 => ?_)
            refine s_45 48 rfl rfl ?_
            refine s_3 49 rfl ?_
            refine s_51B 50 rfl ?_
            refine s_sw1 38 88 208 1 6 38 #[38, 47, 181, 190, 208, 199] 1 n_11_send (by decide +kernel) (by decide) ?_ (fun q0 => ?_)
            · refine s_42 89 rfl rfl ?_
              refine s_27 90 rfl rfl ?_
              refine s_45 91 rfl rfl ?_
              refine s_182V 0 86 94 86 (m_11_takeTransaction l _ _ _ _) rfl k_11_takeTransaction jc_11 jw_693 jw_695 jps_1 rfl rfl rfl rfl rfl (fun x10 h11 => ?_)
              refine s_167 0 171 265 rfl rfl ?_
              exact s_jmp (v_11_send_265 l _) trivial
            refine s_sw1 38 97 208 1 6 47 #[38, 47, 181, 190, 208, 199] 2 n_11_send (by decide +kernel) (by decide) ?_ (fun q1 => ?_)
            · refine s_42 98 rfl rfl ?_
              refine s_180R 0 59 101 59 f_11_12 jw_489 rfl rfl ?_
              refine s_180R 0 90 104 90 f_1_6 jw_390 rfl rfl ?_
              refine s_58L 4 106 rfl rfl (fun x12 => ?_)
              refine s_45 107 rfl rfl ?_
              refine s_42 108 rfl rfl ?_
              refine s_180R 0 34 111 34 f_11_9 jw_486 rfl rfl ?_
              refine s_184R 0 94 114 94 (m_0_read l _ _ _) rfl k_0_read jw_1201 jw_1202 rfl rfl rfl rfl rfl (fun x13 h14 => ?_)
              refine s_58 5 116 rfl rfl ?_
              refine s_25 5 118 rfl rfl ?_
              refine s_199 0 7 125 121 rfl rfl ?_ ?_
              · refine s_42 126 rfl rfl ?_
                refine s_180R 0 59 129 59 f_11_12 jw_489 rfl rfl ?_
                refine s_25 5 131 rfl rfl ?_
                refine s_182I 0 100 134 100 (m_1_refusal l _ _ _) rfl k_1_refusal jc_1 jw_1209 jw_1210 jw_1211 rfl rfl rfl rfl rfl (fun x15 h16 => ?_)
                exact s_jmp (v_11_send_134 l _ _ _ _ _ _) ⟨rfl, rfl, rfl, rfl, trivial⟩
              · refine s_4 122 rfl ?_
                refine s_167 0 12 134 rfl rfl ?_
                exact s_jmp (v_11_send_134 l _ _ _ _ _ _) ⟨rfl, rfl, rfl, rfl, trivial⟩
            refine s_sw1 38 231 208 1 6 181 #[38, 47, 181, 190, 208, 199] 3 n_11_send (by decide +kernel) (by decide) ?_ (fun q2 => ?_)
            · refine s_42 232 rfl rfl ?_
              refine s_27 233 rfl rfl ?_
              refine s_45 234 rfl rfl ?_
              refine s_182V 0 125 237 125 (m_11_answerWhatIsBehind l _ _ _ _) rfl k_11_answerWhatIsBehind jc_11 jw_1353 jw_1355 jps_47 rfl rfl rfl rfl rfl (fun x17 h18 => ?_)
              refine s_167 0 28 265 rfl rfl ?_
              exact s_jmp (v_11_send_265 l _) trivial
            refine s_sw1 38 240 208 1 6 190 #[38, 47, 181, 190, 208, 199] 4 n_11_send (by decide +kernel) (by decide) ?_ (fun q3 => ?_)
            · refine s_42 241 rfl rfl ?_
              refine s_27 242 rfl rfl ?_
              refine s_45 243 rfl rfl ?_
              refine s_182V 0 128 246 128 (m_11_answerGive l _ _ _ _) rfl k_11_answerGive jc_11 jw_1359 jw_1361 jps_48 rfl rfl rfl rfl rfl (fun x19 h20 => ?_)
              refine s_167 0 19 265 rfl rfl ?_
              exact s_jmp (v_11_send_265 l _) trivial
            refine s_sw1 38 258 208 1 6 208 #[38, 47, 181, 190, 208, 199] 5 n_11_send (by decide +kernel) (by decide) ?_ (fun q4 => ?_)
            · refine s_42 259 rfl rfl ?_
              refine s_27 260 rfl rfl ?_
              refine s_4 261 rfl ?_
              refine s_1 262 rfl ?_
              refine s_182V 0 134 265 134 (m_11_answerVerdict l _ _ _ _ _) rfl k_11_answerVerdict jc_11 jw_779 jw_781 jps_5 rfl rfl rfl rfl rfl (fun x21 h22 => ?_)
              exact s_jmp (v_11_send_265 l _) trivial
            refine s_sw1 38 249 208 1 6 199 #[38, 47, 181, 190, 208, 199] 6 n_11_send (by decide +kernel) (by decide) ?_ (fun q5 => ?_)
            · refine s_42 250 rfl rfl ?_
              refine s_27 251 rfl rfl ?_
              refine s_45 252 rfl rfl ?_
              refine s_182V 0 131 255 131 (m_11_answerIHave l _ _ _ _) rfl k_11_answerIHave jc_11 jw_1367 jw_1369 jps_49 rfl rfl rfl rfl rfl (fun x23 h24 => ?_)
              refine s_167 0 10 265 rfl rfl ?_
              exact s_jmp (v_11_send_265 l _) trivial
            refine s_sw0 38 258 208 1 6 #[38, 47, 181, 190, 208, 199] n_11_send (by decide +kernel) (by have r0 := jne_int q0 (z := 1) rfl; have r1 := jne_int q1 (z := 2) rfl; have r2 := jne_int q2 (z := 3) rfl; have r3 := jne_int q3 (z := 4) rfl; have r4 := jne_int q4 (z := 5) rfl; have r5 := jne_int q5 (z := 6) rfl; omega) (by decide) ?_
            refine s_42 259 rfl rfl ?_
            refine s_27 260 rfl rfl ?_
            refine s_4 261 rfl ?_
            refine s_1 262 rfl ?_
            refine s_182V 0 134 265 134 (m_11_answerVerdict l _ _ _ _ _) rfl k_11_answerVerdict jc_11 jw_779 jw_781 jps_5 rfl rfl rfl rfl rfl (fun x25 h26 => ?_)
            exact s_jmp (v_11_send_265 l _) trivial
          · exact s_jmp (v_11_send_31 l _) trivial
theorem m_11_send (l : Launch) (a0 : Nat) (a1 : Int32) (a2 : Int32) (H : jH) : JMet l y_11_send prog_1_method_3_code mi_11_send jeI [.ref a0, .int a1, .int a2] H (F_11_send a0 a1 a2 H) := jmet_of n_11_send (by decide) ⟨rfl, rfl⟩ (Nat.le_of_ble_eq_true rfl) (v_11_send l a0 a1 a2 H)
def mi_11_fetch : jM := (7246500438957828239279927448612668905144076320288849966513993097828105200954154686071312559092978793898710785331202794249035644346855078914383649181169346823033735797833039114672639891794894587502946927658285566944864271720699101002901867729693310211953094566694392897407597354386315487972172341746459, 125, 8, "CoinNode", some FieldType.long, "fetch", 1, 15)
def y_11_fetch : MethodName := ⟨"CoinNode", "fetch", "(I)J"⟩
theorem n_11_fetch : jn_is prog_1_method_4_code mi_11_fetch.1 mi_11_fetch.2.1 := by unfold jn_is; decide +kernel
theorem k_11_fetch : jmok y_11_fetch prog_1_method_4_code mi_11_fetch 1 := ⟨jw_1374, jw_1, ⟨by decide, by decide⟩, by decide +kernel⟩
theorem v_11_fetch_9 (l : Launch)   (H : jH) : JV l mi_11_fetch jeL 9 [] [] H (B_11_fetch_9   H) := by
  unfold B_11_fetch_9
  refine s_9 10 rfl ?_
  exact s_173 rfl rfl
theorem v_11_fetch_80 (l : Launch) (k29 : Nat → Int32 → Int32 → Int64 → Int32 → jH → Option (Int64 × jH)) (hk29 : ∀ a0 a1 a2 a3 a5 H, JV l mi_11_fetch jeL 29 [(0, .ref a0), (1, .int a1), (2, .int a2), (3, .long a3), (5, .int a5)] [] H (k29 a0 a1 a2 a3 a5 H)) (a0 : Nat) (a1 : Int32) (a2 : Int32) (a3 : Int64) (a5 : Int32) (a6 : Int32) (H : jH) : JV l mi_11_fetch jeL 80 [(0, .ref a0), (1, .int a1), (2, .int a2), (3, .long a3), (5, .int a5), (6, .int a6)] [] H (B_11_fetch_80 k29 a0 a1 a2 a3 a5 a6 H) := by
  unfold B_11_fetch_80
  refine s_33 81 rfl rfl ?_
  refine s_16 8 83 8 jbp_8 rfl ?_
  refine s_121 84 rfl ?_
  refine s_21 6 86 rfl rfl ?_
  refine s_133 87 rfl ?_
  refine s_129 88 rfl ?_
  refine s_66L 89 rfl rfl (fun x1 => ?_)
  refine s_132L 5 1 92 1 ji_1 rfl rfl rfl (fun x2 => ?_)
  refine s_167 255 193 29 rfl rfl ?_
  exact s_jmp (hk29 _ _ _ _ _ _) ⟨rfl, rfl, rfl, rfl, rfl, trivial⟩
theorem v_11_fetch_29 (l : Launch) (k29 : Nat → Int32 → Int32 → Int64 → Int32 → jH → Option (Int64 × jH)) (hk29 : ∀ a0 a1 a2 a3 a5 H, JV l mi_11_fetch jeL 29 [(0, .ref a0), (1, .int a1), (2, .int a2), (3, .long a3), (5, .int a5)] [] H (k29 a0 a1 a2 a3 a5 H)) (a0 : Nat) (a1 : Int32) (a2 : Int32) (a3 : Int64) (a5 : Int32) (H : jH) : JV l mi_11_fetch jeL 29 [(0, .ref a0), (1, .int a1), (2, .int a2), (3, .long a3), (5, .int a5)] [] H (B_11_fetch_29 k29 a0 a1 a2 a3 a5 H) := by
  unfold B_11_fetch_29
  refine s_21 5 31 rfl rfl ?_
  refine s_16 7 33 7 jbp_7 rfl ?_
  refine s_162 0 62 95 36 rfl rfl ?_ ?_
  · refine s_42 96 rfl rfl ?_
    refine s_180R 0 21 99 21 f_11_5 jw_482 rfl rfl ?_
    refine s_27 100 rfl rfl ?_
    refine s_42 101 rfl rfl ?_
    refine s_180R 0 21 104 21 f_11_5 jw_482 rfl rfl ?_
    refine s_27 105 rfl rfl ?_
    refine s_46 106 rfl ?_
    refine s_28 107 rfl rfl ?_
    refine s_96 108 rfl ?_
    refine s_17 31 64 111 8000 jsp_31_64 rfl ?_
    refine s_112 112 rfl ?_
    refine s_79 113 rfl (fun h3 => ?_)
    refine s_42 114 rfl rfl ?_
    refine s_180R 0 25 117 25 f_11_6 jw_483 rfl rfl ?_
    refine s_27 118 rfl rfl ?_
    refine s_92 119 rfl rfl rfl ?_
    refine s_46 120 rfl ?_
    refine s_28 121 rfl rfl ?_
    refine s_100 122 rfl ?_
    refine s_79 123 rfl (fun h4 => ?_)
    refine s_33 124 rfl rfl ?_
    exact s_173 rfl rfl
  · refine s_3 37 rfl ?_
    refine s_54 6 39 rfl rfl ?_
    refine s_42 40 rfl rfl ?_
    refine s_180R 0 21 43 21 f_11_5 jw_482 rfl rfl ?_
    refine s_27 44 rfl rfl ?_
    refine s_46 45 rfl ?_
    refine s_21 5 47 rfl rfl ?_
    refine s_96 48 rfl ?_
    refine s_17 31 64 51 8000 jsp_31_64 rfl ?_
    refine s_112 52 rfl ?_
    refine s_54L 7 54 rfl rfl (fun x5 => ?_)
    refine s_21 5 56 rfl rfl ?_
    refine s_28 57 rfl rfl ?_
    refine s_162 0 23 80 60 rfl rfl ?_ ?_
    · exact s_jmp (v_11_fetch_80 l k29 hk29 _ _ _ _ _ _ _) ⟨rfl, rfl, rfl, rfl, rfl, rfl, trivial⟩
    · refine s_21 7 62 rfl rfl ?_
      refine s_155 0 18 80 65 rfl rfl ?_ ?_
      · exact s_jmp (v_11_fetch_80 l k29 hk29 _ _ _ _ _ _ _) ⟨rfl, rfl, rfl, rfl, rfl, rfl, trivial⟩
      · refine s_42 66 rfl rfl ?_
        refine s_180R 0 18 69 18 f_11_4 jw_481 rfl rfl ?_
        refine s_27 70 rfl rfl ?_
        refine s_50 71 110 jt_110 rfl ?_
        refine s_21 7 73 rfl rfl ?_
        refine s_51B 74 rfl ?_
        refine s_17 0 255 77 255 jsp_0_255 rfl ?_
        refine s_126 78 rfl ?_
        refine s_54L 6 80 rfl rfl (fun x6 => ?_)
        exact s_jmp (v_11_fetch_80 l k29 hk29 _ _ _ _ _ _ _) ⟨rfl, rfl, rfl, rfl, rfl, rfl, trivial⟩
theorem w_11_fetch_29 (l : Launch)  (n : Nat) : ∀ a0 a1 a2 a3 a5 H, JV l mi_11_fetch jeL 29 [(0, .ref a0), (1, .int a1), (2, .int a2), (3, .long a3), (5, .int a5)] [] H (F_11_fetch_29  n a0 a1 a2 a3 a5 H) := by
  induction n with
  | zero => intro _ _ _ _ _ _; exact s_none
  | succ n ih => intro a0 a1 a2 a3 a5 H; exact v_11_fetch_29 l (F_11_fetch_29  n) ih a0 a1 a2 a3 a5 H
theorem v_11_fetch (l : Launch) (a0 : Nat) (a1 : Int32) (H : jH) : JV l mi_11_fetch jeL 0 [(0, .ref a0), (1, .int a1)] [] H (F_11_fetch a0 a1 H) := by
  unfold F_11_fetch
  refine s_27 1 rfl rfl ?_
  refine s_155 0 8 9 4 rfl rfl ?_ ?_
  · exact s_jmp (v_11_fetch_9 l _) trivial
  · refine s_27 5 rfl rfl ?_
    refine s_7 6 rfl ?_
    refine s_161 0 5 11 9 rfl rfl ?_ ?_
    · refine s_16 7 13 7 jbp_7 rfl ?_
      refine s_42 14 rfl rfl ?_
      refine s_180R 0 25 17 25 f_11_6 jw_483 rfl rfl ?_
      refine s_27 18 rfl rfl ?_
      refine s_46 19 rfl ?_
      refine s_minI 0 138 22 138 jw_1358 jw_690 jw_15 jw_691 rfl rfl rfl ?_
      refine s_61L 23 rfl rfl (fun x7 => ?_)
      refine s_28 24 rfl rfl ?_
      refine s_133 25 rfl ?_
      refine s_66L 26 rfl rfl (fun x8 => ?_)
      refine s_3 27 rfl ?_
      refine s_54 5 29 rfl rfl ?_
      exact s_jmp (w_11_fetch_29 l jfuel _ _ _ _ _ _) ⟨rfl, rfl, rfl, rfl, rfl, trivial⟩
    · exact s_jmp (v_11_fetch_9 l _) trivial
theorem m_11_fetch (l : Launch) (a0 : Nat) (a1 : Int32) (H : jH) : JMet l y_11_fetch prog_1_method_4_code mi_11_fetch jeL [.ref a0, .int a1] H (F_11_fetch a0 a1 H) := jmet_of n_11_fetch (by decide) ⟨rfl, rfl⟩ (Nat.le_of_ble_eq_true rfl) (v_11_fetch l a0 a1 H)
def mi_11_block : jM := (652955784488776683568185424075486216747034010905385356799537200684594332054926701513402412673458887622828851324659414739094448754844021153609107754976281341804777379509290, 71, 7, "CoinNode", some FieldType.long, "block", 1, 21)
def y_11_block : MethodName := ⟨"CoinNode", "block", "(II)J"⟩
theorem n_11_block : jn_is prog_1_method_5_code mi_11_block.1 mi_11_block.2.1 := by unfold jn_is; decide +kernel
theorem k_11_block : jmok y_11_block prog_1_method_5_code mi_11_block 2 := ⟨jw_1380, jw_1, ⟨by decide, by decide⟩, by decide +kernel⟩
theorem v_11_block_22 (l : Launch)   (H : jH) : JV l mi_11_block jeL 22 [] [] H (B_11_block_22   H) := by
  unfold B_11_block_22
  refine s_9 23 rfl ?_
  exact s_173 rfl rfl
theorem v_11_block_30 (l : Launch) (k30 : Int32 → Nat → Int64 → Int32 → jH → Option (Int64 × jH)) (hk30 : ∀ a2 a3 a4 a6 H, JV l mi_11_block jeL 30 [(2, .int a2), (3, .ref a3), (4, .long a4), (6, .int a6)] [] H (k30 a2 a3 a4 a6 H)) (a2 : Int32) (a3 : Nat) (a4 : Int64) (a6 : Int32) (H : jH) : JV l mi_11_block jeL 30 [(2, .int a2), (3, .ref a3), (4, .long a4), (6, .int a6)] [] H (B_11_block_30 k30 a2 a3 a4 a6 H) := by
  unfold B_11_block_30
  refine s_21 6 32 rfl rfl ?_
  refine s_16 8 34 8 jbp_8 rfl ?_
  refine s_162 0 34 68 37 rfl rfl ?_ ?_
  · refine s_22 4 70 rfl rfl ?_
    exact s_173 rfl rfl
  · refine s_22 4 39 rfl rfl ?_
    refine s_16 8 41 8 jbp_8 rfl ?_
    refine s_121 42 rfl ?_
    refine s_45 43 rfl rfl ?_
    refine s_180R 0 148 46 148 f_0_1 jw_328 rfl rfl ?_
    refine s_16 8 48 8 jbp_8 rfl ?_
    refine s_28 49 rfl rfl ?_
    refine s_104 50 rfl ?_
    refine s_21 6 52 rfl rfl ?_
    refine s_96 53 rfl ?_
    refine s_51B 54 rfl ?_
    refine s_17 0 255 57 255 jsp_0_255 rfl ?_
    refine s_126 58 rfl ?_
    refine s_133 59 rfl ?_
    refine s_129 60 rfl ?_
    refine s_55L 4 62 rfl rfl (fun x1 => ?_)
    refine s_132L 6 1 65 1 ji_1 rfl rfl rfl (fun x2 => ?_)
    refine s_167 255 221 30 rfl rfl ?_
    exact s_jmp (hk30 _ _ _ _ _) ⟨rfl, rfl, rfl, rfl, trivial⟩
theorem w_11_block_30 (l : Launch)  (n : Nat) : ∀ a2 a3 a4 a6 H, JV l mi_11_block jeL 30 [(2, .int a2), (3, .ref a3), (4, .long a4), (6, .int a6)] [] H (F_11_block_30  n a2 a3 a4 a6 H) := by
  induction n with
  | zero => intro _ _ _ _ _; exact s_none
  | succ n ih => intro a2 a3 a4 a6 H; exact v_11_block_30 l (F_11_block_30  n) ih a2 a3 a4 a6 H
theorem v_11_block (l : Launch) (a0 : Nat) (a1 : Int32) (a2 : Int32) (H : jH) : JV l mi_11_block jeL 0 [(0, .ref a0), (1, .int a1), (2, .int a2)] [] H (F_11_block a0 a1 a2 H) := by
  unfold F_11_block
  refine s_42 1 rfl rfl ?_
  refine s_180R 0 59 4 59 f_11_12 jw_489 rfl rfl ?_
  refine s_27 5 rfl rfl ?_
  refine s_182R 0 144 8 144 (m_1_at l _ _ _) rfl k_1_at jc_1 jw_1351 jw_1287 jw_1288 rfl rfl rfl rfl rfl (fun x3 h4 => ?_)
  refine s_78 9 rfl rfl ?_
  refine s_45 10 rfl rfl ?_
  refine s_198 0 12 22 13 rfl rfl ?_ ?_
  · exact s_jmp (v_11_block_22 l _) trivial
  · refine s_28 14 rfl rfl ?_
    refine s_155 0 8 22 17 rfl rfl ?_ ?_
    · exact s_jmp (v_11_block_22 l _) trivial
    · refine s_28 18 rfl rfl ?_
      refine s_6 19 rfl ?_
      refine s_164 0 5 24 22 rfl rfl ?_ ?_
      · refine s_9 25 rfl ?_
        refine s_55 4 27 rfl rfl ?_
        refine s_3 28 rfl ?_
        refine s_54 6 30 rfl rfl ?_
        exact s_jmp (w_11_block_30 l jfuel _ _ _ _ _) ⟨rfl, rfl, rfl, rfl, trivial⟩
      · exact s_jmp (v_11_block_22 l _) trivial
theorem m_11_block (l : Launch) (a0 : Nat) (a1 : Int32) (a2 : Int32) (H : jH) : JMet l y_11_block prog_1_method_5_code mi_11_block jeL [.ref a0, .int a1, .int a2] H (F_11_block a0 a1 a2 H) := jmet_of n_11_block (by decide) ⟨rfl, rfl⟩ (Nat.le_of_ble_eq_true rfl) (v_11_block l a0 a1 a2 H)
def mi_11_key : jM := (1076997899153373088479405402363167667182037729899404575880010273099196385527372678119562409847942580553227750404465651049468572450297963123872472948805450992814584787899761365779818516383397832606503570323942922465581318100841281027, 96, 12, "CoinNode", none, "key", 0, 0)
def y_11_key : MethodName := ⟨"CoinNode", "key", "(JJJJI)V"⟩
theorem n_11_key : jn_is prog_1_method_6_code mi_11_key.1 mi_11_key.2.1 := by unfold jn_is; decide +kernel
theorem k_11_key : jmok y_11_key prog_1_method_6_code mi_11_key 5 := ⟨jw_1418, jw_1, ⟨by decide, by decide⟩, by decide +kernel⟩
theorem v_11_key_3 (l : Launch) (k3 : Nat → Int64 → Int64 → Int64 → Int64 → Int32 → Int32 → jH → Option (Unit × jH)) (hk3 : ∀ a0 a1 a3 a5 a7 a9 a10 H, JV l mi_11_key jeV 3 [(0, .ref a0), (1, .long a1), (3, .long a3), (5, .long a5), (7, .long a7), (9, .int a9), (10, .int a10)] [] H (k3 a0 a1 a3 a5 a7 a9 a10 H)) (a0 : Nat) (a1 : Int64) (a3 : Int64) (a5 : Int64) (a7 : Int64) (a9 : Int32) (a10 : Int32) (H : jH) : JV l mi_11_key jeV 3 [(0, .ref a0), (1, .long a1), (3, .long a3), (5, .long a5), (7, .long a7), (9, .int a9), (10, .int a10)] [] H (B_11_key_3 k3 a0 a1 a3 a5 a7 a9 a10 H) := by
  unfold B_11_key_3
  refine s_21 10 5 rfl rfl ?_
  refine s_16 8 7 8 jbp_8 rfl ?_
  refine s_162 0 82 89 10 rfl rfl ?_ ?_
  · refine s_42 90 rfl rfl ?_
    refine s_21 9 92 rfl rfl ?_
    refine s_181I 0 151 95 151 f_11_3 rfl rfl jw_480 rfl rfl (fun h1 => ?_)
    exact s_177 rfl rfl
  · refine s_16 56 12 56 jbp_56 rfl ?_
    refine s_16 8 14 8 jbp_8 rfl ?_
    refine s_21 10 16 rfl rfl ?_
    refine s_104 17 rfl ?_
    refine s_100 18 rfl ?_
    refine s_54L 11 20 rfl rfl (fun x2 => ?_)
    refine s_42 21 rfl rfl ?_
    refine s_180R 0 13 24 13 f_11_2 jw_479 rfl rfl ?_
    refine s_21 10 26 rfl rfl ?_
    refine s_31 27 rfl rfl ?_
    refine s_21 11 29 rfl rfl ?_
    refine s_125 30 rfl ?_
    refine s_136 31 rfl ?_
    refine s_145 32 rfl ?_
    refine s_84B 33 rfl (fun h3 => ?_)
    refine s_42 34 rfl rfl ?_
    refine s_180R 0 13 37 13 f_11_2 jw_479 rfl rfl ?_
    refine s_16 8 39 8 jbp_8 rfl ?_
    refine s_21 10 41 rfl rfl ?_
    refine s_96 42 rfl ?_
    refine s_33 43 rfl rfl ?_
    refine s_21 11 45 rfl rfl ?_
    refine s_125 46 rfl ?_
    refine s_136 47 rfl ?_
    refine s_145 48 rfl ?_
    refine s_84B 49 rfl (fun h4 => ?_)
    refine s_42 50 rfl rfl ?_
    refine s_180R 0 13 53 13 f_11_2 jw_479 rfl rfl ?_
    refine s_16 16 55 16 jbp_16 rfl ?_
    refine s_21 10 57 rfl rfl ?_
    refine s_96 58 rfl ?_
    refine s_22 5 60 rfl rfl ?_
    refine s_21 11 62 rfl rfl ?_
    refine s_125 63 rfl ?_
    refine s_136 64 rfl ?_
    refine s_145 65 rfl ?_
    refine s_84B 66 rfl (fun h5 => ?_)
    refine s_42 67 rfl rfl ?_
    refine s_180R 0 13 70 13 f_11_2 jw_479 rfl rfl ?_
    refine s_16 24 72 24 jbp_24 rfl ?_
    refine s_21 10 74 rfl rfl ?_
    refine s_96 75 rfl ?_
    refine s_22 7 77 rfl rfl ?_
    refine s_21 11 79 rfl rfl ?_
    refine s_125 80 rfl ?_
    refine s_136 81 rfl ?_
    refine s_145 82 rfl ?_
    refine s_84B 83 rfl (fun h6 => ?_)
    refine s_132L 10 1 86 1 ji_1 rfl rfl rfl (fun x7 => ?_)
    refine s_167 255 173 3 rfl rfl ?_
    exact s_jmp (hk3 _ _ _ _ _ _ _ _) ⟨rfl, rfl, rfl, rfl, rfl, rfl, rfl, trivial⟩
theorem w_11_key_3 (l : Launch)  (n : Nat) : ∀ a0 a1 a3 a5 a7 a9 a10 H, JV l mi_11_key jeV 3 [(0, .ref a0), (1, .long a1), (3, .long a3), (5, .long a5), (7, .long a7), (9, .int a9), (10, .int a10)] [] H (F_11_key_3  n a0 a1 a3 a5 a7 a9 a10 H) := by
  induction n with
  | zero => intro _ _ _ _ _ _ _ _; exact s_none
  | succ n ih => intro a0 a1 a3 a5 a7 a9 a10 H; exact v_11_key_3 l (F_11_key_3  n) ih a0 a1 a3 a5 a7 a9 a10 H
theorem v_11_key (l : Launch) (a0 : Nat) (a1 : Int64) (a3 : Int64) (a5 : Int64) (a7 : Int64) (a9 : Int32) (H : jH) : JV l mi_11_key jeV 0 [(0, .ref a0), (1, .long a1), (3, .long a3), (5, .long a5), (7, .long a7), (9, .int a9)] [] H (F_11_key a0 a1 a3 a5 a7 a9 H) := by
  unfold F_11_key
  refine s_3 1 rfl ?_
  refine s_54 10 3 rfl rfl ?_
  exact s_jmp (w_11_key_3 l jfuel _ _ _ _ _ _ _ _) ⟨rfl, rfl, rfl, rfl, rfl, rfl, rfl, trivial⟩
theorem m_11_key (l : Launch) (a0 : Nat) (a1 : Int64) (a3 : Int64) (a5 : Int64) (a7 : Int64) (a9 : Int32) (H : jH) : JMet l y_11_key prog_1_method_6_code mi_11_key jeV [.ref a0, .long a1, .long a3, .long a5, .long a7, .int a9] H (F_11_key a0 a1 a3 a5 a7 a9 H) := jmet_of n_11_key (by decide) ⟨rfl, rfl⟩ (Nat.le_of_ble_eq_true rfl) (v_11_key l a0 a1 a3 a5 a7 a9 H)
def mi_11_value : jM := (337295907499153245252144294891589003178080548177867728731666858795920524163754611487786, 36, 2, "CoinNode", some FieldType.long, "value", 3, 64)
def y_11_value : MethodName := ⟨"CoinNode", "value", "()J"⟩
theorem n_11_value : jn_is prog_1_method_7_code mi_11_value.1 mi_11_value.2.1 := by unfold jn_is; decide +kernel
theorem k_11_value : jmok y_11_value prog_1_method_7_code mi_11_value 0 := ⟨jw_1422, jw_1, ⟨by decide, by decide⟩, by decide +kernel⟩
theorem v_11_value_35 (l : Launch)  (s0 : Int64) (H : jH) : JV l mi_11_value jeL 35 [] [.long s0] H (B_11_value_35  s0 H) := by
  unfold B_11_value_35
  exact s_173 rfl rfl
theorem v_11_value (l : Launch) (a0 : Nat) (H : jH) : JV l mi_11_value jeL 0 [(0, .ref a0)] [] H (F_11_value a0 H) := by
  unfold F_11_value
  refine s_42 1 rfl rfl ?_
  refine s_180R 0 50 4 50 f_11_11 jw_488 rfl rfl ?_
  refine s_42 5 rfl rfl ?_
  refine s_180R 0 13 8 13 f_11_2 jw_479 rfl rfl ?_
  refine s_3 9 rfl ?_
  refine s_42 10 rfl rfl ?_
  refine s_180I 0 151 13 151 f_11_3 jw_480 rfl rfl ?_
  refine s_182I 0 154 16 154 (m_2_find l _ _ _ _ _) rfl k_2_find jc_2 jw_1423 jw_835 jw_836 rfl rfl rfl rfl rfl (fun x1 h2 => ?_)
  refine s_60 17 rfl rfl ?_
  refine s_27 18 rfl rfl ?_
  refine s_156 0 9 27 21 rfl rfl ?_ ?_
  · refine s_42 28 rfl rfl ?_
    refine s_180R 0 50 31 50 f_11_11 jw_488 rfl rfl ?_
    refine s_27 32 rfl rfl ?_
    refine s_182L 0 160 35 160 (m_2_worth l _ _ _) rfl k_2_worth jc_2 jw_1425 jw_1320 jw_1321 rfl rfl rfl rfl rfl (fun x3 h4 => ?_)
    exact s_jmp (v_11_value_35 l _ _) trivial
  · refine s_20 0 158 24 158 (-1) rfl jw_1424 rfl ?_
    refine s_167 0 11 35 rfl rfl ?_
    exact s_jmp (v_11_value_35 l _ _) trivial
theorem m_11_value (l : Launch) (a0 : Nat) (H : jH) : JMet l y_11_value prog_1_method_7_code mi_11_value jeL [.ref a0] H (F_11_value a0 H) := jmet_of n_11_value (by decide) ⟨rfl, rfl⟩ (Nat.le_of_ble_eq_true rfl) (v_11_value l a0 H)
def mi_11_total : jM := (12512126438675100714, 8, 1, "CoinNode", some FieldType.long, "total", 0, 0)
def y_11_total : MethodName := ⟨"CoinNode", "total", "()J"⟩
theorem n_11_total : jn_is prog_1_method_8_code mi_11_total.1 mi_11_total.2.1 := by unfold jn_is; decide +kernel
theorem k_11_total : jmok y_11_total prog_1_method_8_code mi_11_total 0 := ⟨jw_1408, jw_1, ⟨by decide, by decide⟩, by decide +kernel⟩
theorem v_11_total (l : Launch) (a0 : Nat) (H : jH) : JV l mi_11_total jeL 0 [(0, .ref a0)] [] H (F_11_total a0 H) := by
  unfold F_11_total
  refine s_42 1 rfl rfl ?_
  refine s_180R 0 50 4 50 f_11_11 jw_488 rfl rfl ?_
  refine s_180L 0 164 7 164 f_2_5 jw_280 rfl rfl ?_
  exact s_173 rfl rfl
theorem m_11_total (l : Launch) (a0 : Nat) (H : jH) : JMet l y_11_total prog_1_method_8_code mi_11_total jeL [.ref a0] H (F_11_total a0 H) := jmet_of n_11_total (by decide) ⟨rfl, rfl⟩ (Nat.le_of_ble_eq_true rfl) (v_11_total l a0 H)
def mi_11_count : jM := (3706053957253796541542755083933211195788689970460158549605322245383250000063550054717589517539273625334499751979034932500084296977869982896544061806611571146418241181260086385226615863850619026404552881001309340215835, 90, 2, "CoinNode", some FieldType.int, "count", 0, 0)
def y_11_count : MethodName := ⟨"CoinNode", "count", "(I)I"⟩
theorem n_11_count : jn_is prog_1_method_9_code mi_11_count.1 mi_11_count.2.1 := by unfold jn_is; decide +kernel
theorem k_11_count : jmok y_11_count prog_1_method_9_code mi_11_count 1 := ⟨jw_1384, jw_1, ⟨by decide, by decide⟩, by decide +kernel⟩
theorem v_11_count (l : Launch) (a0 : Nat) (a1 : Int32) (H : jH) : JV l mi_11_count jeI 0 [(0, .ref a0), (1, .int a1)] [] H (F_11_count a0 a1 H) := by
  unfold F_11_count
  refine s_27 1 rfl rfl ?_
  refine s_sw1 39 40 87 0 5 39 #[39, 47, 58, 66, 74, 79] 0 n_11_count (by decide +kernel) (by decide) ?_ (fun q0 => ?_)
  · refine s_42 41 rfl rfl ?_
    refine s_180R 0 59 44 59 f_11_12 jw_489 rfl rfl ?_
    refine s_180I 0 168 47 168 f_1_4 jw_386 rfl rfl ?_
    exact s_172 rfl rfl
  refine s_sw1 39 48 87 0 5 47 #[39, 47, 58, 66, 74, 79] 1 n_11_count (by decide +kernel) (by decide) ?_ (fun q1 => ?_)
  · refine s_42 49 rfl rfl ?_
    refine s_180R 0 59 52 59 f_11_12 jw_489 rfl rfl ?_
    refine s_180R 0 90 55 90 f_1_6 jw_390 rfl rfl ?_
    refine s_180I 0 114 58 114 f_0_6 jw_338 rfl rfl ?_
    exact s_172 rfl rfl
  refine s_sw1 39 59 87 0 5 58 #[39, 47, 58, 66, 74, 79] 2 n_11_count (by decide +kernel) (by decide) ?_ (fun q2 => ?_)
  · refine s_42 60 rfl rfl ?_
    refine s_180R 0 50 63 50 f_11_11 jw_488 rfl rfl ?_
    refine s_180I 0 171 66 171 f_2_3 jw_277 rfl rfl ?_
    exact s_172 rfl rfl
  refine s_sw1 39 67 87 0 5 66 #[39, 47, 58, 66, 74, 79] 3 n_11_count (by decide +kernel) (by decide) ?_ (fun q3 => ?_)
  · refine s_42 68 rfl rfl ?_
    refine s_180R 0 68 71 68 f_11_13 jw_490 rfl rfl ?_
    refine s_180I 0 172 74 172 f_6_4 jw_450 rfl rfl ?_
    exact s_172 rfl rfl
  refine s_sw1 39 75 87 0 5 74 #[39, 47, 58, 66, 74, 79] 4 n_11_count (by decide +kernel) (by decide) ?_ (fun q4 => ?_)
  · refine s_42 76 rfl rfl ?_
    refine s_180I 0 72 79 72 f_11_1 jw_478 rfl rfl ?_
    exact s_172 rfl rfl
  refine s_sw1 39 80 87 0 5 79 #[39, 47, 58, 66, 74, 79] 5 n_11_count (by decide +kernel) (by decide) ?_ (fun q5 => ?_)
  · refine s_42 81 rfl rfl ?_
    refine s_180R 0 59 84 59 f_11_12 jw_489 rfl rfl ?_
    refine s_180I 0 173 87 173 f_1_5 jw_387 rfl rfl ?_
    exact s_172 rfl rfl
  refine s_sw0 39 88 87 0 5 #[39, 47, 58, 66, 74, 79] n_11_count (by decide +kernel) (by have r0 := jne_int q0 (z := 0) rfl; have r1 := jne_int q1 (z := 1) rfl; have r2 := jne_int q2 (z := 2) rfl; have r3 := jne_int q3 (z := 3) rfl; have r4 := jne_int q4 (z := 4) rfl; have r5 := jne_int q5 (z := 5) rfl; omega) (by decide) ?_
  refine s_2 89 rfl ?_
  exact s_172 rfl rfl
theorem m_11_count (l : Launch) (a0 : Nat) (a1 : Int32) (H : jH) : JMet l y_11_count prog_1_method_9_code mi_11_count jeI [.ref a0, .int a1] H (F_11_count a0 a1 H) := jmet_of n_11_count (by decide) ⟨rfl, rfl⟩ (Nat.le_of_ble_eq_true rfl) (v_11_count l a0 a1 H)
