def mi_9_number : jM := (474593513940564785300278502002509298035697755956702980205093263700305809157979338914567168276686541178371326228452648268543636931079765824222761011982204063570718062941967309805981058524516256058591519671111911292063956056754727652949669646603646477242927034829987298220067753912312094174910663137754678299, 127, 8, "CoinNode$Stack", some FieldType.long, "number", 0, 0)
def y_9_number : MethodName := ⟨"CoinNode$Stack", "number", "(I)J"⟩
theorem n_9_number : jn_is prog_11_method_6_code mi_9_number.1 mi_9_number.2.1 := by unfold jn_is; decide +kernel
theorem k_9_number : jmok y_9_number prog_11_method_6_code mi_9_number 1 := ⟨jw_939, jw_7, ⟨by decide, by decide⟩, by decide +kernel⟩
theorem v_9_number_13 (l : Launch)   (H : jH) : JV l mi_9_number jeL 13 [] [] H (B_9_number_13   H) := by
  unfold B_9_number_13
  refine s_9 14 rfl ?_
  exact s_173 rfl rfl
theorem v_9_number_84 (l : Launch) (k45 : Nat → Int32 → Int64 → Int32 → jH → Option (Int64 × jH)) (hk45 : ∀ a2 a3 a4 a6 H, JV l mi_9_number jeL 45 [(2, .ref a2), (3, .int a3), (4, .long a4), (6, .int a6)] [] H (k45 a2 a3 a4 a6 H)) (a2 : Nat) (a3 : Int32) (a4 : Int64) (a6 : Int32) (s0 : Int32) (H : jH) : JV l mi_9_number jeL 84 [(2, .ref a2), (3, .int a3), (4, .long a4), (6, .int a6)] [.int s0] H (B_9_number_84 k45 a2 a3 a4 a6 s0 H) := by
  unfold B_9_number_84
  refine s_54 7 86 rfl rfl ?_
  refine s_22 4 88 rfl rfl ?_
  refine s_21 7 90 rfl rfl ?_
  refine s_133 91 rfl ?_
  refine s_16 8 93 8 jbp_8 rfl ?_
  refine s_21 6 95 rfl rfl ?_
  refine s_104 96 rfl ?_
  refine s_121 97 rfl ?_
  refine s_129 98 rfl ?_
  refine s_55L 4 100 rfl rfl (fun x1 => ?_)
  refine s_132L 6 1 103 1 ji_1 rfl rfl rfl (fun x2 => ?_)
  refine s_167 255 198 45 rfl rfl ?_
  exact s_jmp (hk45 _ _ _ _ _) ⟨rfl, rfl, rfl, rfl, trivial⟩
theorem v_9_number_126 (l : Launch)  (s0 : Int64) (H : jH) : JV l mi_9_number jeL 126 [] [.long s0] H (B_9_number_126  s0 H) := by
  unfold B_9_number_126
  exact s_173 rfl rfl
theorem v_9_number_124 (l : Launch)  (a4 : Int64) (H : jH) : JV l mi_9_number jeL 124 [(4, .long a4)] [] H (B_9_number_124  a4 H) := by
  unfold B_9_number_124
  refine s_22 4 126 rfl rfl ?_
  exact s_jmp (v_9_number_126 l _ _) trivial
theorem v_9_number_106 (l : Launch)  (a2 : Nat) (a3 : Int32) (a4 : Int64) (H : jH) : JV l mi_9_number jeL 106 [(2, .ref a2), (3, .int a3), (4, .long a4)] [] H (B_9_number_106  a2 a3 a4 H) := by
  unfold B_9_number_106
  refine s_29 107 rfl rfl ?_
  refine s_158 0 17 124 110 rfl rfl ?_ ?_
  · exact s_jmp (v_9_number_124 l _ _) ⟨rfl, trivial⟩
  · refine s_44 111 rfl rfl ?_
    refine s_29 112 rfl rfl ?_
    refine s_4 113 rfl ?_
    refine s_100 114 rfl ?_
    refine s_51B 115 rfl ?_
    refine s_156 0 9 124 118 rfl rfl ?_ ?_
    · exact s_jmp (v_9_number_124 l _ _) ⟨rfl, trivial⟩
    · refine s_22 4 120 rfl rfl ?_
      refine s_117 121 rfl ?_
      refine s_167 0 5 126 rfl rfl ?_
      exact s_jmp (v_9_number_126 l _ _) trivial
theorem v_9_number_45 (l : Launch) (k45 : Nat → Int32 → Int64 → Int32 → jH → Option (Int64 × jH)) (hk45 : ∀ a2 a3 a4 a6 H, JV l mi_9_number jeL 45 [(2, .ref a2), (3, .int a3), (4, .long a4), (6, .int a6)] [] H (k45 a2 a3 a4 a6 H)) (a2 : Nat) (a3 : Int32) (a4 : Int64) (a6 : Int32) (H : jH) : JV l mi_9_number jeL 45 [(2, .ref a2), (3, .int a3), (4, .long a4), (6, .int a6)] [] H (B_9_number_45 k45 a2 a3 a4 a6 H) := by
  unfold B_9_number_45
  refine s_21 6 47 rfl rfl ?_
  refine s_29 48 rfl rfl ?_
  refine s_162 0 58 106 51 rfl rfl ?_ ?_
  · exact s_jmp (v_9_number_106 l _ _ _ _) ⟨rfl, rfl, rfl, trivial⟩
  · refine s_21 6 53 rfl rfl ?_
    refine s_16 8 55 8 jbp_8 rfl ?_
    refine s_162 0 51 106 58 rfl rfl ?_ ?_
    · exact s_jmp (v_9_number_106 l _ _ _ _) ⟨rfl, rfl, rfl, trivial⟩
    · refine s_21 6 60 rfl rfl ?_
      refine s_29 61 rfl rfl ?_
      refine s_4 62 rfl ?_
      refine s_100 63 rfl ?_
      refine s_160 0 13 76 66 rfl rfl ?_ ?_
      · refine s_44 77 rfl rfl ?_
        refine s_21 6 79 rfl rfl ?_
        refine s_51B 80 rfl ?_
        refine s_17 0 255 83 255 jsp_0_255 rfl ?_
        refine s_126 84 rfl ?_
        exact s_jmp (v_9_number_84 l k45 hk45 _ _ _ _ _ _) ⟨rfl, rfl, rfl, rfl, trivial⟩
      · refine s_44 67 rfl rfl ?_
        refine s_21 6 69 rfl rfl ?_
        refine s_51B 70 rfl ?_
        refine s_16 127 72 127 jbp_127 rfl ?_
        refine s_126 73 rfl ?_
        refine s_167 0 11 84 rfl rfl ?_
        exact s_jmp (v_9_number_84 l k45 hk45 _ _ _ _ _ _) ⟨rfl, rfl, rfl, rfl, trivial⟩
theorem w_9_number_45 (l : Launch)  (n : Nat) : ∀ a2 a3 a4 a6 H, JV l mi_9_number jeL 45 [(2, .ref a2), (3, .int a3), (4, .long a4), (6, .int a6)] [] H (F_9_number_45  n a2 a3 a4 a6 H) := by
  induction n with
  | zero => intro _ _ _ _ _; exact s_none
  | succ n ih => intro a2 a3 a4 a6 H; exact v_9_number_45 l (F_9_number_45  n) ih a2 a3 a4 a6 H
theorem v_9_number (l : Launch) (a0 : Nat) (a1 : Int32) (H : jH) : JV l mi_9_number jeL 0 [(0, .ref a0), (1, .int a1)] [] H (F_9_number a0 a1 H) := by
  unfold F_9_number
  refine s_27 1 rfl rfl ?_
  refine s_4 2 rfl ?_
  refine s_161 0 11 13 5 rfl rfl ?_ ?_
  · exact s_jmp (v_9_number_13 l _) trivial
  · refine s_27 6 rfl rfl ?_
    refine s_42 7 rfl rfl ?_
    refine s_180I 0 18 10 18 f_9_2 jw_167 rfl rfl ?_
    refine s_164 0 5 15 13 rfl rfl ?_ ?_
    · refine s_42 16 rfl rfl ?_
      refine s_180R 0 11 19 11 f_9_0 jw_163 rfl rfl ?_
      refine s_42 20 rfl rfl ?_
      refine s_180I 0 18 23 18 f_9_2 jw_167 rfl rfl ?_
      refine s_27 24 rfl rfl ?_
      refine s_100 25 rfl ?_
      refine s_50 26 110 jt_110 rfl ?_
      refine s_77L 27 rfl rfl (fun x3 => ?_)
      refine s_42 28 rfl rfl ?_
      refine s_180R 0 14 31 14 f_9_1 jw_165 rfl rfl ?_
      refine s_42 32 rfl rfl ?_
      refine s_180I 0 18 35 18 f_9_2 jw_167 rfl rfl ?_
      refine s_27 36 rfl rfl ?_
      refine s_100 37 rfl ?_
      refine s_46 38 rfl ?_
      refine s_62L 39 rfl rfl (fun x4 => ?_)
      refine s_9 40 rfl ?_
      refine s_55 4 42 rfl rfl ?_
      refine s_3 43 rfl ?_
      refine s_54 6 45 rfl rfl ?_
      exact s_jmp (w_9_number_45 l jfuel _ _ _ _ _) ⟨rfl, rfl, rfl, rfl, trivial⟩
    · exact s_jmp (v_9_number_13 l _) trivial
theorem m_9_number (l : Launch) (a0 : Nat) (a1 : Int32) (H : jH) : JMet l y_9_number prog_11_method_6_code mi_9_number jeL [.ref a0, .int a1] H (F_9_number a0 a1 H) := jmet_of n_9_number (by decide) ⟨rfl, rfl⟩ (Nat.le_of_ble_eq_true rfl) (v_9_number l a0 a1 H)
def mi_9_putCopy : jM := (2610377916898228629724440407333741283259092068291391509148072355184422351924693495490161064079829085222826149325591293008399538119438458445883079107607769427259047326762, 70, 3, "CoinNode$Stack", none, "putCopy", 1, 60)
def y_9_putCopy : MethodName := ⟨"CoinNode$Stack", "putCopy", "(LCoinNode$Stack;I)V"⟩
theorem n_9_putCopy : jn_is prog_11_method_3_code mi_9_putCopy.1 mi_9_putCopy.2.1 := by unfold jn_is; decide +kernel
theorem k_9_putCopy : jmok y_9_putCopy prog_11_method_3_code mi_9_putCopy 2 := ⟨jw_927, jw_7, ⟨by decide, by decide⟩, by decide +kernel⟩
theorem v_9_putCopy_21 (l : Launch)   (H : jH) : JV l mi_9_putCopy jeV 21 [] [] H (B_9_putCopy_21   H) := by
  unfold B_9_putCopy_21
  exact s_177 rfl rfl
theorem v_9_putCopy (l : Launch) (a0 : Nat) (a1 : Nat) (a2 : Int32) (H : jH) : JV l mi_9_putCopy jeV 0 [(0, .ref a0), (1, .ref a1), (2, .int a2)] [] H (F_9_putCopy a0 a1 a2 H) := by
  unfold F_9_putCopy
  refine s_42 1 rfl rfl ?_
  refine s_180I 0 18 4 18 f_9_2 jw_167 rfl rfl ?_
  refine s_16 70 6 70 jbp_70 rfl ?_
  refine s_162 0 15 21 9 rfl rfl ?_ ?_
  · exact s_jmp (v_9_putCopy_21 l _) trivial
  · refine s_28 10 rfl rfl ?_
    refine s_155 0 11 21 13 rfl rfl ?_ ?_
    · exact s_jmp (v_9_putCopy_21 l _) trivial
    · refine s_28 14 rfl rfl ?_
      refine s_43 15 rfl rfl ?_
      refine s_180I 0 18 18 18 f_9_2 jw_167 rfl rfl ?_
      refine s_161 0 4 22 21 rfl rfl ?_ ?_
      · refine s_43 23 rfl rfl ?_
        refine s_180R 0 11 26 11 f_9_0 jw_163 rfl rfl ?_
        refine s_28 27 rfl rfl ?_
        refine s_50 28 110 jt_110 rfl ?_
        refine s_3 29 rfl ?_
        refine s_42 30 rfl rfl ?_
        refine s_180R 0 11 33 11 f_9_0 jw_163 rfl rfl ?_
        refine s_42 34 rfl rfl ?_
        refine s_180I 0 18 37 18 f_9_2 jw_167 rfl rfl ?_
        refine s_50 38 110 jt_110 rfl ?_
        refine s_3 39 rfl ?_
        refine s_16 120 41 120 jbp_120 rfl ?_
        refine s_acB 0 22 44 22 jw_888 jw_372 jw_371 jw_12 rfl rfl rfl rfl (fun h1 => ?_)
        refine s_42 45 rfl rfl ?_
        refine s_180R 0 14 48 14 f_9_1 jw_165 rfl rfl ?_
        refine s_42 49 rfl rfl ?_
        refine s_180I 0 18 52 18 f_9_2 jw_167 rfl rfl ?_
        refine s_43 53 rfl rfl ?_
        refine s_180R 0 14 56 14 f_9_1 jw_165 rfl rfl ?_
        refine s_28 57 rfl rfl ?_
        refine s_46 58 rfl ?_
        refine s_79 59 rfl (fun h2 => ?_)
        refine s_42 60 rfl rfl ?_
        refine s_89 61 rfl rfl ?_
        refine s_180I 0 18 64 18 f_9_2 jw_167 rfl rfl ?_
        refine s_4 65 rfl ?_
        refine s_96 66 rfl ?_
        refine s_181I 0 18 69 18 f_9_2 rfl rfl jw_167 rfl rfl (fun h3 => ?_)
        exact s_177 rfl rfl
      · exact s_jmp (v_9_putCopy_21 l _) trivial
theorem m_9_putCopy (l : Launch) (a0 : Nat) (a1 : Nat) (a2 : Int32) (H : jH) : JMet l y_9_putCopy prog_11_method_3_code mi_9_putCopy jeV [.ref a0, .ref a1, .int a2] H (F_9_putCopy a0 a1 a2 H) := jmet_of n_9_putCopy (by decide) ⟨rfl, rfl⟩ (Nat.le_of_ble_eq_true rfl) (v_9_putCopy l a0 a1 a2 H)
def mi_4_arrange : jM := (4309790830628629759297431827150777187813402064914991772195467545734894905328704972563834060430588248904621228195960353386779722317088445915858553154309116453039341550140679979012060454568516392970714660990230536251921982138871624037575336024874750520464084125107611394471788086936981485032060332945205292172222991125422929051714259246025703839764799770691883523291278895926431037993963584039373118671859182660576196119585663011078007388442742697532270214381238396010462797154438209289635507212384750055760660049354225179180784386910956274838611892049271380097444052612522252841455643, 242, 4, "CoinNode$Machine", none, "arrange", 2, 82)
def y_4_arrange : MethodName := ⟨"CoinNode$Machine", "arrange", "(I)V"⟩
theorem n_4_arrange : jn_is prog_6_method_12_code mi_4_arrange.1 mi_4_arrange.2.1 := by unfold jn_is; decide +kernel
theorem k_4_arrange : jmok y_4_arrange prog_6_method_12_code mi_4_arrange 1 := ⟨jw_931, jw_6, ⟨by decide, by decide⟩, by decide +kernel⟩
theorem v_4_arrange_241 (l : Launch)   (H : jH) : JV l mi_4_arrange jeV 241 [] [] H (B_4_arrange_241   H) := by
  unfold B_4_arrange_241
  exact s_177 rfl rfl
theorem v_4_arrange_190 (l : Launch)   (H : jH) : JV l mi_4_arrange jeV 190 [] [] H (B_4_arrange_190   H) := by
  unfold B_4_arrange_190
  refine s_167 0 51 241 rfl rfl ?_
  exact s_jmp (v_4_arrange_241 l _) trivial
theorem v_4_arrange_131 (l : Launch)  (a0 : Nat) (H : jH) : JV l mi_4_arrange jeV 131 [(0, .ref a0)] [] H (B_4_arrange_131  a0 H) := by
  unfold B_4_arrange_131
  refine s_42 132 rfl rfl ?_
  refine s_5 133 rfl ?_
  refine s_181I 0 68 136 68 f_4_9 rfl rfl jw_187 rfl rfl (fun h1 => ?_)
  refine s_167 0 54 190 rfl rfl ?_
  exact s_jmp (v_4_arrange_190 l _) trivial
theorem v_4_arrange_236 (l : Launch)  (a0 : Nat) (H : jH) : JV l mi_4_arrange jeV 236 [(0, .ref a0)] [] H (B_4_arrange_236  a0 H) := by
  unfold B_4_arrange_236
  refine s_42 237 rfl rfl ?_
  refine s_5 238 rfl ?_
  refine s_181I 0 68 241 68 f_4_9 rfl rfl jw_187 rfl rfl (fun h2 => ?_)
  exact s_jmp (v_4_arrange_241 l _) trivial
theorem v_4_arrange_193 (l : Launch)  (a0 : Nat) (a1 : Int32) (H : jH) : JV l mi_4_arrange jeV 193 [(0, .ref a0), (1, .int a1)] [] H (B_4_arrange_193  a0 a1 H) := by
  unfold B_4_arrange_193
  refine s_27 194 rfl rfl ?_
  refine s_17 0 130 197 130 jsp_0_130 rfl ?_
  refine s_160 0 39 236 200 rfl rfl ?_ ?_
  · exact s_jmp (v_4_arrange_236 l _ _) ⟨rfl, trivial⟩
  · refine s_42 201 rfl rfl ?_
    refine s_4 202 rfl ?_
    refine s_182I 0 116 205 116 (m_4_has l _ _ _) rfl k_4_has jc_4 jw_893 jw_895 jps_13 rfl rfl rfl rfl rfl (fun x3 h4 => ?_)
    refine s_153 0 31 236 208 rfl rfl ?_ ?_
    · exact s_jmp (v_4_arrange_236 l _ _) ⟨rfl, trivial⟩
    · refine s_42 209 rfl rfl ?_
      refine s_180R 0 14 212 14 f_4_1 jw_177 rfl rfl ?_
      refine s_42 213 rfl rfl ?_
      refine s_180R 0 14 216 14 f_4_1 jw_177 rfl rfl ?_
      refine s_180R 0 142 219 142 f_9_1 jw_166 rfl rfl ?_
      refine s_42 220 rfl rfl ?_
      refine s_180R 0 14 223 14 f_4_1 jw_177 rfl rfl ?_
      refine s_180I 0 41 226 41 f_9_2 jw_168 rfl rfl ?_
      refine s_4 227 rfl ?_
      refine s_100 228 rfl ?_
      refine s_46 229 rfl ?_
      refine s_133 230 rfl ?_
      refine s_182V 0 124 233 124 (m_9_putNumber l _ _ _) rfl k_9_putNumber jc_9 jw_913 jw_914 jw_915 rfl rfl rfl rfl rfl (fun x5 h6 => ?_)
      refine s_167 0 8 241 rfl rfl ?_
      exact s_jmp (v_4_arrange_241 l _) trivial
theorem v_4_arrange_84 (l : Launch)  (a0 : Nat) (a1 : Int32) (H : jH) : JV l mi_4_arrange jeV 84 [(0, .ref a0), (1, .int a1)] [] H (B_4_arrange_84  a0 a1 H) := by
  unfold B_4_arrange_84
  refine s_42 85 rfl rfl ?_
  refine s_180R 0 14 88 14 f_4_1 jw_177 rfl rfl ?_
  refine s_4 89 rfl ?_
  refine s_182I 0 132 92 132 (m_9_isNumber l _ _ _) rfl k_9_isNumber jc_9 jw_932 jw_933 jw_934 rfl rfl rfl rfl rfl (fun x7 h8 => ?_)
  refine s_153 0 101 193 95 rfl rfl ?_ ?_
  · exact s_jmp (v_4_arrange_193 l _ _ _) ⟨rfl, rfl, trivial⟩
  · refine s_42 96 rfl rfl ?_
    refine s_180R 0 14 99 14 f_4_1 jw_177 rfl rfl ?_
    refine s_4 100 rfl ?_
    refine s_182L 0 135 103 135 (m_9_number l _ _ _) rfl k_9_number jc_9 jw_936 jw_937 jw_938 rfl rfl rfl rfl rfl (fun x9 h10 => ?_)
    refine s_65 104 rfl rfl ?_
    refine s_42 105 rfl rfl ?_
    refine s_180R 0 14 108 14 f_4_1 jw_177 rfl rfl ?_
    refine s_4 109 rfl ?_
    refine s_182V 0 119 112 119 (m_9_drop l _ _ _) rfl k_9_drop jc_9 jw_901 jw_902 jw_903 rfl rfl rfl rfl rfl (fun x11 h12 => ?_)
    refine s_32 113 rfl rfl ?_
    refine s_9 114 rfl ?_
    refine s_148_155 0 16 131 115 118 rfl rfl rfl ?_ ?_
    · exact s_jmp (v_4_arrange_131 l _ _) ⟨rfl, trivial⟩
    · refine s_32 119 rfl rfl ?_
      refine s_42 120 rfl rfl ?_
      refine s_180R 0 14 123 14 f_4_1 jw_177 rfl rfl ?_
      refine s_180I 0 41 126 41 f_9_2 jw_168 rfl rfl ?_
      refine s_133 127 rfl ?_
      refine s_148_155 0 11 139 128 131 rfl rfl rfl ?_ ?_
      · refine s_27 140 rfl rfl ?_
        refine s_16 121 142 121 jbp_121 rfl ?_
        refine s_160 0 29 171 145 rfl rfl ?_ ?_
        · refine s_42 172 rfl rfl ?_
          refine s_180R 0 14 175 14 f_4_1 jw_177 rfl rfl ?_
          refine s_42 176 rfl rfl ?_
          refine s_180R 0 14 179 14 f_4_1 jw_177 rfl rfl ?_
          refine s_180I 0 41 182 41 f_9_2 jw_168 rfl rfl ?_
          refine s_4 183 rfl ?_
          refine s_100 184 rfl ?_
          refine s_32 185 rfl rfl ?_
          refine s_136 186 rfl ?_
          refine s_100 187 rfl ?_
          refine s_182V 0 139 190 139 (m_9_lift l _ _ _) rfl k_9_lift jc_9 jw_940 jw_941 jw_942 rfl rfl rfl rfl rfl (fun x13 h14 => ?_)
          exact s_jmp (v_4_arrange_190 l _) trivial
        · refine s_42 146 rfl rfl ?_
          refine s_180R 0 14 149 14 f_4_1 jw_177 rfl rfl ?_
          refine s_42 150 rfl rfl ?_
          refine s_180R 0 14 153 14 f_4_1 jw_177 rfl rfl ?_
          refine s_42 154 rfl rfl ?_
          refine s_180R 0 14 157 14 f_4_1 jw_177 rfl rfl ?_
          refine s_180I 0 41 160 41 f_9_2 jw_168 rfl rfl ?_
          refine s_4 161 rfl ?_
          refine s_100 162 rfl ?_
          refine s_32 163 rfl rfl ?_
          refine s_136 164 rfl ?_
          refine s_100 165 rfl ?_
          refine s_182V 0 128 168 128 (m_9_putCopy l _ _ _ _) rfl k_9_putCopy jc_9 jw_924 jw_925 jw_926 rfl rfl rfl rfl rfl (fun x15 h16 => ?_)
          refine s_167 0 22 190 rfl rfl ?_
          exact s_jmp (v_4_arrange_190 l _) trivial
      · exact s_jmp (v_4_arrange_131 l _ _) ⟨rfl, trivial⟩
theorem v_4_arrange_48 (l : Launch)  (a0 : Nat) (a1 : Int32) (H : jH) : JV l mi_4_arrange jeV 48 [(0, .ref a0), (1, .int a1)] [] H (B_4_arrange_48  a0 a1 H) := by
  unfold B_4_arrange_48
  refine s_27 49 rfl rfl ?_
  refine s_16 116 51 116 jbp_116 rfl ?_
  refine s_160 0 21 72 54 rfl rfl ?_ ?_
  · refine s_27 73 rfl rfl ?_
    refine s_16 121 75 121 jbp_121 rfl ?_
    refine s_159 0 9 84 78 rfl rfl ?_ ?_
    · exact s_jmp (v_4_arrange_84 l _ _ _) ⟨rfl, rfl, trivial⟩
    · refine s_27 79 rfl rfl ?_
      refine s_16 122 81 122 jbp_122 rfl ?_
      refine s_160 0 112 193 84 rfl rfl ?_ ?_
      · exact s_jmp (v_4_arrange_193 l _ _ _) ⟨rfl, rfl, trivial⟩
      · exact s_jmp (v_4_arrange_84 l _ _ _) ⟨rfl, rfl, trivial⟩
  · refine s_42 55 rfl rfl ?_
    refine s_180R 0 14 58 14 f_4_1 jw_177 rfl rfl ?_
    refine s_42 59 rfl rfl ?_
    refine s_180R 0 14 62 14 f_4_1 jw_177 rfl rfl ?_
    refine s_180I 0 41 65 41 f_9_2 jw_168 rfl rfl ?_
    refine s_133 66 rfl ?_
    refine s_182V 0 124 69 124 (m_9_putNumber l _ _ _) rfl k_9_putNumber jc_9 jw_913 jw_914 jw_915 rfl rfl rfl rfl rfl (fun x17 h18 => ?_)
    refine s_167 0 172 241 rfl rfl ?_
    exact s_jmp (v_4_arrange_241 l _) trivial
theorem v_4_arrange (l : Launch) (a0 : Nat) (a1 : Int32) (H : jH) : JV l mi_4_arrange jeV 0 [(0, .ref a0), (1, .int a1)] [] H (F_4_arrange a0 a1 H) := by
  unfold F_4_arrange
  refine s_27 1 rfl rfl ?_
  refine s_16 115 3 115 jbp_115 rfl ?_
  refine s_160 0 45 48 6 rfl rfl ?_ ?_
  · exact s_jmp (v_4_arrange_48 l _ _ _) ⟨rfl, rfl, trivial⟩
  · refine s_42 7 rfl rfl ?_
    refine s_4 8 rfl ?_
    refine s_182I 0 116 11 116 (m_4_has l _ _ _) rfl k_4_has jc_4 jw_893 jw_895 jps_13 rfl rfl rfl rfl rfl (fun x19 h20 => ?_)
    refine s_153 0 37 48 14 rfl rfl ?_ ?_
    · exact s_jmp (v_4_arrange_48 l _ _ _) ⟨rfl, rfl, trivial⟩
    · refine s_42 15 rfl rfl ?_
      refine s_180R 0 14 18 14 f_4_1 jw_177 rfl rfl ?_
      refine s_4 19 rfl ?_
      refine s_182I 0 71 22 71 (m_9_isTrue l _ _ _) rfl k_9_isTrue jc_9 jw_897 jw_898 jw_899 rfl rfl rfl rfl rfl (fun x21 h22 => ?_)
      refine s_153 0 219 241 25 rfl rfl ?_ ?_
      · exact s_jmp (v_4_arrange_241 l _) trivial
      · refine s_42 26 rfl rfl ?_
        refine s_180R 0 14 29 14 f_4_1 jw_177 rfl rfl ?_
        refine s_42 30 rfl rfl ?_
        refine s_180R 0 14 33 14 f_4_1 jw_177 rfl rfl ?_
        refine s_42 34 rfl rfl ?_
        refine s_180R 0 14 37 14 f_4_1 jw_177 rfl rfl ?_
        refine s_180I 0 41 40 41 f_9_2 jw_168 rfl rfl ?_
        refine s_4 41 rfl ?_
        refine s_100 42 rfl ?_
        refine s_182V 0 128 45 128 (m_9_putCopy l _ _ _ _) rfl k_9_putCopy jc_9 jw_924 jw_925 jw_926 rfl rfl rfl rfl rfl (fun x23 h24 => ?_)
        refine s_167 0 196 241 rfl rfl ?_
        exact s_jmp (v_4_arrange_241 l _) trivial
theorem m_4_arrange (l : Launch) (a0 : Nat) (a1 : Int32) (H : jH) : JMet l y_4_arrange prog_6_method_12_code mi_4_arrange jeV [.ref a0, .int a1] H (F_4_arrange a0 a1 H) := jmet_of n_4_arrange (by decide) ⟨rfl, rfl⟩ (Nat.le_of_ble_eq_true rfl) (v_4_arrange l a0 a1 H)
def mi_4_ask : jM := (28737747461362813953439030951023315653039907490274064640925404337625112312773900281394195443947416797734854568063479207458363698143968461561045347570146636122294699803730306919917034212572825780042249042503332667292395339759916291214222079852876077810649699596478378990599820772991441612792712554887961769548257241229760144616199922185236561123303489747455857981331358925449761802665443699774569916861120962379566088571877292688041972226965695914882280569897451563517245247044990421262977816808711189640973908521817416032035270059776587129135024224649024833254995698400410244015047813796224406930411312616133070193164452779431566749059828732720087842767620689507681060296559427961132079212835016340562280975695637154474702580216324039489019312380500816656427496212030849274025772570425884874586128183922697803798450238656795, 342, 2, "CoinNode$Machine", none, "ask", 1, 27)
def y_4_ask : MethodName := ⟨"CoinNode$Machine", "ask", "(I)V"⟩
theorem n_4_ask : jn_is prog_6_method_19_code mi_4_ask.1 mi_4_ask.2.1 := by unfold jn_is; decide +kernel
theorem k_4_ask : jmok y_4_ask prog_6_method_19_code mi_4_ask 1 := ⟨jw_999, jw_6, ⟨by decide, by decide⟩, by decide +kernel⟩
theorem v_4_ask_14 (l : Launch)  (a0 : Nat) (H : jH) : JV l mi_4_ask jeV 14 [(0, .ref a0)] [] H (B_4_ask_14  a0 H) := by
  unfold B_4_ask_14
  refine s_42 15 rfl rfl ?_
  refine s_5 16 rfl ?_
  refine s_181I 0 68 19 68 f_4_9 rfl rfl jw_187 rfl rfl (fun h1 => ?_)
  exact s_177 rfl rfl
theorem v_4_ask_104 (l : Launch)   (H : jH) : JV l mi_4_ask jeV 104 [] [] H (B_4_ask_104   H) := by
  unfold B_4_ask_104
  exact s_177 rfl rfl
theorem v_4_ask_144 (l : Launch)  (a0 : Nat) (H : jH) : JV l mi_4_ask jeV 144 [(0, .ref a0)] [] H (B_4_ask_144  a0 H) := by
  unfold B_4_ask_144
  refine s_42 145 rfl rfl ?_
  refine s_5 146 rfl ?_
  refine s_181I 0 68 149 68 f_4_9 rfl rfl jw_187 rfl rfl (fun h2 => ?_)
  exact s_177 rfl rfl
theorem v_4_ask_254 (l : Launch)  (a0 : Nat) (H : jH) : JV l mi_4_ask jeV 254 [(0, .ref a0)] [] H (B_4_ask_254  a0 H) := by
  unfold B_4_ask_254
  refine s_42 255 rfl rfl ?_
  refine s_5 256 rfl ?_
  refine s_181I 0 68 259 68 f_4_9 rfl rfl jw_187 rfl rfl (fun h3 => ?_)
  exact s_177 rfl rfl
theorem v_4_ask_40 (l : Launch)  (a0 : Nat) (a1 : Int32) (s0 : Nat) (s1 : Int32) (H : jH) : JV l mi_4_ask jeV 40 [(0, .ref a0), (1, .int a1)] [.int s1, .ref s0] H (B_4_ask_40  a0 a1 s0 s1 H) := by
  unfold B_4_ask_40
  refine s_181Z 0 189 43 189 f_4_19 rfl rfl jw_197 rfl rfl (fun h4 => ?_)
  refine s_27 44 rfl rfl ?_
  refine s_17 0 173 47 173 jsp_0_173 rfl ?_
  refine s_163 0 58 105 50 rfl rfl ?_ ?_
  · refine s_42 106 rfl rfl ?_
    refine s_180R 0 14 109 14 f_4_1 jw_177 rfl rfl ?_
    refine s_4 110 rfl ?_
    refine s_182I 0 132 113 132 (m_9_isNumber l _ _ _) rfl k_9_isNumber jc_9 jw_932 jw_933 jw_934 rfl rfl rfl rfl rfl (fun x5 h6 => ?_)
    refine s_153 0 31 144 116 rfl rfl ?_ ?_
    · exact s_jmp (v_4_ask_144 l _ _) ⟨rfl, trivial⟩
    · refine s_42 117 rfl rfl ?_
      refine s_180R 0 14 120 14 f_4_1 jw_177 rfl rfl ?_
      refine s_4 121 rfl ?_
      refine s_182L 0 135 124 135 (m_9_number l _ _ _) rfl k_9_number jc_9 jw_936 jw_937 jw_938 rfl rfl rfl rfl rfl (fun x7 h8 => ?_)
      refine s_9 125 rfl ?_
      refine s_148_155 0 18 144 126 129 rfl rfl rfl ?_ ?_
      · exact s_jmp (v_4_ask_144 l _ _) ⟨rfl, trivial⟩
      · refine s_42 130 rfl rfl ?_
        refine s_180R 0 14 133 14 f_4_1 jw_177 rfl rfl ?_
        refine s_4 134 rfl ?_
        refine s_182L 0 135 137 135 (m_9_number l _ _ _) rfl k_9_number jc_9 jw_936 jw_937 jw_938 rfl rfl rfl rfl rfl (fun x9 h10 => ?_)
        refine s_20 0 204 140 204 8 rfl jw_1000 rfl ?_
        refine s_148_158 0 9 150 141 144 rfl rfl rfl ?_ ?_
        · refine s_42 151 rfl rfl ?_
          refine s_42 152 rfl rfl ?_
          refine s_180R 0 14 155 14 f_4_1 jw_177 rfl rfl ?_
          refine s_4 156 rfl ?_
          refine s_182L 0 135 159 135 (m_9_number l _ _ _) rfl k_9_number jc_9 jw_936 jw_937 jw_938 rfl rfl rfl rfl rfl (fun x11 h12 => ?_)
          refine s_136 160 rfl ?_
          refine s_181I 0 192 163 192 f_4_16 rfl rfl jw_194 rfl rfl (fun h13 => ?_)
          refine s_42 164 rfl rfl ?_
          refine s_89 165 rfl rfl ?_
          refine s_180I 0 53 168 53 f_4_10 jw_188 rfl rfl ?_
          refine s_42 169 rfl rfl ?_
          refine s_180I 0 192 172 192 f_4_16 jw_194 rfl rfl ?_
          refine s_96 173 rfl ?_
          refine s_181I 0 53 176 53 f_4_10 rfl rfl jw_188 rfl rfl (fun h14 => ?_)
          refine s_42 177 rfl rfl ?_
          refine s_180I 0 53 180 53 f_4_10 jw_188 rfl rfl ?_
          refine s_16 100 182 100 jbp_100 rfl ?_
          refine s_163 0 72 254 185 rfl rfl ?_ ?_
          · exact s_jmp (v_4_ask_254 l _ _) ⟨rfl, trivial⟩
          · refine s_42 186 rfl rfl ?_
            refine s_5 187 rfl ?_
            refine s_42 188 rfl rfl ?_
            refine s_180I 0 192 191 192 f_4_16 jw_194 rfl rfl ?_
            refine s_96 192 rfl ?_
            refine s_182I 0 116 195 116 (m_4_has l _ _ _) rfl k_4_has jc_4 jw_893 jw_895 jps_13 rfl rfl rfl rfl rfl (fun x15 h16 => ?_)
            refine s_153 0 59 254 198 rfl rfl ?_ ?_
            · exact s_jmp (v_4_ask_254 l _ _) ⟨rfl, trivial⟩
            · refine s_42 199 rfl rfl ?_
              refine s_180R 0 14 202 14 f_4_1 jw_177 rfl rfl ?_
              refine s_5 203 rfl ?_
              refine s_42 204 rfl rfl ?_
              refine s_180I 0 192 207 192 f_4_16 jw_194 rfl rfl ?_
              refine s_96 208 rfl ?_
              refine s_182I 0 132 211 132 (m_9_isNumber l _ _ _) rfl k_9_isNumber jc_9 jw_932 jw_933 jw_934 rfl rfl rfl rfl rfl (fun x17 h18 => ?_)
              refine s_153 0 43 254 214 rfl rfl ?_ ?_
              · exact s_jmp (v_4_ask_254 l _ _) ⟨rfl, trivial⟩
              · refine s_42 215 rfl rfl ?_
                refine s_180R 0 14 218 14 f_4_1 jw_177 rfl rfl ?_
                refine s_5 219 rfl ?_
                refine s_42 220 rfl rfl ?_
                refine s_180I 0 192 223 192 f_4_16 jw_194 rfl rfl ?_
                refine s_96 224 rfl ?_
                refine s_182L 0 135 227 135 (m_9_number l _ _ _) rfl k_9_number jc_9 jw_936 jw_937 jw_938 rfl rfl rfl rfl rfl (fun x19 h20 => ?_)
                refine s_9 228 rfl ?_
                refine s_148_155 0 25 254 229 232 rfl rfl rfl ?_ ?_
                · exact s_jmp (v_4_ask_254 l _ _) ⟨rfl, trivial⟩
                · refine s_42 233 rfl rfl ?_
                  refine s_180R 0 14 236 14 f_4_1 jw_177 rfl rfl ?_
                  refine s_5 237 rfl ?_
                  refine s_42 238 rfl rfl ?_
                  refine s_180I 0 192 241 192 f_4_16 jw_194 rfl rfl ?_
                  refine s_96 242 rfl ?_
                  refine s_182L 0 135 245 135 (m_9_number l _ _ _) rfl k_9_number jc_9 jw_936 jw_937 jw_938 rfl rfl rfl rfl rfl (fun x21 h22 => ?_)
                  refine s_42 246 rfl rfl ?_
                  refine s_180I 0 192 249 192 f_4_16 jw_194 rfl rfl ?_
                  refine s_133 250 rfl ?_
                  refine s_148_158 0 9 260 251 254 rfl rfl rfl ?_ ?_
                  · refine s_42 261 rfl rfl ?_
                    refine s_42 262 rfl rfl ?_
                    refine s_180R 0 14 265 14 f_4_1 jw_177 rfl rfl ?_
                    refine s_5 266 rfl ?_
                    refine s_42 267 rfl rfl ?_
                    refine s_180I 0 192 270 192 f_4_16 jw_194 rfl rfl ?_
                    refine s_96 271 rfl ?_
                    refine s_182L 0 135 274 135 (m_9_number l _ _ _) rfl k_9_number jc_9 jw_936 jw_937 jw_938 rfl rfl rfl rfl rfl (fun x23 h24 => ?_)
                    refine s_136 275 rfl ?_
                    refine s_181I 0 106 278 106 f_4_14 rfl rfl jw_192 rfl rfl (fun h25 => ?_)
                    refine s_42 279 rfl rfl ?_
                    refine s_6 280 rfl ?_
                    refine s_42 281 rfl rfl ?_
                    refine s_180I 0 192 284 192 f_4_16 jw_194 rfl rfl ?_
                    refine s_96 285 rfl ?_
                    refine s_42 286 rfl rfl ?_
                    refine s_180I 0 106 289 106 f_4_14 jw_192 rfl rfl ?_
                    refine s_96 290 rfl ?_
                    refine s_181I 0 201 293 201 f_4_18 rfl rfl jw_196 rfl rfl (fun h26 => ?_)
                    refine s_42 294 rfl rfl ?_
                    refine s_42 295 rfl rfl ?_
                    refine s_180I 0 201 298 201 f_4_18 jw_196 rfl rfl ?_
                    refine s_182I 0 116 301 116 (m_4_has l _ _ _) rfl k_4_has jc_4 jw_893 jw_895 jps_13 rfl rfl rfl rfl rfl (fun x27 h28 => ?_)
                    refine s_154 0 4 305 304 rfl rfl ?_ ?_
                    · refine s_42 306 rfl rfl ?_
                      refine s_42 307 rfl rfl ?_
                      refine s_180R 0 14 310 14 f_4_1 jw_177 rfl rfl ?_
                      refine s_180I 0 41 313 41 f_9_2 jw_168 rfl rfl ?_
                      refine s_5 314 rfl ?_
                      refine s_100 315 rfl ?_
                      refine s_181I 0 195 318 195 f_4_17 rfl rfl jw_195 rfl rfl (fun h29 => ?_)
                      refine s_42 319 rfl rfl ?_
                      refine s_42 320 rfl rfl ?_
                      refine s_180R 0 14 323 14 f_4_1 jw_177 rfl rfl ?_
                      refine s_180I 0 41 326 41 f_9_2 jw_168 rfl rfl ?_
                      refine s_6 327 rfl ?_
                      refine s_100 328 rfl ?_
                      refine s_42 329 rfl rfl ?_
                      refine s_180I 0 192 332 192 f_4_16 jw_194 rfl rfl ?_
                      refine s_100 333 rfl ?_
                      refine s_181I 0 198 336 198 f_4_15 rfl rfl jw_193 rfl rfl (fun h30 => ?_)
                      refine s_42 337 rfl rfl ?_
                      refine s_6 338 rfl ?_
                      refine s_181I 0 68 341 68 f_4_9 rfl rfl jw_187 rfl rfl (fun h31 => ?_)
                      exact s_177 rfl rfl
                    · exact s_177 rfl rfl
                  · exact s_jmp (v_4_ask_254 l _ _) ⟨rfl, trivial⟩
        · exact s_jmp (v_4_ask_144 l _ _) ⟨rfl, trivial⟩
  · refine s_42 51 rfl rfl ?_
    refine s_5 52 rfl ?_
    refine s_182I 0 116 55 116 (m_4_has l _ _ _) rfl k_4_has jc_4 jw_893 jw_895 jps_13 rfl rfl rfl rfl rfl (fun x32 h33 => ?_)
    refine s_153 0 49 104 58 rfl rfl ?_ ?_
    · exact s_jmp (v_4_ask_104 l _) trivial
    · refine s_42 59 rfl rfl ?_
      refine s_4 60 rfl ?_
      refine s_181I 0 192 63 192 f_4_16 rfl rfl jw_194 rfl rfl (fun h34 => ?_)
      refine s_42 64 rfl rfl ?_
      refine s_4 65 rfl ?_
      refine s_181I 0 106 68 106 f_4_14 rfl rfl jw_192 rfl rfl (fun h35 => ?_)
      refine s_42 69 rfl rfl ?_
      refine s_42 70 rfl rfl ?_
      refine s_180R 0 14 73 14 f_4_1 jw_177 rfl rfl ?_
      refine s_180I 0 41 76 41 f_9_2 jw_168 rfl rfl ?_
      refine s_4 77 rfl ?_
      refine s_100 78 rfl ?_
      refine s_181I 0 195 81 195 f_4_17 rfl rfl jw_195 rfl rfl (fun h36 => ?_)
      refine s_42 82 rfl rfl ?_
      refine s_42 83 rfl rfl ?_
      refine s_180R 0 14 86 14 f_4_1 jw_177 rfl rfl ?_
      refine s_180I 0 41 89 41 f_9_2 jw_168 rfl rfl ?_
      refine s_5 90 rfl ?_
      refine s_100 91 rfl ?_
      refine s_181I 0 198 94 198 f_4_15 rfl rfl jw_193 rfl rfl (fun h37 => ?_)
      refine s_42 95 rfl rfl ?_
      refine s_5 96 rfl ?_
      refine s_181I 0 201 99 201 f_4_18 rfl rfl jw_196 rfl rfl (fun h38 => ?_)
      refine s_42 100 rfl rfl ?_
      refine s_6 101 rfl ?_
      refine s_181I 0 68 104 68 f_4_9 rfl rfl jw_187 rfl rfl (fun h39 => ?_)
      exact s_jmp (v_4_ask_104 l _) trivial
theorem v_4_ask_35 (l : Launch)  (a0 : Nat) (a1 : Int32) (s0 : Nat) (H : jH) : JV l mi_4_ask jeV 35 [(0, .ref a0), (1, .int a1)] [.ref s0] H (B_4_ask_35  a0 a1 s0 H) := by
  unfold B_4_ask_35
  refine s_4 36 rfl ?_
  refine s_167 0 4 40 rfl rfl ?_
  exact s_jmp (v_4_ask_40 l _ _ _ _ _) ⟨rfl, rfl, trivial⟩
theorem v_4_ask (l : Launch) (a0 : Nat) (a1 : Int32) (H : jH) : JV l mi_4_ask jeV 0 [(0, .ref a0), (1, .int a1)] [] H (F_4_ask a0 a1 H) := by
  unfold F_4_ask
  refine s_27 1 rfl rfl ?_
  refine s_17 0 172 4 172 jsp_0_172 rfl ?_
  refine s_161 0 10 14 7 rfl rfl ?_ ?_
  · exact s_jmp (v_4_ask_14 l _ _) ⟨rfl, trivial⟩
  · refine s_27 8 rfl rfl ?_
    refine s_17 0 175 11 175 jsp_0_175 rfl ?_
    refine s_164 0 9 20 14 rfl rfl ?_ ?_
    · refine s_42 21 rfl rfl ?_
      refine s_27 22 rfl rfl ?_
      refine s_17 0 173 25 173 jsp_0_173 rfl ?_
      refine s_159 0 10 35 28 rfl rfl ?_ ?_
      · exact s_jmp (v_4_ask_35 l _ _ _ _) ⟨rfl, rfl, trivial⟩
      · refine s_27 29 rfl rfl ?_
        refine s_17 0 175 32 175 jsp_0_175 rfl ?_
        refine s_160 0 7 39 35 rfl rfl ?_ ?_
        · refine s_3 40 rfl ?_
          exact s_jmp (v_4_ask_40 l _ _ _ _ _) ⟨rfl, rfl, trivial⟩
        · exact s_jmp (v_4_ask_35 l _ _ _ _) ⟨rfl, rfl, trivial⟩
    · exact s_jmp (v_4_ask_14 l _ _) ⟨rfl, trivial⟩
theorem m_4_ask (l : Launch) (a0 : Nat) (a1 : Int32) (H : jH) : JMet l y_4_ask prog_6_method_19_code mi_4_ask jeV [.ref a0, .int a1] H (F_4_ask a0 a1 H) := jmet_of n_4_ask (by decide) ⟨rfl, rfl⟩ (Nat.le_of_ble_eq_true rfl) (v_4_ask l a0 a1 H)
def mi_4_ofOne : jM := (13244989661011647312752967174085733730840845322868359900791634354263148368506978931074425468019207130309675630498178205579410995512625608065108455636988289235445255593983960106058494482662754233194949146, 84, 3, "CoinNode$Machine", some FieldType.long, "ofOne", 1, 15)
def y_4_ofOne : MethodName := ⟨"CoinNode$Machine", "ofOne", "(IJ)J"⟩
theorem n_4_ofOne : jn_is prog_6_method_16_code mi_4_ofOne.1 mi_4_ofOne.2.1 := by unfold jn_is; decide +kernel
theorem k_4_ofOne : jmok y_4_ofOne prog_6_method_16_code mi_4_ofOne 2 := ⟨jw_964, jw_6, ⟨by decide, by decide⟩, by decide +kernel⟩
theorem v_4_ofOne_71 (l : Launch)  (s0 : Int64) (H : jH) : JV l mi_4_ofOne jeL 71 [] [.long s0] H (B_4_ofOne_71  s0 H) := by
  unfold B_4_ofOne_71
  exact s_173 rfl rfl
theorem v_4_ofOne_83 (l : Launch)  (s0 : Int64) (H : jH) : JV l mi_4_ofOne jeL 83 [] [.long s0] H (B_4_ofOne_83  s0 H) := by
  unfold B_4_ofOne_83
  exact s_173 rfl rfl
theorem v_4_ofOne (l : Launch) (a0 : Int32) (a1 : Int64) (H : jH) : JV l mi_4_ofOne jeL 0 [(0, .int a0), (1, .long a1)] [] H (F_4_ofOne a0 a1 H) := by
  unfold F_4_ofOne
  refine s_26 1 rfl rfl ?_
  refine s_sw1 43 44 71 139 145 43 #[43, 47, 71, 71, 51, 54, 59] 139 n_4_ofOne (by decide +kernel) (by decide) ?_ (fun q0 => ?_)
  · refine s_31 45 rfl rfl ?_
    refine s_10 46 rfl ?_
    refine s_97 47 rfl ?_
    exact s_173 rfl rfl
  refine s_sw1 43 48 71 139 145 47 #[43, 47, 71, 71, 51, 54, 59] 140 n_4_ofOne (by decide +kernel) (by decide) ?_ (fun q1 => ?_)
  · refine s_31 49 rfl rfl ?_
    refine s_10 50 rfl ?_
    refine s_101 51 rfl ?_
    exact s_173 rfl rfl
  refine s_sw1 43 72 71 139 145 71 #[43, 47, 71, 71, 51, 54, 59] 141 n_4_ofOne (by decide +kernel) (by decide) ?_ (fun q2 => ?_)
  · refine s_31 73 rfl rfl ?_
    refine s_9 74 rfl ?_
    refine s_148_153 0 7 82 75 78 rfl rfl rfl ?_ ?_
    · refine s_9 83 rfl ?_
      exact s_jmp (v_4_ofOne_83 l _ _) trivial
    · refine s_10 79 rfl ?_
      refine s_167 0 4 83 rfl rfl ?_
      exact s_jmp (v_4_ofOne_83 l _ _) trivial
  refine s_sw1 43 72 71 139 145 71 #[43, 47, 71, 71, 51, 54, 59] 142 n_4_ofOne (by decide +kernel) (by decide) ?_ (fun q3 => ?_)
  · refine s_31 73 rfl rfl ?_
    refine s_9 74 rfl ?_
    refine s_148_153 0 7 82 75 78 rfl rfl rfl ?_ ?_
    · refine s_9 83 rfl ?_
      exact s_jmp (v_4_ofOne_83 l _ _) trivial
    · refine s_10 79 rfl ?_
      refine s_167 0 4 83 rfl rfl ?_
      exact s_jmp (v_4_ofOne_83 l _ _) trivial
  refine s_sw1 43 52 71 139 145 51 #[43, 47, 71, 71, 51, 54, 59] 143 n_4_ofOne (by decide +kernel) (by decide) ?_ (fun q4 => ?_)
  · refine s_31 53 rfl rfl ?_
    refine s_117 54 rfl ?_
    exact s_173 rfl rfl
  refine s_sw1 43 55 71 139 145 54 #[43, 47, 71, 71, 51, 54, 59] 144 n_4_ofOne (by decide +kernel) (by decide) ?_ (fun q5 => ?_)
  · refine s_31 56 rfl rfl ?_
    refine s_absL 0 161 59 161 jw_965 jw_918 jw_15 jw_919 rfl rfl rfl ?_
    exact s_173 rfl rfl
  refine s_sw1 43 60 71 139 145 59 #[43, 47, 71, 71, 51, 54, 59] 145 n_4_ofOne (by decide +kernel) (by decide) ?_ (fun q6 => ?_)
  · refine s_31 61 rfl rfl ?_
    refine s_9 62 rfl ?_
    refine s_148_154 0 7 70 63 66 rfl rfl rfl ?_ ?_
    · refine s_9 71 rfl ?_
      exact s_jmp (v_4_ofOne_71 l _ _) trivial
    · refine s_10 67 rfl ?_
      refine s_167 0 4 71 rfl rfl ?_
      exact s_jmp (v_4_ofOne_71 l _ _) trivial
  refine s_sw0 43 72 71 139 145 #[43, 47, 71, 71, 51, 54, 59] n_4_ofOne (by decide +kernel) (by have r0 := jne_int q0 (z := 139) rfl; have r1 := jne_int q1 (z := 140) rfl; have r2 := jne_int q2 (z := 141) rfl; have r3 := jne_int q3 (z := 142) rfl; have r4 := jne_int q4 (z := 143) rfl; have r5 := jne_int q5 (z := 144) rfl; have r6 := jne_int q6 (z := 145) rfl; omega) (by decide) ?_
  refine s_31 73 rfl rfl ?_
  refine s_9 74 rfl ?_
  refine s_148_153 0 7 82 75 78 rfl rfl rfl ?_ ?_
  · refine s_9 83 rfl ?_
    exact s_jmp (v_4_ofOne_83 l _ _) trivial
  · refine s_10 79 rfl ?_
    refine s_167 0 4 83 rfl rfl ?_
    exact s_jmp (v_4_ofOne_83 l _ _) trivial
theorem m_4_ofOne (l : Launch) (a0 : Int32) (a1 : Int64) (H : jH) : JMet l y_4_ofOne prog_6_method_16_code mi_4_ofOne jeL [.int a0, .long a1] H (F_4_ofOne a0 a1 H) := jmet_of n_4_ofOne (by decide) ⟨rfl, rfl⟩ (Nat.le_of_ble_eq_true rfl) (v_4_ofOne l a0 a1 H)
def mi_4_ofTwo : jM := (2389749794757948815112594269196821825921490219372639941890052791888649647263194849953859610903417590672926460478627948103771878803606728860228705949968438458812957303412868857156261173138339939679005666508156399517707042077797660883325937935647281108883215236032186003660944600650121425230503177086344662209075308291740926943292995191615170610267527491816740005528344414270937237895693936189005374614491450136587993267738469391178579692733716825332436765157323738336931120758817033760155576989153261543997090330, 212, 5, "CoinNode$Machine", some FieldType.long, "ofTwo", 1, 15)
def y_4_ofTwo : MethodName := ⟨"CoinNode$Machine", "ofTwo", "(IJJ)J"⟩
theorem n_4_ofTwo : jn_is prog_6_method_17_code mi_4_ofTwo.1 mi_4_ofTwo.2.1 := by unfold jn_is; decide +kernel
theorem k_4_ofTwo : jmok y_4_ofTwo prog_6_method_17_code mi_4_ofTwo 3 := ⟨jw_968, jw_6, ⟨by decide, by decide⟩, by decide +kernel⟩
theorem v_4_ofTwo_109 (l : Launch)  (s0 : Int64) (H : jH) : JV l mi_4_ofTwo jeL 109 [] [.long s0] H (B_4_ofTwo_109  s0 H) := by
  unfold B_4_ofTwo_109
  exact s_173 rfl rfl
theorem v_4_ofTwo_108 (l : Launch)   (H : jH) : JV l mi_4_ofTwo jeL 108 [] [] H (B_4_ofTwo_108   H) := by
  unfold B_4_ofTwo_108
  refine s_9 109 rfl ?_
  exact s_jmp (v_4_ofTwo_109 l _ _) trivial
theorem v_4_ofTwo_127 (l : Launch)  (s0 : Int64) (H : jH) : JV l mi_4_ofTwo jeL 127 [] [.long s0] H (B_4_ofTwo_127  s0 H) := by
  unfold B_4_ofTwo_127
  exact s_173 rfl rfl
theorem v_4_ofTwo_122 (l : Launch)   (H : jH) : JV l mi_4_ofTwo jeL 122 [] [] H (B_4_ofTwo_122   H) := by
  unfold B_4_ofTwo_122
  refine s_10 123 rfl ?_
  refine s_167 0 4 127 rfl rfl ?_
  exact s_jmp (v_4_ofTwo_127 l _ _) trivial
theorem v_4_ofTwo_139 (l : Launch)  (s0 : Int64) (H : jH) : JV l mi_4_ofTwo jeL 139 [] [.long s0] H (B_4_ofTwo_139  s0 H) := by
  unfold B_4_ofTwo_139
  exact s_173 rfl rfl
theorem v_4_ofTwo_151 (l : Launch)  (s0 : Int64) (H : jH) : JV l mi_4_ofTwo jeL 151 [] [.long s0] H (B_4_ofTwo_151  s0 H) := by
  unfold B_4_ofTwo_151
  exact s_173 rfl rfl
theorem v_4_ofTwo_163 (l : Launch)  (s0 : Int64) (H : jH) : JV l mi_4_ofTwo jeL 163 [] [.long s0] H (B_4_ofTwo_163  s0 H) := by
  unfold B_4_ofTwo_163
  exact s_173 rfl rfl
theorem v_4_ofTwo_175 (l : Launch)  (s0 : Int64) (H : jH) : JV l mi_4_ofTwo jeL 175 [] [.long s0] H (B_4_ofTwo_175  s0 H) := by
  unfold B_4_ofTwo_175
  exact s_173 rfl rfl
theorem v_4_ofTwo_187 (l : Launch)  (s0 : Int64) (H : jH) : JV l mi_4_ofTwo jeL 187 [] [.long s0] H (B_4_ofTwo_187  s0 H) := by
  unfold B_4_ofTwo_187
  exact s_173 rfl rfl
theorem v_4_ofTwo_199 (l : Launch)  (s0 : Int64) (H : jH) : JV l mi_4_ofTwo jeL 199 [] [.long s0] H (B_4_ofTwo_199  s0 H) := by
  unfold B_4_ofTwo_199
  exact s_173 rfl rfl
theorem v_4_ofTwo (l : Launch) (a0 : Int32) (a1 : Int64) (a3 : Int64) (H : jH) : JV l mi_4_ofTwo jeL 0 [(0, .int a0), (1, .long a1), (3, .long a3)] [] H (F_4_ofTwo a0 a1 a3 H) := by
  unfold F_4_ofTwo
  refine s_26 1 rfl rfl ?_
  refine s_sw1 83 84 205 147 163 83 #[83, 87, 205, 205, 205, 205, 205, 91, 109, 127, 205, 139, 151, 163, 175, 187, 199] 147 n_4_ofTwo (by decide +kernel) (by decide) ?_ (fun q0 => ?_)
  · refine s_31 85 rfl rfl ?_
    refine s_33 86 rfl rfl ?_
    refine s_97 87 rfl ?_
    exact s_173 rfl rfl
  refine s_sw1 83 88 205 147 163 87 #[83, 87, 205, 205, 205, 205, 205, 91, 109, 127, 205, 139, 151, 163, 175, 187, 199] 148 n_4_ofTwo (by decide +kernel) (by decide) ?_ (fun q1 => ?_)
  · refine s_31 89 rfl rfl ?_
    refine s_33 90 rfl rfl ?_
    refine s_101 91 rfl ?_
    exact s_173 rfl rfl
  refine s_sw1 83 206 205 147 163 205 #[83, 87, 205, 205, 205, 205, 205, 91, 109, 127, 205, 139, 151, 163, 175, 187, 199] 149 n_4_ofTwo (by decide +kernel) (by decide) ?_ (fun q2 => ?_)
  · refine s_31 207 rfl rfl ?_
    refine s_33 208 rfl rfl ?_
    refine s_maxL 0 171 211 171 jw_972 jw_973 jw_15 jw_974 rfl rfl rfl ?_
    exact s_173 rfl rfl
  refine s_sw1 83 206 205 147 163 205 #[83, 87, 205, 205, 205, 205, 205, 91, 109, 127, 205, 139, 151, 163, 175, 187, 199] 150 n_4_ofTwo (by decide +kernel) (by decide) ?_ (fun q3 => ?_)
  · refine s_31 207 rfl rfl ?_
    refine s_33 208 rfl rfl ?_
    refine s_maxL 0 171 211 171 jw_972 jw_973 jw_15 jw_974 rfl rfl rfl ?_
    exact s_173 rfl rfl
  refine s_sw1 83 206 205 147 163 205 #[83, 87, 205, 205, 205, 205, 205, 91, 109, 127, 205, 139, 151, 163, 175, 187, 199] 151 n_4_ofTwo (by decide +kernel) (by decide) ?_ (fun q4 => ?_)
  · refine s_31 207 rfl rfl ?_
    refine s_33 208 rfl rfl ?_
    refine s_maxL 0 171 211 171 jw_972 jw_973 jw_15 jw_974 rfl rfl rfl ?_
    exact s_173 rfl rfl
  refine s_sw1 83 206 205 147 163 205 #[83, 87, 205, 205, 205, 205, 205, 91, 109, 127, 205, 139, 151, 163, 175, 187, 199] 152 n_4_ofTwo (by decide +kernel) (by decide) ?_ (fun q5 => ?_)
  · refine s_31 207 rfl rfl ?_
    refine s_33 208 rfl rfl ?_
    refine s_maxL 0 171 211 171 jw_972 jw_973 jw_15 jw_974 rfl rfl rfl ?_
    exact s_173 rfl rfl
  refine s_sw1 83 206 205 147 163 205 #[83, 87, 205, 205, 205, 205, 205, 91, 109, 127, 205, 139, 151, 163, 175, 187, 199] 153 n_4_ofTwo (by decide +kernel) (by decide) ?_ (fun q6 => ?_)
  · refine s_31 207 rfl rfl ?_
    refine s_33 208 rfl rfl ?_
    refine s_maxL 0 171 211 171 jw_972 jw_973 jw_15 jw_974 rfl rfl rfl ?_
    exact s_173 rfl rfl
  refine s_sw1 83 92 205 147 163 91 #[83, 87, 205, 205, 205, 205, 205, 91, 109, 127, 205, 139, 151, 163, 175, 187, 199] 154 n_4_ofTwo (by decide +kernel) (by decide) ?_ (fun q7 => ?_)
  · refine s_31 93 rfl rfl ?_
    refine s_9 94 rfl ?_
    refine s_148_153 0 13 108 95 98 rfl rfl rfl ?_ ?_
    · exact s_jmp (v_4_ofTwo_108 l _) trivial
    · refine s_33 99 rfl rfl ?_
      refine s_9 100 rfl ?_
      refine s_148_153 0 7 108 101 104 rfl rfl rfl ?_ ?_
      · exact s_jmp (v_4_ofTwo_108 l _) trivial
      · refine s_10 105 rfl ?_
        refine s_167 0 4 109 rfl rfl ?_
        exact s_jmp (v_4_ofTwo_109 l _ _) trivial
  refine s_sw1 83 110 205 147 163 109 #[83, 87, 205, 205, 205, 205, 205, 91, 109, 127, 205, 139, 151, 163, 175, 187, 199] 155 n_4_ofTwo (by decide +kernel) (by decide) ?_ (fun q8 => ?_)
  · refine s_31 111 rfl rfl ?_
    refine s_9 112 rfl ?_
    refine s_148_154 0 9 122 113 116 rfl rfl rfl ?_ ?_
    · exact s_jmp (v_4_ofTwo_122 l _) trivial
    · refine s_33 117 rfl rfl ?_
      refine s_9 118 rfl ?_
      refine s_148_153 0 7 126 119 122 rfl rfl rfl ?_ ?_
      · refine s_9 127 rfl ?_
        exact s_jmp (v_4_ofTwo_127 l _ _) trivial
      · exact s_jmp (v_4_ofTwo_122 l _) trivial
  refine s_sw1 83 128 205 147 163 127 #[83, 87, 205, 205, 205, 205, 205, 91, 109, 127, 205, 139, 151, 163, 175, 187, 199] 156 n_4_ofTwo (by decide +kernel) (by decide) ?_ (fun q9 => ?_)
  · refine s_31 129 rfl rfl ?_
    refine s_33 130 rfl rfl ?_
    refine s_148_154 0 7 138 131 134 rfl rfl rfl ?_ ?_
    · refine s_9 139 rfl ?_
      exact s_jmp (v_4_ofTwo_139 l _ _) trivial
    · refine s_10 135 rfl ?_
      refine s_167 0 4 139 rfl rfl ?_
      exact s_jmp (v_4_ofTwo_139 l _ _) trivial
  refine s_sw1 83 206 205 147 163 205 #[83, 87, 205, 205, 205, 205, 205, 91, 109, 127, 205, 139, 151, 163, 175, 187, 199] 157 n_4_ofTwo (by decide +kernel) (by decide) ?_ (fun q10 => ?_)
  · refine s_31 207 rfl rfl ?_
    refine s_33 208 rfl rfl ?_
    refine s_maxL 0 171 211 171 jw_972 jw_973 jw_15 jw_974 rfl rfl rfl ?_
    exact s_173 rfl rfl
  refine s_sw1 83 140 205 147 163 139 #[83, 87, 205, 205, 205, 205, 205, 91, 109, 127, 205, 139, 151, 163, 175, 187, 199] 158 n_4_ofTwo (by decide +kernel) (by decide) ?_ (fun q11 => ?_)
  · refine s_31 141 rfl rfl ?_
    refine s_33 142 rfl rfl ?_
    refine s_148_153 0 7 150 143 146 rfl rfl rfl ?_ ?_
    · refine s_9 151 rfl ?_
      exact s_jmp (v_4_ofTwo_151 l _ _) trivial
    · refine s_10 147 rfl ?_
      refine s_167 0 4 151 rfl rfl ?_
      exact s_jmp (v_4_ofTwo_151 l _ _) trivial
  refine s_sw1 83 152 205 147 163 151 #[83, 87, 205, 205, 205, 205, 205, 91, 109, 127, 205, 139, 151, 163, 175, 187, 199] 159 n_4_ofTwo (by decide +kernel) (by decide) ?_ (fun q12 => ?_)
  · refine s_31 153 rfl rfl ?_
    refine s_33 154 rfl rfl ?_
    refine s_148_156 0 7 162 155 158 rfl rfl rfl ?_ ?_
    · refine s_9 163 rfl ?_
      exact s_jmp (v_4_ofTwo_163 l _ _) trivial
    · refine s_10 159 rfl ?_
      refine s_167 0 4 163 rfl rfl ?_
      exact s_jmp (v_4_ofTwo_163 l _ _) trivial
  refine s_sw1 83 164 205 147 163 163 #[83, 87, 205, 205, 205, 205, 205, 91, 109, 127, 205, 139, 151, 163, 175, 187, 199] 160 n_4_ofTwo (by decide +kernel) (by decide) ?_ (fun q13 => ?_)
  · refine s_31 165 rfl rfl ?_
    refine s_33 166 rfl rfl ?_
    refine s_148_158 0 7 174 167 170 rfl rfl rfl ?_ ?_
    · refine s_9 175 rfl ?_
      exact s_jmp (v_4_ofTwo_175 l _ _) trivial
    · refine s_10 171 rfl ?_
      refine s_167 0 4 175 rfl rfl ?_
      exact s_jmp (v_4_ofTwo_175 l _ _) trivial
  refine s_sw1 83 176 205 147 163 175 #[83, 87, 205, 205, 205, 205, 205, 91, 109, 127, 205, 139, 151, 163, 175, 187, 199] 161 n_4_ofTwo (by decide +kernel) (by decide) ?_ (fun q14 => ?_)
  · refine s_31 177 rfl rfl ?_
    refine s_33 178 rfl rfl ?_
    refine s_148_157 0 7 186 179 182 rfl rfl rfl ?_ ?_
    · refine s_9 187 rfl ?_
      exact s_jmp (v_4_ofTwo_187 l _ _) trivial
    · refine s_10 183 rfl ?_
      refine s_167 0 4 187 rfl rfl ?_
      exact s_jmp (v_4_ofTwo_187 l _ _) trivial
  refine s_sw1 83 188 205 147 163 187 #[83, 87, 205, 205, 205, 205, 205, 91, 109, 127, 205, 139, 151, 163, 175, 187, 199] 162 n_4_ofTwo (by decide +kernel) (by decide) ?_ (fun q15 => ?_)
  · refine s_31 189 rfl rfl ?_
    refine s_33 190 rfl rfl ?_
    refine s_148_155 0 7 198 191 194 rfl rfl rfl ?_ ?_
    · refine s_9 199 rfl ?_
      exact s_jmp (v_4_ofTwo_199 l _ _) trivial
    · refine s_10 195 rfl ?_
      refine s_167 0 4 199 rfl rfl ?_
      exact s_jmp (v_4_ofTwo_199 l _ _) trivial
  refine s_sw1 83 200 205 147 163 199 #[83, 87, 205, 205, 205, 205, 205, 91, 109, 127, 205, 139, 151, 163, 175, 187, 199] 163 n_4_ofTwo (by decide +kernel) (by decide) ?_ (fun q16 => ?_)
  · refine s_31 201 rfl rfl ?_
    refine s_33 202 rfl rfl ?_
    refine s_minL 0 167 205 167 jw_969 jw_970 jw_15 jw_971 rfl rfl rfl ?_
    exact s_173 rfl rfl
  refine s_sw0 83 206 205 147 163 #[83, 87, 205, 205, 205, 205, 205, 91, 109, 127, 205, 139, 151, 163, 175, 187, 199] n_4_ofTwo (by decide +kernel) (by have r0 := jne_int q0 (z := 147) rfl; have r1 := jne_int q1 (z := 148) rfl; have r2 := jne_int q2 (z := 149) rfl; have r3 := jne_int q3 (z := 150) rfl; have r4 := jne_int q4 (z := 151) rfl; have r5 := jne_int q5 (z := 152) rfl; have r6 := jne_int q6 (z := 153) rfl; have r7 := jne_int q7 (z := 154) rfl; have r8 := jne_int q8 (z := 155) rfl; have r9 := jne_int q9 (z := 156) rfl; have r10 := jne_int q10 (z := 157) rfl; have r11 := jne_int q11 (z := 158) rfl; have r12 := jne_int q12 (z := 159) rfl; have r13 := jne_int q13 (z := 160) rfl; have r14 := jne_int q14 (z := 161) rfl; have r15 := jne_int q15 (z := 162) rfl; have r16 := jne_int q16 (z := 163) rfl; omega) (by decide) ?_
  refine s_31 207 rfl rfl ?_
  refine s_33 208 rfl rfl ?_
  refine s_maxL 0 171 211 171 jw_972 jw_973 jw_15 jw_974 rfl rfl rfl ?_
  exact s_173 rfl rfl
theorem m_4_ofTwo (l : Launch) (a0 : Int32) (a1 : Int64) (a3 : Int64) (H : jH) : JMet l y_4_ofTwo prog_6_method_17_code mi_4_ofTwo jeL [.int a0, .long a1, .long a3] H (F_4_ofTwo a0 a1 a3 H) := jmet_of n_4_ofTwo (by decide) ⟨rfl, rfl⟩ (Nat.le_of_ble_eq_true rfl) (v_4_ofTwo l a0 a1 a3 H)
def mi_4_calculate : jM := (3564975419254811911246570344417884861228460796286232076776108206720483004357791993006160128408704218343218211877861718028509613249176418130258131755210994676953932813599370839867373547982014326655010780547223406352185626090788279822610575486521559228777863001283590138606712265014606413718481899604750043651759059987393245089255260105062232844282632514909556719569522425137940347169188617563224023438587241537299014020107928284669454483511566734624252761394734618635116444664327782700010575224311286111753766174474723387785724774530426067815541527398181769499, 232, 9, "CoinNode$Machine", none, "calculate", 2, 42)
def y_4_calculate : MethodName := ⟨"CoinNode$Machine", "calculate", "(I)V"⟩
theorem n_4_calculate : jn_is prog_6_method_15_code mi_4_calculate.1 mi_4_calculate.2.1 := by unfold jn_is; decide +kernel
theorem k_4_calculate : jmok y_4_calculate prog_6_method_15_code mi_4_calculate 1 := ⟨jw_961, jw_6, ⟨by decide, by decide⟩, by decide +kernel⟩
theorem v_4_calculate_67 (l : Launch)  (a0 : Nat) (H : jH) : JV l mi_4_calculate jeV 67 [(0, .ref a0)] [] H (B_4_calculate_67  a0 H) := by
  unfold B_4_calculate_67
  refine s_42 68 rfl rfl ?_
  refine s_5 69 rfl ?_
  refine s_181I 0 68 72 68 f_4_9 rfl rfl jw_187 rfl rfl (fun h1 => ?_)
  exact s_177 rfl rfl
theorem v_4_calculate_231 (l : Launch)   (H : jH) : JV l mi_4_calculate jeV 231 [] [] H (B_4_calculate_231   H) := by
  unfold B_4_calculate_231
  exact s_177 rfl rfl
theorem v_4_calculate_189 (l : Launch)  (s0 : Nat) (s1 : Int64) (H : jH) : JV l mi_4_calculate jeV 189 [] [.long s1, .ref s0] H (B_4_calculate_189  s0 s1 H) := by
  unfold B_4_calculate_189
  refine s_182V 0 124 192 124 (m_9_putNumber l _ _ _) rfl k_9_putNumber jc_9 jw_913 jw_914 jw_915 rfl rfl rfl rfl rfl (fun x2 h3 => ?_)
  refine s_167 0 39 231 rfl rfl ?_
  exact s_jmp (v_4_calculate_231 l _) trivial
theorem v_4_calculate_188 (l : Launch)  (s0 : Nat) (H : jH) : JV l mi_4_calculate jeV 188 [] [.ref s0] H (B_4_calculate_188  s0 H) := by
  unfold B_4_calculate_188
  refine s_9 189 rfl ?_
  exact s_jmp (v_4_calculate_189 l _ _ _) trivial
theorem v_4_calculate_75 (l : Launch) (k75 : Nat → Int32 → Int32 → Int32 → jH → Option (Unit × jH)) (hk75 : ∀ a0 a1 a2 a3 H, JV l mi_4_calculate jeV 75 [(0, .ref a0), (1, .int a1), (2, .int a2), (3, .int a3)] [] H (k75 a0 a1 a2 a3 H)) (a0 : Nat) (a1 : Int32) (a2 : Int32) (a3 : Int32) (H : jH) : JV l mi_4_calculate jeV 75 [(0, .ref a0), (1, .int a1), (2, .int a2), (3, .int a3)] [] H (B_4_calculate_75 k75 a0 a1 a2 a3 H) := by
  unfold B_4_calculate_75
  refine s_29 76 rfl rfl ?_
  refine s_28 77 rfl rfl ?_
  refine s_163 0 26 103 80 rfl rfl ?_ ?_
  · refine s_42 104 rfl rfl ?_
    refine s_180R 0 14 107 14 f_4_1 jw_177 rfl rfl ?_
    refine s_4 108 rfl ?_
    refine s_182L 0 135 111 135 (m_9_number l _ _ _) rfl k_9_number jc_9 jw_936 jw_937 jw_938 rfl rfl rfl rfl rfl (fun x4 h5 => ?_)
    refine s_66 112 rfl rfl ?_
    refine s_42 113 rfl rfl ?_
    refine s_180R 0 14 116 14 f_4_1 jw_177 rfl rfl ?_
    refine s_5 117 rfl ?_
    refine s_182L 0 135 120 135 (m_9_number l _ _ _) rfl k_9_number jc_9 jw_936 jw_937 jw_938 rfl rfl rfl rfl rfl (fun x6 h7 => ?_)
    refine s_55 5 122 rfl rfl ?_
    refine s_42 123 rfl rfl ?_
    refine s_180R 0 14 126 14 f_4_1 jw_177 rfl rfl ?_
    refine s_6 127 rfl ?_
    refine s_182L 0 135 130 135 (m_9_number l _ _ _) rfl k_9_number jc_9 jw_936 jw_937 jw_938 rfl rfl rfl rfl rfl (fun x8 h9 => ?_)
    refine s_55 7 132 rfl rfl ?_
    refine s_42 133 rfl rfl ?_
    refine s_180R 0 14 136 14 f_4_1 jw_177 rfl rfl ?_
    refine s_28 137 rfl rfl ?_
    refine s_182V 0 119 140 119 (m_9_drop l _ _ _) rfl k_9_drop jc_9 jw_901 jw_902 jw_903 rfl rfl rfl rfl rfl (fun x10 h11 => ?_)
    refine s_28 141 rfl rfl ?_
    refine s_4 142 rfl ?_
    refine s_160 0 18 160 145 rfl rfl ?_ ?_
    · refine s_28 161 rfl rfl ?_
      refine s_6 162 rfl ?_
      refine s_160 0 33 195 165 rfl rfl ?_ ?_
      · refine s_27 196 rfl rfl ?_
        refine s_17 0 157 199 157 jsp_0_157 rfl ?_
        refine s_159 0 20 219 202 rfl rfl ?_ ?_
        · refine s_22 5 221 rfl rfl ?_
          refine s_33 222 rfl rfl ?_
          refine s_148_153 0 8 231 223 226 rfl rfl rfl ?_ ?_
          · exact s_jmp (v_4_calculate_231 l _) trivial
          · refine s_42 227 rfl rfl ?_
            refine s_5 228 rfl ?_
            refine s_181I 0 68 231 68 f_4_9 rfl rfl jw_187 rfl rfl (fun h12 => ?_)
            exact s_jmp (v_4_calculate_231 l _) trivial
        · refine s_42 203 rfl rfl ?_
          refine s_180R 0 14 206 14 f_4_1 jw_177 rfl rfl ?_
          refine s_27 207 rfl rfl ?_
          refine s_22 5 209 rfl rfl ?_
          refine s_33 210 rfl rfl ?_
          refine s_184L 0 157 213 157 (m_4_ofTwo l _ _ _ _) rfl k_4_ofTwo jw_966 jw_967 rfl rfl rfl rfl rfl (fun x13 h14 => ?_)
          refine s_182V 0 124 216 124 (m_9_putNumber l _ _ _) rfl k_9_putNumber jc_9 jw_913 jw_914 jw_915 rfl rfl rfl rfl rfl (fun x15 h16 => ?_)
          refine s_167 0 15 231 rfl rfl ?_
          exact s_jmp (v_4_calculate_231 l _) trivial
      · refine s_42 166 rfl rfl ?_
        refine s_180R 0 14 169 14 f_4_1 jw_177 rfl rfl ?_
        refine s_22 5 171 rfl rfl ?_
        refine s_22 7 173 rfl rfl ?_
        refine s_148_157 0 14 188 174 177 rfl rfl rfl ?_ ?_
        · exact s_jmp (v_4_calculate_188 l _ _) trivial
        · refine s_22 7 179 rfl rfl ?_
          refine s_33 180 rfl rfl ?_
          refine s_148_156 0 7 188 181 184 rfl rfl rfl ?_ ?_
          · exact s_jmp (v_4_calculate_188 l _ _) trivial
          · refine s_10 185 rfl ?_
            refine s_167 0 4 189 rfl rfl ?_
            exact s_jmp (v_4_calculate_189 l _ _ _) trivial
    · refine s_42 146 rfl rfl ?_
      refine s_180R 0 14 149 14 f_4_1 jw_177 rfl rfl ?_
      refine s_27 150 rfl rfl ?_
      refine s_33 151 rfl rfl ?_
      refine s_184L 0 153 154 153 (m_4_ofOne l _ _ _) rfl k_4_ofOne jw_962 jw_963 rfl rfl rfl rfl rfl (fun x17 h18 => ?_)
      refine s_182V 0 124 157 124 (m_9_putNumber l _ _ _) rfl k_9_putNumber jc_9 jw_913 jw_914 jw_915 rfl rfl rfl rfl rfl (fun x19 h20 => ?_)
      refine s_167 0 74 231 rfl rfl ?_
      exact s_jmp (v_4_calculate_231 l _) trivial
  · refine s_42 81 rfl rfl ?_
    refine s_180R 0 14 84 14 f_4_1 jw_177 rfl rfl ?_
    refine s_29 85 rfl rfl ?_
    refine s_182I 0 132 88 132 (m_9_isNumber l _ _ _) rfl k_9_isNumber jc_9 jw_932 jw_933 jw_934 rfl rfl rfl rfl rfl (fun x21 h22 => ?_)
    refine s_154 0 9 97 91 rfl rfl ?_ ?_
    · refine s_132L 3 1 100 1 ji_1 rfl rfl rfl (fun x23 => ?_)
      refine s_167 255 231 75 rfl rfl ?_
      exact s_jmp (hk75 _ _ _ _ _) ⟨rfl, rfl, rfl, rfl, trivial⟩
    · refine s_42 92 rfl rfl ?_
      refine s_5 93 rfl ?_
      refine s_181I 0 68 96 68 f_4_9 rfl rfl jw_187 rfl rfl (fun h24 => ?_)
      exact s_177 rfl rfl
theorem w_4_calculate_75 (l : Launch)  (n : Nat) : ∀ a0 a1 a2 a3 H, JV l mi_4_calculate jeV 75 [(0, .ref a0), (1, .int a1), (2, .int a2), (3, .int a3)] [] H (F_4_calculate_75  n a0 a1 a2 a3 H) := by
  induction n with
  | zero => intro _ _ _ _ _; exact s_none
  | succ n ih => intro a0 a1 a2 a3 H; exact v_4_calculate_75 l (F_4_calculate_75  n) ih a0 a1 a2 a3 H
theorem v_4_calculate_59 (l : Launch)  (a0 : Nat) (a1 : Int32) (a2 : Int32) (H : jH) : JV l mi_4_calculate jeV 59 [(0, .ref a0), (1, .int a1), (2, .int a2)] [] H (B_4_calculate_59  a0 a1 a2 H) := by
  unfold B_4_calculate_59
  refine s_42 60 rfl rfl ?_
  refine s_28 61 rfl rfl ?_
  refine s_182I 0 116 64 116 (m_4_has l _ _ _) rfl k_4_has jc_4 jw_893 jw_895 jps_13 rfl rfl rfl rfl rfl (fun x25 h26 => ?_)
  refine s_154 0 9 73 67 rfl rfl ?_ ?_
  · refine s_4 74 rfl ?_
    refine s_62 75 rfl rfl ?_
    exact s_jmp (w_4_calculate_75 l jfuel _ _ _ _ _) ⟨rfl, rfl, rfl, rfl, trivial⟩
  · exact s_jmp (v_4_calculate_67 l _ _) ⟨rfl, trivial⟩
theorem v_4_calculate_23 (l : Launch)  (a0 : Nat) (a1 : Int32) (s0 : Int32) (H : jH) : JV l mi_4_calculate jeV 23 [(0, .ref a0), (1, .int a1)] [.int s0] H (B_4_calculate_23  a0 a1 s0 H) := by
  unfold B_4_calculate_23
  refine s_61 24 rfl rfl ?_
  refine s_27 25 rfl rfl ?_
  refine s_17 0 139 28 139 jsp_0_139 rfl ?_
  refine s_161 0 39 67 31 rfl rfl ?_ ?_
  · exact s_jmp (v_4_calculate_67 l _ _) ⟨rfl, trivial⟩
  · refine s_27 32 rfl rfl ?_
    refine s_17 0 141 35 141 jsp_0_141 rfl ?_
    refine s_159 0 32 67 38 rfl rfl ?_ ?_
    · exact s_jmp (v_4_calculate_67 l _ _) ⟨rfl, trivial⟩
    · refine s_27 39 rfl rfl ?_
      refine s_17 0 142 42 142 jsp_0_142 rfl ?_
      refine s_159 0 25 67 45 rfl rfl ?_ ?_
      · exact s_jmp (v_4_calculate_67 l _ _) ⟨rfl, trivial⟩
      · refine s_27 46 rfl rfl ?_
        refine s_17 0 148 49 148 jsp_0_148 rfl ?_
        refine s_164 0 10 59 52 rfl rfl ?_ ?_
        · exact s_jmp (v_4_calculate_59 l _ _ _ _) ⟨rfl, rfl, rfl, trivial⟩
        · refine s_27 53 rfl rfl ?_
          refine s_17 0 154 56 154 jsp_0_154 rfl ?_
          refine s_161 0 11 67 59 rfl rfl ?_ ?_
          · exact s_jmp (v_4_calculate_67 l _ _) ⟨rfl, trivial⟩
          · exact s_jmp (v_4_calculate_59 l _ _ _ _) ⟨rfl, rfl, rfl, trivial⟩
theorem v_4_calculate (l : Launch) (a0 : Nat) (a1 : Int32) (H : jH) : JV l mi_4_calculate jeV 0 [(0, .ref a0), (1, .int a1)] [] H (F_4_calculate a0 a1 H) := by
  unfold F_4_calculate
  refine s_27 1 rfl rfl ?_
  refine s_17 0 146 4 146 jsp_0_146 rfl ?_
  refine s_163 0 7 11 7 rfl rfl ?_ ?_
  · refine s_27 12 rfl rfl ?_
    refine s_17 0 165 15 165 jsp_0_165 rfl ?_
    refine s_160 0 7 22 18 rfl rfl ?_ ?_
    · refine s_5 23 rfl ?_
      exact s_jmp (v_4_calculate_23 l _ _ _ _) ⟨rfl, rfl, trivial⟩
    · refine s_6 19 rfl ?_
      refine s_167 0 4 23 rfl rfl ?_
      exact s_jmp (v_4_calculate_23 l _ _ _ _) ⟨rfl, rfl, trivial⟩
  · refine s_4 8 rfl ?_
    refine s_167 0 15 23 rfl rfl ?_
    exact s_jmp (v_4_calculate_23 l _ _ _ _) ⟨rfl, rfl, trivial⟩
theorem m_4_calculate (l : Launch) (a0 : Nat) (a1 : Int32) (H : jH) : JMet l y_4_calculate prog_6_method_15_code mi_4_calculate jeV [.ref a0, .int a1] H (F_4_calculate a0 a1 H) := jmet_of n_4_calculate (by decide) ⟨rfl, rfl⟩ (Nat.le_of_ble_eq_true rfl) (v_4_calculate l a0 a1 H)
def mi_9_isTopTwice : jM := (948795876938143238000921108012177006834225611970800309099037312994627197946895614144016505261063282907595787614902123603270784871394420648370353275617856420388324621682828725839475702644553396750921445023681197109195818, 91, 2, "CoinNode$Stack", some FieldType.boolean, "isTopTwice", 0, 0)
def y_9_isTopTwice : MethodName := ⟨"CoinNode$Stack", "isTopTwice", "()Z"⟩
theorem n_9_isTopTwice : jn_is prog_11_method_8_code mi_9_isTopTwice.1 mi_9_isTopTwice.2.1 := by unfold jn_is; decide +kernel
theorem k_9_isTopTwice : jmok y_9_isTopTwice prog_11_method_8_code mi_9_isTopTwice 0 := ⟨jw_957, jw_7, ⟨by decide, by decide⟩, by decide +kernel⟩
theorem v_9_isTopTwice_33 (l : Launch)   (H : jH) : JV l mi_9_isTopTwice jeI 33 [] [] H (B_9_isTopTwice_33   H) := by
  unfold B_9_isTopTwice_33
  refine s_3 34 rfl ?_
  exact s_172Z rfl rfl
theorem v_9_isTopTwice_37 (l : Launch) (k37 : Nat → Int32 → jH → Option (Int32 × jH)) (hk37 : ∀ a0 a1 H, JV l mi_9_isTopTwice jeI 37 [(0, .ref a0), (1, .int a1)] [] H (k37 a0 a1 H)) (a0 : Nat) (a1 : Int32) (H : jH) : JV l mi_9_isTopTwice jeI 37 [(0, .ref a0), (1, .int a1)] [] H (B_9_isTopTwice_37 k37 a0 a1 H) := by
  unfold B_9_isTopTwice_37
  refine s_27 38 rfl rfl ?_
  refine s_42 39 rfl rfl ?_
  refine s_180R 0 14 42 14 f_9_1 jw_165 rfl rfl ?_
  refine s_42 43 rfl rfl ?_
  refine s_180I 0 18 46 18 f_9_2 jw_167 rfl rfl ?_
  refine s_4 47 rfl ?_
  refine s_100 48 rfl ?_
  refine s_46 49 rfl ?_
  refine s_162 0 40 89 52 rfl rfl ?_ ?_
  · refine s_4 90 rfl ?_
    exact s_172Z rfl rfl
  · refine s_42 53 rfl rfl ?_
    refine s_180R 0 11 56 11 f_9_0 jw_163 rfl rfl ?_
    refine s_42 57 rfl rfl ?_
    refine s_180I 0 18 60 18 f_9_2 jw_167 rfl rfl ?_
    refine s_4 61 rfl ?_
    refine s_100 62 rfl ?_
    refine s_50 63 110 jt_110 rfl ?_
    refine s_27 64 rfl rfl ?_
    refine s_51B 65 rfl ?_
    refine s_42 66 rfl rfl ?_
    refine s_180R 0 11 69 11 f_9_0 jw_163 rfl rfl ?_
    refine s_42 70 rfl rfl ?_
    refine s_180I 0 18 73 18 f_9_2 jw_167 rfl rfl ?_
    refine s_5 74 rfl ?_
    refine s_100 75 rfl ?_
    refine s_50 76 110 jt_110 rfl ?_
    refine s_27 77 rfl rfl ?_
    refine s_51B 78 rfl ?_
    refine s_159 0 5 83 81 rfl rfl ?_ ?_
    · refine s_132L 1 1 86 1 ji_1 rfl rfl rfl (fun x1 => ?_)
      refine s_167 255 207 37 rfl rfl ?_
      exact s_jmp (hk37 _ _ _) ⟨rfl, rfl, trivial⟩
    · refine s_3 82 rfl ?_
      exact s_172Z rfl rfl
theorem w_9_isTopTwice_37 (l : Launch)  (n : Nat) : ∀ a0 a1 H, JV l mi_9_isTopTwice jeI 37 [(0, .ref a0), (1, .int a1)] [] H (F_9_isTopTwice_37  n a0 a1 H) := by
  induction n with
  | zero => intro _ _ _; exact s_none
  | succ n ih => intro a0 a1 H; exact v_9_isTopTwice_37 l (F_9_isTopTwice_37  n) ih a0 a1 H
theorem v_9_isTopTwice (l : Launch) (a0 : Nat) (H : jH) : JV l mi_9_isTopTwice jeI 0 [(0, .ref a0)] [] H (F_9_isTopTwice a0 H) := by
  unfold F_9_isTopTwice
  refine s_42 1 rfl rfl ?_
  refine s_180I 0 18 4 18 f_9_2 jw_167 rfl rfl ?_
  refine s_5 5 rfl ?_
  refine s_161 0 28 33 8 rfl rfl ?_ ?_
  · exact s_jmp (v_9_isTopTwice_33 l _) trivial
  · refine s_42 9 rfl rfl ?_
    refine s_180R 0 14 12 14 f_9_1 jw_165 rfl rfl ?_
    refine s_42 13 rfl rfl ?_
    refine s_180I 0 18 16 18 f_9_2 jw_167 rfl rfl ?_
    refine s_4 17 rfl ?_
    refine s_100 18 rfl ?_
    refine s_46 19 rfl ?_
    refine s_42 20 rfl rfl ?_
    refine s_180R 0 14 23 14 f_9_1 jw_165 rfl rfl ?_
    refine s_42 24 rfl rfl ?_
    refine s_180I 0 18 27 18 f_9_2 jw_167 rfl rfl ?_
    refine s_5 28 rfl ?_
    refine s_100 29 rfl ?_
    refine s_46 30 rfl ?_
    refine s_159 0 5 35 33 rfl rfl ?_ ?_
    · refine s_3 36 rfl ?_
      refine s_60 37 rfl rfl ?_
      exact s_jmp (w_9_isTopTwice_37 l jfuel _ _ _) ⟨rfl, rfl, trivial⟩
    · exact s_jmp (v_9_isTopTwice_33 l _) trivial
theorem m_9_isTopTwice (l : Launch) (a0 : Nat) (H : jH) : JMet l y_9_isTopTwice prog_11_method_8_code mi_9_isTopTwice jeI [.ref a0] H (F_9_isTopTwice a0 H) := jmet_of n_9_isTopTwice (by decide) ⟨rfl, rfl⟩ (Nat.le_of_ble_eq_true rfl) (v_9_isTopTwice l a0 H)
def mi_4_compare : jM := (43843180867237551828612557015077455982984602531811132773693746618787095093139603481339754169119086023161874538526836118206741712518263541864080013387234500679247609866544484635, 73, 3, "CoinNode$Machine", none, "compare", 2, 42)
def y_4_compare : MethodName := ⟨"CoinNode$Machine", "compare", "(I)V"⟩
theorem n_4_compare : jn_is prog_6_method_14_code mi_4_compare.1 mi_4_compare.2.1 := by unfold jn_is; decide +kernel
theorem k_4_compare : jmok y_4_compare prog_6_method_14_code mi_4_compare 1 := ⟨jw_953, jw_6, ⟨by decide, by decide⟩, by decide +kernel⟩
theorem v_4_compare_15 (l : Launch)  (a0 : Nat) (H : jH) : JV l mi_4_compare jeV 15 [(0, .ref a0)] [] H (B_4_compare_15  a0 H) := by
  unfold B_4_compare_15
  refine s_42 16 rfl rfl ?_
  refine s_5 17 rfl ?_
  refine s_181I 0 68 20 68 f_4_9 rfl rfl jw_187 rfl rfl (fun h1 => ?_)
  exact s_177 rfl rfl
theorem v_4_compare_72 (l : Launch)   (H : jH) : JV l mi_4_compare jeV 72 [] [] H (B_4_compare_72   H) := by
  unfold B_4_compare_72
  exact s_177 rfl rfl
theorem v_4_compare_57 (l : Launch)  (s0 : Nat) (s1 : Int64) (H : jH) : JV l mi_4_compare jeV 57 [] [.long s1, .ref s0] H (B_4_compare_57  s0 s1 H) := by
  unfold B_4_compare_57
  refine s_182V 0 124 60 124 (m_9_putNumber l _ _ _) rfl k_9_putNumber jc_9 jw_913 jw_914 jw_915 rfl rfl rfl rfl rfl (fun x2 h3 => ?_)
  refine s_167 0 12 72 rfl rfl ?_
  exact s_jmp (v_4_compare_72 l _) trivial
theorem v_4_compare (l : Launch) (a0 : Nat) (a1 : Int32) (H : jH) : JV l mi_4_compare jeV 0 [(0, .ref a0), (1, .int a1)] [] H (F_4_compare a0 a1 H) := by
  unfold F_4_compare
  refine s_27 1 rfl rfl ?_
  refine s_17 0 135 4 135 jsp_0_135 rfl ?_
  refine s_161 0 11 15 7 rfl rfl ?_ ?_
  · exact s_jmp (v_4_compare_15 l _ _) ⟨rfl, trivial⟩
  · refine s_42 8 rfl rfl ?_
    refine s_5 9 rfl ?_
    refine s_182I 0 116 12 116 (m_4_has l _ _ _) rfl k_4_has jc_4 jw_893 jw_895 jps_13 rfl rfl rfl rfl rfl (fun x4 h5 => ?_)
    refine s_154 0 9 21 15 rfl rfl ?_ ?_
    · refine s_42 22 rfl rfl ?_
      refine s_180R 0 14 25 14 f_4_1 jw_177 rfl rfl ?_
      refine s_182I 0 149 28 149 (m_9_isTopTwice l _ _) rfl k_9_isTopTwice jc_9 jw_954 jw_955 jw_956 rfl rfl rfl rfl rfl (fun x6 h7 => ?_)
      refine s_61 29 rfl rfl ?_
      refine s_42 30 rfl rfl ?_
      refine s_180R 0 14 33 14 f_4_1 jw_177 rfl rfl ?_
      refine s_5 34 rfl ?_
      refine s_182V 0 119 37 119 (m_9_drop l _ _ _) rfl k_9_drop jc_9 jw_901 jw_902 jw_903 rfl rfl rfl rfl rfl (fun x8 h9 => ?_)
      refine s_27 38 rfl rfl ?_
      refine s_17 0 135 41 135 jsp_0_135 rfl ?_
      refine s_160 0 22 63 44 rfl rfl ?_ ?_
      · refine s_28 64 rfl rfl ?_
        refine s_154 0 8 72 67 rfl rfl ?_ ?_
        · exact s_jmp (v_4_compare_72 l _) trivial
        · refine s_42 68 rfl rfl ?_
          refine s_5 69 rfl ?_
          refine s_181I 0 68 72 68 f_4_9 rfl rfl jw_187 rfl rfl (fun h10 => ?_)
          exact s_jmp (v_4_compare_72 l _) trivial
      · refine s_42 45 rfl rfl ?_
        refine s_180R 0 14 48 14 f_4_1 jw_177 rfl rfl ?_
        refine s_28 49 rfl rfl ?_
        refine s_153 0 7 56 52 rfl rfl ?_ ?_
        · refine s_9 57 rfl ?_
          exact s_jmp (v_4_compare_57 l _ _ _) trivial
        · refine s_10 53 rfl ?_
          refine s_167 0 4 57 rfl rfl ?_
          exact s_jmp (v_4_compare_57 l _ _ _) trivial
    · exact s_jmp (v_4_compare_15 l _ _) ⟨rfl, trivial⟩
theorem m_4_compare (l : Launch) (a0 : Nat) (a1 : Int32) (H : jH) : JMet l y_4_compare prog_6_method_14_code mi_4_compare jeV [.ref a0, .int a1] H (F_4_compare a0 a1 H) := jmet_of n_4_compare (by decide) ⟨rfl, rfl⟩ (Nat.le_of_ble_eq_true rfl) (v_4_compare l a0 a1 H)
def mi_3_ripe : jM := (1196745134930580012087884149779529902444178534674399306048157562911078038522513819788209816282543480271023813916961794107292727202755034846535928943250325799861823675005468323352148384157653320097992688261519855234800854766458659816824760058224961288074416714962622410365774778024489407928010431907061273855729923562270963233265280072631251212583548840104200601756021576307992983086281803444876206525640623836198663163487139564247914167753277538081242482776606144526943151275181369471226135061117442263571575219258867953409234284162457219446164574709289688641016617312526005031501559561606383600176062403775917024021538066894232489329259013747953283145037066822823780235167950319644773375919194280574106520805817197269663933288012986280995812178737918757578312806589934458185867364150204326429332544617196551884528609604786666194071612884189111824623939323173982315916566583521065736267803933272334408519157382038715505811014501219867985658950512108819578308985403082155231622493945837467736458855151092459790172144087113327563335704383546999408555312665759227720420986669961021102848881540984451842890349310435736950981888709307059062334619927828932430568635501674254708661551778437064001982027417915362149320821743209440115766666873731782739454404621444683948031553351513656056721943426216465274306768446625576181886305411304189858330866573814109901086018470739960589336986405633398414133828628032953878130251373874720994530674339900801171429698653518814667007228844025486825888799818400183866436524674387658316837608090152376181106106335179558842143745608859114296650086356782898516018340576208739452129303333430981586183587257778523390628377642, 684, 15, "CoinNode$Hash", none, "ripe", 0, 0)
def y_3_ripe : MethodName := ⟨"CoinNode$Hash", "ripe", "([B)V"⟩
theorem n_3_ripe : jn_is prog_5_method_4_code mi_3_ripe.1 mi_3_ripe.2.1 := by unfold jn_is; decide +kernel
theorem k_3_ripe : jmok y_3_ripe prog_5_method_4_code mi_3_ripe 1 := ⟨jw_984, jw_2, ⟨by decide, by decide⟩, by decide +kernel⟩
theorem v_3_ripe_159 (l : Launch) (k63 : Nat → Nat → Int32 → Int32 → Int32 → jH → Option (Unit × jH)) (hk63 : ∀ a0 a1 a2 a3 a4 H, JV l mi_3_ripe jeV 63 [(0, .ref a0), (1, .ref a1), (2, .int a2), (3, .int a3), (4, .int a4)] [] H (k63 a0 a1 a2 a3 a4 H)) (a0 : Nat) (a1 : Nat) (a2 : Int32) (a3 : Int32) (a4 : Int32) (s0 : Nat) (s1 : Int32) (s2 : Int32) (H : jH) : JV l mi_3_ripe jeV 159 [(0, .ref a0), (1, .ref a1), (2, .int a2), (3, .int a3), (4, .int a4)] [.int s2, .int s1, .ref s0] H (B_3_ripe_159 k63 a0 a1 a2 a3 a4 s0 s1 s2 H) := by
  unfold B_3_ripe_159
  refine s_79 160 rfl (fun h1 => ?_)
  refine s_132L 4 1 163 1 ji_1 rfl rfl rfl (fun x2 => ?_)
  refine s_167 255 156 63 rfl rfl ?_
  exact s_jmp (hk63 _ _ _ _ _ _) ⟨rfl, rfl, rfl, rfl, rfl, trivial⟩
theorem v_3_ripe_380 (l : Launch) (k243 : Nat → Nat → Int32 → Int32 → Int32 → Int32 → Int32 → Int32 → Int32 → Int32 → Int32 → jH → Option (Unit × jH)) (hk243 : ∀ a0 a1 a2 a3 a4 a5 a6 a7 a8 a9 a10 H, JV l mi_3_ripe jeV 243 [(0, .ref a0), (1, .ref a1), (2, .int a2), (3, .int a3), (4, .int a4), (5, .int a5), (6, .int a6), (7, .int a7), (8, .int a8), (9, .int a9), (10, .int a10)] [] H (k243 a0 a1 a2 a3 a4 a5 a6 a7 a8 a9 a10 H)) (a0 : Nat) (a1 : Nat) (a2 : Int32) (a3 : Int32) (a4 : Int32) (a5 : Int32) (a6 : Int32) (a7 : Int32) (a8 : Int32) (a9 : Int32) (a10 : Int32) (a11 : Int32) (s0 : Int32) (H : jH) : JV l mi_3_ripe jeV 380 [(0, .ref a0), (1, .ref a1), (2, .int a2), (3, .int a3), (4, .int a4), (5, .int a5), (6, .int a6), (7, .int a7), (8, .int a8), (9, .int a9), (10, .int a10), (11, .int a11)] [.int s0] H (B_3_ripe_380 k243 a0 a1 a2 a3 a4 a5 a6 a7 a8 a9 a10 a11 s0 H) := by
  unfold B_3_ripe_380
  refine s_54 12 382 rfl rfl ?_
  refine s_21 5 384 rfl rfl ?_
  refine s_21 12 386 rfl rfl ?_
  refine s_96 387 rfl ?_
  refine s_42 388 rfl rfl ?_
  refine s_180R 0 19 391 19 f_3_3 jw_38 rfl rfl ?_
  refine s_178 0 49 394 49 3 "CoinNode$Hash" "WORD" jst_3 ⟨by decide, by decide⟩ jw_990 rfl rfl ?_
  refine s_21 10 396 rfl rfl ?_
  refine s_46 397 rfl ?_
  refine s_46 398 rfl ?_
  refine s_96 399 rfl ?_
  refine s_178 0 52 402 52 5 "CoinNode$Hash" "ADDED" jst_5 ⟨by decide, by decide⟩ jw_992 rfl rfl ?_
  refine s_21 11 404 rfl rfl ?_
  refine s_46 405 rfl ?_
  refine s_96 406 rfl ?_
  refine s_54L 13 408 rfl rfl (fun x3 => ?_)
  refine s_21 13 410 rfl rfl ?_
  refine s_178 0 55 413 55 4 "CoinNode$Hash" "TURN" jst_4 ⟨by decide, by decide⟩ jw_994 rfl rfl ?_
  refine s_21 10 415 rfl rfl ?_
  refine s_46 416 rfl ?_
  refine s_120 417 rfl ?_
  refine s_21 13 419 rfl rfl ?_
  refine s_16 32 421 32 jbp_32 rfl ?_
  refine s_178 0 55 424 55 4 "CoinNode$Hash" "TURN" jst_4 ⟨by decide, by decide⟩ jw_994 rfl rfl ?_
  refine s_21 10 426 rfl rfl ?_
  refine s_46 427 rfl ?_
  refine s_100 428 rfl ?_
  refine s_124 429 rfl ?_
  refine s_128 430 rfl ?_
  refine s_21 9 432 rfl rfl ?_
  refine s_96 433 rfl ?_
  refine s_54L 14 435 rfl rfl (fun x4 => ?_)
  refine s_21 9 437 rfl rfl ?_
  refine s_54 5 439 rfl rfl ?_
  refine s_21 8 441 rfl rfl ?_
  refine s_54 9 443 rfl rfl ?_
  refine s_21 7 445 rfl rfl ?_
  refine s_16 10 447 10 jbp_10 rfl ?_
  refine s_120 448 rfl ?_
  refine s_21 7 450 rfl rfl ?_
  refine s_16 22 452 22 jbp_22 rfl ?_
  refine s_124 453 rfl ?_
  refine s_128 454 rfl ?_
  refine s_54L 8 456 rfl rfl (fun x5 => ?_)
  refine s_21 6 458 rfl rfl ?_
  refine s_54 7 460 rfl rfl ?_
  refine s_21 14 462 rfl rfl ?_
  refine s_54 6 464 rfl rfl ?_
  refine s_132L 10 1 467 1 ji_1 rfl rfl rfl (fun x6 => ?_)
  refine s_167 255 32 243 rfl rfl ?_
  exact s_jmp (hk243 _ _ _ _ _ _ _ _ _ _ _ _) ⟨rfl, rfl, rfl, rfl, rfl, rfl, rfl, rfl, rfl, rfl, rfl, trivial⟩
theorem v_3_ripe_275 (l : Launch) (k243 : Nat → Nat → Int32 → Int32 → Int32 → Int32 → Int32 → Int32 → Int32 → Int32 → Int32 → jH → Option (Unit × jH)) (hk243 : ∀ a0 a1 a2 a3 a4 a5 a6 a7 a8 a9 a10 H, JV l mi_3_ripe jeV 243 [(0, .ref a0), (1, .ref a1), (2, .int a2), (3, .int a3), (4, .int a4), (5, .int a5), (6, .int a6), (7, .int a7), (8, .int a8), (9, .int a9), (10, .int a10)] [] H (k243 a0 a1 a2 a3 a4 a5 a6 a7 a8 a9 a10 H)) (a0 : Nat) (a1 : Nat) (a2 : Int32) (a3 : Int32) (a4 : Int32) (a5 : Int32) (a6 : Int32) (a7 : Int32) (a8 : Int32) (a9 : Int32) (a10 : Int32) (a11 : Int32) (H : jH) : JV l mi_3_ripe jeV 275 [(0, .ref a0), (1, .ref a1), (2, .int a2), (3, .int a3), (4, .int a4), (5, .int a5), (6, .int a6), (7, .int a7), (8, .int a8), (9, .int a9), (10, .int a10), (11, .int a11)] [] H (B_3_ripe_275 k243 a0 a1 a2 a3 a4 a5 a6 a7 a8 a9 a10 a11 H) := by
  unfold B_3_ripe_275
  refine s_21 6 277 rfl rfl ?_
  refine s_21 7 279 rfl rfl ?_
  refine s_130 280 rfl ?_
  refine s_21 8 282 rfl rfl ?_
  refine s_130 283 rfl ?_
  refine s_167 0 97 380 rfl rfl ?_
  exact s_jmp (v_3_ripe_380 l k243 hk243 _ _ _ _ _ _ _ _ _ _ _ _ _ _) ⟨rfl, rfl, rfl, rfl, rfl, rfl, rfl, rfl, rfl, rfl, rfl, rfl, trivial⟩
theorem v_3_ripe_299 (l : Launch) (k243 : Nat → Nat → Int32 → Int32 → Int32 → Int32 → Int32 → Int32 → Int32 → Int32 → Int32 → jH → Option (Unit × jH)) (hk243 : ∀ a0 a1 a2 a3 a4 a5 a6 a7 a8 a9 a10 H, JV l mi_3_ripe jeV 243 [(0, .ref a0), (1, .ref a1), (2, .int a2), (3, .int a3), (4, .int a4), (5, .int a5), (6, .int a6), (7, .int a7), (8, .int a8), (9, .int a9), (10, .int a10)] [] H (k243 a0 a1 a2 a3 a4 a5 a6 a7 a8 a9 a10 H)) (a0 : Nat) (a1 : Nat) (a2 : Int32) (a3 : Int32) (a4 : Int32) (a5 : Int32) (a6 : Int32) (a7 : Int32) (a8 : Int32) (a9 : Int32) (a10 : Int32) (a11 : Int32) (H : jH) : JV l mi_3_ripe jeV 299 [(0, .ref a0), (1, .ref a1), (2, .int a2), (3, .int a3), (4, .int a4), (5, .int a5), (6, .int a6), (7, .int a7), (8, .int a8), (9, .int a9), (10, .int a10), (11, .int a11)] [] H (B_3_ripe_299 k243 a0 a1 a2 a3 a4 a5 a6 a7 a8 a9 a10 a11 H) := by
  unfold B_3_ripe_299
  refine s_21 6 301 rfl rfl ?_
  refine s_21 7 303 rfl rfl ?_
  refine s_126 304 rfl ?_
  refine s_21 6 306 rfl rfl ?_
  refine s_2 307 rfl ?_
  refine s_130 308 rfl ?_
  refine s_21 8 310 rfl rfl ?_
  refine s_126 311 rfl ?_
  refine s_128 312 rfl ?_
  refine s_167 0 68 380 rfl rfl ?_
  exact s_jmp (v_3_ripe_380 l k243 hk243 _ _ _ _ _ _ _ _ _ _ _ _ _ _) ⟨rfl, rfl, rfl, rfl, rfl, rfl, rfl, rfl, rfl, rfl, rfl, rfl, trivial⟩
theorem v_3_ripe_328 (l : Launch) (k243 : Nat → Nat → Int32 → Int32 → Int32 → Int32 → Int32 → Int32 → Int32 → Int32 → Int32 → jH → Option (Unit × jH)) (hk243 : ∀ a0 a1 a2 a3 a4 a5 a6 a7 a8 a9 a10 H, JV l mi_3_ripe jeV 243 [(0, .ref a0), (1, .ref a1), (2, .int a2), (3, .int a3), (4, .int a4), (5, .int a5), (6, .int a6), (7, .int a7), (8, .int a8), (9, .int a9), (10, .int a10)] [] H (k243 a0 a1 a2 a3 a4 a5 a6 a7 a8 a9 a10 H)) (a0 : Nat) (a1 : Nat) (a2 : Int32) (a3 : Int32) (a4 : Int32) (a5 : Int32) (a6 : Int32) (a7 : Int32) (a8 : Int32) (a9 : Int32) (a10 : Int32) (a11 : Int32) (H : jH) : JV l mi_3_ripe jeV 328 [(0, .ref a0), (1, .ref a1), (2, .int a2), (3, .int a3), (4, .int a4), (5, .int a5), (6, .int a6), (7, .int a7), (8, .int a8), (9, .int a9), (10, .int a10), (11, .int a11)] [] H (B_3_ripe_328 k243 a0 a1 a2 a3 a4 a5 a6 a7 a8 a9 a10 a11 H) := by
  unfold B_3_ripe_328
  refine s_21 6 330 rfl rfl ?_
  refine s_21 7 332 rfl rfl ?_
  refine s_2 333 rfl ?_
  refine s_130 334 rfl ?_
  refine s_128 335 rfl ?_
  refine s_21 8 337 rfl rfl ?_
  refine s_130 338 rfl ?_
  refine s_167 0 42 380 rfl rfl ?_
  exact s_jmp (v_3_ripe_380 l k243 hk243 _ _ _ _ _ _ _ _ _ _ _ _ _ _) ⟨rfl, rfl, rfl, rfl, rfl, rfl, rfl, rfl, rfl, rfl, rfl, rfl, trivial⟩
theorem v_3_ripe_354 (l : Launch) (k243 : Nat → Nat → Int32 → Int32 → Int32 → Int32 → Int32 → Int32 → Int32 → Int32 → Int32 → jH → Option (Unit × jH)) (hk243 : ∀ a0 a1 a2 a3 a4 a5 a6 a7 a8 a9 a10 H, JV l mi_3_ripe jeV 243 [(0, .ref a0), (1, .ref a1), (2, .int a2), (3, .int a3), (4, .int a4), (5, .int a5), (6, .int a6), (7, .int a7), (8, .int a8), (9, .int a9), (10, .int a10)] [] H (k243 a0 a1 a2 a3 a4 a5 a6 a7 a8 a9 a10 H)) (a0 : Nat) (a1 : Nat) (a2 : Int32) (a3 : Int32) (a4 : Int32) (a5 : Int32) (a6 : Int32) (a7 : Int32) (a8 : Int32) (a9 : Int32) (a10 : Int32) (a11 : Int32) (H : jH) : JV l mi_3_ripe jeV 354 [(0, .ref a0), (1, .ref a1), (2, .int a2), (3, .int a3), (4, .int a4), (5, .int a5), (6, .int a6), (7, .int a7), (8, .int a8), (9, .int a9), (10, .int a10), (11, .int a11)] [] H (B_3_ripe_354 k243 a0 a1 a2 a3 a4 a5 a6 a7 a8 a9 a10 a11 H) := by
  unfold B_3_ripe_354
  refine s_21 6 356 rfl rfl ?_
  refine s_21 8 358 rfl rfl ?_
  refine s_126 359 rfl ?_
  refine s_21 7 361 rfl rfl ?_
  refine s_21 8 363 rfl rfl ?_
  refine s_2 364 rfl ?_
  refine s_130 365 rfl ?_
  refine s_126 366 rfl ?_
  refine s_128 367 rfl ?_
  refine s_167 0 13 380 rfl rfl ?_
  exact s_jmp (v_3_ripe_380 l k243 hk243 _ _ _ _ _ _ _ _ _ _ _ _ _ _) ⟨rfl, rfl, rfl, rfl, rfl, rfl, rfl, rfl, rfl, rfl, rfl, rfl, trivial⟩
theorem v_3_ripe_632 (l : Launch) (k190 : Nat → Nat → Int32 → Int32 → Int32 → jH → Option (Unit × jH)) (hk190 : ∀ a0 a1 a2 a3 a4 H, JV l mi_3_ripe jeV 190 [(0, .ref a0), (1, .ref a1), (2, .int a2), (3, .int a3), (4, .int a4)] [] H (k190 a0 a1 a2 a3 a4 H)) (a0 : Nat) (a1 : Nat) (a2 : Int32) (a3 : Int32) (a4 : Int32) (H : jH) : JV l mi_3_ripe jeV 632 [(0, .ref a0), (1, .ref a1), (2, .int a2), (3, .int a3), (4, .int a4)] [] H (B_3_ripe_632 k190 a0 a1 a2 a3 a4 H) := by
  unfold B_3_ripe_632
  refine s_132L 4 1 635 1 ji_1 rfl rfl rfl (fun x7 => ?_)
  refine s_167 254 67 190 rfl rfl ?_
  exact s_jmp (hk190 _ _ _ _ _ _) ⟨rfl, rfl, rfl, rfl, rfl, trivial⟩
theorem v_3_ripe_243 (l : Launch) (k190 : Nat → Nat → Int32 → Int32 → Int32 → jH → Option (Unit × jH)) (hk190 : ∀ a0 a1 a2 a3 a4 H, JV l mi_3_ripe jeV 190 [(0, .ref a0), (1, .ref a1), (2, .int a2), (3, .int a3), (4, .int a4)] [] H (k190 a0 a1 a2 a3 a4 H)) (k243 : Nat → Nat → Int32 → Int32 → Int32 → Int32 → Int32 → Int32 → Int32 → Int32 → Int32 → jH → Option (Unit × jH)) (hk243 : ∀ a0 a1 a2 a3 a4 a5 a6 a7 a8 a9 a10 H, JV l mi_3_ripe jeV 243 [(0, .ref a0), (1, .ref a1), (2, .int a2), (3, .int a3), (4, .int a4), (5, .int a5), (6, .int a6), (7, .int a7), (8, .int a8), (9, .int a9), (10, .int a10)] [] H (k243 a0 a1 a2 a3 a4 a5 a6 a7 a8 a9 a10 H)) (a0 : Nat) (a1 : Nat) (a2 : Int32) (a3 : Int32) (a4 : Int32) (a5 : Int32) (a6 : Int32) (a7 : Int32) (a8 : Int32) (a9 : Int32) (a10 : Int32) (H : jH) : JV l mi_3_ripe jeV 243 [(0, .ref a0), (1, .ref a1), (2, .int a2), (3, .int a3), (4, .int a4), (5, .int a5), (6, .int a6), (7, .int a7), (8, .int a8), (9, .int a9), (10, .int a10)] [] H (B_3_ripe_243 k190 k243 a0 a1 a2 a3 a4 a5 a6 a7 a8 a9 a10 H) := by
  unfold B_3_ripe_243
  refine s_21 10 245 rfl rfl ?_
  refine s_16 80 247 80 jbp_80 rfl ?_
  refine s_21 4 249 rfl rfl ?_
  refine s_104 250 rfl ?_
  refine s_16 80 252 80 jbp_80 rfl ?_
  refine s_96 253 rfl ?_
  refine s_162 0 217 470 256 rfl rfl ?_ ?_
  · refine s_21 4 472 rfl rfl ?_
    refine s_154 0 46 518 475 rfl rfl ?_ ?_
    · refine s_42 519 rfl rfl ?_
      refine s_180R 0 15 522 15 f_3_2 jw_37 rfl rfl ?_
      refine s_4 523 rfl ?_
      refine s_46 524 rfl ?_
      refine s_42 525 rfl rfl ?_
      refine s_180R 0 22 528 22 f_3_4 jw_39 rfl rfl ?_
      refine s_5 529 rfl ?_
      refine s_46 530 rfl ?_
      refine s_96 531 rfl ?_
      refine s_21 8 533 rfl rfl ?_
      refine s_96 534 rfl ?_
      refine s_54L 10 536 rfl rfl (fun x8 => ?_)
      refine s_42 537 rfl rfl ?_
      refine s_180R 0 15 540 15 f_3_2 jw_37 rfl rfl ?_
      refine s_4 541 rfl ?_
      refine s_42 542 rfl rfl ?_
      refine s_180R 0 15 545 15 f_3_2 jw_37 rfl rfl ?_
      refine s_5 546 rfl ?_
      refine s_46 547 rfl ?_
      refine s_42 548 rfl rfl ?_
      refine s_180R 0 22 551 22 f_3_4 jw_39 rfl rfl ?_
      refine s_6 552 rfl ?_
      refine s_46 553 rfl ?_
      refine s_96 554 rfl ?_
      refine s_21 9 556 rfl rfl ?_
      refine s_96 557 rfl ?_
      refine s_79 558 rfl (fun h9 => ?_)
      refine s_42 559 rfl rfl ?_
      refine s_180R 0 15 562 15 f_3_2 jw_37 rfl rfl ?_
      refine s_5 563 rfl ?_
      refine s_42 564 rfl rfl ?_
      refine s_180R 0 15 567 15 f_3_2 jw_37 rfl rfl ?_
      refine s_6 568 rfl ?_
      refine s_46 569 rfl ?_
      refine s_42 570 rfl rfl ?_
      refine s_180R 0 22 573 22 f_3_4 jw_39 rfl rfl ?_
      refine s_7 574 rfl ?_
      refine s_46 575 rfl ?_
      refine s_96 576 rfl ?_
      refine s_21 5 578 rfl rfl ?_
      refine s_96 579 rfl ?_
      refine s_79 580 rfl (fun h10 => ?_)
      refine s_42 581 rfl rfl ?_
      refine s_180R 0 15 584 15 f_3_2 jw_37 rfl rfl ?_
      refine s_6 585 rfl ?_
      refine s_42 586 rfl rfl ?_
      refine s_180R 0 15 589 15 f_3_2 jw_37 rfl rfl ?_
      refine s_7 590 rfl ?_
      refine s_46 591 rfl ?_
      refine s_42 592 rfl rfl ?_
      refine s_180R 0 22 595 22 f_3_4 jw_39 rfl rfl ?_
      refine s_3 596 rfl ?_
      refine s_46 597 rfl ?_
      refine s_96 598 rfl ?_
      refine s_21 6 600 rfl rfl ?_
      refine s_96 601 rfl ?_
      refine s_79 602 rfl (fun h11 => ?_)
      refine s_42 603 rfl rfl ?_
      refine s_180R 0 15 606 15 f_3_2 jw_37 rfl rfl ?_
      refine s_7 607 rfl ?_
      refine s_42 608 rfl rfl ?_
      refine s_180R 0 15 611 15 f_3_2 jw_37 rfl rfl ?_
      refine s_3 612 rfl ?_
      refine s_46 613 rfl ?_
      refine s_42 614 rfl rfl ?_
      refine s_180R 0 22 617 22 f_3_4 jw_39 rfl rfl ?_
      refine s_4 618 rfl ?_
      refine s_46 619 rfl ?_
      refine s_96 620 rfl ?_
      refine s_21 7 622 rfl rfl ?_
      refine s_96 623 rfl ?_
      refine s_79 624 rfl (fun h12 => ?_)
      refine s_42 625 rfl rfl ?_
      refine s_180R 0 15 628 15 f_3_2 jw_37 rfl rfl ?_
      refine s_3 629 rfl ?_
      refine s_21 10 631 rfl rfl ?_
      refine s_79 632 rfl (fun h13 => ?_)
      exact s_jmp (v_3_ripe_632 l k190 hk190 _ _ _ _ _ _) ⟨rfl, rfl, rfl, rfl, rfl, trivial⟩
    · refine s_42 476 rfl rfl ?_
      refine s_180R 0 22 479 22 f_3_4 jw_39 rfl rfl ?_
      refine s_3 480 rfl ?_
      refine s_21 5 482 rfl rfl ?_
      refine s_79 483 rfl (fun h14 => ?_)
      refine s_42 484 rfl rfl ?_
      refine s_180R 0 22 487 22 f_3_4 jw_39 rfl rfl ?_
      refine s_4 488 rfl ?_
      refine s_21 6 490 rfl rfl ?_
      refine s_79 491 rfl (fun h15 => ?_)
      refine s_42 492 rfl rfl ?_
      refine s_180R 0 22 495 22 f_3_4 jw_39 rfl rfl ?_
      refine s_5 496 rfl ?_
      refine s_21 7 498 rfl rfl ?_
      refine s_79 499 rfl (fun h16 => ?_)
      refine s_42 500 rfl rfl ?_
      refine s_180R 0 22 503 22 f_3_4 jw_39 rfl rfl ?_
      refine s_6 504 rfl ?_
      refine s_21 8 506 rfl rfl ?_
      refine s_79 507 rfl (fun h17 => ?_)
      refine s_42 508 rfl rfl ?_
      refine s_180R 0 22 511 22 f_3_4 jw_39 rfl rfl ?_
      refine s_7 512 rfl ?_
      refine s_21 9 514 rfl rfl ?_
      refine s_79 515 rfl (fun h18 => ?_)
      refine s_167 0 117 632 rfl rfl ?_
      exact s_jmp (v_3_ripe_632 l k190 hk190 _ _ _ _ _ _) ⟨rfl, rfl, rfl, rfl, rfl, trivial⟩
  · refine s_21 10 258 rfl rfl ?_
    refine s_16 16 260 16 jbp_16 rfl ?_
    refine s_108 261 rfl ?_
    refine s_54L 11 263 rfl rfl (fun x19 => ?_)
    refine s_21 11 265 rfl rfl ?_
    refine s_153 0 10 275 268 rfl rfl ?_ ?_
    · exact s_jmp (v_3_ripe_275 l k243 hk243 _ _ _ _ _ _ _ _ _ _ _ _ _) ⟨rfl, rfl, rfl, rfl, rfl, rfl, rfl, rfl, rfl, rfl, rfl, rfl, trivial⟩
    · refine s_21 11 270 rfl rfl ?_
      refine s_16 9 272 9 jbp_9 rfl ?_
      refine s_160 0 14 286 275 rfl rfl ?_ ?_
      · refine s_21 11 288 rfl rfl ?_
        refine s_4 289 rfl ?_
        refine s_159 0 10 299 292 rfl rfl ?_ ?_
        · exact s_jmp (v_3_ripe_299 l k243 hk243 _ _ _ _ _ _ _ _ _ _ _ _ _) ⟨rfl, rfl, rfl, rfl, rfl, rfl, rfl, rfl, rfl, rfl, rfl, rfl, trivial⟩
        · refine s_21 11 294 rfl rfl ?_
          refine s_16 8 296 8 jbp_8 rfl ?_
          refine s_160 0 19 315 299 rfl rfl ?_ ?_
          · refine s_21 11 317 rfl rfl ?_
            refine s_5 318 rfl ?_
            refine s_159 0 10 328 321 rfl rfl ?_ ?_
            · exact s_jmp (v_3_ripe_328 l k243 hk243 _ _ _ _ _ _ _ _ _ _ _ _ _) ⟨rfl, rfl, rfl, rfl, rfl, rfl, rfl, rfl, rfl, rfl, rfl, rfl, trivial⟩
            · refine s_21 11 323 rfl rfl ?_
              refine s_16 7 325 7 jbp_7 rfl ?_
              refine s_160 0 16 341 328 rfl rfl ?_ ?_
              · refine s_21 11 343 rfl rfl ?_
                refine s_6 344 rfl ?_
                refine s_159 0 10 354 347 rfl rfl ?_ ?_
                · exact s_jmp (v_3_ripe_354 l k243 hk243 _ _ _ _ _ _ _ _ _ _ _ _ _) ⟨rfl, rfl, rfl, rfl, rfl, rfl, rfl, rfl, rfl, rfl, rfl, rfl, trivial⟩
                · refine s_21 11 349 rfl rfl ?_
                  refine s_16 6 351 6 jbp_6 rfl ?_
                  refine s_160 0 19 370 354 rfl rfl ?_ ?_
                  · refine s_21 6 372 rfl rfl ?_
                    refine s_21 7 374 rfl rfl ?_
                    refine s_21 8 376 rfl rfl ?_
                    refine s_2 377 rfl ?_
                    refine s_130 378 rfl ?_
                    refine s_128 379 rfl ?_
                    refine s_130 380 rfl ?_
                    exact s_jmp (v_3_ripe_380 l k243 hk243 _ _ _ _ _ _ _ _ _ _ _ _ _ _) ⟨rfl, rfl, rfl, rfl, rfl, rfl, rfl, rfl, rfl, rfl, rfl, rfl, trivial⟩
                  · exact s_jmp (v_3_ripe_354 l k243 hk243 _ _ _ _ _ _ _ _ _ _ _ _ _) ⟨rfl, rfl, rfl, rfl, rfl, rfl, rfl, rfl, rfl, rfl, rfl, rfl, trivial⟩
              · exact s_jmp (v_3_ripe_328 l k243 hk243 _ _ _ _ _ _ _ _ _ _ _ _ _) ⟨rfl, rfl, rfl, rfl, rfl, rfl, rfl, rfl, rfl, rfl, rfl, rfl, trivial⟩
          · exact s_jmp (v_3_ripe_299 l k243 hk243 _ _ _ _ _ _ _ _ _ _ _ _ _) ⟨rfl, rfl, rfl, rfl, rfl, rfl, rfl, rfl, rfl, rfl, rfl, rfl, trivial⟩
      · exact s_jmp (v_3_ripe_275 l k243 hk243 _ _ _ _ _ _ _ _ _ _ _ _ _) ⟨rfl, rfl, rfl, rfl, rfl, rfl, rfl, rfl, rfl, rfl, rfl, rfl, trivial⟩
theorem w_3_ripe_243 (l : Launch) (k190 : Nat → Nat → Int32 → Int32 → Int32 → jH → Option (Unit × jH)) (hk190 : ∀ a0 a1 a2 a3 a4 H, JV l mi_3_ripe jeV 190 [(0, .ref a0), (1, .ref a1), (2, .int a2), (3, .int a3), (4, .int a4)] [] H (k190 a0 a1 a2 a3 a4 H)) (n : Nat) : ∀ a0 a1 a2 a3 a4 a5 a6 a7 a8 a9 a10 H, JV l mi_3_ripe jeV 243 [(0, .ref a0), (1, .ref a1), (2, .int a2), (3, .int a3), (4, .int a4), (5, .int a5), (6, .int a6), (7, .int a7), (8, .int a8), (9, .int a9), (10, .int a10)] [] H (F_3_ripe_243 k190 n a0 a1 a2 a3 a4 a5 a6 a7 a8 a9 a10 H) := by
  induction n with
  | zero => intro _ _ _ _ _ _ _ _ _ _ _ _; exact s_none
  | succ n ih => intro a0 a1 a2 a3 a4 a5 a6 a7 a8 a9 a10 H; exact v_3_ripe_243 l k190 hk190 (F_3_ripe_243 k190 n) ih a0 a1 a2 a3 a4 a5 a6 a7 a8 a9 a10 H
theorem v_3_ripe_190 (l : Launch) (k55 : Nat → Nat → Int32 → Int32 → jH → Option (Unit × jH)) (hk55 : ∀ a0 a1 a2 a3 H, JV l mi_3_ripe jeV 55 [(0, .ref a0), (1, .ref a1), (2, .int a2), (3, .int a3)] [] H (k55 a0 a1 a2 a3 H)) (k190 : Nat → Nat → Int32 → Int32 → Int32 → jH → Option (Unit × jH)) (hk190 : ∀ a0 a1 a2 a3 a4 H, JV l mi_3_ripe jeV 190 [(0, .ref a0), (1, .ref a1), (2, .int a2), (3, .int a3), (4, .int a4)] [] H (k190 a0 a1 a2 a3 a4 H)) (a0 : Nat) (a1 : Nat) (a2 : Int32) (a3 : Int32) (a4 : Int32) (H : jH) : JV l mi_3_ripe jeV 190 [(0, .ref a0), (1, .ref a1), (2, .int a2), (3, .int a3), (4, .int a4)] [] H (B_3_ripe_190 k55 k190 a0 a1 a2 a3 a4 H) := by
  unfold B_3_ripe_190
  refine s_21 4 192 rfl rfl ?_
  refine s_5 193 rfl ?_
  refine s_162 1 189 638 196 rfl rfl ?_ ?_
  · refine s_132L 3 1 641 1 ji_1 rfl rfl rfl (fun x20 => ?_)
    refine s_167 253 182 55 rfl rfl ?_
    exact s_jmp (hk55 _ _ _ _ _) ⟨rfl, rfl, rfl, rfl, trivial⟩
  · refine s_42 197 rfl rfl ?_
    refine s_180R 0 15 200 15 f_3_2 jw_37 rfl rfl ?_
    refine s_3 201 rfl ?_
    refine s_46 202 rfl ?_
    refine s_54L 5 204 rfl rfl (fun x21 => ?_)
    refine s_42 205 rfl rfl ?_
    refine s_180R 0 15 208 15 f_3_2 jw_37 rfl rfl ?_
    refine s_4 209 rfl ?_
    refine s_46 210 rfl ?_
    refine s_54L 6 212 rfl rfl (fun x22 => ?_)
    refine s_42 213 rfl rfl ?_
    refine s_180R 0 15 216 15 f_3_2 jw_37 rfl rfl ?_
    refine s_5 217 rfl ?_
    refine s_46 218 rfl ?_
    refine s_54L 7 220 rfl rfl (fun x23 => ?_)
    refine s_42 221 rfl rfl ?_
    refine s_180R 0 15 224 15 f_3_2 jw_37 rfl rfl ?_
    refine s_6 225 rfl ?_
    refine s_46 226 rfl ?_
    refine s_54L 8 228 rfl rfl (fun x24 => ?_)
    refine s_42 229 rfl rfl ?_
    refine s_180R 0 15 232 15 f_3_2 jw_37 rfl rfl ?_
    refine s_7 233 rfl ?_
    refine s_46 234 rfl ?_
    refine s_54L 9 236 rfl rfl (fun x25 => ?_)
    refine s_16 80 238 80 jbp_80 rfl ?_
    refine s_21 4 240 rfl rfl ?_
    refine s_104 241 rfl ?_
    refine s_54L 10 243 rfl rfl (fun x26 => ?_)
    exact s_jmp (w_3_ripe_243 l k190 hk190 jfuel _ _ _ _ _ _ _ _ _ _ _ _) ⟨rfl, rfl, rfl, rfl, rfl, rfl, rfl, rfl, rfl, rfl, rfl, trivial⟩
theorem w_3_ripe_190 (l : Launch) (k55 : Nat → Nat → Int32 → Int32 → jH → Option (Unit × jH)) (hk55 : ∀ a0 a1 a2 a3 H, JV l mi_3_ripe jeV 55 [(0, .ref a0), (1, .ref a1), (2, .int a2), (3, .int a3)] [] H (k55 a0 a1 a2 a3 H)) (n : Nat) : ∀ a0 a1 a2 a3 a4 H, JV l mi_3_ripe jeV 190 [(0, .ref a0), (1, .ref a1), (2, .int a2), (3, .int a3), (4, .int a4)] [] H (F_3_ripe_190 k55 n a0 a1 a2 a3 a4 H) := by
  induction n with
  | zero => intro _ _ _ _ _ _; exact s_none
  | succ n ih => intro a0 a1 a2 a3 a4 H; exact v_3_ripe_190 l k55 hk55 (F_3_ripe_190 k55 n) ih a0 a1 a2 a3 a4 H
theorem v_3_ripe_187 (l : Launch) (k55 : Nat → Nat → Int32 → Int32 → jH → Option (Unit × jH)) (hk55 : ∀ a0 a1 a2 a3 H, JV l mi_3_ripe jeV 55 [(0, .ref a0), (1, .ref a1), (2, .int a2), (3, .int a3)] [] H (k55 a0 a1 a2 a3 H)) (a0 : Nat) (a1 : Nat) (a2 : Int32) (a3 : Int32) (H : jH) : JV l mi_3_ripe jeV 187 [(0, .ref a0), (1, .ref a1), (2, .int a2), (3, .int a3)] [] H (B_3_ripe_187 k55 a0 a1 a2 a3 H) := by
  unfold B_3_ripe_187
  refine s_3 188 rfl ?_
  refine s_54 4 190 rfl rfl ?_
  exact s_jmp (w_3_ripe_190 l k55 hk55 jfuel _ _ _ _ _ _) ⟨rfl, rfl, rfl, rfl, rfl, trivial⟩
theorem v_3_ripe_63 (l : Launch) (k55 : Nat → Nat → Int32 → Int32 → jH → Option (Unit × jH)) (hk55 : ∀ a0 a1 a2 a3 H, JV l mi_3_ripe jeV 55 [(0, .ref a0), (1, .ref a1), (2, .int a2), (3, .int a3)] [] H (k55 a0 a1 a2 a3 H)) (k63 : Nat → Nat → Int32 → Int32 → Int32 → jH → Option (Unit × jH)) (hk63 : ∀ a0 a1 a2 a3 a4 H, JV l mi_3_ripe jeV 63 [(0, .ref a0), (1, .ref a1), (2, .int a2), (3, .int a3), (4, .int a4)] [] H (k63 a0 a1 a2 a3 a4 H)) (a0 : Nat) (a1 : Nat) (a2 : Int32) (a3 : Int32) (a4 : Int32) (H : jH) : JV l mi_3_ripe jeV 63 [(0, .ref a0), (1, .ref a1), (2, .int a2), (3, .int a3), (4, .int a4)] [] H (B_3_ripe_63 k55 k63 a0 a1 a2 a3 a4 H) := by
  unfold B_3_ripe_63
  refine s_21 4 65 rfl rfl ?_
  refine s_16 16 67 16 jbp_16 rfl ?_
  refine s_162 0 99 166 70 rfl rfl ?_ ?_
  · refine s_29 167 rfl rfl ?_
    refine s_28 168 rfl rfl ?_
    refine s_4 169 rfl ?_
    refine s_100 170 rfl ?_
    refine s_160 0 17 187 173 rfl rfl ?_ ?_
    · exact s_jmp (v_3_ripe_187 l k55 hk55 _ _ _ _ _) ⟨rfl, rfl, rfl, rfl, trivial⟩
    · refine s_42 174 rfl rfl ?_
      refine s_180R 0 19 177 19 f_3_3 jw_38 rfl rfl ?_
      refine s_16 14 179 14 jbp_14 rfl ?_
      refine s_16 8 181 8 jbp_8 rfl ?_
      refine s_42 182 rfl rfl ?_
      refine s_180I 0 28 185 28 f_3_1 jw_36 rfl rfl ?_
      refine s_104 186 rfl ?_
      refine s_79 187 rfl (fun h27 => ?_)
      exact s_jmp (v_3_ripe_187 l k55 hk55 _ _ _ _ _) ⟨rfl, rfl, rfl, rfl, trivial⟩
  · refine s_16 64 72 64 jbp_64 rfl ?_
    refine s_29 73 rfl rfl ?_
    refine s_104 74 rfl ?_
    refine s_7 75 rfl ?_
    refine s_21 4 77 rfl rfl ?_
    refine s_104 78 rfl ?_
    refine s_96 79 rfl ?_
    refine s_54L 5 81 rfl rfl (fun x28 => ?_)
    refine s_42 82 rfl rfl ?_
    refine s_180R 0 19 85 19 f_3_3 jw_38 rfl rfl ?_
    refine s_21 4 87 rfl rfl ?_
    refine s_21 5 89 rfl rfl ?_
    refine s_6 90 rfl ?_
    refine s_96 91 rfl ?_
    refine s_17 10 0 94 2560 jsp_10_0 rfl ?_
    refine s_161 0 7 101 97 rfl rfl ?_ ?_
    · refine s_42 102 rfl rfl ?_
      refine s_180R 0 11 105 11 f_3_0 jw_35 rfl rfl ?_
      refine s_21 5 107 rfl rfl ?_
      refine s_6 108 rfl ?_
      refine s_96 109 rfl ?_
      refine s_51B 110 rfl ?_
      refine s_16 24 112 24 jbp_24 rfl ?_
      refine s_120 113 rfl ?_
      refine s_42 114 rfl rfl ?_
      refine s_180R 0 11 117 11 f_3_0 jw_35 rfl rfl ?_
      refine s_21 5 119 rfl rfl ?_
      refine s_5 120 rfl ?_
      refine s_96 121 rfl ?_
      refine s_51B 122 rfl ?_
      refine s_17 0 255 125 255 jsp_0_255 rfl ?_
      refine s_126 126 rfl ?_
      refine s_16 16 128 16 jbp_16 rfl ?_
      refine s_120 129 rfl ?_
      refine s_128 130 rfl ?_
      refine s_42 131 rfl rfl ?_
      refine s_180R 0 11 134 11 f_3_0 jw_35 rfl rfl ?_
      refine s_21 5 136 rfl rfl ?_
      refine s_4 137 rfl ?_
      refine s_96 138 rfl ?_
      refine s_51B 139 rfl ?_
      refine s_17 0 255 142 255 jsp_0_255 rfl ?_
      refine s_126 143 rfl ?_
      refine s_16 8 145 8 jbp_8 rfl ?_
      refine s_120 146 rfl ?_
      refine s_128 147 rfl ?_
      refine s_42 148 rfl rfl ?_
      refine s_180R 0 11 151 11 f_3_0 jw_35 rfl rfl ?_
      refine s_21 5 153 rfl rfl ?_
      refine s_51B 154 rfl ?_
      refine s_17 0 255 157 255 jsp_0_255 rfl ?_
      refine s_126 158 rfl ?_
      refine s_128 159 rfl ?_
      exact s_jmp (v_3_ripe_159 l k63 hk63 _ _ _ _ _ _ _ _ _) ⟨rfl, rfl, rfl, rfl, rfl, trivial⟩
    · refine s_3 98 rfl ?_
      refine s_167 0 61 159 rfl rfl ?_
      exact s_jmp (v_3_ripe_159 l k63 hk63 _ _ _ _ _ _ _ _ _) ⟨rfl, rfl, rfl, rfl, rfl, trivial⟩
theorem w_3_ripe_63 (l : Launch) (k55 : Nat → Nat → Int32 → Int32 → jH → Option (Unit × jH)) (hk55 : ∀ a0 a1 a2 a3 H, JV l mi_3_ripe jeV 55 [(0, .ref a0), (1, .ref a1), (2, .int a2), (3, .int a3)] [] H (k55 a0 a1 a2 a3 H)) (n : Nat) : ∀ a0 a1 a2 a3 a4 H, JV l mi_3_ripe jeV 63 [(0, .ref a0), (1, .ref a1), (2, .int a2), (3, .int a3), (4, .int a4)] [] H (F_3_ripe_63 k55 n a0 a1 a2 a3 a4 H) := by
  induction n with
  | zero => intro _ _ _ _ _ _; exact s_none
  | succ n ih => intro a0 a1 a2 a3 a4 H; exact v_3_ripe_63 l k55 hk55 (F_3_ripe_63 k55 n) ih a0 a1 a2 a3 a4 H
theorem v_3_ripe_683 (l : Launch)   (H : jH) : JV l mi_3_ripe jeV 683 [] [] H (B_3_ripe_683   H) := by
  unfold B_3_ripe_683
  exact s_177 rfl rfl
theorem v_3_ripe_646 (l : Launch) (k646 : Nat → Nat → Int32 → jH → Option (Unit × jH)) (hk646 : ∀ a0 a1 a3 H, JV l mi_3_ripe jeV 646 [(0, .ref a0), (1, .ref a1), (3, .int a3)] [] H (k646 a0 a1 a3 H)) (a0 : Nat) (a1 : Nat) (a3 : Int32) (H : jH) : JV l mi_3_ripe jeV 646 [(0, .ref a0), (1, .ref a1), (3, .int a3)] [] H (B_3_ripe_646 k646 a0 a1 a3 H) := by
  unfold B_3_ripe_646
  refine s_29 647 rfl rfl ?_
  refine s_16 20 649 20 jbp_20 rfl ?_
  refine s_162 0 34 683 652 rfl rfl ?_ ?_
  · exact s_jmp (v_3_ripe_683 l _) trivial
  · refine s_29 653 rfl rfl ?_
    refine s_43 654 rfl rfl ?_
    refine s_190 655 101 jm_101 rfl ?_
    refine s_162 0 28 683 658 rfl rfl ?_ ?_
    · exact s_jmp (v_3_ripe_683 l _) trivial
    · refine s_43 659 rfl rfl ?_
      refine s_29 660 rfl rfl ?_
      refine s_42 661 rfl rfl ?_
      refine s_180R 0 15 664 15 f_3_2 jw_37 rfl rfl ?_
      refine s_29 665 rfl rfl ?_
      refine s_7 666 rfl ?_
      refine s_108 667 rfl ?_
      refine s_46 668 rfl ?_
      refine s_16 8 670 8 jbp_8 rfl ?_
      refine s_29 671 rfl rfl ?_
      refine s_7 672 rfl ?_
      refine s_112 673 rfl ?_
      refine s_104 674 rfl ?_
      refine s_124 675 rfl ?_
      refine s_145 676 rfl ?_
      refine s_84B 677 rfl (fun h29 => ?_)
      refine s_132L 3 1 680 1 ji_1 rfl rfl rfl (fun x30 => ?_)
      refine s_167 255 222 646 rfl rfl ?_
      exact s_jmp (hk646 _ _ _ _) ⟨rfl, rfl, rfl, trivial⟩
theorem w_3_ripe_646 (l : Launch)  (n : Nat) : ∀ a0 a1 a3 H, JV l mi_3_ripe jeV 646 [(0, .ref a0), (1, .ref a1), (3, .int a3)] [] H (F_3_ripe_646  n a0 a1 a3 H) := by
  induction n with
  | zero => intro _ _ _ _; exact s_none
  | succ n ih => intro a0 a1 a3 H; exact v_3_ripe_646 l (F_3_ripe_646  n) ih a0 a1 a3 H
theorem v_3_ripe_55 (l : Launch) (k55 : Nat → Nat → Int32 → Int32 → jH → Option (Unit × jH)) (hk55 : ∀ a0 a1 a2 a3 H, JV l mi_3_ripe jeV 55 [(0, .ref a0), (1, .ref a1), (2, .int a2), (3, .int a3)] [] H (k55 a0 a1 a2 a3 H)) (a0 : Nat) (a1 : Nat) (a2 : Int32) (a3 : Int32) (H : jH) : JV l mi_3_ripe jeV 55 [(0, .ref a0), (1, .ref a1), (2, .int a2), (3, .int a3)] [] H (B_3_ripe_55 k55 a0 a1 a2 a3 H) := by
  unfold B_3_ripe_55
  refine s_29 56 rfl rfl ?_
  refine s_28 57 rfl rfl ?_
  refine s_162 2 75 644 60 rfl rfl ?_ ?_
  · refine s_3 645 rfl ?_
    refine s_62 646 rfl rfl ?_
    exact s_jmp (w_3_ripe_646 l jfuel _ _ _ _) ⟨rfl, rfl, rfl, trivial⟩
  · refine s_3 61 rfl ?_
    refine s_54 4 63 rfl rfl ?_
    exact s_jmp (w_3_ripe_63 l k55 hk55 jfuel _ _ _ _ _ _) ⟨rfl, rfl, rfl, rfl, rfl, trivial⟩
theorem w_3_ripe_55 (l : Launch)  (n : Nat) : ∀ a0 a1 a2 a3 H, JV l mi_3_ripe jeV 55 [(0, .ref a0), (1, .ref a1), (2, .int a2), (3, .int a3)] [] H (F_3_ripe_55  n a0 a1 a2 a3 H) := by
  induction n with
  | zero => intro _ _ _ _ _; exact s_none
  | succ n ih => intro a0 a1 a2 a3 H; exact v_3_ripe_55 l (F_3_ripe_55  n) ih a0 a1 a2 a3 H
theorem v_3_ripe (l : Launch) (a0 : Nat) (a1 : Nat) (H : jH) : JV l mi_3_ripe jeV 0 [(0, .ref a0), (1, .ref a1)] [] H (F_3_ripe a0 a1 H) := by
  unfold F_3_ripe
  refine s_42 1 rfl rfl ?_
  refine s_180R 0 15 4 15 f_3_2 jw_37 rfl rfl ?_
  refine s_3 5 rfl ?_
  refine s_18 44 7 1732584193 jw_985 rfl ?_
  refine s_79 8 rfl (fun h31 => ?_)
  refine s_42 9 rfl rfl ?_
  refine s_180R 0 15 12 15 f_3_2 jw_37 rfl rfl ?_
  refine s_4 13 rfl ?_
  refine s_18 45 15 (-271733879) jw_986 rfl ?_
  refine s_79 16 rfl (fun h32 => ?_)
  refine s_42 17 rfl rfl ?_
  refine s_180R 0 15 20 15 f_3_2 jw_37 rfl rfl ?_
  refine s_5 21 rfl ?_
  refine s_18 46 23 (-1732584194) jw_987 rfl ?_
  refine s_79 24 rfl (fun h33 => ?_)
  refine s_42 25 rfl rfl ?_
  refine s_180R 0 15 28 15 f_3_2 jw_37 rfl rfl ?_
  refine s_6 29 rfl ?_
  refine s_18 47 31 271733878 jw_988 rfl ?_
  refine s_79 32 rfl (fun h34 => ?_)
  refine s_42 33 rfl rfl ?_
  refine s_180R 0 15 36 15 f_3_2 jw_37 rfl rfl ?_
  refine s_7 37 rfl ?_
  refine s_18 48 39 (-1009589776) jw_989 rfl ?_
  refine s_79 40 rfl (fun h35 => ?_)
  refine s_42 41 rfl rfl ?_
  refine s_180I 0 28 44 28 f_3_1 jw_36 rfl rfl ?_
  refine s_16 8 46 8 jbp_8 rfl ?_
  refine s_96 47 rfl ?_
  refine s_16 64 49 64 jbp_64 rfl ?_
  refine s_108 50 rfl ?_
  refine s_4 51 rfl ?_
  refine s_96 52 rfl ?_
  refine s_61L 53 rfl rfl (fun x36 => ?_)
  refine s_3 54 rfl ?_
  refine s_62 55 rfl rfl ?_
  exact s_jmp (w_3_ripe_55 l jfuel _ _ _ _ _) ⟨rfl, rfl, rfl, rfl, trivial⟩
theorem m_3_ripe (l : Launch) (a0 : Nat) (a1 : Nat) (H : jH) : JMet l y_3_ripe prog_5_method_4_code mi_3_ripe jeV [.ref a0, .ref a1] H (F_3_ripe a0 a1 H) := jmet_of n_3_ripe (by decide) ⟨rfl, rfl⟩ (Nat.le_of_ble_eq_true rfl) (v_3_ripe l a0 a1 H)
def mi_9_put : jM := (10196788737883705584861095341135042089785392920870096408216503655100118972665723803126470793758129487022530099378159622797412311715818283806870422920934142696071672874, 69, 4, "CoinNode$Stack", none, "put", 1, 60)
def y_9_put : MethodName := ⟨"CoinNode$Stack", "put", "([BII)V"⟩
theorem n_9_put : jn_is prog_11_method_2_code mi_9_put.1 mi_9_put.2.1 := by unfold jn_is; decide +kernel
theorem k_9_put : jmok y_9_put prog_11_method_2_code mi_9_put 3 := ⟨jw_887, jw_7, ⟨by decide, by decide⟩, by decide +kernel⟩
theorem v_9_put_31 (l : Launch)   (H : jH) : JV l mi_9_put jeV 31 [] [] H (B_9_put_31   H) := by
  unfold B_9_put_31
  exact s_177 rfl rfl
theorem v_9_put (l : Launch) (a0 : Nat) (a1 : Nat) (a2 : Int32) (a3 : Int32) (H : jH) : JV l mi_9_put jeV 0 [(0, .ref a0), (1, .ref a1), (2, .int a2), (3, .int a3)] [] H (F_9_put a0 a1 a2 a3 H) := by
  unfold F_9_put
  refine s_42 1 rfl rfl ?_
  refine s_180I 0 18 4 18 f_9_2 jw_167 rfl rfl ?_
  refine s_16 70 6 70 jbp_70 rfl ?_
  refine s_162 0 25 31 9 rfl rfl ?_ ?_
  · exact s_jmp (v_9_put_31 l _) trivial
  · refine s_28 10 rfl rfl ?_
    refine s_155 0 21 31 13 rfl rfl ?_ ?_
    · exact s_jmp (v_9_put_31 l _) trivial
    · refine s_29 14 rfl rfl ?_
      refine s_155 0 17 31 17 rfl rfl ?_ ?_
      · exact s_jmp (v_9_put_31 l _) trivial
      · refine s_29 18 rfl rfl ?_
        refine s_16 120 20 120 jbp_120 rfl ?_
        refine s_163 0 11 31 23 rfl rfl ?_ ?_
        · exact s_jmp (v_9_put_31 l _) trivial
        · refine s_28 24 rfl rfl ?_
          refine s_29 25 rfl rfl ?_
          refine s_96 26 rfl ?_
          refine s_43 27 rfl rfl ?_
          refine s_190 28 101 jm_101 rfl ?_
          refine s_164 0 4 32 31 rfl rfl ?_ ?_
          · refine s_43 33 rfl rfl ?_
            refine s_28 34 rfl rfl ?_
            refine s_42 35 rfl rfl ?_
            refine s_180R 0 11 38 11 f_9_0 jw_163 rfl rfl ?_
            refine s_42 39 rfl rfl ?_
            refine s_180I 0 18 42 18 f_9_2 jw_167 rfl rfl ?_
            refine s_50 43 110 jt_110 rfl ?_
            refine s_3 44 rfl ?_
            refine s_29 45 rfl rfl ?_
            refine s_acB 0 22 48 22 jw_888 jw_372 jw_371 jw_12 rfl rfl rfl rfl (fun h1 => ?_)
            refine s_42 49 rfl rfl ?_
            refine s_180R 0 14 52 14 f_9_1 jw_165 rfl rfl ?_
            refine s_42 53 rfl rfl ?_
            refine s_180I 0 18 56 18 f_9_2 jw_167 rfl rfl ?_
            refine s_29 57 rfl rfl ?_
            refine s_79 58 rfl (fun h2 => ?_)
            refine s_42 59 rfl rfl ?_
            refine s_89 60 rfl rfl ?_
            refine s_180I 0 18 63 18 f_9_2 jw_167 rfl rfl ?_
            refine s_4 64 rfl ?_
            refine s_96 65 rfl ?_
            refine s_181I 0 18 68 18 f_9_2 rfl rfl jw_167 rfl rfl (fun h3 => ?_)
            exact s_177 rfl rfl
          · exact s_jmp (v_9_put_31 l _) trivial
theorem m_9_put (l : Launch) (a0 : Nat) (a1 : Nat) (a2 : Int32) (a3 : Int32) (H : jH) : JMet l y_9_put prog_11_method_2_code mi_9_put jeV [.ref a0, .ref a1, .int a2, .int a3] H (F_9_put a0 a1 a2 a3 H) := jmet_of n_9_put (by decide) ⟨rfl, rfl⟩ (Nat.le_of_ble_eq_true rfl) (v_9_put l a0 a1 a2 a3 H)
def mi_4_digest : jM := (388981109335773214761002813171887005933652251273321166378111884341849319989384209975004721155036588478848641292549059205618270192028081522954556799818159162615469377054835495745634376492748282908715566149248544577099481347660948993805739107776201787169316715690680092415319135655673438017845616794242159393259391124927061277131507700268308580719961077474887404930286135968118984443830162996366287609746352591289177569279679116383913292863227279068631323, 188, 3, "CoinNode$Machine", none, "digest", 2, 94)
def y_4_digest : MethodName := ⟨"CoinNode$Machine", "digest", "(I)V"⟩
theorem n_4_digest : jn_is prog_6_method_18_code mi_4_digest.1 mi_4_digest.2.1 := by unfold jn_is; decide +kernel
theorem k_4_digest : jmok y_4_digest prog_6_method_18_code mi_4_digest 1 := ⟨jw_978, jw_6, ⟨by decide, by decide⟩, by decide +kernel⟩
theorem v_4_digest_15 (l : Launch)  (a0 : Nat) (H : jH) : JV l mi_4_digest jeV 15 [(0, .ref a0)] [] H (B_4_digest_15  a0 H) := by
  unfold B_4_digest_15
  refine s_42 16 rfl rfl ?_
  refine s_5 17 rfl ?_
  refine s_181I 0 68 20 68 f_4_9 rfl rfl jw_187 rfl rfl (fun h1 => ?_)
  exact s_177 rfl rfl
theorem v_4_digest_184 (l : Launch)  (s0 : Nat) (s1 : Nat) (s2 : Int32) (s3 : Int32) (H : jH) : JV l mi_4_digest jeV 184 [] [.int s3, .int s2, .ref s1, .ref s0] H (B_4_digest_184  s0 s1 s2 s3 H) := by
  unfold B_4_digest_184
  refine s_182V 0 113 187 113 (m_9_put l _ _ _ _ _) rfl k_9_put jc_9 jw_884 jw_885 jw_886 rfl rfl rfl rfl rfl (fun x2 h3 => ?_)
  exact s_177 rfl rfl
theorem v_4_digest_177 (l : Launch)  (s0 : Nat) (s1 : Nat) (s2 : Int32) (H : jH) : JV l mi_4_digest jeV 177 [] [.int s2, .ref s1, .ref s0] H (B_4_digest_177  s0 s1 s2 H) := by
  unfold B_4_digest_177
  refine s_16 20 179 20 jbp_20 rfl ?_
  refine s_167 0 5 184 rfl rfl ?_
  exact s_jmp (v_4_digest_184 l _ _ _ _ _) trivial
theorem v_4_digest_154 (l : Launch)  (a0 : Nat) (a1 : Int32) (H : jH) : JV l mi_4_digest jeV 154 [(0, .ref a0), (1, .int a1)] [] H (B_4_digest_154  a0 a1 H) := by
  unfold B_4_digest_154
  refine s_42 155 rfl rfl ?_
  refine s_180R 0 14 158 14 f_4_1 jw_177 rfl rfl ?_
  refine s_42 159 rfl rfl ?_
  refine s_180R 0 26 162 26 f_4_4 jw_180 rfl rfl ?_
  refine s_3 163 rfl ?_
  refine s_27 164 rfl rfl ?_
  refine s_17 0 166 167 166 jsp_0_166 rfl ?_
  refine s_159 0 10 177 170 rfl rfl ?_ ?_
  · exact s_jmp (v_4_digest_177 l _ _ _ _) trivial
  · refine s_27 171 rfl rfl ?_
    refine s_17 0 169 174 169 jsp_0_169 rfl ?_
    refine s_160 0 8 182 177 rfl rfl ?_ ?_
    · refine s_16 32 184 32 jbp_32 rfl ?_
      exact s_jmp (v_4_digest_184 l _ _ _ _ _) trivial
    · exact s_jmp (v_4_digest_177 l _ _ _ _) trivial
theorem v_4_digest_143 (l : Launch)  (a0 : Nat) (a1 : Int32) (H : jH) : JV l mi_4_digest jeV 143 [(0, .ref a0), (1, .int a1)] [] H (B_4_digest_143  a0 a1 H) := by
  unfold B_4_digest_143
  refine s_42 144 rfl rfl ?_
  refine s_180R 0 37 147 37 f_4_0 jw_176 rfl rfl ?_
  refine s_42 148 rfl rfl ?_
  refine s_180R 0 26 151 26 f_4_4 jw_180 rfl rfl ?_
  refine s_182V 0 186 154 186 (m_3_ripe l _ _ _) rfl k_3_ripe jc_3 jw_981 jw_982 jw_983 rfl rfl rfl rfl rfl (fun x4 h5 => ?_)
  exact s_jmp (v_4_digest_154 l _ _ _) ⟨rfl, rfl, trivial⟩
theorem v_4_digest_129 (l : Launch)  (a0 : Nat) (a1 : Int32) (H : jH) : JV l mi_4_digest jeV 129 [(0, .ref a0), (1, .int a1)] [] H (B_4_digest_129  a0 a1 H) := by
  unfold B_4_digest_129
  refine s_27 130 rfl rfl ?_
  refine s_17 0 166 133 166 jsp_0_166 rfl ?_
  refine s_159 0 10 143 136 rfl rfl ?_ ?_
  · exact s_jmp (v_4_digest_143 l _ _ _) ⟨rfl, rfl, trivial⟩
  · refine s_27 137 rfl rfl ?_
    refine s_17 0 169 140 169 jsp_0_169 rfl ?_
    refine s_160 0 14 154 143 rfl rfl ?_ ?_
    · exact s_jmp (v_4_digest_154 l _ _ _) ⟨rfl, rfl, trivial⟩
    · exact s_jmp (v_4_digest_143 l _ _ _) ⟨rfl, rfl, trivial⟩
theorem v_4_digest_111 (l : Launch)  (a0 : Nat) (a1 : Int32) (H : jH) : JV l mi_4_digest jeV 111 [(0, .ref a0), (1, .int a1)] [] H (B_4_digest_111  a0 a1 H) := by
  unfold B_4_digest_111
  refine s_27 112 rfl rfl ?_
  refine s_17 0 170 115 170 jsp_0_170 rfl ?_
  refine s_160 0 14 129 118 rfl rfl ?_ ?_
  · exact s_jmp (v_4_digest_129 l _ _ _) ⟨rfl, rfl, trivial⟩
  · refine s_42 119 rfl rfl ?_
    refine s_180R 0 37 122 37 f_4_0 jw_176 rfl rfl ?_
    refine s_42 123 rfl rfl ?_
    refine s_180R 0 26 126 26 f_4_4 jw_180 rfl rfl ?_
    refine s_182V 0 183 129 183 (m_3_digest l _ _ _) rfl k_3_digest jc_3 jw_980 jw_374 jw_375 rfl rfl rfl rfl rfl (fun x6 h7 => ?_)
    exact s_jmp (v_4_digest_129 l _ _ _) ⟨rfl, rfl, trivial⟩
theorem v_4_digest_97 (l : Launch)  (a0 : Nat) (a1 : Int32) (H : jH) : JV l mi_4_digest jeV 97 [(0, .ref a0), (1, .int a1)] [] H (B_4_digest_97  a0 a1 H) := by
  unfold B_4_digest_97
  refine s_42 98 rfl rfl ?_
  refine s_180R 0 37 101 37 f_4_0 jw_176 rfl rfl ?_
  refine s_42 102 rfl rfl ?_
  refine s_180R 0 26 105 26 f_4_4 jw_180 rfl rfl ?_
  refine s_3 106 rfl ?_
  refine s_16 32 108 32 jbp_32 rfl ?_
  refine s_182V 0 178 111 178 (m_3_take l _ _ _ _ _) rfl k_3_take jc_3 jw_979 jw_367 jw_368 rfl rfl rfl rfl rfl (fun x8 h9 => ?_)
  exact s_jmp (v_4_digest_111 l _ _ _) ⟨rfl, rfl, trivial⟩
theorem v_4_digest_83 (l : Launch)  (a0 : Nat) (a1 : Int32) (H : jH) : JV l mi_4_digest jeV 83 [(0, .ref a0), (1, .int a1)] [] H (B_4_digest_83  a0 a1 H) := by
  unfold B_4_digest_83
  refine s_27 84 rfl rfl ?_
  refine s_17 0 169 87 169 jsp_0_169 rfl ?_
  refine s_159 0 10 97 90 rfl rfl ?_ ?_
  · exact s_jmp (v_4_digest_97 l _ _ _) ⟨rfl, rfl, trivial⟩
  · refine s_27 91 rfl rfl ?_
    refine s_17 0 170 94 170 jsp_0_170 rfl ?_
    refine s_160 0 17 111 97 rfl rfl ?_ ?_
    · exact s_jmp (v_4_digest_111 l _ _ _) ⟨rfl, rfl, trivial⟩
    · exact s_jmp (v_4_digest_97 l _ _ _) ⟨rfl, rfl, trivial⟩
theorem v_4_digest (l : Launch) (a0 : Nat) (a1 : Int32) (H : jH) : JV l mi_4_digest jeV 0 [(0, .ref a0), (1, .int a1)] [] H (F_4_digest a0 a1 H) := by
  unfold F_4_digest
  refine s_27 1 rfl rfl ?_
  refine s_17 0 167 4 167 jsp_0_167 rfl ?_
  refine s_159 0 11 15 7 rfl rfl ?_ ?_
  · exact s_jmp (v_4_digest_15 l _ _) ⟨rfl, trivial⟩
  · refine s_42 8 rfl rfl ?_
    refine s_4 9 rfl ?_
    refine s_182I 0 116 12 116 (m_4_has l _ _ _) rfl k_4_has jc_4 jw_893 jw_895 jps_13 rfl rfl rfl rfl rfl (fun x10 h11 => ?_)
    refine s_154 0 9 21 15 rfl rfl ?_ ?_
    · refine s_42 22 rfl rfl ?_
      refine s_180R 0 14 25 14 f_4_1 jw_177 rfl rfl ?_
      refine s_180I 0 41 28 41 f_9_2 jw_168 rfl rfl ?_
      refine s_4 29 rfl ?_
      refine s_100 30 rfl ?_
      refine s_61L 31 rfl rfl (fun x12 => ?_)
      refine s_42 32 rfl rfl ?_
      refine s_180R 0 37 35 37 f_4_0 jw_176 rfl rfl ?_
      refine s_42 36 rfl rfl ?_
      refine s_180R 0 14 39 14 f_4_1 jw_177 rfl rfl ?_
      refine s_180R 0 174 42 174 f_9_0 jw_164 rfl rfl ?_
      refine s_28 43 rfl rfl ?_
      refine s_50 44 110 jt_110 rfl ?_
      refine s_3 45 rfl ?_
      refine s_42 46 rfl rfl ?_
      refine s_180R 0 14 49 14 f_4_1 jw_177 rfl rfl ?_
      refine s_180R 0 142 52 142 f_9_1 jw_166 rfl rfl ?_
      refine s_28 53 rfl rfl ?_
      refine s_46 54 rfl ?_
      refine s_182V 0 178 57 178 (m_3_take l _ _ _ _ _) rfl k_3_take jc_3 jw_979 jw_367 jw_368 rfl rfl rfl rfl rfl (fun x13 h14 => ?_)
      refine s_42 58 rfl rfl ?_
      refine s_180R 0 14 61 14 f_4_1 jw_177 rfl rfl ?_
      refine s_4 62 rfl ?_
      refine s_182V 0 119 65 119 (m_9_drop l _ _ _) rfl k_9_drop jc_9 jw_901 jw_902 jw_903 rfl rfl rfl rfl rfl (fun x15 h16 => ?_)
      refine s_27 66 rfl rfl ?_
      refine s_17 0 166 69 166 jsp_0_166 rfl ?_
      refine s_159 0 14 83 72 rfl rfl ?_ ?_
      · exact s_jmp (v_4_digest_83 l _ _ _) ⟨rfl, rfl, trivial⟩
      · refine s_42 73 rfl rfl ?_
        refine s_180R 0 37 76 37 f_4_0 jw_176 rfl rfl ?_
        refine s_42 77 rfl rfl ?_
        refine s_180R 0 26 80 26 f_4_4 jw_180 rfl rfl ?_
        refine s_182V 0 183 83 183 (m_3_digest l _ _ _) rfl k_3_digest jc_3 jw_980 jw_374 jw_375 rfl rfl rfl rfl rfl (fun x17 h18 => ?_)
        exact s_jmp (v_4_digest_83 l _ _ _) ⟨rfl, rfl, trivial⟩
    · exact s_jmp (v_4_digest_15 l _ _) ⟨rfl, trivial⟩
theorem m_4_digest (l : Launch) (a0 : Nat) (a1 : Int32) (H : jH) : JMet l y_4_digest prog_6_method_18_code mi_4_digest jeV [.ref a0, .int a1] H (F_4_digest a0 a1 H) := jmet_of n_4_digest (by decide) ⟨rfl, rfl⟩ (Nat.le_of_ble_eq_true rfl) (v_4_digest l a0 a1 H)
def mi_4_move : jM := (23237139892754853239443685677658248255698172642069146264693712580020097307004870479572523123714495564954416907504354387336860074073317642334703164572938235716798614580044714526971865258932734490733754151144920765429791850433465413119527026348085857289136083316752879522596939009507952869823131459158800304300099515406030513564068672500098776253965629602427677755251702721799121179510817361528810319892866360229913042646034351430268052857289456899, 185, 6, "CoinNode$Machine", none, "move", 2, 82)
def y_4_move : MethodName := ⟨"CoinNode$Machine", "move", "(I)V"⟩
theorem n_4_move : jn_is prog_6_method_13_code mi_4_move.1 mi_4_move.2.1 := by unfold jn_is; decide +kernel
theorem k_4_move : jmok y_4_move prog_6_method_13_code mi_4_move 1 := ⟨jw_947, jw_6, ⟨by decide, by decide⟩, by decide +kernel⟩
theorem v_4_move_60 (l : Launch)  (a0 : Nat) (H : jH) : JV l mi_4_move jeV 60 [(0, .ref a0)] [] H (B_4_move_60  a0 H) := by
  unfold B_4_move_60
  refine s_42 61 rfl rfl ?_
  refine s_5 62 rfl ?_
  refine s_181I 0 68 65 68 f_4_9 rfl rfl jw_187 rfl rfl (fun h1 => ?_)
  exact s_177 rfl rfl
theorem v_4_move_184 (l : Launch)   (H : jH) : JV l mi_4_move jeV 184 [] [] H (B_4_move_184   H) := by
  unfold B_4_move_184
  exact s_177 rfl rfl
theorem v_4_move_139 (l : Launch) (k139 : Nat → Int32 → Int32 → Int32 → jH → Option (Unit × jH)) (hk139 : ∀ a0 a2 a4 a5 H, JV l mi_4_move jeV 139 [(0, .ref a0), (2, .int a2), (4, .int a4), (5, .int a5)] [] H (k139 a0 a2 a4 a5 H)) (a0 : Nat) (a2 : Int32) (a4 : Int32) (a5 : Int32) (H : jH) : JV l mi_4_move jeV 139 [(0, .ref a0), (2, .int a2), (4, .int a4), (5, .int a5)] [] H (B_4_move_139 k139 a0 a2 a4 a5 H) := by
  unfold B_4_move_139
  refine s_21 5 141 rfl rfl ?_
  refine s_28 142 rfl rfl ?_
  refine s_6 143 rfl ?_
  refine s_96 144 rfl ?_
  refine s_21 4 146 rfl rfl ?_
  refine s_96 147 rfl ?_
  refine s_162 0 37 184 150 rfl rfl ?_ ?_
  · exact s_jmp (v_4_move_184 l _) trivial
  · refine s_21 5 152 rfl rfl ?_
    refine s_178 0 146 155 146 6 "CoinNode$Machine" "MOVES" jst_6 ⟨by decide, by decide⟩ jw_948 rfl rfl ?_
    refine s_190 156 100 jm_100 rfl ?_
    refine s_162 0 28 184 159 rfl rfl ?_ ?_
    · exact s_jmp (v_4_move_184 l _) trivial
    · refine s_42 160 rfl rfl ?_
      refine s_180R 0 14 163 14 f_4_1 jw_177 rfl rfl ?_
      refine s_42 164 rfl rfl ?_
      refine s_180R 0 23 167 23 f_4_3 jw_179 rfl rfl ?_
      refine s_178 0 146 170 146 6 "CoinNode$Machine" "MOVES" jst_6 ⟨by decide, by decide⟩ jw_948 rfl rfl ?_
      refine s_21 5 172 rfl rfl ?_
      refine s_46 173 rfl ?_
      refine s_4 174 rfl ?_
      refine s_100 175 rfl ?_
      refine s_182V 0 128 178 128 (m_9_putCopy l _ _ _ _) rfl k_9_putCopy jc_9 jw_924 jw_925 jw_926 rfl rfl rfl rfl rfl (fun x2 h3 => ?_)
      refine s_132L 5 1 181 1 ji_1 rfl rfl rfl (fun x4 => ?_)
      refine s_167 255 214 139 rfl rfl ?_
      exact s_jmp (hk139 _ _ _ _ _) ⟨rfl, rfl, rfl, rfl, trivial⟩
theorem w_4_move_139 (l : Launch)  (n : Nat) : ∀ a0 a2 a4 a5 H, JV l mi_4_move jeV 139 [(0, .ref a0), (2, .int a2), (4, .int a4), (5, .int a5)] [] H (F_4_move_139  n a0 a2 a4 a5 H) := by
  induction n with
  | zero => intro _ _ _ _ _; exact s_none
  | succ n ih => intro a0 a2 a4 a5 H; exact v_4_move_139 l (F_4_move_139  n) ih a0 a2 a4 a5 H
theorem v_4_move_94 (l : Launch) (k94 : Nat → Int32 → Int32 → Int32 → Int32 → jH → Option (Unit × jH)) (hk94 : ∀ a0 a2 a3 a4 a5 H, JV l mi_4_move jeV 94 [(0, .ref a0), (2, .int a2), (3, .int a3), (4, .int a4), (5, .int a5)] [] H (k94 a0 a2 a3 a4 a5 H)) (a0 : Nat) (a2 : Int32) (a3 : Int32) (a4 : Int32) (a5 : Int32) (H : jH) : JV l mi_4_move jeV 94 [(0, .ref a0), (2, .int a2), (3, .int a3), (4, .int a4), (5, .int a5)] [] H (B_4_move_94 k94 a0 a2 a3 a4 a5 H) := by
  unfold B_4_move_94
  refine s_21 5 96 rfl rfl ?_
  refine s_158 0 30 126 99 rfl rfl ?_ ?_
  · refine s_42 127 rfl rfl ?_
    refine s_180R 0 14 130 14 f_4_1 jw_177 rfl rfl ?_
    refine s_29 131 rfl rfl ?_
    refine s_182V 0 119 134 119 (m_9_drop l _ _ _) rfl k_9_drop jc_9 jw_901 jw_902 jw_903 rfl rfl rfl rfl rfl (fun x5 h6 => ?_)
    refine s_28 135 rfl rfl ?_
    refine s_6 136 rfl ?_
    refine s_96 137 rfl ?_
    refine s_54L 5 139 rfl rfl (fun x7 => ?_)
    exact s_jmp (w_4_move_139 l jfuel _ _ _ _ _) ⟨rfl, rfl, rfl, rfl, trivial⟩
  · refine s_42 100 rfl rfl ?_
    refine s_180R 0 23 103 23 f_4_3 jw_179 rfl rfl ?_
    refine s_42 104 rfl rfl ?_
    refine s_180R 0 14 107 14 f_4_1 jw_177 rfl rfl ?_
    refine s_42 108 rfl rfl ?_
    refine s_180R 0 14 111 14 f_4_1 jw_177 rfl rfl ?_
    refine s_180I 0 41 114 41 f_9_2 jw_168 rfl rfl ?_
    refine s_21 5 116 rfl rfl ?_
    refine s_100 117 rfl ?_
    refine s_182V 0 128 120 128 (m_9_putCopy l _ _ _ _) rfl k_9_putCopy jc_9 jw_924 jw_925 jw_926 rfl rfl rfl rfl rfl (fun x8 h9 => ?_)
    refine s_132L 5 255 123 (-1) ji_255 rfl rfl rfl (fun x10 => ?_)
    refine s_167 255 227 94 rfl rfl ?_
    exact s_jmp (hk94 _ _ _ _ _ _) ⟨rfl, rfl, rfl, rfl, rfl, trivial⟩
theorem w_4_move_94 (l : Launch)  (n : Nat) : ∀ a0 a2 a3 a4 a5 H, JV l mi_4_move jeV 94 [(0, .ref a0), (2, .int a2), (3, .int a3), (4, .int a4), (5, .int a5)] [] H (F_4_move_94  n a0 a2 a3 a4 a5 H) := by
  induction n with
  | zero => intro _ _ _ _ _ _; exact s_none
  | succ n ih => intro a0 a2 a3 a4 a5 H; exact v_4_move_94 l (F_4_move_94  n) ih a0 a2 a3 a4 a5 H
theorem v_4_move_36 (l : Launch)  (a0 : Nat) (a2 : Int32) (H : jH) : JV l mi_4_move jeV 36 [(0, .ref a0), (2, .int a2)] [] H (B_4_move_36  a0 a2 H) := by
  unfold B_4_move_36
  refine s_28 37 rfl rfl ?_
  refine s_5 38 rfl ?_
  refine s_96 39 rfl ?_
  refine s_178 0 146 42 146 6 "CoinNode$Machine" "MOVES" jst_6 ⟨by decide, by decide⟩ jw_948 rfl rfl ?_
  refine s_190 43 100 jm_100 rfl ?_
  refine s_162 0 17 60 46 rfl rfl ?_ ?_
  · exact s_jmp (v_4_move_60 l _ _) ⟨rfl, trivial⟩
  · refine s_42 47 rfl rfl ?_
    refine s_178 0 146 50 146 6 "CoinNode$Machine" "MOVES" jst_6 ⟨by decide, by decide⟩ jw_948 rfl rfl ?_
    refine s_28 51 rfl rfl ?_
    refine s_4 52 rfl ?_
    refine s_96 53 rfl ?_
    refine s_46 54 rfl ?_
    refine s_182I 0 116 57 116 (m_4_has l _ _ _) rfl k_4_has jc_4 jw_893 jw_895 jps_13 rfl rfl rfl rfl rfl (fun x11 h12 => ?_)
    refine s_154 0 9 66 60 rfl rfl ?_ ?_
    · refine s_178 0 146 69 146 6 "CoinNode$Machine" "MOVES" jst_6 ⟨by decide, by decide⟩ jw_948 rfl rfl ?_
      refine s_28 70 rfl rfl ?_
      refine s_4 71 rfl ?_
      refine s_96 72 rfl ?_
      refine s_46 73 rfl ?_
      refine s_62L 74 rfl rfl (fun x13 => ?_)
      refine s_178 0 146 77 146 6 "CoinNode$Machine" "MOVES" jst_6 ⟨by decide, by decide⟩ jw_948 rfl rfl ?_
      refine s_28 78 rfl rfl ?_
      refine s_5 79 rfl ?_
      refine s_96 80 rfl ?_
      refine s_46 81 rfl ?_
      refine s_54L 4 83 rfl rfl (fun x14 => ?_)
      refine s_42 84 rfl rfl ?_
      refine s_180R 0 23 87 23 f_4_3 jw_179 rfl rfl ?_
      refine s_3 88 rfl ?_
      refine s_181I 0 41 91 41 f_9_2 rfl rfl jw_168 rfl rfl (fun h15 => ?_)
      refine s_29 92 rfl rfl ?_
      refine s_54 5 94 rfl rfl ?_
      exact s_jmp (w_4_move_94 l jfuel _ _ _ _ _ _) ⟨rfl, rfl, rfl, rfl, rfl, trivial⟩
    · exact s_jmp (v_4_move_60 l _ _) ⟨rfl, trivial⟩
theorem v_4_move_2 (l : Launch) (k2 : Nat → Int32 → Int32 → jH → Option (Unit × jH)) (hk2 : ∀ a0 a1 a2 H, JV l mi_4_move jeV 2 [(0, .ref a0), (1, .int a1), (2, .int a2)] [] H (k2 a0 a1 a2 H)) (a0 : Nat) (a1 : Int32) (a2 : Int32) (H : jH) : JV l mi_4_move jeV 2 [(0, .ref a0), (1, .int a1), (2, .int a2)] [] H (B_4_move_2 k2 a0 a1 a2 H) := by
  unfold B_4_move_2
  refine s_28 3 rfl rfl ?_
  refine s_5 4 rfl ?_
  refine s_96 5 rfl ?_
  refine s_178 0 146 8 146 6 "CoinNode$Machine" "MOVES" jst_6 ⟨by decide, by decide⟩ jw_948 rfl rfl ?_
  refine s_190 9 100 jm_100 rfl ?_
  refine s_162 0 27 36 12 rfl rfl ?_ ?_
  · exact s_jmp (v_4_move_36 l _ _ _) ⟨rfl, rfl, trivial⟩
  · refine s_178 0 146 15 146 6 "CoinNode$Machine" "MOVES" jst_6 ⟨by decide, by decide⟩ jw_948 rfl rfl ?_
    refine s_28 16 rfl rfl ?_
    refine s_46 17 rfl ?_
    refine s_27 18 rfl rfl ?_
    refine s_159 0 18 36 21 rfl rfl ?_ ?_
    · exact s_jmp (v_4_move_36 l _ _ _) ⟨rfl, rfl, trivial⟩
    · refine s_28 22 rfl rfl ?_
      refine s_6 23 rfl ?_
      refine s_178 0 146 26 146 6 "CoinNode$Machine" "MOVES" jst_6 ⟨by decide, by decide⟩ jw_948 rfl rfl ?_
      refine s_28 27 rfl rfl ?_
      refine s_5 28 rfl ?_
      refine s_96 29 rfl ?_
      refine s_46 30 rfl ?_
      refine s_96 31 rfl ?_
      refine s_96 32 rfl ?_
      refine s_61L 33 rfl rfl (fun x16 => ?_)
      refine s_167 255 225 2 rfl rfl ?_
      exact s_jmp (hk2 _ _ _ _) ⟨rfl, rfl, rfl, trivial⟩
theorem w_4_move_2 (l : Launch)  (n : Nat) : ∀ a0 a1 a2 H, JV l mi_4_move jeV 2 [(0, .ref a0), (1, .int a1), (2, .int a2)] [] H (F_4_move_2  n a0 a1 a2 H) := by
  induction n with
  | zero => intro _ _ _ _; exact s_none
  | succ n ih => intro a0 a1 a2 H; exact v_4_move_2 l (F_4_move_2  n) ih a0 a1 a2 H
theorem v_4_move (l : Launch) (a0 : Nat) (a1 : Int32) (H : jH) : JV l mi_4_move jeV 0 [(0, .ref a0), (1, .int a1)] [] H (F_4_move a0 a1 H) := by
  unfold F_4_move
  refine s_3 1 rfl ?_
  refine s_61 2 rfl rfl ?_
  exact s_jmp (w_4_move_2 l jfuel _ _ _ _) ⟨rfl, rfl, rfl, trivial⟩
theorem m_4_move (l : Launch) (a0 : Nat) (a1 : Int32) (H : jH) : JMet l y_4_move prog_6_method_13_code mi_4_move jeV [.ref a0, .int a1] H (F_4_move a0 a1 H) := jmet_of n_4_move (by decide) ⟨rfl, rfl⟩ (Nat.le_of_ble_eq_true rfl) (v_4_move l a0 a1 H)
def mi_4_part : jM := (1003252363498073671611878701031733320618834626991989962132447421222154830264513221137015348515786943404936475441635352182489831905342034926653974853271108373082263194723504245364833896488428444496696748896287594059224959449605011468427882407728331585782934351985274115250519377874491113956510993646594860928601653555884999870812726026649409476646957530220397877091288180705407571974382986317644940777876421273674236330369123907451159823003435890915517701783421674515722845092988093880012611311349161473684227069129989582078797130451335281243111924435809716465990062649315355, 238, 3, "CoinNode$Machine", none, "part", 2, 37)
def y_4_part : MethodName := ⟨"CoinNode$Machine", "part", "(I)V"⟩
theorem n_4_part : jn_is prog_6_method_9_code mi_4_part.1 mi_4_part.2.1 := by unfold jn_is; decide +kernel
theorem k_4_part : jmok y_4_part prog_6_method_9_code mi_4_part 1 := ⟨jw_892, jw_6, ⟨by decide, by decide⟩, by decide +kernel⟩
theorem v_4_part_237 (l : Launch)   (H : jH) : JV l mi_4_part jeV 237 [] [] H (B_4_part_237   H) := by
  unfold B_4_part_237
  exact s_177 rfl rfl
theorem v_4_part_116 (l : Launch)   (H : jH) : JV l mi_4_part jeV 116 [] [] H (B_4_part_116   H) := by
  unfold B_4_part_116
  refine s_167 0 121 237 rfl rfl ?_
  exact s_jmp (v_4_part_237 l _) trivial
theorem v_4_part_112 (l : Launch)  (s0 : Nat) (s1 : Int32) (s2 : Int32) (H : jH) : JV l mi_4_part jeV 112 [] [.int s2, .int s1, .ref s0] H (B_4_part_112  s0 s1 s2 H) := by
  unfold B_4_part_112
  refine s_96 113 rfl ?_
  refine s_181I 0 59 116 59 f_4_13 rfl rfl jw_191 rfl rfl (fun h1 => ?_)
  exact s_jmp (v_4_part_116 l _) trivial
theorem v_4_part_66 (l : Launch)  (a0 : Nat) (a2 : Int32) (H : jH) : JV l mi_4_part jeV 66 [(0, .ref a0), (2, .int a2)] [] H (B_4_part_66  a0 a2 H) := by
  unfold B_4_part_66
  refine s_42 67 rfl rfl ?_
  refine s_180I 0 56 70 56 f_4_12 jw_190 rfl rfl ?_
  refine s_42 71 rfl rfl ?_
  refine s_180R 0 33 74 33 f_4_11 jw_189 rfl rfl ?_
  refine s_190 75 102 jm_102 rfl ?_
  refine s_162 0 41 116 78 rfl rfl ?_ ?_
  · exact s_jmp (v_4_part_116 l _) trivial
  · refine s_42 79 rfl rfl ?_
    refine s_180R 0 33 82 33 f_4_11 jw_189 rfl rfl ?_
    refine s_42 83 rfl rfl ?_
    refine s_180I 0 56 86 56 f_4_12 jw_190 rfl rfl ?_
    refine s_28 87 rfl rfl ?_
    refine s_84Z 88 rfl (fun h2 => ?_)
    refine s_42 89 rfl rfl ?_
    refine s_89 90 rfl rfl ?_
    refine s_180I 0 56 93 56 f_4_12 jw_190 rfl rfl ?_
    refine s_4 94 rfl ?_
    refine s_96 95 rfl ?_
    refine s_181I 0 56 98 56 f_4_12 rfl rfl jw_190 rfl rfl (fun h3 => ?_)
    refine s_42 99 rfl rfl ?_
    refine s_89 100 rfl rfl ?_
    refine s_180I 0 59 103 59 f_4_13 jw_191 rfl rfl ?_
    refine s_28 104 rfl rfl ?_
    refine s_153 0 7 111 107 rfl rfl ?_ ?_
    · refine s_4 112 rfl ?_
      exact s_jmp (v_4_part_112 l _ _ _ _) trivial
    · refine s_3 108 rfl ?_
      refine s_167 0 4 112 rfl rfl ?_
      exact s_jmp (v_4_part_112 l _ _ _ _) trivial
theorem v_4_part_57 (l : Launch)  (a0 : Nat) (s0 : Int32) (H : jH) : JV l mi_4_part jeV 57 [(0, .ref a0)] [.int s0] H (B_4_part_57  a0 s0 H) := by
  unfold B_4_part_57
  refine s_61 58 rfl rfl ?_
  refine s_42 59 rfl rfl ?_
  refine s_180R 0 14 62 14 f_4_1 jw_177 rfl rfl ?_
  refine s_4 63 rfl ?_
  refine s_182V 0 119 66 119 (m_9_drop l _ _ _) rfl k_9_drop jc_9 jw_901 jw_902 jw_903 rfl rfl rfl rfl rfl (fun x4 h5 => ?_)
  exact s_jmp (v_4_part_66 l _ _ _) ⟨rfl, rfl, trivial⟩
theorem v_4_part_49 (l : Launch)  (a0 : Nat) (s0 : Int32) (s1 : Int32) (H : jH) : JV l mi_4_part jeV 49 [(0, .ref a0)] [.int s1, .int s0] H (B_4_part_49  a0 s0 s1 H) := by
  unfold B_4_part_49
  refine s_160 0 7 56 52 rfl rfl ?_ ?_
  · refine s_3 57 rfl ?_
    exact s_jmp (v_4_part_57 l _ _ _) ⟨rfl, trivial⟩
  · refine s_4 53 rfl ?_
    refine s_167 0 4 57 rfl rfl ?_
    exact s_jmp (v_4_part_57 l _ _ _) ⟨rfl, trivial⟩
theorem v_4_part_12 (l : Launch)  (a0 : Nat) (a1 : Int32) (H : jH) : JV l mi_4_part jeV 12 [(0, .ref a0), (1, .int a1)] [] H (B_4_part_12  a0 a1 H) := by
  unfold B_4_part_12
  refine s_3 13 rfl ?_
  refine s_61 14 rfl rfl ?_
  refine s_42 15 rfl rfl ?_
  refine s_180I 0 59 18 59 f_4_13 jw_191 rfl rfl ?_
  refine s_154 0 48 66 21 rfl rfl ?_ ?_
  · exact s_jmp (v_4_part_66 l _ _ _) ⟨rfl, rfl, trivial⟩
  · refine s_42 22 rfl rfl ?_
    refine s_4 23 rfl ?_
    refine s_182I 0 116 26 116 (m_4_has l _ _ _) rfl k_4_has jc_4 jw_893 jw_895 jps_13 rfl rfl rfl rfl rfl (fun x6 h7 => ?_)
    refine s_154 0 4 30 29 rfl rfl ?_ ?_
    · refine s_42 31 rfl rfl ?_
      refine s_180R 0 14 34 14 f_4_1 jw_177 rfl rfl ?_
      refine s_4 35 rfl ?_
      refine s_182I 0 71 38 71 (m_9_isTrue l _ _ _) rfl k_9_isTrue jc_9 jw_897 jw_898 jw_899 rfl rfl rfl rfl rfl (fun x8 h9 => ?_)
      refine s_27 39 rfl rfl ?_
      refine s_16 99 41 99 jbp_99 rfl ?_
      refine s_160 0 7 48 44 rfl rfl ?_ ?_
      · refine s_3 49 rfl ?_
        exact s_jmp (v_4_part_49 l _ _ _ _) ⟨rfl, trivial⟩
      · refine s_4 45 rfl ?_
        refine s_167 0 4 49 rfl rfl ?_
        exact s_jmp (v_4_part_49 l _ _ _ _) ⟨rfl, trivial⟩
    · exact s_177 rfl rfl
theorem v_4_part_194 (l : Launch)  (s0 : Nat) (s1 : Int32) (s2 : Int32) (H : jH) : JV l mi_4_part jeV 194 [] [.int s2, .int s1, .ref s0] H (B_4_part_194  s0 s1 s2 H) := by
  unfold B_4_part_194
  refine s_96 195 rfl ?_
  refine s_181I 0 59 198 59 f_4_13 rfl rfl jw_191 rfl rfl (fun h10 => ?_)
  refine s_167 0 39 237 rfl rfl ?_
  exact s_jmp (v_4_part_237 l _) trivial
theorem v_4_part_169 (l : Launch)  (a0 : Nat) (s0 : Nat) (s1 : Int32) (s2 : Int32) (H : jH) : JV l mi_4_part jeV 169 [(0, .ref a0)] [.int s2, .int s1, .ref s0] H (B_4_part_169  a0 s0 s1 s2 H) := by
  unfold B_4_part_169
  refine s_84Z 170 rfl (fun h11 => ?_)
  refine s_42 171 rfl rfl ?_
  refine s_89 172 rfl rfl ?_
  refine s_180I 0 59 175 59 f_4_13 jw_191 rfl rfl ?_
  refine s_42 176 rfl rfl ?_
  refine s_180R 0 33 179 33 f_4_11 jw_189 rfl rfl ?_
  refine s_42 180 rfl rfl ?_
  refine s_180I 0 56 183 56 f_4_12 jw_190 rfl rfl ?_
  refine s_4 184 rfl ?_
  refine s_100 185 rfl ?_
  refine s_51Z 186 rfl ?_
  refine s_153 0 7 193 189 rfl rfl ?_ ?_
  · refine s_4 194 rfl ?_
    exact s_jmp (v_4_part_194 l _ _ _ _) trivial
  · refine s_2 190 rfl ?_
    refine s_167 0 4 194 rfl rfl ?_
    exact s_jmp (v_4_part_194 l _ _ _ _) trivial
theorem v_4_part_233 (l : Launch)  (s0 : Nat) (s1 : Int32) (s2 : Int32) (H : jH) : JV l mi_4_part jeV 233 [] [.int s2, .int s1, .ref s0] H (B_4_part_233  s0 s1 s2 H) := by
  unfold B_4_part_233
  refine s_100 234 rfl ?_
  refine s_181I 0 59 237 59 f_4_13 rfl rfl jw_191 rfl rfl (fun h12 => ?_)
  exact s_jmp (v_4_part_237 l _) trivial
theorem v_4_part (l : Launch) (a0 : Nat) (a1 : Int32) (H : jH) : JV l mi_4_part jeV 0 [(0, .ref a0), (1, .int a1)] [] H (F_4_part a0 a1 H) := by
  unfold F_4_part
  refine s_27 1 rfl rfl ?_
  refine s_16 99 3 99 jbp_99 rfl ?_
  refine s_159 0 9 12 6 rfl rfl ?_ ?_
  · exact s_jmp (v_4_part_12 l _ _ _) ⟨rfl, rfl, trivial⟩
  · refine s_27 7 rfl rfl ?_
    refine s_16 100 9 100 jbp_100 rfl ?_
    refine s_160 0 110 119 12 rfl rfl ?_ ?_
    · refine s_42 120 rfl rfl ?_
      refine s_180I 0 56 123 56 f_4_12 jw_190 rfl rfl ?_
      refine s_154 0 11 134 126 rfl rfl ?_ ?_
      · refine s_27 135 rfl rfl ?_
        refine s_16 103 137 103 jbp_103 rfl ?_
        refine s_160 0 64 201 140 rfl rfl ?_ ?_
        · refine s_42 202 rfl rfl ?_
          refine s_89 203 rfl rfl ?_
          refine s_180I 0 56 206 56 f_4_12 jw_190 rfl rfl ?_
          refine s_4 207 rfl ?_
          refine s_100 208 rfl ?_
          refine s_181I 0 56 211 56 f_4_12 rfl rfl jw_190 rfl rfl (fun h13 => ?_)
          refine s_42 212 rfl rfl ?_
          refine s_89 213 rfl rfl ?_
          refine s_180I 0 59 216 59 f_4_13 jw_191 rfl rfl ?_
          refine s_42 217 rfl rfl ?_
          refine s_180R 0 33 220 33 f_4_11 jw_189 rfl rfl ?_
          refine s_42 221 rfl rfl ?_
          refine s_180I 0 56 224 56 f_4_12 jw_190 rfl rfl ?_
          refine s_51Z 225 rfl ?_
          refine s_153 0 7 232 228 rfl rfl ?_ ?_
          · refine s_4 233 rfl ?_
            exact s_jmp (v_4_part_233 l _ _ _ _) trivial
          · refine s_3 229 rfl ?_
            refine s_167 0 4 233 rfl rfl ?_
            exact s_jmp (v_4_part_233 l _ _ _ _) trivial
        · refine s_42 141 rfl rfl ?_
          refine s_180R 0 33 144 33 f_4_11 jw_189 rfl rfl ?_
          refine s_42 145 rfl rfl ?_
          refine s_180I 0 56 148 56 f_4_12 jw_190 rfl rfl ?_
          refine s_4 149 rfl ?_
          refine s_100 150 rfl ?_
          refine s_42 151 rfl rfl ?_
          refine s_180R 0 33 154 33 f_4_11 jw_189 rfl rfl ?_
          refine s_42 155 rfl rfl ?_
          refine s_180I 0 56 158 56 f_4_12 jw_190 rfl rfl ?_
          refine s_4 159 rfl ?_
          refine s_100 160 rfl ?_
          refine s_51Z 161 rfl ?_
          refine s_154 0 7 168 164 rfl rfl ?_ ?_
          · refine s_3 169 rfl ?_
            exact s_jmp (v_4_part_169 l _ _ _ _ _) ⟨rfl, trivial⟩
          · refine s_4 165 rfl ?_
            refine s_167 0 4 169 rfl rfl ?_
            exact s_jmp (v_4_part_169 l _ _ _ _ _) ⟨rfl, trivial⟩
      · refine s_42 127 rfl rfl ?_
        refine s_5 128 rfl ?_
        refine s_181I 0 68 131 68 f_4_9 rfl rfl jw_187 rfl rfl (fun h14 => ?_)
        refine s_167 0 106 237 rfl rfl ?_
        exact s_jmp (v_4_part_237 l _) trivial
    · exact s_jmp (v_4_part_12 l _ _ _) ⟨rfl, rfl, trivial⟩
theorem m_4_part (l : Launch) (a0 : Nat) (a1 : Int32) (H : jH) : JMet l y_4_part prog_6_method_9_code mi_4_part jeV [.ref a0, .int a1] H (F_4_part a0 a1 H) := jmet_of n_4_part (by decide) ⟨rfl, rfl⟩ (Nat.le_of_ble_eq_true rfl) (v_4_part l a0 a1 H)
def mi_4_pass : jM := (165462517177609239379853455771482840349633575898830278083182809579839093781739781334953110473014875020628872676704938898372632427020595851190972768564643252998077241323938150984370070691710040742133730164396438719549528033080579262957218142132701155721993906472278969547064376128668220642610530346328130359167278096114008041496953611980898897947, 143, 2, "CoinNode$Machine", none, "pass", 2, 82)
def y_4_pass : MethodName := ⟨"CoinNode$Machine", "pass", "(I)V"⟩
theorem n_4_pass : jn_is prog_6_method_11_code mi_4_pass.1 mi_4_pass.2.1 := by unfold jn_is; decide +kernel
theorem k_4_pass : jmok y_4_pass prog_6_method_11_code mi_4_pass 1 := ⟨jw_923, jw_6, ⟨by decide, by decide⟩, by decide +kernel⟩
theorem v_4_pass_142 (l : Launch)   (H : jH) : JV l mi_4_pass jeV 142 [] [] H (B_4_pass_142   H) := by
  unfold B_4_pass_142
  exact s_177 rfl rfl
theorem v_4_pass_31 (l : Launch)  (a0 : Nat) (s0 : Nat) (s1 : Int32) (H : jH) : JV l mi_4_pass jeV 31 [(0, .ref a0)] [.int s1, .ref s0] H (B_4_pass_31  a0 s0 s1 H) := by
  unfold B_4_pass_31
  refine s_181I 0 68 34 68 f_4_9 rfl rfl jw_187 rfl rfl (fun h1 => ?_)
  refine s_42 35 rfl rfl ?_
  refine s_180R 0 14 38 14 f_4_1 jw_177 rfl rfl ?_
  refine s_4 39 rfl ?_
  refine s_182V 0 119 42 119 (m_9_drop l _ _ _) rfl k_9_drop jc_9 jw_901 jw_902 jw_903 rfl rfl rfl rfl rfl (fun x2 h3 => ?_)
  refine s_167 0 100 142 rfl rfl ?_
  exact s_jmp (v_4_pass_142 l _) trivial
theorem v_4_pass_137 (l : Launch)  (a0 : Nat) (H : jH) : JV l mi_4_pass jeV 137 [(0, .ref a0)] [] H (B_4_pass_137  a0 H) := by
  unfold B_4_pass_137
  refine s_42 138 rfl rfl ?_
  refine s_5 139 rfl ?_
  refine s_181I 0 68 142 68 f_4_9 rfl rfl jw_187 rfl rfl (fun h4 => ?_)
  exact s_jmp (v_4_pass_142 l _) trivial
theorem v_4_pass_90 (l : Launch)  (a0 : Nat) (a1 : Int32) (H : jH) : JV l mi_4_pass jeV 90 [(0, .ref a0), (1, .int a1)] [] H (B_4_pass_90  a0 a1 H) := by
  unfold B_4_pass_90
  refine s_27 91 rfl rfl ?_
  refine s_16 108 93 108 jbp_108 rfl ?_
  refine s_160 0 44 137 96 rfl rfl ?_ ?_
  · exact s_jmp (v_4_pass_137 l _ _) ⟨rfl, trivial⟩
  · refine s_42 97 rfl rfl ?_
    refine s_180R 0 20 100 20 f_4_2 jw_178 rfl rfl ?_
    refine s_180I 0 41 103 41 f_9_2 jw_168 rfl rfl ?_
    refine s_158 0 34 137 106 rfl rfl ?_ ?_
    · exact s_jmp (v_4_pass_137 l _ _) ⟨rfl, trivial⟩
    · refine s_42 107 rfl rfl ?_
      refine s_180R 0 14 110 14 f_4_1 jw_177 rfl rfl ?_
      refine s_42 111 rfl rfl ?_
      refine s_180R 0 20 114 20 f_4_2 jw_178 rfl rfl ?_
      refine s_42 115 rfl rfl ?_
      refine s_180R 0 20 118 20 f_4_2 jw_178 rfl rfl ?_
      refine s_180I 0 41 121 41 f_9_2 jw_168 rfl rfl ?_
      refine s_4 122 rfl ?_
      refine s_100 123 rfl ?_
      refine s_182V 0 128 126 128 (m_9_putCopy l _ _ _ _) rfl k_9_putCopy jc_9 jw_924 jw_925 jw_926 rfl rfl rfl rfl rfl (fun x5 h6 => ?_)
      refine s_42 127 rfl rfl ?_
      refine s_180R 0 20 130 20 f_4_2 jw_178 rfl rfl ?_
      refine s_4 131 rfl ?_
      refine s_182V 0 119 134 119 (m_9_drop l _ _ _) rfl k_9_drop jc_9 jw_901 jw_902 jw_903 rfl rfl rfl rfl rfl (fun x7 h8 => ?_)
      refine s_167 0 8 142 rfl rfl ?_
      exact s_jmp (v_4_pass_142 l _) trivial
theorem v_4_pass_45 (l : Launch)  (a0 : Nat) (a1 : Int32) (H : jH) : JV l mi_4_pass jeV 45 [(0, .ref a0), (1, .int a1)] [] H (B_4_pass_45  a0 a1 H) := by
  unfold B_4_pass_45
  refine s_27 46 rfl rfl ?_
  refine s_16 107 48 107 jbp_107 rfl ?_
  refine s_160 0 42 90 51 rfl rfl ?_ ?_
  · exact s_jmp (v_4_pass_90 l _ _ _) ⟨rfl, rfl, trivial⟩
  · refine s_42 52 rfl rfl ?_
    refine s_4 53 rfl ?_
    refine s_182I 0 116 56 116 (m_4_has l _ _ _) rfl k_4_has jc_4 jw_893 jw_895 jps_13 rfl rfl rfl rfl rfl (fun x9 h10 => ?_)
    refine s_153 0 34 90 59 rfl rfl ?_ ?_
    · exact s_jmp (v_4_pass_90 l _ _ _) ⟨rfl, rfl, trivial⟩
    · refine s_42 60 rfl rfl ?_
      refine s_180R 0 20 63 20 f_4_2 jw_178 rfl rfl ?_
      refine s_42 64 rfl rfl ?_
      refine s_180R 0 14 67 14 f_4_1 jw_177 rfl rfl ?_
      refine s_42 68 rfl rfl ?_
      refine s_180R 0 14 71 14 f_4_1 jw_177 rfl rfl ?_
      refine s_180I 0 41 74 41 f_9_2 jw_168 rfl rfl ?_
      refine s_4 75 rfl ?_
      refine s_100 76 rfl ?_
      refine s_182V 0 128 79 128 (m_9_putCopy l _ _ _ _) rfl k_9_putCopy jc_9 jw_924 jw_925 jw_926 rfl rfl rfl rfl rfl (fun x11 h12 => ?_)
      refine s_42 80 rfl rfl ?_
      refine s_180R 0 14 83 14 f_4_1 jw_177 rfl rfl ?_
      refine s_4 84 rfl ?_
      refine s_182V 0 119 87 119 (m_9_drop l _ _ _) rfl k_9_drop jc_9 jw_901 jw_902 jw_903 rfl rfl rfl rfl rfl (fun x13 h14 => ?_)
      refine s_167 0 55 142 rfl rfl ?_
      exact s_jmp (v_4_pass_142 l _) trivial
theorem v_4_pass (l : Launch) (a0 : Nat) (a1 : Int32) (H : jH) : JV l mi_4_pass jeV 0 [(0, .ref a0), (1, .int a1)] [] H (F_4_pass a0 a1 H) := by
  unfold F_4_pass
  refine s_27 1 rfl rfl ?_
  refine s_16 105 3 105 jbp_105 rfl ?_
  refine s_160 0 42 45 6 rfl rfl ?_ ?_
  · exact s_jmp (v_4_pass_45 l _ _ _) ⟨rfl, rfl, trivial⟩
  · refine s_42 7 rfl rfl ?_
    refine s_4 8 rfl ?_
    refine s_182I 0 116 11 116 (m_4_has l _ _ _) rfl k_4_has jc_4 jw_893 jw_895 jps_13 rfl rfl rfl rfl rfl (fun x15 h16 => ?_)
    refine s_153 0 34 45 14 rfl rfl ?_ ?_
    · exact s_jmp (v_4_pass_45 l _ _ _) ⟨rfl, rfl, trivial⟩
    · refine s_42 15 rfl rfl ?_
      refine s_42 16 rfl rfl ?_
      refine s_180R 0 14 19 14 f_4_1 jw_177 rfl rfl ?_
      refine s_4 20 rfl ?_
      refine s_182I 0 71 23 71 (m_9_isTrue l _ _ _) rfl k_9_isTrue jc_9 jw_897 jw_898 jw_899 rfl rfl rfl rfl rfl (fun x17 h18 => ?_)
      refine s_153 0 7 30 26 rfl rfl ?_ ?_
      · refine s_5 31 rfl ?_
        exact s_jmp (v_4_pass_31 l _ _ _ _) ⟨rfl, trivial⟩
      · refine s_3 27 rfl ?_
        refine s_167 0 4 31 rfl rfl ?_
        exact s_jmp (v_4_pass_31 l _ _ _ _) ⟨rfl, trivial⟩
theorem m_4_pass (l : Launch) (a0 : Nat) (a1 : Int32) (H : jH) : JMet l y_4_pass prog_6_method_11_code mi_4_pass jeV [.ref a0, .int a1] H (F_4_pass a0 a1 H) := jmet_of n_4_pass (by decide) ⟨rfl, rfl⟩ (Nat.le_of_ble_eq_true rfl) (v_4_pass l a0 a1 H)
