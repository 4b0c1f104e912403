def mi_18_nameOf : jM := (66486636546734593471338924569224136947270879520273450, 22, 4, "CoinNodeModel", none, "nameOf", 3, 81)
def y_18_nameOf : MethodName := ⟨"CoinNodeModel", "nameOf", "(LCoinNodeModel$Tx;[BI)V"⟩
theorem n_18_nameOf : jn_is prog_14_method_6_code mi_18_nameOf.1 mi_18_nameOf.2.1 := by unfold jn_is; decide +kernel
theorem k_18_nameOf : jmok y_18_nameOf prog_14_method_6_code mi_18_nameOf 3 := ⟨jw_1886, jw_14, ⟨by decide, by decide⟩, by decide +kernel⟩
theorem v_18_nameOf (l : Launch) (a0 : Nat) (a1 : Nat) (a2 : Nat) (a3 : Int32) (H : jH) : JV l mi_18_nameOf jeV 0 [(0, .ref a0), (1, .ref a1), (2, .ref a2), (3, .int a3)] [] H (F_18_nameOf a0 a1 a2 a3 H) := by
  unfold F_18_nameOf
  refine s_42 1 rfl rfl ?_
  refine s_180R 0 10 4 10 f_18_0 jw_1610 rfl rfl ?_
  refine s_43 5 rfl rfl ?_
  refine s_180RN 0 197 8 197 f_17_0 jnf_7 rfl rfl ?_
  refine s_43 9 rfl rfl ?_
  refine s_180IN 0 225 12 225 f_17_1 jnf_9 rfl rfl ?_
  refine s_43 13 rfl rfl ?_
  refine s_182I 0 228 16 228 (m_17_bytes l _ _) rfl k_17_bytes jc_17 jw_1887 jw_1888 jw_1889 rfl rfl rfl rfl rfl (fun x1 h2 => ?_)
  refine s_44 17 rfl rfl ?_
  refine s_29 18 rfl rfl ?_
  refine s_182V 0 180 21 180 (m_12_name l _ _ _ _ _ _ _) rfl k_12_name jc_12 jw_1586 jw_1587 jw_1588 rfl rfl rfl rfl rfl (fun x3 h4 => ?_)
  exact s_177 rfl rfl
theorem m_18_nameOf (l : Launch) (a0 : Nat) (a1 : Nat) (a2 : Nat) (a3 : Int32) (H : jH) : JMet l y_18_nameOf prog_14_method_6_code mi_18_nameOf jeV [.ref a0, .ref a1, .ref a2, .int a3] H (F_18_nameOf a0 a1 a2 a3 H) := jmet_of n_18_nameOf (by decide) ⟨rfl, rfl⟩ (Nat.le_of_ble_eq_true rfl) (v_18_nameOf l a0 a1 a2 a3 H)
def mi_17_pass : jM := (7675103534052120165887544698610417678042134761603934920447781768640438195453855570047617611665910909654514430779896149270680840746, 54, 2, "CoinNodeModel$Tx", none, "pass", 0, 0)
def y_17_pass : MethodName := ⟨"CoinNodeModel$Tx", "pass", "(I)V"⟩
theorem n_17_pass : jn_is prog_21_method_2_code mi_17_pass.1 mi_17_pass.2.1 := by unfold jn_is; decide +kernel
theorem k_17_pass : jmok y_17_pass prog_21_method_2_code mi_17_pass 1 := ⟨jw_1853, jw_20, ⟨by decide, by decide⟩, by decide +kernel⟩
theorem v_17_pass_50 (l : Launch)  (s0 : Nat) (s1 : Int32) (H : jH) : JV l mi_17_pass jeV 50 [] [.int s1, .ref s0] H (B_17_pass_50  s0 s1 H) := by
  unfold B_17_pass_50
  refine s_181I 0 41 53 41 f_17_3 rfl rfl jw_1521 rfl rfl (fun h1 => ?_)
  exact s_177 rfl rfl
theorem v_17_pass_26 (l : Launch)  (a0 : Nat) (a1 : Int32) (s0 : Nat) (s1 : Int32) (H : jH) : JV l mi_17_pass jeV 26 [(0, .ref a0), (1, .int a1)] [.int s1, .ref s0] H (B_17_pass_26  a0 a1 s0 s1 H) := by
  unfold B_17_pass_26
  refine s_181Z 0 37 29 37 f_17_6 rfl rfl jw_1529 rfl rfl (fun h2 => ?_)
  refine s_42 30 rfl rfl ?_
  refine s_42 31 rfl rfl ?_
  refine s_180I 0 37 34 37 f_17_6 jw_1529 rfl rfl ?_
  refine s_153 0 12 46 37 rfl rfl ?_ ?_
  · refine s_42 47 rfl rfl ?_
    refine s_180I 0 41 50 41 f_17_3 jw_1521 rfl rfl ?_
    exact s_jmp (v_17_pass_50 l _ _ _) trivial
  · refine s_42 38 rfl rfl ?_
    refine s_180I 0 41 41 41 f_17_3 jw_1521 rfl rfl ?_
    refine s_27 42 rfl rfl ?_
    refine s_96 43 rfl ?_
    refine s_167 0 7 50 rfl rfl ?_
    exact s_jmp (v_17_pass_50 l _ _ _) trivial
theorem v_17_pass_25 (l : Launch)  (a0 : Nat) (a1 : Int32) (s0 : Nat) (H : jH) : JV l mi_17_pass jeV 25 [(0, .ref a0), (1, .int a1)] [.ref s0] H (B_17_pass_25  a0 a1 s0 H) := by
  unfold B_17_pass_25
  refine s_3 26 rfl ?_
  exact s_jmp (v_17_pass_26 l _ _ _ _ _) ⟨rfl, rfl, trivial⟩
theorem v_17_pass (l : Launch) (a0 : Nat) (a1 : Int32) (H : jH) : JV l mi_17_pass jeV 0 [(0, .ref a0), (1, .int a1)] [] H (F_17_pass a0 a1 H) := by
  unfold F_17_pass
  refine s_42 1 rfl rfl ?_
  refine s_42 2 rfl rfl ?_
  refine s_180I 0 37 5 37 f_17_6 jw_1529 rfl rfl ?_
  refine s_153 0 20 25 8 rfl rfl ?_ ?_
  · exact s_jmp (v_17_pass_25 l _ _ _ _) ⟨rfl, rfl, trivial⟩
  · refine s_42 9 rfl rfl ?_
    refine s_180I 0 41 12 41 f_17_3 jw_1521 rfl rfl ?_
    refine s_27 13 rfl rfl ?_
    refine s_96 14 rfl ?_
    refine s_42 15 rfl rfl ?_
    refine s_180I 0 45 18 45 f_17_2 jw_1520 rfl rfl ?_
    refine s_163 0 7 25 21 rfl rfl ?_ ?_
    · exact s_jmp (v_17_pass_25 l _ _ _ _) ⟨rfl, rfl, trivial⟩
    · refine s_4 22 rfl ?_
      refine s_167 0 4 26 rfl rfl ?_
      exact s_jmp (v_17_pass_26 l _ _ _ _ _) ⟨rfl, rfl, trivial⟩
theorem m_17_pass (l : Launch) (a0 : Nat) (a1 : Int32) (H : jH) : JMet l y_17_pass prog_21_method_2_code mi_17_pass jeV [.ref a0, .int a1] H (F_17_pass a0 a1 H) := jmet_of n_17_pass (by decide) ⟨rfl, rfl⟩ (Nat.le_of_ble_eq_true rfl) (v_17_pass l a0 a1 H)
def mi_17_low : jM := (7500432246720158446014772302236474111349470413880265574009533260350847197529492580842102939521887998932751396348186281599229631274, 54, 5, "CoinNodeModel$Tx", some FieldType.long, "low", 1, 21)
def y_17_low : MethodName := ⟨"CoinNodeModel$Tx", "low", "(I)J"⟩
theorem n_17_low : jn_is prog_21_method_3_code mi_17_low.1 mi_17_low.2.1 := by unfold jn_is; decide +kernel
theorem k_17_low : jmok y_17_low prog_21_method_3_code mi_17_low 1 := ⟨jw_1861, jw_20, ⟨by decide, by decide⟩, by decide +kernel⟩
theorem v_17_low_52 (l : Launch)  (a2 : Int64) (H : jH) : JV l mi_17_low jeL 52 [(2, .long a2)] [] H (B_17_low_52  a2 H) := by
  unfold B_17_low_52
  refine s_32 53 rfl rfl ?_
  exact s_173 rfl rfl
theorem v_17_low_10 (l : Launch) (k10 : Nat → Int32 → Int64 → Int32 → jH → Option (Int64 × jH)) (hk10 : ∀ a0 a1 a2 a4 H, JV l mi_17_low jeL 10 [(0, .ref a0), (1, .int a1), (2, .long a2), (4, .int a4)] [] H (k10 a0 a1 a2 a4 H)) (a0 : Nat) (a1 : Int32) (a2 : Int64) (a4 : Int32) (H : jH) : JV l mi_17_low jeL 10 [(0, .ref a0), (1, .int a1), (2, .long a2), (4, .int a4)] [] H (B_17_low_10 k10 a0 a1 a2 a4 H) := by
  unfold B_17_low_10
  refine s_21 4 12 rfl rfl ?_
  refine s_27 13 rfl rfl ?_
  refine s_163 0 39 52 16 rfl rfl ?_ ?_
  · exact s_jmp (v_17_low_52 l _ _) ⟨rfl, trivial⟩
  · refine s_42 17 rfl rfl ?_
    refine s_180I 0 37 20 37 f_17_6 jw_1529 rfl rfl ?_
    refine s_153 0 32 52 23 rfl rfl ?_ ?_
    · exact s_jmp (v_17_low_52 l _ _) ⟨rfl, trivial⟩
    · refine s_32 24 rfl rfl ?_
      refine s_16 8 26 8 jbp_8 rfl ?_
      refine s_121 27 rfl ?_
      refine s_42 28 rfl rfl ?_
      refine s_180R 0 52 31 52 f_17_0 jw_1514 rfl rfl ?_
      refine s_42 32 rfl rfl ?_
      refine s_180I 0 41 35 41 f_17_3 jw_1521 rfl rfl ?_
      refine s_21 4 37 rfl rfl ?_
      refine s_100 38 rfl ?_
      refine s_51B 39 rfl ?_
      refine s_17 0 255 42 255 jsp_0_255 rfl ?_
      refine s_126 43 rfl ?_
      refine s_133 44 rfl ?_
      refine s_129 45 rfl ?_
      refine s_65L 46 rfl rfl (fun x1 => ?_)
      refine s_132L 4 1 49 1 ji_1 rfl rfl rfl (fun x2 => ?_)
      refine s_167 255 217 10 rfl rfl ?_
      exact s_jmp (hk10 _ _ _ _ _) ⟨rfl, rfl, rfl, rfl, trivial⟩
theorem w_17_low_10 (l : Launch)  (n : Nat) : ∀ a0 a1 a2 a4 H, JV l mi_17_low jeL 10 [(0, .ref a0), (1, .int a1), (2, .long a2), (4, .int a4)] [] H (F_17_low_10  n a0 a1 a2 a4 H) := by
  induction n with
  | zero => intro _ _ _ _ _; exact s_none
  | succ n ih => intro a0 a1 a2 a4 H; exact v_17_low_10 l (F_17_low_10  n) ih a0 a1 a2 a4 H
theorem v_17_low (l : Launch) (a0 : Nat) (a1 : Int32) (H : jH) : JV l mi_17_low jeL 0 [(0, .ref a0), (1, .int a1)] [] H (F_17_low a0 a1 H) := by
  unfold F_17_low
  refine s_42 1 rfl rfl ?_
  refine s_27 2 rfl rfl ?_
  refine s_182V 0 48 5 48 (m_17_pass l _ _ _) rfl k_17_pass jc_17 jw_1850 jw_1852 jps_62 rfl rfl rfl rfl rfl (fun x3 h4 => ?_)
  refine s_9 6 rfl ?_
  refine s_65 7 rfl rfl ?_
  refine s_4 8 rfl ?_
  refine s_54 4 10 rfl rfl ?_
  exact s_jmp (w_17_low_10 l jfuel _ _ _ _ _) ⟨rfl, rfl, rfl, rfl, trivial⟩
theorem m_17_low (l : Launch) (a0 : Nat) (a1 : Int32) (H : jH) : JMet l y_17_low prog_21_method_3_code mi_17_low jeL [.ref a0, .int a1] H (F_17_low a0 a1 H) := jmet_of n_17_low (by decide) ⟨rfl, rfl⟩ (Nat.le_of_ble_eq_true rfl) (v_17_low l a0 a1 H)
def mi_17_size : jM := (4759399045179049687172286822587663211309939233127879934193698391015462994990827290316992246963477673891697593763934022915585229316675919438109760548372896849682322387907163994746211708135454053080539202707478779387965172468527582094576902045167704099624640100655759595023146055668718059407191730885086106015546362715495897043346507912142617833614792000853148843270183229865588312936301504342535586559329334496866363103380522, 176, 4, "CoinNodeModel$Tx", some FieldType.int, "size", 2, 45)
def y_17_size : MethodName := ⟨"CoinNodeModel$Tx", "size", "(I)I"⟩
theorem n_17_size : jn_is prog_21_method_4_code mi_17_size.1 mi_17_size.2.1 := by unfold jn_is; decide +kernel
theorem k_17_size : jmok y_17_size prog_21_method_4_code mi_17_size 1 := ⟨jw_1857, jw_20, ⟨by decide, by decide⟩, by decide +kernel⟩
theorem v_17_size_175 (l : Launch)  (s0 : Int32) (H : jH) : JV l mi_17_size jeI 175 [] [.int s0] H (B_17_size_175  s0 H) := by
  unfold B_17_size_175
  exact s_172 rfl rfl
theorem v_17_size_159 (l : Launch)  (a0 : Nat) (a2 : Int64) (s0 : Nat) (s1 : Int32) (H : jH) : JV l mi_17_size jeI 159 [(0, .ref a0), (2, .long a2)] [.int s1, .ref s0] H (B_17_size_159  a0 a2 s0 s1 H) := by
  unfold B_17_size_159
  refine s_181Z 0 37 162 37 f_17_6 rfl rfl jw_1529 rfl rfl (fun h1 => ?_)
  refine s_42 163 rfl rfl ?_
  refine s_180I 0 37 166 37 f_17_6 jw_1529 rfl rfl ?_
  refine s_153 0 8 174 169 rfl rfl ?_ ?_
  · refine s_3 175 rfl ?_
    exact s_jmp (v_17_size_175 l _ _) trivial
  · refine s_32 170 rfl rfl ?_
    refine s_136 171 rfl ?_
    refine s_167 0 4 175 rfl rfl ?_
    exact s_jmp (v_17_size_175 l _ _) trivial
theorem v_17_size_158 (l : Launch)  (a0 : Nat) (a2 : Int64) (s0 : Nat) (H : jH) : JV l mi_17_size jeI 158 [(0, .ref a0), (2, .long a2)] [.ref s0] H (B_17_size_158  a0 a2 s0 H) := by
  unfold B_17_size_158
  refine s_3 159 rfl ?_
  exact s_jmp (v_17_size_159 l _ _ _ _ _) ⟨rfl, rfl, trivial⟩
theorem v_17_size_133 (l : Launch)  (a0 : Nat) (a1 : Int32) (a2 : Int64) (H : jH) : JV l mi_17_size jeI 133 [(0, .ref a0), (1, .int a1), (2, .long a2)] [] H (B_17_size_133  a0 a1 a2 H) := by
  unfold B_17_size_133
  refine s_42 134 rfl rfl ?_
  refine s_42 135 rfl rfl ?_
  refine s_180I 0 37 138 37 f_17_6 jw_1529 rfl rfl ?_
  refine s_153 0 20 158 141 rfl rfl ?_ ?_
  · exact s_jmp (v_17_size_158 l _ _ _ _) ⟨rfl, rfl, trivial⟩
  · refine s_32 142 rfl rfl ?_
    refine s_9 143 rfl ?_
    refine s_148_155 0 14 158 144 147 rfl rfl rfl ?_ ?_
    · exact s_jmp (v_17_size_158 l _ _ _ _) ⟨rfl, rfl, trivial⟩
    · refine s_32 148 rfl rfl ?_
      refine s_27 149 rfl rfl ?_
      refine s_133 150 rfl ?_
      refine s_148_157 0 7 158 151 154 rfl rfl rfl ?_ ?_
      · exact s_jmp (v_17_size_158 l _ _ _ _) ⟨rfl, rfl, trivial⟩
      · refine s_4 155 rfl ?_
        refine s_167 0 4 159 rfl rfl ?_
        exact s_jmp (v_17_size_159 l _ _ _ _ _) ⟨rfl, rfl, trivial⟩
theorem v_17_size_41 (l : Launch)  (a0 : Nat) (a1 : Int32) (a2 : Int64) (s0 : Nat) (s1 : Int32) (H : jH) : JV l mi_17_size jeI 41 [(0, .ref a0), (1, .int a1), (2, .long a2)] [.int s1, .ref s0] H (B_17_size_41  a0 a1 a2 s0 s1 H) := by
  unfold B_17_size_41
  refine s_181Z 0 37 44 37 f_17_6 rfl rfl jw_1529 rfl rfl (fun h2 => ?_)
  refine s_167 0 89 133 rfl rfl ?_
  exact s_jmp (v_17_size_133 l _ _ _ _) ⟨rfl, rfl, rfl, trivial⟩
theorem v_17_size_40 (l : Launch)  (a0 : Nat) (a1 : Int32) (a2 : Int64) (s0 : Nat) (H : jH) : JV l mi_17_size jeI 40 [(0, .ref a0), (1, .int a1), (2, .long a2)] [.ref s0] H (B_17_size_40  a0 a1 a2 s0 H) := by
  unfold B_17_size_40
  refine s_3 41 rfl ?_
  exact s_jmp (v_17_size_41 l _ _ _ _ _ _) ⟨rfl, rfl, rfl, trivial⟩
theorem v_17_size_82 (l : Launch)  (a0 : Nat) (a1 : Int32) (a2 : Int64) (s0 : Nat) (s1 : Int32) (H : jH) : JV l mi_17_size jeI 82 [(0, .ref a0), (1, .int a1), (2, .long a2)] [.int s1, .ref s0] H (B_17_size_82  a0 a1 a2 s0 s1 H) := by
  unfold B_17_size_82
  refine s_181Z 0 37 85 37 f_17_6 rfl rfl jw_1529 rfl rfl (fun h3 => ?_)
  refine s_167 0 48 133 rfl rfl ?_
  exact s_jmp (v_17_size_133 l _ _ _ _) ⟨rfl, rfl, rfl, trivial⟩
theorem v_17_size_81 (l : Launch)  (a0 : Nat) (a1 : Int32) (a2 : Int64) (s0 : Nat) (H : jH) : JV l mi_17_size jeI 81 [(0, .ref a0), (1, .int a1), (2, .long a2)] [.ref s0] H (B_17_size_81  a0 a1 a2 s0 H) := by
  unfold B_17_size_81
  refine s_3 82 rfl ?_
  exact s_jmp (v_17_size_82 l _ _ _ _ _ _) ⟨rfl, rfl, rfl, trivial⟩
theorem v_17_size_130 (l : Launch)  (a0 : Nat) (a1 : Int32) (a2 : Int64) (s0 : Nat) (s1 : Int32) (H : jH) : JV l mi_17_size jeI 130 [(0, .ref a0), (1, .int a1), (2, .long a2)] [.int s1, .ref s0] H (B_17_size_130  a0 a1 a2 s0 s1 H) := by
  unfold B_17_size_130
  refine s_181Z 0 37 133 37 f_17_6 rfl rfl jw_1529 rfl rfl (fun h4 => ?_)
  exact s_jmp (v_17_size_133 l _ _ _ _) ⟨rfl, rfl, rfl, trivial⟩
theorem v_17_size_125 (l : Launch)  (a0 : Nat) (a1 : Int32) (a2 : Int64) (s0 : Nat) (H : jH) : JV l mi_17_size jeI 125 [(0, .ref a0), (1, .int a1), (2, .long a2)] [.ref s0] H (B_17_size_125  a0 a1 a2 s0 H) := by
  unfold B_17_size_125
  refine s_4 126 rfl ?_
  refine s_167 0 4 130 rfl rfl ?_
  exact s_jmp (v_17_size_130 l _ _ _ _ _ _) ⟨rfl, rfl, rfl, trivial⟩
theorem v_17_size_129 (l : Launch)  (a0 : Nat) (a1 : Int32) (a2 : Int64) (s0 : Nat) (H : jH) : JV l mi_17_size jeI 129 [(0, .ref a0), (1, .int a1), (2, .long a2)] [.ref s0] H (B_17_size_129  a0 a1 a2 s0 H) := by
  unfold B_17_size_129
  refine s_3 130 rfl ?_
  exact s_jmp (v_17_size_130 l _ _ _ _ _ _) ⟨rfl, rfl, rfl, trivial⟩
theorem v_17_size (l : Launch) (a0 : Nat) (a1 : Int32) (H : jH) : JV l mi_17_size jeI 0 [(0, .ref a0), (1, .int a1)] [] H (F_17_size a0 a1 H) := by
  unfold F_17_size
  refine s_42 1 rfl rfl ?_
  refine s_4 2 rfl ?_
  refine s_182L 0 56 5 56 (m_17_low l _ _ _) rfl k_17_low jc_17 jw_1858 jw_1860 jps_64 rfl rfl rfl rfl rfl (fun x5 h6 => ?_)
  refine s_65 6 rfl rfl ?_
  refine s_32 7 rfl rfl ?_
  refine s_20 0 60 10 60 253 rfl jw_1862 rfl ?_
  refine s_148_154 0 36 47 11 14 rfl rfl rfl ?_ ?_
  · refine s_32 48 rfl rfl ?_
    refine s_20 0 64 51 64 254 rfl jw_1864 rfl ?_
    refine s_148_154 0 36 88 52 55 rfl rfl rfl ?_ ?_
    · refine s_32 89 rfl rfl ?_
      refine s_20 0 68 92 68 255 rfl jw_1866 rfl ?_
      refine s_148_154 0 40 133 93 96 rfl rfl rfl ?_ ?_
      · exact s_jmp (v_17_size_133 l _ _ _ _) ⟨rfl, rfl, rfl, trivial⟩
      · refine s_42 97 rfl rfl ?_
        refine s_16 8 99 8 jbp_8 rfl ?_
        refine s_182L 0 56 102 56 (m_17_low l _ _ _) rfl k_17_low jc_17 jw_1858 jw_1860 jps_64 rfl rfl rfl rfl rfl (fun x7 h8 => ?_)
        refine s_65 103 rfl rfl ?_
        refine s_42 104 rfl rfl ?_
        refine s_42 105 rfl rfl ?_
        refine s_180I 0 37 108 37 f_17_6 jw_1529 rfl rfl ?_
        refine s_153 0 21 129 111 rfl rfl ?_ ?_
        · exact s_jmp (v_17_size_129 l _ _ _ _ _) ⟨rfl, rfl, rfl, trivial⟩
        · refine s_32 112 rfl rfl ?_
          refine s_9 113 rfl ?_
          refine s_148_155 0 11 125 114 117 rfl rfl rfl ?_ ?_
          · exact s_jmp (v_17_size_125 l _ _ _ _ _) ⟨rfl, rfl, rfl, trivial⟩
          · refine s_32 118 rfl rfl ?_
            refine s_20 0 70 121 70 4294967295 rfl jw_1867 rfl ?_
            refine s_148_158 0 7 129 122 125 rfl rfl rfl ?_ ?_
            · exact s_jmp (v_17_size_129 l _ _ _ _ _) ⟨rfl, rfl, rfl, trivial⟩
            · exact s_jmp (v_17_size_125 l _ _ _ _ _) ⟨rfl, rfl, rfl, trivial⟩
    · refine s_42 56 rfl rfl ?_
      refine s_7 57 rfl ?_
      refine s_182L 0 56 60 56 (m_17_low l _ _ _) rfl k_17_low jc_17 jw_1858 jw_1860 jps_64 rfl rfl rfl rfl rfl (fun x9 h10 => ?_)
      refine s_65 61 rfl rfl ?_
      refine s_42 62 rfl rfl ?_
      refine s_42 63 rfl rfl ?_
      refine s_180I 0 37 66 37 f_17_6 jw_1529 rfl rfl ?_
      refine s_153 0 15 81 69 rfl rfl ?_ ?_
      · exact s_jmp (v_17_size_81 l _ _ _ _ _) ⟨rfl, rfl, rfl, trivial⟩
      · refine s_32 70 rfl rfl ?_
        refine s_20 0 66 73 66 65535 rfl jw_1865 rfl ?_
        refine s_148_158 0 7 81 74 77 rfl rfl rfl ?_ ?_
        · exact s_jmp (v_17_size_81 l _ _ _ _ _) ⟨rfl, rfl, rfl, trivial⟩
        · refine s_4 78 rfl ?_
          refine s_167 0 4 82 rfl rfl ?_
          exact s_jmp (v_17_size_82 l _ _ _ _ _ _) ⟨rfl, rfl, rfl, trivial⟩
  · refine s_42 15 rfl rfl ?_
    refine s_5 16 rfl ?_
    refine s_182L 0 56 19 56 (m_17_low l _ _ _) rfl k_17_low jc_17 jw_1858 jw_1860 jps_64 rfl rfl rfl rfl rfl (fun x11 h12 => ?_)
    refine s_65 20 rfl rfl ?_
    refine s_42 21 rfl rfl ?_
    refine s_42 22 rfl rfl ?_
    refine s_180I 0 37 25 37 f_17_6 jw_1529 rfl rfl ?_
    refine s_153 0 15 40 28 rfl rfl ?_ ?_
    · exact s_jmp (v_17_size_40 l _ _ _ _ _) ⟨rfl, rfl, rfl, trivial⟩
    · refine s_32 29 rfl rfl ?_
      refine s_20 0 62 32 62 252 rfl jw_1863 rfl ?_
      refine s_148_158 0 7 40 33 36 rfl rfl rfl ?_ ?_
      · exact s_jmp (v_17_size_40 l _ _ _ _ _) ⟨rfl, rfl, rfl, trivial⟩
      · refine s_4 37 rfl ?_
        refine s_167 0 4 41 rfl rfl ?_
        exact s_jmp (v_17_size_41 l _ _ _ _ _ _) ⟨rfl, rfl, rfl, trivial⟩
theorem m_17_size (l : Launch) (a0 : Nat) (a1 : Int32) (H : jH) : JMet l y_17_size prog_21_method_4_code mi_17_size jeI [.ref a0, .int a1] H (F_17_size a0 a1 H) := jmet_of n_17_size (by decide) ⟨rfl, rfl⟩ (Nat.le_of_ble_eq_true rfl) (v_17_size l a0 a1 H)
def mi_17_read : jM := (3803471274078455855822014738466696962438916360719314667626553652493577280482751308272432665088317113580792128257159280263921998083180632821918342247518474745107632867845629404589577994165290946699125066615794891979035766716023438906278640484199894719423694846011942992486350479005860665531838194052419289176000457470161672886043558520357012855489056801431783867733096407681576520127602773521271831446324501235733335096286033395457589399351240220903904383425677333105464839081133701264669313546669806951481047493676790714498980503524467718498145543933227667848094941522730, 237, 5, "CoinNodeModel$Tx", some FieldType.int, "read", 3, 68)
def y_17_read : MethodName := ⟨"CoinNodeModel$Tx", "read", "([BII)I"⟩
theorem n_17_read : jn_is prog_21_method_5_code mi_17_read.1 mi_17_read.2.1 := by unfold jn_is; decide +kernel
theorem k_17_read : jmok y_17_read prog_21_method_5_code mi_17_read 3 := ⟨jw_1849, jw_20, ⟨by decide, by decide⟩, by decide +kernel⟩
theorem v_17_read_236 (l : Launch)  (s0 : Int32) (H : jH) : JV l mi_17_read jeI 236 [] [.int s0] H (B_17_read_236  s0 H) := by
  unfold B_17_read_236
  exact s_172 rfl rfl
theorem v_17_read_152 (l : Launch) (k152 : Nat → Int32 → jH → Option (Int32 × jH)) (hk152 : ∀ a0 a4 H, JV l mi_17_read jeI 152 [(0, .ref a0), (4, .int a4)] [] H (k152 a0 a4 H)) (a0 : Nat) (a4 : Int32) (H : jH) : JV l mi_17_read jeI 152 [(0, .ref a0), (4, .int a4)] [] H (B_17_read_152 k152 a0 a4 H) := by
  unfold B_17_read_152
  refine s_21 4 154 rfl rfl ?_
  refine s_42 155 rfl rfl ?_
  refine s_180I 0 82 158 82 f_17_5 jw_1528 rfl rfl ?_
  refine s_162 0 58 216 161 rfl rfl ?_ ?_
  · refine s_42 217 rfl rfl ?_
    refine s_7 218 rfl ?_
    refine s_182V 0 48 221 48 (m_17_pass l _ _ _) rfl k_17_pass jc_17 jw_1850 jw_1852 jps_62 rfl rfl rfl rfl rfl (fun x1 h2 => ?_)
    refine s_42 222 rfl rfl ?_
    refine s_180I 0 37 225 37 f_17_6 jw_1529 rfl rfl ?_
    refine s_153 0 10 235 228 rfl rfl ?_ ?_
    · refine s_2 236 rfl ?_
      exact s_jmp (v_17_read_236 l _ _) trivial
    · refine s_42 229 rfl rfl ?_
      refine s_180I 0 41 232 41 f_17_3 jw_1521 rfl rfl ?_
      refine s_167 0 4 236 rfl rfl ?_
      exact s_jmp (v_17_read_236 l _ _) trivial
  · refine s_42 162 rfl rfl ?_
    refine s_180R 0 28 165 28 f_17_12 jw_1541 rfl rfl ?_
    refine s_21 4 167 rfl rfl ?_
    refine s_42 168 rfl rfl ?_
    refine s_16 8 170 8 jbp_8 rfl ?_
    refine s_182L 0 56 173 56 (m_17_low l _ _ _) rfl k_17_low jc_17 jw_1858 jw_1860 jps_64 rfl rfl rfl rfl rfl (fun x3 h4 => ?_)
    refine s_80 174 rfl (fun h5 => ?_)
    refine s_42 175 rfl rfl ?_
    refine s_180R 0 34 178 34 f_17_14 jw_1547 rfl rfl ?_
    refine s_21 4 180 rfl rfl ?_
    refine s_42 181 rfl rfl ?_
    refine s_17 0 200 184 200 jsp_0_200 rfl ?_
    refine s_182I 0 75 187 75 (m_17_size l _ _ _) rfl k_17_size jc_17 jw_1854 jw_1856 jps_63 rfl rfl rfl rfl rfl (fun x6 h7 => ?_)
    refine s_79 188 rfl (fun h8 => ?_)
    refine s_42 189 rfl rfl ?_
    refine s_180R 0 31 192 31 f_17_13 jw_1544 rfl rfl ?_
    refine s_21 4 194 rfl rfl ?_
    refine s_42 195 rfl rfl ?_
    refine s_180I 0 41 198 41 f_17_3 jw_1521 rfl rfl ?_
    refine s_79 199 rfl (fun h9 => ?_)
    refine s_42 200 rfl rfl ?_
    refine s_42 201 rfl rfl ?_
    refine s_180R 0 34 204 34 f_17_14 jw_1547 rfl rfl ?_
    refine s_21 4 206 rfl rfl ?_
    refine s_46 207 rfl ?_
    refine s_182V 0 48 210 48 (m_17_pass l _ _ _) rfl k_17_pass jc_17 jw_1850 jw_1852 jps_62 rfl rfl rfl rfl rfl (fun x10 h11 => ?_)
    refine s_132L 4 1 213 1 ji_1 rfl rfl rfl (fun x12 => ?_)
    refine s_167 255 195 152 rfl rfl ?_
    exact s_jmp (hk152 _ _ _) ⟨rfl, rfl, trivial⟩
theorem w_17_read_152 (l : Launch)  (n : Nat) : ∀ a0 a4 H, JV l mi_17_read jeI 152 [(0, .ref a0), (4, .int a4)] [] H (F_17_read_152  n a0 a4 H) := by
  induction n with
  | zero => intro _ _ _; exact s_none
  | succ n ih => intro a0 a4 H; exact v_17_read_152 l (F_17_read_152  n) ih a0 a4 H
theorem v_17_read_43 (l : Launch) (k43 : Nat → Int32 → jH → Option (Int32 × jH)) (hk43 : ∀ a0 a4 H, JV l mi_17_read jeI 43 [(0, .ref a0), (4, .int a4)] [] H (k43 a0 a4 H)) (a0 : Nat) (a4 : Int32) (H : jH) : JV l mi_17_read jeI 43 [(0, .ref a0), (4, .int a4)] [] H (B_17_read_43 k43 a0 a4 H) := by
  unfold B_17_read_43
  refine s_21 4 45 rfl rfl ?_
  refine s_42 46 rfl rfl ?_
  refine s_180I 0 79 49 79 f_17_4 jw_1525 rfl rfl ?_
  refine s_162 0 90 139 52 rfl rfl ?_ ?_
  · refine s_42 140 rfl rfl ?_
    refine s_42 141 rfl rfl ?_
    refine s_16 8 143 8 jbp_8 rfl ?_
    refine s_182I 0 75 146 75 (m_17_size l _ _ _) rfl k_17_size jc_17 jw_1854 jw_1856 jps_63 rfl rfl rfl rfl rfl (fun x13 h14 => ?_)
    refine s_181I 0 82 149 82 f_17_5 rfl rfl jw_1528 rfl rfl (fun h15 => ?_)
    refine s_3 150 rfl ?_
    refine s_54 4 152 rfl rfl ?_
    exact s_jmp (w_17_read_152 l jfuel _ _ _) ⟨rfl, rfl, trivial⟩
  · refine s_42 53 rfl rfl ?_
    refine s_180R 0 11 56 11 f_17_7 jw_1530 rfl rfl ?_
    refine s_21 4 58 rfl rfl ?_
    refine s_42 59 rfl rfl ?_
    refine s_180I 0 41 62 41 f_17_3 jw_1521 rfl rfl ?_
    refine s_79 63 rfl (fun h16 => ?_)
    refine s_42 64 rfl rfl ?_
    refine s_16 32 66 32 jbp_32 rfl ?_
    refine s_182V 0 48 69 48 (m_17_pass l _ _ _) rfl k_17_pass jc_17 jw_1850 jw_1852 jps_62 rfl rfl rfl rfl rfl (fun x17 h18 => ?_)
    refine s_42 70 rfl rfl ?_
    refine s_180R 0 15 73 15 f_17_8 jw_1533 rfl rfl ?_
    refine s_21 4 75 rfl rfl ?_
    refine s_42 76 rfl rfl ?_
    refine s_7 77 rfl ?_
    refine s_182L 0 56 80 56 (m_17_low l _ _ _) rfl k_17_low jc_17 jw_1858 jw_1860 jps_64 rfl rfl rfl rfl rfl (fun x19 h20 => ?_)
    refine s_80 81 rfl (fun h21 => ?_)
    refine s_42 82 rfl rfl ?_
    refine s_180R 0 22 85 22 f_17_10 jw_1537 rfl rfl ?_
    refine s_21 4 87 rfl rfl ?_
    refine s_42 88 rfl rfl ?_
    refine s_17 0 200 91 200 jsp_0_200 rfl ?_
    refine s_182I 0 75 94 75 (m_17_size l _ _ _) rfl k_17_size jc_17 jw_1854 jw_1856 jps_63 rfl rfl rfl rfl rfl (fun x22 h23 => ?_)
    refine s_79 95 rfl (fun h24 => ?_)
    refine s_42 96 rfl rfl ?_
    refine s_180R 0 19 99 19 f_17_9 jw_1535 rfl rfl ?_
    refine s_21 4 101 rfl rfl ?_
    refine s_42 102 rfl rfl ?_
    refine s_180I 0 41 105 41 f_17_3 jw_1521 rfl rfl ?_
    refine s_79 106 rfl (fun h25 => ?_)
    refine s_42 107 rfl rfl ?_
    refine s_42 108 rfl rfl ?_
    refine s_180R 0 22 111 22 f_17_10 jw_1537 rfl rfl ?_
    refine s_21 4 113 rfl rfl ?_
    refine s_46 114 rfl ?_
    refine s_182V 0 48 117 48 (m_17_pass l _ _ _) rfl k_17_pass jc_17 jw_1850 jw_1852 jps_62 rfl rfl rfl rfl rfl (fun x26 h27 => ?_)
    refine s_42 118 rfl rfl ?_
    refine s_180R 0 25 121 25 f_17_11 jw_1539 rfl rfl ?_
    refine s_21 4 123 rfl rfl ?_
    refine s_42 124 rfl rfl ?_
    refine s_180I 0 41 127 41 f_17_3 jw_1521 rfl rfl ?_
    refine s_79 128 rfl (fun h28 => ?_)
    refine s_42 129 rfl rfl ?_
    refine s_7 130 rfl ?_
    refine s_182V 0 48 133 48 (m_17_pass l _ _ _) rfl k_17_pass jc_17 jw_1850 jw_1852 jps_62 rfl rfl rfl rfl rfl (fun x29 h30 => ?_)
    refine s_132L 4 1 136 1 ji_1 rfl rfl rfl (fun x31 => ?_)
    refine s_167 255 163 43 rfl rfl ?_
    exact s_jmp (hk43 _ _ _) ⟨rfl, rfl, trivial⟩
theorem w_17_read_43 (l : Launch)  (n : Nat) : ∀ a0 a4 H, JV l mi_17_read jeI 43 [(0, .ref a0), (4, .int a4)] [] H (F_17_read_43  n a0 a4 H) := by
  induction n with
  | zero => intro _ _ _; exact s_none
  | succ n ih => intro a0 a4 H; exact v_17_read_43 l (F_17_read_43  n) ih a0 a4 H
theorem v_17_read (l : Launch) (a0 : Nat) (a1 : Nat) (a2 : Int32) (a3 : Int32) (H : jH) : JV l mi_17_read jeI 0 [(0, .ref a0), (1, .ref a1), (2, .int a2), (3, .int a3)] [] H (F_17_read a0 a1 a2 a3 H) := by
  unfold F_17_read
  refine s_42 1 rfl rfl ?_
  refine s_43 2 rfl rfl ?_
  refine s_181R 0 52 5 52 f_17_0 rfl rfl jw_1514 rfl rfl (fun h32 => ?_)
  refine s_42 6 rfl rfl ?_
  refine s_28 7 rfl rfl ?_
  refine s_181I 0 72 10 72 f_17_1 rfl rfl jw_1518 rfl rfl (fun h33 => ?_)
  refine s_42 11 rfl rfl ?_
  refine s_28 12 rfl rfl ?_
  refine s_181I 0 41 15 41 f_17_3 rfl rfl jw_1521 rfl rfl (fun h34 => ?_)
  refine s_42 16 rfl rfl ?_
  refine s_29 17 rfl rfl ?_
  refine s_181I 0 45 20 45 f_17_2 rfl rfl jw_1520 rfl rfl (fun h35 => ?_)
  refine s_42 21 rfl rfl ?_
  refine s_4 22 rfl ?_
  refine s_181Z 0 37 25 37 f_17_6 rfl rfl jw_1529 rfl rfl (fun h36 => ?_)
  refine s_42 26 rfl rfl ?_
  refine s_7 27 rfl ?_
  refine s_182V 0 48 30 48 (m_17_pass l _ _ _) rfl k_17_pass jc_17 jw_1850 jw_1852 jps_62 rfl rfl rfl rfl rfl (fun x37 h38 => ?_)
  refine s_42 31 rfl rfl ?_
  refine s_42 32 rfl rfl ?_
  refine s_16 8 34 8 jbp_8 rfl ?_
  refine s_182I 0 75 37 75 (m_17_size l _ _ _) rfl k_17_size jc_17 jw_1854 jw_1856 jps_63 rfl rfl rfl rfl rfl (fun x39 h40 => ?_)
  refine s_181I 0 79 40 79 f_17_4 rfl rfl jw_1525 rfl rfl (fun h41 => ?_)
  refine s_3 41 rfl ?_
  refine s_54 4 43 rfl rfl ?_
  exact s_jmp (w_17_read_43 l jfuel _ _ _) ⟨rfl, rfl, trivial⟩
theorem m_17_read (l : Launch) (a0 : Nat) (a1 : Nat) (a2 : Int32) (a3 : Int32) (H : jH) : JMet l y_17_read prog_21_method_5_code mi_17_read jeI [.ref a0, .ref a1, .int a2, .int a3] H (F_17_read a0 a1 a2 a3 H) := jmet_of n_17_read (by decide) ⟨rfl, rfl⟩ (Nat.le_of_ble_eq_true rfl) (v_17_read l a0 a1 a2 a3 H)
def mi_18_open : jM := (1524593979452305860757848707426622705322863769699625050896912422947932570336426802512043306525962013769721659667259114516052413560926923563939460636242971801150488851089952229797067345639974684186288337552219029232756763962059627054155041809747452880568255080502144237088133153578, 116, 7, "CoinNodeModel", some FieldType.boolean, "open", 4, 92)
def y_18_open : MethodName := ⟨"CoinNodeModel", "open", "([BII)Z"⟩
theorem n_18_open : jn_is prog_14_method_7_code mi_18_open.1 mi_18_open.2.1 := by unfold jn_is; decide +kernel
theorem k_18_open : jmok y_18_open prog_14_method_7_code mi_18_open 3 := ⟨jw_1845, jw_14, ⟨by decide, by decide⟩, by decide +kernel⟩
theorem v_18_open_115 (l : Launch)  (s0 : Int32) (H : jH) : JV l mi_18_open jeI 115 [] [.int s0] H (B_18_open_115  s0 H) := by
  unfold B_18_open_115
  exact s_172Z rfl rfl
theorem v_18_open_43 (l : Launch) (k43 : Nat → Nat → Int32 → Int32 → Int32 → Int32 → Int32 → jH → Option (Int32 × jH)) (hk43 : ∀ a0 a1 a2 a3 a4 a5 a6 H, JV l mi_18_open jeI 43 [(0, .ref a0), (1, .ref a1), (2, .int a2), (3, .int a3), (4, .int a4), (5, .int a5), (6, .int a6)] [] H (k43 a0 a1 a2 a3 a4 a5 a6 H)) (a0 : Nat) (a1 : Nat) (a2 : Int32) (a3 : Int32) (a4 : Int32) (a5 : Int32) (a6 : Int32) (H : jH) : JV l mi_18_open jeI 43 [(0, .ref a0), (1, .ref a1), (2, .int a2), (3, .int a3), (4, .int a4), (5, .int a5), (6, .int a6)] [] H (B_18_open_43 k43 a0 a1 a2 a3 a4 a5 a6 H) := by
  unfold B_18_open_43
  refine s_21 6 45 rfl rfl ?_
  refine s_21 5 47 rfl rfl ?_
  refine s_162 0 40 87 50 rfl rfl ?_ ?_
  · refine s_42 88 rfl rfl ?_
    refine s_180R 0 79 91 79 f_18_15 jw_1625 rfl rfl ?_
    refine s_21 5 93 rfl rfl ?_
    refine s_21 4 95 rfl rfl ?_
    refine s_79 96 rfl (fun h1 => ?_)
    refine s_42 97 rfl rfl ?_
    refine s_21 5 99 rfl rfl ?_
    refine s_181I 0 232 102 232 f_18_14 rfl rfl jw_1624 rfl rfl (fun h2 => ?_)
    refine s_21 4 104 rfl rfl ?_
    refine s_28 105 rfl rfl ?_
    refine s_29 106 rfl rfl ?_
    refine s_96 107 rfl ?_
    refine s_160 0 7 114 110 rfl rfl ?_ ?_
    · refine s_3 115 rfl ?_
      exact s_jmp (v_18_open_115 l _ _) trivial
    · refine s_4 111 rfl ?_
      refine s_167 0 4 115 rfl rfl ?_
      exact s_jmp (v_18_open_115 l _ _) trivial
  · refine s_42 51 rfl rfl ?_
    refine s_180R 0 79 54 79 f_18_15 jw_1625 rfl rfl ?_
    refine s_21 6 56 rfl rfl ?_
    refine s_21 4 58 rfl rfl ?_
    refine s_79 59 rfl (fun h3 => ?_)
    refine s_42 60 rfl rfl ?_
    refine s_180R 0 47 63 47 f_18_4 jw_1614 rfl rfl ?_
    refine s_43 64 rfl rfl ?_
    refine s_21 4 66 rfl rfl ?_
    refine s_28 67 rfl rfl ?_
    refine s_29 68 rfl rfl ?_
    refine s_96 69 rfl ?_
    refine s_182I 0 235 72 235 (m_17_read l _ _ _ _ _) rfl k_17_read jc_17 jw_1846 jw_1847 jw_1848 rfl rfl rfl rfl rfl (fun x4 h5 => ?_)
    refine s_54 4 74 rfl rfl ?_
    refine s_21 4 76 rfl rfl ?_
    refine s_156 0 5 81 79 rfl rfl ?_ ?_
    · refine s_132L 6 1 84 1 ji_1 rfl rfl rfl (fun x6 => ?_)
      refine s_167 255 215 43 rfl rfl ?_
      exact s_jmp (hk43 _ _ _ _ _ _ _ _) ⟨rfl, rfl, rfl, rfl, rfl, rfl, rfl, trivial⟩
    · refine s_3 80 rfl ?_
      exact s_172Z rfl rfl
theorem w_18_open_43 (l : Launch)  (n : Nat) : ∀ a0 a1 a2 a3 a4 a5 a6 H, JV l mi_18_open jeI 43 [(0, .ref a0), (1, .ref a1), (2, .int a2), (3, .int a3), (4, .int a4), (5, .int a5), (6, .int a6)] [] H (F_18_open_43  n a0 a1 a2 a3 a4 a5 a6 H) := by
  induction n with
  | zero => intro _ _ _ _ _ _ _ _; exact s_none
  | succ n ih => intro a0 a1 a2 a3 a4 a5 a6 H; exact v_18_open_43 l (F_18_open_43  n) ih a0 a1 a2 a3 a4 a5 a6 H
theorem v_18_open (l : Launch) (a0 : Nat) (a1 : Nat) (a2 : Int32) (a3 : Int32) (H : jH) : JV l mi_18_open jeI 0 [(0, .ref a0), (1, .ref a1), (2, .int a2), (3, .int a3)] [] H (F_18_open a0 a1 a2 a3 H) := by
  unfold F_18_open
  refine s_42 1 rfl rfl ?_
  refine s_3 2 rfl ?_
  refine s_181I 0 232 5 232 f_18_14 rfl rfl jw_1624 rfl rfl (fun h7 => ?_)
  refine s_29 6 rfl rfl ?_
  refine s_16 81 8 81 jbp_81 rfl ?_
  refine s_162 0 5 13 11 rfl rfl ?_ ?_
  · refine s_28 14 rfl rfl ?_
    refine s_16 81 16 81 jbp_81 rfl ?_
    refine s_96 17 rfl ?_
    refine s_54L 4 19 rfl rfl (fun x8 => ?_)
    refine s_43 20 rfl rfl ?_
    refine s_28 21 rfl rfl ?_
    refine s_16 80 23 80 jbp_80 rfl ?_
    refine s_96 24 rfl ?_
    refine s_51B 25 rfl ?_
    refine s_17 0 255 28 255 jsp_0_255 rfl ?_
    refine s_126 29 rfl ?_
    refine s_54L 5 31 rfl rfl (fun x9 => ?_)
    refine s_21 5 33 rfl rfl ?_
    refine s_16 12 35 12 jbp_12 rfl ?_
    refine s_164 0 5 40 38 rfl rfl ?_ ?_
    · refine s_3 41 rfl ?_
      refine s_54 6 43 rfl rfl ?_
      exact s_jmp (w_18_open_43 l jfuel _ _ _ _ _ _ _ _) ⟨rfl, rfl, rfl, rfl, rfl, rfl, rfl, trivial⟩
    · refine s_3 39 rfl ?_
      exact s_172Z rfl rfl
  · refine s_3 12 rfl ?_
    exact s_172Z rfl rfl
theorem m_18_open (l : Launch) (a0 : Nat) (a1 : Nat) (a2 : Int32) (a3 : Int32) (H : jH) : JMet l y_18_open prog_14_method_7_code mi_18_open jeI [.ref a0, .ref a1, .int a2, .int a3] H (F_18_open a0 a1 a2 a3 H) := jmet_of n_18_open (by decide) ⟨rfl, rfl⟩ (Nat.le_of_ble_eq_true rfl) (v_18_open l a0 a1 a2 a3 H)
def mi_18_openBlock : jM := (1223979788672432819630086911208978390927835648448719436297401990630409002, 30, 2, "CoinNodeModel", none, "openBlock", 5, 118)
def y_18_openBlock : MethodName := ⟨"CoinNodeModel", "openBlock", "(I)V"⟩
theorem n_18_openBlock : jn_is prog_14_method_8_code mi_18_openBlock.1 mi_18_openBlock.2.1 := by unfold jn_is; decide +kernel
theorem k_18_openBlock : jmok y_18_openBlock prog_14_method_8_code mi_18_openBlock 1 := ⟨jw_1841, jw_14, ⟨by decide, by decide⟩, by decide +kernel⟩
theorem v_18_openBlock_29 (l : Launch)   (H : jH) : JV l mi_18_openBlock jeV 29 [] [] H (B_18_openBlock_29   H) := by
  unfold B_18_openBlock_29
  exact s_177 rfl rfl
theorem v_18_openBlock (l : Launch) (a0 : Nat) (a1 : Int32) (H : jH) : JV l mi_18_openBlock jeV 0 [(0, .ref a0), (1, .int a1)] [] H (F_18_openBlock a0 a1 H) := by
  unfold F_18_openBlock
  refine s_42 1 rfl rfl ?_
  refine s_3 2 rfl ?_
  refine s_181I 0 232 5 232 f_18_14 rfl rfl jw_1624 rfl rfl (fun h1 => ?_)
  refine s_27 6 rfl rfl ?_
  refine s_158 0 23 29 9 rfl rfl ?_ ?_
  · exact s_jmp (v_18_openBlock_29 l _) trivial
  · refine s_42 10 rfl rfl ?_
    refine s_42 11 rfl rfl ?_
    refine s_180R 0 55 14 55 f_18_6 jw_1616 rfl rfl ?_
    refine s_17 7 208 17 2000 jsp_7_208 rfl ?_
    refine s_27 18 rfl rfl ?_
    refine s_104 19 rfl ?_
    refine s_42 20 rfl rfl ?_
    refine s_180R 0 59 23 59 f_18_7 jw_1617 rfl rfl ?_
    refine s_27 24 rfl rfl ?_
    refine s_46 25 rfl ?_
    refine s_182I 0 239 28 239 (m_18_open l _ _ _ _ _) rfl k_18_open jc_18 jw_1842 jw_1844 jps_61 rfl rfl rfl rfl rfl (fun x2 h3 => ?_)
    refine s_87 29 rfl rfl ?_
    exact s_jmp (v_18_openBlock_29 l _) trivial
theorem m_18_openBlock (l : Launch) (a0 : Nat) (a1 : Int32) (H : jH) : JMet l y_18_openBlock prog_14_method_8_code mi_18_openBlock jeV [.ref a0, .int a1] H (F_18_openBlock a0 a1 H) := jmet_of n_18_openBlock (by decide) ⟨rfl, rfl⟩ (Nat.le_of_ble_eq_true rfl) (v_18_openBlock l a0 a1 H)
def mi_16_isBlock : jM := (14984339347662989861894166766167854879382299, 18, 2, "CoinNodeModel$Tree", some FieldType.boolean, "isBlock", 0, 0)
def y_16_isBlock : MethodName := ⟨"CoinNodeModel$Tree", "isBlock", "(I)Z"⟩
theorem n_16_isBlock : jn_is prog_20_method_15_code mi_16_isBlock.1 mi_16_isBlock.2.1 := by unfold jn_is; decide +kernel
theorem k_16_isBlock : jmok y_16_isBlock prog_20_method_15_code mi_16_isBlock 1 := ⟨jw_1832, jw_19, ⟨by decide, by decide⟩, by decide +kernel⟩
theorem v_16_isBlock_17 (l : Launch)  (s0 : Int32) (H : jH) : JV l mi_16_isBlock jeI 17 [] [.int s0] H (B_16_isBlock_17  s0 H) := by
  unfold B_16_isBlock_17
  exact s_172Z rfl rfl
theorem v_16_isBlock_16 (l : Launch)   (H : jH) : JV l mi_16_isBlock jeI 16 [] [] H (B_16_isBlock_16   H) := by
  unfold B_16_isBlock_16
  refine s_3 17 rfl ?_
  exact s_jmp (v_16_isBlock_17 l _ _) trivial
theorem v_16_isBlock (l : Launch) (a0 : Nat) (a1 : Int32) (H : jH) : JV l mi_16_isBlock jeI 0 [(0, .ref a0), (1, .int a1)] [] H (F_16_isBlock a0 a1 H) := by
  unfold F_16_isBlock
  refine s_27 1 rfl rfl ?_
  refine s_155 0 15 16 4 rfl rfl ?_ ?_
  · exact s_jmp (v_16_isBlock_16 l _) trivial
  · refine s_27 5 rfl rfl ?_
    refine s_42 6 rfl rfl ?_
    refine s_180I 0 54 9 54 f_16_1 jw_1472 rfl rfl ?_
    refine s_162 0 7 16 12 rfl rfl ?_ ?_
    · exact s_jmp (v_16_isBlock_16 l _) trivial
    · refine s_4 13 rfl ?_
      refine s_167 0 4 17 rfl rfl ?_
      exact s_jmp (v_16_isBlock_17 l _ _) trivial
theorem m_16_isBlock (l : Launch) (a0 : Nat) (a1 : Int32) (H : jH) : JMet l y_16_isBlock prog_20_method_15_code mi_16_isBlock jeI [.ref a0, .int a1] H (F_16_isBlock a0 a1 H) := jmet_of n_16_isBlock (by decide) ⟨rfl, rfl⟩ (Nat.le_of_ble_eq_true rfl) (v_16_isBlock l a0 a1 H)
def mi_16_look : jM := (41438054281732969434806320058593363700305873386753938693451068474638355258623087922435617848684455169719232203099845960777083044143857498831701541412892924072937919166364200912170985180114497875475784244043353255608252942070523101839541149281197469228794051570409457337760400488466374854850643834507269334810657896159920526405734100492693705988906, 144, 5, "CoinNodeModel$Tree", some FieldType.long, "look", 1, 21)
def y_16_look : MethodName := ⟨"CoinNodeModel$Tree", "look", "(II)J"⟩
theorem n_16_look : jn_is prog_20_method_21_code mi_16_look.1 mi_16_look.2.1 := by unfold jn_is; decide +kernel
theorem k_16_look : jmok y_16_look prog_20_method_21_code mi_16_look 2 := ⟨jw_1828, jw_19, ⟨by decide, by decide⟩, by decide +kernel⟩
theorem v_16_look_44 (l : Launch) (k17 : Nat → Int32 → Int32 → Int32 → Int32 → jH → Option (Int64 × jH)) (hk17 : ∀ a0 a1 a2 a3 a4 H, JV l mi_16_look jeL 17 [(0, .ref a0), (1, .int a1), (2, .int a2), (3, .int a3), (4, .int a4)] [] H (k17 a0 a1 a2 a3 a4 H)) (a0 : Nat) (a1 : Int32) (a2 : Int32) (a4 : Int32) (s0 : Int32) (H : jH) : JV l mi_16_look jeL 44 [(0, .ref a0), (1, .int a1), (2, .int a2), (4, .int a4)] [.int s0] H (B_16_look_44 k17 a0 a1 a2 a4 s0 H) := by
  unfold B_16_look_44
  refine s_62 45 rfl rfl ?_
  refine s_132L 4 1 48 1 ji_1 rfl rfl rfl (fun x1 => ?_)
  refine s_167 255 225 17 rfl rfl ?_
  exact s_jmp (hk17 _ _ _ _ _ _) ⟨rfl, rfl, rfl, rfl, rfl, trivial⟩
theorem v_16_look_143 (l : Launch)  (s0 : Int64) (H : jH) : JV l mi_16_look jeL 143 [] [.long s0] H (B_16_look_143  s0 H) := by
  unfold B_16_look_143
  exact s_173 rfl rfl
theorem v_16_look_17 (l : Launch) (k17 : Nat → Int32 → Int32 → Int32 → Int32 → jH → Option (Int64 × jH)) (hk17 : ∀ a0 a1 a2 a3 a4 H, JV l mi_16_look jeL 17 [(0, .ref a0), (1, .int a1), (2, .int a2), (3, .int a3), (4, .int a4)] [] H (k17 a0 a1 a2 a3 a4 H)) (a0 : Nat) (a1 : Int32) (a2 : Int32) (a3 : Int32) (a4 : Int32) (H : jH) : JV l mi_16_look jeL 17 [(0, .ref a0), (1, .int a1), (2, .int a2), (3, .int a3), (4, .int a4)] [] H (B_16_look_17 k17 a0 a1 a2 a3 a4 H) := by
  unfold B_16_look_17
  refine s_21 4 19 rfl rfl ?_
  refine s_42 20 rfl rfl ?_
  refine s_180I 0 54 23 54 f_16_1 jw_1472 rfl rfl ?_
  refine s_162 0 28 51 26 rfl rfl ?_ ?_
  · refine s_28 52 rfl rfl ?_
    refine s_154 0 13 65 55 rfl rfl ?_ ?_
    · refine s_28 66 rfl rfl ?_
      refine s_4 67 rfl ?_
      refine s_160 0 13 80 70 rfl rfl ?_ ?_
      · refine s_28 81 rfl rfl ?_
        refine s_5 82 rfl ?_
        refine s_160 0 12 94 85 rfl rfl ?_ ?_
        · refine s_28 95 rfl rfl ?_
          refine s_6 96 rfl ?_
          refine s_160 0 12 108 99 rfl rfl ?_ ?_
          · refine s_28 109 rfl rfl ?_
            refine s_7 110 rfl ?_
            refine s_160 0 20 130 113 rfl rfl ?_ ?_
            · refine s_28 131 rfl rfl ?_
              refine s_8 132 rfl ?_
              refine s_160 0 8 140 135 rfl rfl ?_ ?_
              · refine s_20 0 106 143 106 (-1) rfl jw_1833 rfl ?_
                exact s_jmp (v_16_look_143 l _ _) trivial
              · refine s_29 136 rfl rfl ?_
                refine s_133 137 rfl ?_
                refine s_167 0 6 143 rfl rfl ?_
                exact s_jmp (v_16_look_143 l _ _) trivial
            · refine s_42 114 rfl rfl ?_
              refine s_180R 0 23 117 23 f_16_6 jw_1477 rfl rfl ?_
              refine s_27 118 rfl rfl ?_
              refine s_51Z 119 rfl ?_
              refine s_153 0 7 126 122 rfl rfl ?_ ?_
              · refine s_9 127 rfl ?_
                refine s_167 0 16 143 rfl rfl ?_
                exact s_jmp (v_16_look_143 l _ _) trivial
              · refine s_10 123 rfl ?_
                refine s_167 0 20 143 rfl rfl ?_
                exact s_jmp (v_16_look_143 l _ _) trivial
          · refine s_42 100 rfl rfl ?_
            refine s_180R 0 20 103 20 f_16_5 jw_1476 rfl rfl ?_
            refine s_27 104 rfl rfl ?_
            refine s_47 105 rfl ?_
            refine s_167 0 38 143 rfl rfl ?_
            exact s_jmp (v_16_look_143 l _ _) trivial
        · refine s_42 86 rfl rfl ?_
          refine s_180R 0 16 89 16 f_16_4 jw_1475 rfl rfl ?_
          refine s_27 90 rfl rfl ?_
          refine s_47 91 rfl ?_
          refine s_167 0 52 143 rfl rfl ?_
          exact s_jmp (v_16_look_143 l _ _) trivial
      · refine s_42 71 rfl rfl ?_
        refine s_180R 0 13 74 13 f_16_3 jw_1474 rfl rfl ?_
        refine s_27 75 rfl rfl ?_
        refine s_46 76 rfl ?_
        refine s_133 77 rfl ?_
        refine s_167 0 66 143 rfl rfl ?_
        exact s_jmp (v_16_look_143 l _ _) trivial
    · refine s_42 56 rfl rfl ?_
      refine s_180R 0 7 59 7 f_16_2 jw_1473 rfl rfl ?_
      refine s_27 60 rfl rfl ?_
      refine s_46 61 rfl ?_
      refine s_133 62 rfl ?_
      refine s_167 0 81 143 rfl rfl ?_
      exact s_jmp (v_16_look_143 l _ _) trivial
  · refine s_42 27 rfl rfl ?_
    refine s_180R 0 7 30 7 f_16_2 jw_1473 rfl rfl ?_
    refine s_21 4 32 rfl rfl ?_
    refine s_46 33 rfl ?_
    refine s_27 34 rfl rfl ?_
    refine s_160 0 9 43 37 rfl rfl ?_ ?_
    · refine s_29 44 rfl rfl ?_
      exact s_jmp (v_16_look_44 l k17 hk17 _ _ _ _ _ _) ⟨rfl, rfl, rfl, rfl, trivial⟩
    · refine s_29 38 rfl rfl ?_
      refine s_4 39 rfl ?_
      refine s_96 40 rfl ?_
      refine s_167 0 4 44 rfl rfl ?_
      exact s_jmp (v_16_look_44 l k17 hk17 _ _ _ _ _ _) ⟨rfl, rfl, rfl, rfl, trivial⟩
theorem w_16_look_17 (l : Launch)  (n : Nat) : ∀ a0 a1 a2 a3 a4 H, JV l mi_16_look jeL 17 [(0, .ref a0), (1, .int a1), (2, .int a2), (3, .int a3), (4, .int a4)] [] H (F_16_look_17  n a0 a1 a2 a3 a4 H) := by
  induction n with
  | zero => intro _ _ _ _ _ _; exact s_none
  | succ n ih => intro a0 a1 a2 a3 a4 H; exact v_16_look_17 l (F_16_look_17  n) ih a0 a1 a2 a3 a4 H
theorem v_16_look (l : Launch) (a0 : Nat) (a1 : Int32) (a2 : Int32) (H : jH) : JV l mi_16_look jeL 0 [(0, .ref a0), (1, .int a1), (2, .int a2)] [] H (F_16_look a0 a1 a2 H) := by
  unfold F_16_look
  refine s_42 1 rfl rfl ?_
  refine s_27 2 rfl rfl ?_
  refine s_182I 0 102 5 102 (m_16_isBlock l _ _ _) rfl k_16_isBlock jc_16 jw_1829 jw_1831 jps_59 rfl rfl rfl rfl rfl (fun x2 h3 => ?_)
  refine s_154 0 7 12 8 rfl rfl ?_ ?_
  · refine s_3 13 rfl ?_
    refine s_62 14 rfl rfl ?_
    refine s_3 15 rfl ?_
    refine s_54 4 17 rfl rfl ?_
    exact s_jmp (w_16_look_17 l jfuel _ _ _ _ _ _) ⟨rfl, rfl, rfl, rfl, rfl, trivial⟩
  · refine s_20 0 106 11 106 (-1) rfl jw_1833 rfl ?_
    exact s_173 rfl rfl
theorem m_16_look (l : Launch) (a0 : Nat) (a1 : Int32) (a2 : Int32) (H : jH) : JMet l y_16_look prog_20_method_21_code mi_16_look jeL [.ref a0, .int a1, .int a2] H (F_16_look a0 a1 a2 H) := jmet_of n_16_look (by decide) ⟨rfl, rfl⟩ (Nat.le_of_ble_eq_true rfl) (v_16_look l a0 a1 a2 H)
def mi_18_height : jM := (208581965425429361662669866, 11, 2, "CoinNodeModel", some FieldType.int, "height", 2, 45)
def y_18_height : MethodName := ⟨"CoinNodeModel", "height", "(I)I"⟩
theorem n_18_height : jn_is prog_14_method_9_code mi_18_height.1 mi_18_height.2.1 := by unfold jn_is; decide +kernel
theorem k_18_height : jmok y_18_height prog_14_method_9_code mi_18_height 1 := ⟨jw_1824, jw_14, ⟨by decide, by decide⟩, by decide +kernel⟩
theorem v_18_height (l : Launch) (a0 : Nat) (a1 : Int32) (H : jH) : JV l mi_18_height jeI 0 [(0, .ref a0), (1, .int a1)] [] H (F_18_height a0 a1 H) := by
  unfold F_18_height
  refine s_42 1 rfl rfl ?_
  refine s_180R 0 40 4 40 f_18_3 jw_1613 rfl rfl ?_
  refine s_27 5 rfl rfl ?_
  refine s_4 6 rfl ?_
  refine s_182L 0 243 9 243 (m_16_look l _ _ _ _) rfl k_16_look jc_16 jw_1825 jw_1826 jw_1827 rfl rfl rfl rfl rfl (fun x1 h2 => ?_)
  refine s_136 10 rfl ?_
  exact s_172 rfl rfl
theorem m_18_height (l : Launch) (a0 : Nat) (a1 : Int32) (H : jH) : JMet l y_18_height prog_14_method_9_code mi_18_height jeI [.ref a0, .int a1] H (F_18_height a0 a1 H) := jmet_of n_18_height (by decide) ⟨rfl, rfl⟩ (Nat.le_of_ble_eq_true rfl) (v_18_height l a0 a1 H)
def mi_18_parent : jM := (208581965425428262151042090, 11, 2, "CoinNodeModel", some FieldType.int, "parent", 2, 45)
def y_18_parent : MethodName := ⟨"CoinNodeModel", "parent", "(I)I"⟩
theorem n_18_parent : jn_is prog_14_method_10_code mi_18_parent.1 mi_18_parent.2.1 := by unfold jn_is; decide +kernel
theorem k_18_parent : jmok y_18_parent prog_14_method_10_code mi_18_parent 1 := ⟨jw_2413, jw_14, ⟨by decide, by decide⟩, by decide +kernel⟩
theorem v_18_parent (l : Launch) (a0 : Nat) (a1 : Int32) (H : jH) : JV l mi_18_parent jeI 0 [(0, .ref a0), (1, .int a1)] [] H (F_18_parent a0 a1 H) := by
  unfold F_18_parent
  refine s_42 1 rfl rfl ?_
  refine s_180R 0 40 4 40 f_18_3 jw_1613 rfl rfl ?_
  refine s_27 5 rfl rfl ?_
  refine s_3 6 rfl ?_
  refine s_182L 0 243 9 243 (m_16_look l _ _ _ _) rfl k_16_look jc_16 jw_1825 jw_1826 jw_1827 rfl rfl rfl rfl rfl (fun x1 h2 => ?_)
  refine s_136 10 rfl ?_
  exact s_172 rfl rfl
theorem m_18_parent (l : Launch) (a0 : Nat) (a1 : Int32) (H : jH) : JMet l y_18_parent prog_14_method_10_code mi_18_parent jeI [.ref a0, .int a1] H (F_18_parent a0 a1 H) := jmet_of n_18_parent (by decide) ⟨rfl, rfl⟩ (Nat.le_of_ble_eq_true rfl) (v_18_parent l a0 a1 H)
def mi_16_below : jM := (26491222140376227092008658721484450596326780055203479200230883146316098819849462612051777274972579080892873939753770, 48, 4, "CoinNodeModel$Tree", some FieldType.int, "below", 1, 21)
def y_16_below : MethodName := ⟨"CoinNodeModel$Tree", "below", "(II)I"⟩
theorem n_16_below : jn_is prog_20_method_16_code mi_16_below.1 mi_16_below.2.1 := by unfold jn_is; decide +kernel
theorem k_16_below : jmok y_16_below prog_20_method_16_code mi_16_below 2 := ⟨jw_1837, jw_19, ⟨by decide, by decide⟩, by decide +kernel⟩
theorem v_16_below_22 (l : Launch)   (H : jH) : JV l mi_16_below jeI 22 [] [] H (B_16_below_22   H) := by
  unfold B_16_below_22
  refine s_2 23 rfl ?_
  exact s_172 rfl rfl
theorem v_16_below_26 (l : Launch) (k26 : Nat → Int32 → Int32 → jH → Option (Int32 × jH)) (hk26 : ∀ a0 a2 a3 H, JV l mi_16_below jeI 26 [(0, .ref a0), (2, .int a2), (3, .int a3)] [] H (k26 a0 a2 a3 H)) (a0 : Nat) (a2 : Int32) (a3 : Int32) (H : jH) : JV l mi_16_below jeI 26 [(0, .ref a0), (2, .int a2), (3, .int a3)] [] H (B_16_below_26 k26 a0 a2 a3 H) := by
  unfold B_16_below_26
  refine s_42 27 rfl rfl ?_
  refine s_180R 0 13 30 13 f_16_3 jw_1474 rfl rfl ?_
  refine s_29 31 rfl rfl ?_
  refine s_46 32 rfl ?_
  refine s_28 33 rfl rfl ?_
  refine s_164 0 13 46 36 rfl rfl ?_ ?_
  · refine s_29 47 rfl rfl ?_
    exact s_172 rfl rfl
  · refine s_42 37 rfl rfl ?_
    refine s_180R 0 7 40 7 f_16_2 jw_1473 rfl rfl ?_
    refine s_29 41 rfl rfl ?_
    refine s_46 42 rfl ?_
    refine s_62L 43 rfl rfl (fun x1 => ?_)
    refine s_167 255 239 26 rfl rfl ?_
    exact s_jmp (hk26 _ _ _ _) ⟨rfl, rfl, rfl, trivial⟩
theorem w_16_below_26 (l : Launch)  (n : Nat) : ∀ a0 a2 a3 H, JV l mi_16_below jeI 26 [(0, .ref a0), (2, .int a2), (3, .int a3)] [] H (F_16_below_26  n a0 a2 a3 H) := by
  induction n with
  | zero => intro _ _ _ _; exact s_none
  | succ n ih => intro a0 a2 a3 H; exact v_16_below_26 l (F_16_below_26  n) ih a0 a2 a3 H
theorem v_16_below (l : Launch) (a0 : Nat) (a1 : Int32) (a2 : Int32) (H : jH) : JV l mi_16_below jeI 0 [(0, .ref a0), (1, .int a1), (2, .int a2)] [] H (F_16_below a0 a1 a2 H) := by
  unfold F_16_below
  refine s_42 1 rfl rfl ?_
  refine s_27 2 rfl rfl ?_
  refine s_182I 0 102 5 102 (m_16_isBlock l _ _ _) rfl k_16_isBlock jc_16 jw_1829 jw_1831 jps_59 rfl rfl rfl rfl rfl (fun x2 h3 => ?_)
  refine s_153 0 17 22 8 rfl rfl ?_ ?_
  · exact s_jmp (v_16_below_22 l _) trivial
  · refine s_28 9 rfl rfl ?_
    refine s_155 0 13 22 12 rfl rfl ?_ ?_
    · exact s_jmp (v_16_below_22 l _) trivial
    · refine s_28 13 rfl rfl ?_
      refine s_42 14 rfl rfl ?_
      refine s_180R 0 13 17 13 f_16_3 jw_1474 rfl rfl ?_
      refine s_27 18 rfl rfl ?_
      refine s_46 19 rfl ?_
      refine s_164 0 5 24 22 rfl rfl ?_ ?_
      · refine s_27 25 rfl rfl ?_
        refine s_62 26 rfl rfl ?_
        exact s_jmp (w_16_below_26 l jfuel _ _ _ _) ⟨rfl, rfl, rfl, trivial⟩
      · exact s_jmp (v_16_below_22 l _) trivial
theorem m_16_below (l : Launch) (a0 : Nat) (a1 : Int32) (a2 : Int32) (H : jH) : JMet l y_16_below prog_20_method_16_code mi_16_below jeI [.ref a0, .int a1, .int a2] H (F_16_below a0 a1 a2 H) := jmet_of n_16_below (by decide) ⟨rfl, rfl⟩ (Nat.le_of_ble_eq_true rfl) (v_16_below l a0 a1 a2 H)
def mi_18_need : jM := (14470672961994020933066772715658288229669494871687069062937658891603968013292037617038639947979919633315955565123001969325773416166779950340113116489363727895611583274735385639513979306914007554397742562084331626191346820619058930693436570063351600260447494470306122722319423271099312373782138136667378175766569147545091859983020196088215289432601835231830774233288874868733524001731626, 160, 6, "CoinNodeModel", none, "need", 6, 139)
def y_18_need : MethodName := ⟨"CoinNodeModel", "need", "(I)V"⟩
theorem n_18_need : jn_is prog_14_method_11_code mi_18_need.1 mi_18_need.2.1 := by unfold jn_is; decide +kernel
theorem k_18_need : jmok y_18_need prog_14_method_11_code mi_18_need 1 := ⟨jw_1820, jw_14, ⟨by decide, by decide⟩, by decide +kernel⟩
theorem v_18_need_139 (l : Launch) (k48 : Nat → Int32 → Int32 → Int32 → Int32 → jH → Option (Unit × jH)) (hk48 : ∀ a0 a1 a2 a3 a4 H, JV l mi_18_need jeV 48 [(0, .ref a0), (1, .int a1), (2, .int a2), (3, .int a3), (4, .int a4)] [] H (k48 a0 a1 a2 a3 a4 H)) (a0 : Nat) (a1 : Int32) (a2 : Int32) (a3 : Int32) (a4 : Int32) (s0 : Nat) (s1 : Int32) (s2 : Int32) (H : jH) : JV l mi_18_need jeV 139 [(0, .ref a0), (1, .int a1), (2, .int a2), (3, .int a3), (4, .int a4)] [.int s2, .int s1, .ref s0] H (B_18_need_139 k48 a0 a1 a2 a3 a4 s0 s1 s2 H) := by
  unfold B_18_need_139
  refine s_182V 1 5 142 261 (m_18_apply l _ _ _ _) rfl k_18_apply jc_18 jw_1868 jw_1870 jps_65 rfl rfl rfl rfl rfl (fun x1 h2 => ?_)
  refine s_132L 4 1 145 1 ji_1 rfl rfl rfl (fun x3 => ?_)
  refine s_167 255 159 48 rfl rfl ?_
  exact s_jmp (hk48 _ _ _ _ _ _) ⟨rfl, rfl, rfl, rfl, rfl, trivial⟩
theorem v_18_need_88 (l : Launch) (k48 : Nat → Int32 → Int32 → Int32 → Int32 → jH → Option (Unit × jH)) (hk48 : ∀ a0 a1 a2 a3 a4 H, JV l mi_18_need jeV 48 [(0, .ref a0), (1, .int a1), (2, .int a2), (3, .int a3), (4, .int a4)] [] H (k48 a0 a1 a2 a3 a4 H)) (k88 : Nat → Int32 → Int32 → Int32 → Int32 → Int32 → jH → Option (Unit × jH)) (hk88 : ∀ a0 a1 a2 a3 a4 a5 H, JV l mi_18_need jeV 88 [(0, .ref a0), (1, .int a1), (2, .int a2), (3, .int a3), (4, .int a4), (5, .int a5)] [] H (k88 a0 a1 a2 a3 a4 a5 H)) (a0 : Nat) (a1 : Int32) (a2 : Int32) (a3 : Int32) (a4 : Int32) (a5 : Int32) (H : jH) : JV l mi_18_need jeV 88 [(0, .ref a0), (1, .int a1), (2, .int a2), (3, .int a3), (4, .int a4), (5, .int a5)] [] H (B_18_need_88 k48 k88 a0 a1 a2 a3 a4 a5 H) := by
  unfold B_18_need_88
  refine s_21 5 90 rfl rfl ?_
  refine s_16 32 92 32 jbp_32 rfl ?_
  refine s_162 0 35 127 95 rfl rfl ?_ ?_
  · refine s_42 128 rfl rfl ?_
    refine s_28 129 rfl rfl ?_
    refine s_21 4 131 rfl rfl ?_
    refine s_154 0 7 138 134 rfl rfl ?_ ?_
    · refine s_3 139 rfl ?_
      exact s_jmp (v_18_need_139 l k48 hk48 _ _ _ _ _ _ _ _ _) ⟨rfl, rfl, rfl, rfl, rfl, trivial⟩
    · refine s_4 135 rfl ?_
      refine s_167 0 4 139 rfl rfl ?_
      exact s_jmp (v_18_need_139 l k48 hk48 _ _ _ _ _ _ _ _ _) ⟨rfl, rfl, rfl, rfl, rfl, trivial⟩
  · refine s_42 96 rfl rfl ?_
    refine s_180R 0 161 99 161 f_18_49 jw_1659 rfl rfl ?_
    refine s_21 5 101 rfl rfl ?_
    refine s_42 102 rfl rfl ?_
    refine s_180R 0 73 105 73 f_18_11 jw_1621 rfl rfl ?_
    refine s_17 1 128 108 384 jsp_1_128 rfl ?_
    refine s_29 109 rfl rfl ?_
    refine s_104 110 rfl ?_
    refine s_16 32 112 32 jbp_32 rfl ?_
    refine s_21 4 114 rfl rfl ?_
    refine s_104 115 rfl ?_
    refine s_96 116 rfl ?_
    refine s_21 5 118 rfl rfl ?_
    refine s_96 119 rfl ?_
    refine s_51B 120 rfl ?_
    refine s_84B 121 rfl (fun h4 => ?_)
    refine s_132L 5 1 124 1 ji_1 rfl rfl rfl (fun x5 => ?_)
    refine s_167 255 220 88 rfl rfl ?_
    exact s_jmp (hk88 _ _ _ _ _ _ _) ⟨rfl, rfl, rfl, rfl, rfl, rfl, trivial⟩
theorem w_18_need_88 (l : Launch) (k48 : Nat → Int32 → Int32 → Int32 → Int32 → jH → Option (Unit × jH)) (hk48 : ∀ a0 a1 a2 a3 a4 H, JV l mi_18_need jeV 48 [(0, .ref a0), (1, .int a1), (2, .int a2), (3, .int a3), (4, .int a4)] [] H (k48 a0 a1 a2 a3 a4 H)) (n : Nat) : ∀ a0 a1 a2 a3 a4 a5 H, JV l mi_18_need jeV 88 [(0, .ref a0), (1, .int a1), (2, .int a2), (3, .int a3), (4, .int a4), (5, .int a5)] [] H (F_18_need_88 k48 n a0 a1 a2 a3 a4 a5 H) := by
  induction n with
  | zero => intro _ _ _ _ _ _ _; exact s_none
  | succ n ih => intro a0 a1 a2 a3 a4 a5 H; exact v_18_need_88 l k48 hk48 (F_18_need_88 k48 n) ih a0 a1 a2 a3 a4 a5 H
theorem v_18_need_48 (l : Launch) (k21 : Nat → Int32 → Int32 → jH → Option (Unit × jH)) (hk21 : ∀ a0 a1 a2 H, JV l mi_18_need jeV 21 [(0, .ref a0), (1, .int a1), (2, .int a2)] [] H (k21 a0 a1 a2 H)) (k48 : Nat → Int32 → Int32 → Int32 → Int32 → jH → Option (Unit × jH)) (hk48 : ∀ a0 a1 a2 a3 a4 H, JV l mi_18_need jeV 48 [(0, .ref a0), (1, .int a1), (2, .int a2), (3, .int a3), (4, .int a4)] [] H (k48 a0 a1 a2 a3 a4 H)) (a0 : Nat) (a1 : Int32) (a2 : Int32) (a3 : Int32) (a4 : Int32) (H : jH) : JV l mi_18_need jeV 48 [(0, .ref a0), (1, .int a1), (2, .int a2), (3, .int a3), (4, .int a4)] [] H (B_18_need_48 k21 k48 a0 a1 a2 a3 a4 H) := by
  unfold B_18_need_48
  refine s_21 4 50 rfl rfl ?_
  refine s_42 51 rfl rfl ?_
  refine s_180I 0 232 54 232 f_18_14 jw_1624 rfl rfl ?_
  refine s_162 0 94 148 57 rfl rfl ?_ ?_
  · refine s_132L 2 1 151 1 ji_1 rfl rfl rfl (fun x6 => ?_)
    refine s_167 255 126 21 rfl rfl ?_
    exact s_jmp (hk21 _ _ _ _) ⟨rfl, rfl, rfl, trivial⟩
  · refine s_42 58 rfl rfl ?_
    refine s_180R 0 47 61 47 f_18_4 jw_1614 rfl rfl ?_
    refine s_42 62 rfl rfl ?_
    refine s_180R 0 55 65 55 f_18_6 jw_1616 rfl rfl ?_
    refine s_42 66 rfl rfl ?_
    refine s_180R 0 79 69 79 f_18_15 jw_1625 rfl rfl ?_
    refine s_21 4 71 rfl rfl ?_
    refine s_46 72 rfl ?_
    refine s_42 73 rfl rfl ?_
    refine s_180R 0 79 76 79 f_18_15 jw_1625 rfl rfl ?_
    refine s_21 4 78 rfl rfl ?_
    refine s_4 79 rfl ?_
    refine s_96 80 rfl ?_
    refine s_46 81 rfl ?_
    refine s_182I 0 235 84 235 (m_17_read l _ _ _ _ _) rfl k_17_read jc_17 jw_1846 jw_1847 jw_1848 rfl rfl rfl rfl rfl (fun x7 h8 => ?_)
    refine s_87 85 rfl rfl ?_
    refine s_3 86 rfl ?_
    refine s_54 5 88 rfl rfl ?_
    exact s_jmp (w_18_need_88 l k48 hk48 jfuel _ _ _ _ _ _ _) ⟨rfl, rfl, rfl, rfl, rfl, rfl, trivial⟩
theorem w_18_need_48 (l : Launch) (k21 : Nat → Int32 → Int32 → jH → Option (Unit × jH)) (hk21 : ∀ a0 a1 a2 H, JV l mi_18_need jeV 21 [(0, .ref a0), (1, .int a1), (2, .int a2)] [] H (k21 a0 a1 a2 H)) (n : Nat) : ∀ a0 a1 a2 a3 a4 H, JV l mi_18_need jeV 48 [(0, .ref a0), (1, .int a1), (2, .int a2), (3, .int a3), (4, .int a4)] [] H (F_18_need_48 k21 n a0 a1 a2 a3 a4 H) := by
  induction n with
  | zero => intro _ _ _ _ _ _; exact s_none
  | succ n ih => intro a0 a1 a2 a3 a4 H; exact v_18_need_48 l k21 hk21 (F_18_need_48 k21 n) ih a0 a1 a2 a3 a4 H
theorem v_18_need_21 (l : Launch) (k21 : Nat → Int32 → Int32 → jH → Option (Unit × jH)) (hk21 : ∀ a0 a1 a2 H, JV l mi_18_need jeV 21 [(0, .ref a0), (1, .int a1), (2, .int a2)] [] H (k21 a0 a1 a2 H)) (a0 : Nat) (a1 : Int32) (a2 : Int32) (H : jH) : JV l mi_18_need jeV 21 [(0, .ref a0), (1, .int a1), (2, .int a2)] [] H (B_18_need_21 k21 a0 a1 a2 H) := by
  unfold B_18_need_21
  refine s_28 22 rfl rfl ?_
  refine s_42 23 rfl rfl ?_
  refine s_27 24 rfl rfl ?_
  refine s_182I 0 250 27 250 (m_18_height l _ _ _) rfl k_18_height jc_18 jw_1821 jw_1823 jps_58 rfl rfl rfl rfl rfl (fun x9 h10 => ?_)
  refine s_163 0 127 154 30 rfl rfl ?_ ?_
  · refine s_42 155 rfl rfl ?_
    refine s_27 156 rfl rfl ?_
    refine s_181I 0 247 159 247 f_18_16 rfl rfl jw_1626 rfl rfl (fun h11 => ?_)
    exact s_177 rfl rfl
  · refine s_42 31 rfl rfl ?_
    refine s_180R 0 40 34 40 f_18_3 jw_1613 rfl rfl ?_
    refine s_27 35 rfl rfl ?_
    refine s_28 36 rfl rfl ?_
    refine s_182I 0 254 39 254 (m_16_below l _ _ _ _) rfl k_16_below jc_16 jw_1834 jw_1835 jw_1836 rfl rfl rfl rfl rfl (fun x12 h13 => ?_)
    refine s_62 40 rfl rfl ?_
    refine s_42 41 rfl rfl ?_
    refine s_29 42 rfl rfl ?_
    refine s_182V 1 2 45 258 (m_18_openBlock l _ _ _) rfl k_18_openBlock jc_18 jw_1838 jw_1840 jps_60 rfl rfl rfl rfl rfl (fun x14 h15 => ?_)
    refine s_3 46 rfl ?_
    refine s_54 4 48 rfl rfl ?_
    exact s_jmp (w_18_need_48 l k21 hk21 jfuel _ _ _ _ _ _) ⟨rfl, rfl, rfl, rfl, rfl, trivial⟩
theorem w_18_need_21 (l : Launch)  (n : Nat) : ∀ a0 a1 a2 H, JV l mi_18_need jeV 21 [(0, .ref a0), (1, .int a1), (2, .int a2)] [] H (F_18_need_21  n a0 a1 a2 H) := by
  induction n with
  | zero => intro _ _ _ _; exact s_none
  | succ n ih => intro a0 a1 a2 H; exact v_18_need_21 l (F_18_need_21  n) ih a0 a1 a2 H
theorem v_18_need (l : Launch) (a0 : Nat) (a1 : Int32) (H : jH) : JV l mi_18_need jeV 0 [(0, .ref a0), (1, .int a1)] [] H (F_18_need a0 a1 H) := by
  unfold F_18_need
  refine s_42 1 rfl rfl ?_
  refine s_180I 0 247 4 247 f_18_16 jw_1626 rfl rfl ?_
  refine s_27 5 rfl rfl ?_
  refine s_160 0 4 9 8 rfl rfl ?_ ?_
  · refine s_42 10 rfl rfl ?_
    refine s_3 11 rfl ?_
    refine s_181I 0 183 14 183 f_18_17 rfl rfl jw_1627 rfl rfl (fun h16 => ?_)
    refine s_42 15 rfl rfl ?_
    refine s_3 16 rfl ?_
    refine s_181I 0 191 19 191 f_18_18 rfl rfl jw_1628 rfl rfl (fun h17 => ?_)
    refine s_4 20 rfl ?_
    refine s_61 21 rfl rfl ?_
    exact s_jmp (w_18_need_21 l jfuel _ _ _ _) ⟨rfl, rfl, rfl, trivial⟩
  · exact s_177 rfl rfl
theorem m_18_need (l : Launch) (a0 : Nat) (a1 : Int32) (H : jH) : JMet l y_18_need prog_14_method_11_code mi_18_need jeV [.ref a0, .int a1] H (F_18_need a0 a1 H) := jmet_of n_18_need (by decide) ⟨rfl, rfl⟩ (Nat.le_of_ble_eq_true rfl) (v_18_need l a0 a1 H)
def mi_14_clear : jM := (194802548540202, 6, 1, "CoinNodeModel$Scripts", none, "clear", 0, 0)
def y_14_clear : MethodName := ⟨"CoinNodeModel$Scripts", "clear", "()V"⟩
theorem n_14_clear : jn_is prog_18_method_33_code mi_14_clear.1 mi_14_clear.2.1 := by unfold jn_is; decide +kernel
theorem k_14_clear : jmok y_14_clear prog_18_method_33_code mi_14_clear 0 := ⟨jw_1942, jw_18, ⟨by decide, by decide⟩, by decide +kernel⟩
theorem v_14_clear (l : Launch) (a0 : Nat) (H : jH) : JV l mi_14_clear jeV 0 [(0, .ref a0)] [] H (F_14_clear a0 H) := by
  unfold F_14_clear
  refine s_42 1 rfl rfl ?_
  refine s_3 2 rfl ?_
  refine s_181I 0 44 5 44 f_14_2 rfl rfl jw_1392 rfl rfl (fun h1 => ?_)
  exact s_177 rfl rfl
theorem m_14_clear (l : Launch) (a0 : Nat) (H : jH) : JMet l y_14_clear prog_18_method_33_code mi_14_clear jeV [.ref a0] H (F_14_clear a0 H) := jmet_of n_14_clear (by decide) ⟨rfl, rfl⟩ (Nat.le_of_ble_eq_true rfl) (v_14_clear l a0 H)
def mi_14_isTrueRow : jM := (2537287503930653997054543468234191634039756052613524724451215417308528892680886226006310844606759369379988136487360096964130067065258508294487458621450400487039056428291, 70, 5, "CoinNodeModel$Scripts", some FieldType.boolean, "isTrueRow", 0, 0)
def y_14_isTrueRow : MethodName := ⟨"CoinNodeModel$Scripts", "isTrueRow", "(I)Z"⟩
theorem n_14_isTrueRow : jn_is prog_18_method_8_code mi_14_isTrueRow.1 mi_14_isTrueRow.2.1 := by unfold jn_is; decide +kernel
theorem k_14_isTrueRow : jmok y_14_isTrueRow prog_18_method_8_code mi_14_isTrueRow 1 := ⟨jw_1978, jw_18, ⟨by decide, by decide⟩, by decide +kernel⟩
theorem v_14_isTrueRow_61 (l : Launch) (k4 : Nat → Int32 → Int32 → Int32 → jH → Option (Int32 × jH)) (hk4 : ∀ a0 a1 a2 a3 H, JV l mi_14_isTrueRow jeI 4 [(0, .ref a0), (1, .int a1), (2, .int a2), (3, .int a3)] [] H (k4 a0 a1 a2 a3 H)) (a0 : Nat) (a1 : Int32) (a3 : Int32) (s0 : Int32) (H : jH) : JV l mi_14_isTrueRow jeI 61 [(0, .ref a0), (1, .int a1), (3, .int a3)] [.int s0] H (B_14_isTrueRow_61 k4 a0 a1 a3 s0 H) := by
  unfold B_14_isTrueRow_61
  refine s_61 62 rfl rfl ?_
  refine s_132L 3 1 65 1 ji_1 rfl rfl rfl (fun x1 => ?_)
  refine s_167 255 195 4 rfl rfl ?_
  exact s_jmp (hk4 _ _ _ _ _) ⟨rfl, rfl, rfl, rfl, trivial⟩
theorem v_14_isTrueRow_56 (l : Launch) (k4 : Nat → Int32 → Int32 → Int32 → jH → Option (Int32 × jH)) (hk4 : ∀ a0 a1 a2 a3 H, JV l mi_14_isTrueRow jeI 4 [(0, .ref a0), (1, .int a1), (2, .int a2), (3, .int a3)] [] H (k4 a0 a1 a2 a3 H)) (a0 : Nat) (a1 : Int32) (a3 : Int32) (H : jH) : JV l mi_14_isTrueRow jeI 56 [(0, .ref a0), (1, .int a1), (3, .int a3)] [] H (B_14_isTrueRow_56 k4 a0 a1 a3 H) := by
  unfold B_14_isTrueRow_56
  refine s_4 57 rfl ?_
  refine s_167 0 4 61 rfl rfl ?_
  exact s_jmp (v_14_isTrueRow_61 l k4 hk4 _ _ _ _ _) ⟨rfl, rfl, rfl, trivial⟩
theorem v_14_isTrueRow_60 (l : Launch) (k4 : Nat → Int32 → Int32 → Int32 → jH → Option (Int32 × jH)) (hk4 : ∀ a0 a1 a2 a3 H, JV l mi_14_isTrueRow jeI 4 [(0, .ref a0), (1, .int a1), (2, .int a2), (3, .int a3)] [] H (k4 a0 a1 a2 a3 H)) (a0 : Nat) (a1 : Int32) (a3 : Int32) (H : jH) : JV l mi_14_isTrueRow jeI 60 [(0, .ref a0), (1, .int a1), (3, .int a3)] [] H (B_14_isTrueRow_60 k4 a0 a1 a3 H) := by
  unfold B_14_isTrueRow_60
  refine s_3 61 rfl ?_
  exact s_jmp (v_14_isTrueRow_61 l k4 hk4 _ _ _ _ _) ⟨rfl, rfl, rfl, trivial⟩
theorem v_14_isTrueRow_4 (l : Launch) (k4 : Nat → Int32 → Int32 → Int32 → jH → Option (Int32 × jH)) (hk4 : ∀ a0 a1 a2 a3 H, JV l mi_14_isTrueRow jeI 4 [(0, .ref a0), (1, .int a1), (2, .int a2), (3, .int a3)] [] H (k4 a0 a1 a2 a3 H)) (a0 : Nat) (a1 : Int32) (a2 : Int32) (a3 : Int32) (H : jH) : JV l mi_14_isTrueRow jeI 4 [(0, .ref a0), (1, .int a1), (2, .int a2), (3, .int a3)] [] H (B_14_isTrueRow_4 k4 a0 a1 a2 a3 H) := by
  unfold B_14_isTrueRow_4
  refine s_29 5 rfl rfl ?_
  refine s_42 6 rfl rfl ?_
  refine s_180R 0 13 9 13 f_14_1 jw_1391 rfl rfl ?_
  refine s_27 10 rfl rfl ?_
  refine s_46 11 rfl ?_
  refine s_162 0 57 68 14 rfl rfl ?_ ?_
  · refine s_28 69 rfl rfl ?_
    exact s_172Z rfl rfl
  · refine s_42 15 rfl rfl ?_
    refine s_180R 0 7 18 7 f_14_0 jw_1390 rfl rfl ?_
    refine s_16 120 20 120 jbp_120 rfl ?_
    refine s_27 21 rfl rfl ?_
    refine s_104 22 rfl ?_
    refine s_29 23 rfl rfl ?_
    refine s_96 24 rfl ?_
    refine s_46 25 rfl ?_
    refine s_54L 4 27 rfl rfl (fun x2 => ?_)
    refine s_28 28 rfl rfl ?_
    refine s_154 0 28 56 31 rfl rfl ?_ ?_
    · exact s_jmp (v_14_isTrueRow_56 l k4 hk4 _ _ _ _) ⟨rfl, rfl, rfl, trivial⟩
    · refine s_21 4 33 rfl rfl ?_
      refine s_153 0 27 60 36 rfl rfl ?_ ?_
      · exact s_jmp (v_14_isTrueRow_60 l k4 hk4 _ _ _ _) ⟨rfl, rfl, rfl, trivial⟩
      · refine s_29 37 rfl rfl ?_
        refine s_42 38 rfl rfl ?_
        refine s_180R 0 13 41 13 f_14_1 jw_1391 rfl rfl ?_
        refine s_27 42 rfl rfl ?_
        refine s_46 43 rfl ?_
        refine s_4 44 rfl ?_
        refine s_100 45 rfl ?_
        refine s_161 0 11 56 48 rfl rfl ?_ ?_
        · exact s_jmp (v_14_isTrueRow_56 l k4 hk4 _ _ _ _) ⟨rfl, rfl, rfl, trivial⟩
        · refine s_21 4 50 rfl rfl ?_
          refine s_17 0 128 53 128 jsp_0_128 rfl ?_
          refine s_159 0 7 60 56 rfl rfl ?_ ?_
          · exact s_jmp (v_14_isTrueRow_60 l k4 hk4 _ _ _ _) ⟨rfl, rfl, rfl, trivial⟩
          · exact s_jmp (v_14_isTrueRow_56 l k4 hk4 _ _ _ _) ⟨rfl, rfl, rfl, trivial⟩
theorem w_14_isTrueRow_4 (l : Launch)  (n : Nat) : ∀ a0 a1 a2 a3 H, JV l mi_14_isTrueRow jeI 4 [(0, .ref a0), (1, .int a1), (2, .int a2), (3, .int a3)] [] H (F_14_isTrueRow_4  n a0 a1 a2 a3 H) := by
  induction n with
  | zero => intro _ _ _ _ _; exact s_none
  | succ n ih => intro a0 a1 a2 a3 H; exact v_14_isTrueRow_4 l (F_14_isTrueRow_4  n) ih a0 a1 a2 a3 H
theorem v_14_isTrueRow (l : Launch) (a0 : Nat) (a1 : Int32) (H : jH) : JV l mi_14_isTrueRow jeI 0 [(0, .ref a0), (1, .int a1)] [] H (F_14_isTrueRow a0 a1 H) := by
  unfold F_14_isTrueRow
  refine s_3 1 rfl ?_
  refine s_61 2 rfl rfl ?_
  refine s_3 3 rfl ?_
  refine s_62 4 rfl rfl ?_
  exact s_jmp (w_14_isTrueRow_4 l jfuel _ _ _ _ _) ⟨rfl, rfl, rfl, rfl, trivial⟩
theorem m_14_isTrueRow (l : Launch) (a0 : Nat) (a1 : Int32) (H : jH) : JMet l y_14_isTrueRow prog_18_method_8_code mi_14_isTrueRow jeI [.ref a0, .int a1] H (F_14_isTrueRow a0 a1 H) := jmet_of n_14_isTrueRow (by decide) ⟨rfl, rfl⟩ (Nat.le_of_ble_eq_true rfl) (v_14_isTrueRow l a0 a1 H)
def mi_14_isTrue : jM := (276412273059955106834405445277224655397181276458297977263404074, 26, 1, "CoinNodeModel$Scripts", some FieldType.boolean, "isTrue", 1, 24)
def y_14_isTrue : MethodName := ⟨"CoinNodeModel$Scripts", "isTrue", "()Z"⟩
theorem n_14_isTrue : jn_is prog_18_method_34_code mi_14_isTrue.1 mi_14_isTrue.2.1 := by unfold jn_is; decide +kernel
theorem k_14_isTrue : jmok y_14_isTrue prog_18_method_34_code mi_14_isTrue 0 := ⟨jw_2263, jw_18, ⟨by decide, by decide⟩, by decide +kernel⟩
theorem v_14_isTrue_25 (l : Launch)  (s0 : Int32) (H : jH) : JV l mi_14_isTrue jeI 25 [] [.int s0] H (B_14_isTrue_25  s0 H) := by
  unfold B_14_isTrue_25
  exact s_172Z rfl rfl
theorem v_14_isTrue_24 (l : Launch)   (H : jH) : JV l mi_14_isTrue jeI 24 [] [] H (B_14_isTrue_24   H) := by
  unfold B_14_isTrue_24
  refine s_3 25 rfl ?_
  exact s_jmp (v_14_isTrue_25 l _ _) trivial
theorem v_14_isTrue (l : Launch) (a0 : Nat) (H : jH) : JV l mi_14_isTrue jeI 0 [(0, .ref a0)] [] H (F_14_isTrue a0 H) := by
  unfold F_14_isTrue
  refine s_42 1 rfl rfl ?_
  refine s_180I 0 44 4 44 f_14_2 jw_1392 rfl rfl ?_
  refine s_158 0 20 24 7 rfl rfl ?_ ?_
  · exact s_jmp (v_14_isTrue_24 l _) trivial
  · refine s_42 8 rfl rfl ?_
    refine s_42 9 rfl rfl ?_
    refine s_180I 0 44 12 44 f_14_2 jw_1392 rfl rfl ?_
    refine s_4 13 rfl ?_
    refine s_100 14 rfl ?_
    refine s_182I 0 76 17 76 (m_14_isTrueRow l _ _ _) rfl k_14_isTrueRow jc_14 jw_1975 jw_1977 jps_80 rfl rfl rfl rfl rfl (fun x1 h2 => ?_)
    refine s_153 0 7 24 20 rfl rfl ?_ ?_
    · exact s_jmp (v_14_isTrue_24 l _) trivial
    · refine s_4 21 rfl ?_
      refine s_167 0 4 25 rfl rfl ?_
      exact s_jmp (v_14_isTrue_25 l _ _) trivial
theorem m_14_isTrue (l : Launch) (a0 : Nat) (H : jH) : JMet l y_14_isTrue prog_18_method_34_code mi_14_isTrue jeI [.ref a0] H (F_14_isTrue a0 H) := jmet_of n_14_isTrue (by decide) ⟨rfl, rfl⟩ (Nat.le_of_ble_eq_true rfl) (v_14_isTrue l a0 H)
def mi_14_load : jM := (22649591480460096769786579568143924109657990664273768757075951593486288360353537258069237034, 38, 5, "CoinNodeModel$Scripts", none, "load", 0, 0)
def y_14_load : MethodName := ⟨"CoinNodeModel$Scripts", "load", "([BII)V"⟩
theorem n_14_load : jn_is prog_18_method_2_code mi_14_load.1 mi_14_load.2.1 := by unfold jn_is; decide +kernel
theorem k_14_load : jmok y_14_load prog_18_method_2_code mi_14_load 3 := ⟨jw_1946, jw_18, ⟨by decide, by decide⟩, by decide +kernel⟩
theorem v_14_load_8 (l : Launch) (k8 : Nat → Nat → Int32 → Int32 → Int32 → jH → Option (Unit × jH)) (hk8 : ∀ a0 a1 a2 a3 a4 H, JV l mi_14_load jeV 8 [(0, .ref a0), (1, .ref a1), (2, .int a2), (3, .int a3), (4, .int a4)] [] H (k8 a0 a1 a2 a3 a4 H)) (a0 : Nat) (a1 : Nat) (a2 : Int32) (a3 : Int32) (a4 : Int32) (H : jH) : JV l mi_14_load jeV 8 [(0, .ref a0), (1, .ref a1), (2, .int a2), (3, .int a3), (4, .int a4)] [] H (B_14_load_8 k8 a0 a1 a2 a3 a4 H) := by
  unfold B_14_load_8
  refine s_21 4 10 rfl rfl ?_
  refine s_29 11 rfl rfl ?_
  refine s_162 0 26 37 14 rfl rfl ?_ ?_
  · exact s_177 rfl rfl
  · refine s_42 15 rfl rfl ?_
    refine s_180R 0 16 18 16 f_14_4 jw_1394 rfl rfl ?_
    refine s_21 4 20 rfl rfl ?_
    refine s_43 21 rfl rfl ?_
    refine s_28 22 rfl rfl ?_
    refine s_21 4 24 rfl rfl ?_
    refine s_96 25 rfl ?_
    refine s_51B 26 rfl ?_
    refine s_17 0 255 29 255 jsp_0_255 rfl ?_
    refine s_126 30 rfl ?_
    refine s_79 31 rfl (fun h1 => ?_)
    refine s_132L 4 1 34 1 ji_1 rfl rfl rfl (fun x2 => ?_)
    refine s_167 255 230 8 rfl rfl ?_
    exact s_jmp (hk8 _ _ _ _ _ _) ⟨rfl, rfl, rfl, rfl, rfl, trivial⟩
theorem w_14_load_8 (l : Launch)  (n : Nat) : ∀ a0 a1 a2 a3 a4 H, JV l mi_14_load jeV 8 [(0, .ref a0), (1, .ref a1), (2, .int a2), (3, .int a3), (4, .int a4)] [] H (F_14_load_8  n a0 a1 a2 a3 a4 H) := by
  induction n with
  | zero => intro _ _ _ _ _ _; exact s_none
  | succ n ih => intro a0 a1 a2 a3 a4 H; exact v_14_load_8 l (F_14_load_8  n) ih a0 a1 a2 a3 a4 H
theorem v_14_load (l : Launch) (a0 : Nat) (a1 : Nat) (a2 : Int32) (a3 : Int32) (H : jH) : JV l mi_14_load jeV 0 [(0, .ref a0), (1, .ref a1), (2, .int a2), (3, .int a3)] [] H (F_14_load a0 a1 a2 a3 H) := by
  unfold F_14_load
  refine s_42 1 rfl rfl ?_
  refine s_29 2 rfl rfl ?_
  refine s_181I 0 40 5 40 f_14_5 rfl rfl jw_1395 rfl rfl (fun h3 => ?_)
  refine s_3 6 rfl ?_
  refine s_54 4 8 rfl rfl ?_
  exact s_jmp (w_14_load_8 l jfuel _ _ _ _ _ _) ⟨rfl, rfl, rfl, rfl, rfl, trivial⟩
theorem m_14_load (l : Launch) (a0 : Nat) (a1 : Nat) (a2 : Int32) (a3 : Int32) (H : jH) : JMet l y_14_load prog_18_method_2_code mi_14_load jeV [.ref a0, .ref a1, .int a2, .int a3] H (F_14_load a0 a1 a2 a3 H) := jmet_of n_14_load (by decide) ⟨rfl, rfl⟩ (Nat.le_of_ble_eq_true rfl) (v_14_load l a0 a1 a2 a3 H)
def mi_14_fails : jM := (1011762570579013903921414761040401667614791969322, 20, 2, "CoinNodeModel$Scripts", none, "fails", 0, 0)
def y_14_fails : MethodName := ⟨"CoinNodeModel$Scripts", "fails", "(I)V"⟩
theorem n_14_fails : jn_is prog_18_method_10_code mi_14_fails.1 mi_14_fails.2.1 := by unfold jn_is; decide +kernel
theorem k_14_fails : jmok y_14_fails prog_18_method_10_code mi_14_fails 1 := ⟨jw_1962, jw_18, ⟨by decide, by decide⟩, by decide +kernel⟩
theorem v_14_fails_16 (l : Launch)  (s0 : Nat) (s1 : Int32) (H : jH) : JV l mi_14_fails jeV 16 [] [.int s1, .ref s0] H (B_14_fails_16  s0 s1 H) := by
  unfold B_14_fails_16
  refine s_181I 0 57 19 57 f_14_6 rfl rfl jw_1396 rfl rfl (fun h1 => ?_)
  exact s_177 rfl rfl
theorem v_14_fails (l : Launch) (a0 : Nat) (a1 : Int32) (H : jH) : JV l mi_14_fails jeV 0 [(0, .ref a0), (1, .int a1)] [] H (F_14_fails a0 a1 H) := by
  unfold F_14_fails
  refine s_42 1 rfl rfl ?_
  refine s_42 2 rfl rfl ?_
  refine s_180I 0 57 5 57 f_14_6 jw_1396 rfl rfl ?_
  refine s_154 0 7 12 8 rfl rfl ?_ ?_
  · refine s_42 13 rfl rfl ?_
    refine s_180I 0 57 16 57 f_14_6 jw_1396 rfl rfl ?_
    exact s_jmp (v_14_fails_16 l _ _ _) trivial
  · refine s_27 9 rfl rfl ?_
    refine s_167 0 7 16 rfl rfl ?_
    exact s_jmp (v_14_fails_16 l _ _ _) trivial
theorem m_14_fails (l : Launch) (a0 : Nat) (a1 : Int32) (H : jH) : JMet l y_14_fails prog_18_method_10_code mi_14_fails jeV [.ref a0, .int a1] H (F_14_fails a0 a1 H) := jmet_of n_14_fails (by decide) ⟨rfl, rfl⟩ (Nat.le_of_ble_eq_true rfl) (v_14_fails l a0 a1 H)
def mi_14_has : jM := (70761541903348507349781946181467905551063293960721763084118570026, 27, 2, "CoinNodeModel$Scripts", some FieldType.boolean, "has", 1, 21)
def y_14_has : MethodName := ⟨"CoinNodeModel$Scripts", "has", "(I)Z"⟩
theorem n_14_has : jn_is prog_18_method_11_code mi_14_has.1 mi_14_has.2.1 := by unfold jn_is; decide +kernel
theorem k_14_has : jmok y_14_has prog_18_method_11_code mi_14_has 1 := ⟨jw_1974, jw_18, ⟨by decide, by decide⟩, by decide +kernel⟩
theorem v_14_has_26 (l : Launch)  (s0 : Int32) (H : jH) : JV l mi_14_has jeI 26 [] [.int s0] H (B_14_has_26  s0 H) := by
  unfold B_14_has_26
  exact s_172Z rfl rfl
theorem v_14_has_13 (l : Launch)  (a0 : Nat) (a1 : Int32) (H : jH) : JV l mi_14_has jeI 13 [(0, .ref a0), (1, .int a1)] [] H (B_14_has_13  a0 a1 H) := by
  unfold B_14_has_13
  refine s_42 14 rfl rfl ?_
  refine s_180I 0 44 17 44 f_14_2 jw_1392 rfl rfl ?_
  refine s_27 18 rfl rfl ?_
  refine s_161 0 7 25 21 rfl rfl ?_ ?_
  · refine s_3 26 rfl ?_
    exact s_jmp (v_14_has_26 l _ _) trivial
  · refine s_4 22 rfl ?_
    refine s_167 0 4 26 rfl rfl ?_
    exact s_jmp (v_14_has_26 l _ _) trivial
theorem v_14_has (l : Launch) (a0 : Nat) (a1 : Int32) (H : jH) : JV l mi_14_has jeI 0 [(0, .ref a0), (1, .int a1)] [] H (F_14_has a0 a1 H) := by
  unfold F_14_has
  refine s_42 1 rfl rfl ?_
  refine s_180I 0 44 4 44 f_14_2 jw_1392 rfl rfl ?_
  refine s_27 5 rfl rfl ?_
  refine s_162 0 8 13 8 rfl rfl ?_ ?_
  · exact s_jmp (v_14_has_13 l _ _ _) ⟨rfl, rfl, trivial⟩
  · refine s_42 9 rfl rfl ?_
    refine s_8 10 rfl ?_
    refine s_182V 0 60 13 60 (m_14_fails l _ _ _) rfl k_14_fails jc_14 jw_1959 jw_1961 jps_76 rfl rfl rfl rfl rfl (fun x1 h2 => ?_)
    exact s_jmp (v_14_has_13 l _ _ _) ⟨rfl, rfl, trivial⟩
theorem m_14_has (l : Launch) (a0 : Nat) (a1 : Int32) (H : jH) : JMet l y_14_has prog_18_method_11_code mi_14_has jeI [.ref a0, .int a1] H (F_14_has a0 a1 H) := jmet_of n_14_has (by decide) ⟨rfl, rfl⟩ (Nat.le_of_ble_eq_true rfl) (v_14_has l a0 a1 H)
def mi_14_isDone : jM := (18114954727257217881537956522564641232812619046858219757826801185834, 28, 1, "CoinNodeModel$Scripts", some FieldType.boolean, "isDone", 0, 0)
def y_14_isDone : MethodName := ⟨"CoinNodeModel$Scripts", "isDone", "()Z"⟩
theorem n_14_isDone : jn_is prog_18_method_18_code mi_14_isDone.1 mi_14_isDone.2.1 := by unfold jn_is; decide +kernel
theorem k_14_isDone : jmok y_14_isDone prog_18_method_18_code mi_14_isDone 0 := ⟨jw_1958, jw_18, ⟨by decide, by decide⟩, by decide +kernel⟩
theorem v_14_isDone_27 (l : Launch)  (s0 : Int32) (H : jH) : JV l mi_14_isDone jeI 27 [] [.int s0] H (B_14_isDone_27  s0 H) := by
  unfold B_14_isDone_27
  exact s_172Z rfl rfl
theorem v_14_isDone_22 (l : Launch)   (H : jH) : JV l mi_14_isDone jeI 22 [] [] H (B_14_isDone_22   H) := by
  unfold B_14_isDone_22
  refine s_4 23 rfl ?_
  refine s_167 0 4 27 rfl rfl ?_
  exact s_jmp (v_14_isDone_27 l _ _) trivial
theorem v_14_isDone (l : Launch) (a0 : Nat) (H : jH) : JV l mi_14_isDone jeI 0 [(0, .ref a0)] [] H (F_14_isDone a0 H) := by
  unfold F_14_isDone
  refine s_42 1 rfl rfl ?_
  refine s_180I 0 116 4 116 f_14_9 jw_1400 rfl rfl ?_
  refine s_153 0 18 22 7 rfl rfl ?_ ?_
  · exact s_jmp (v_14_isDone_22 l _) trivial
  · refine s_42 8 rfl rfl ?_
    refine s_180R 0 19 11 19 f_14_10 jw_1401 rfl rfl ?_
    refine s_42 12 rfl rfl ?_
    refine s_180I 0 116 15 116 f_14_9 jw_1400 rfl rfl ?_
    refine s_4 16 rfl ?_
    refine s_100 17 rfl ?_
    refine s_46 18 rfl ?_
    refine s_4 19 rfl ?_
    refine s_160 0 7 26 22 rfl rfl ?_ ?_
    · refine s_3 27 rfl ?_
      exact s_jmp (v_14_isDone_27 l _ _) trivial
    · exact s_jmp (v_14_isDone_22 l _) trivial
theorem m_14_isDone (l : Launch) (a0 : Nat) (H : jH) : JMet l y_14_isDone prog_18_method_18_code mi_14_isDone jeI [.ref a0] H (F_14_isDone a0 H) := jmet_of n_14_isDone (by decide) ⟨rfl, rfl⟩ (Nat.le_of_ble_eq_true rfl) (v_14_isDone l a0 H)
def mi_14_flow : jM := (265954739396008179055046565045283973837480651072412069880048101417298794635732757029069644361563776035235096032576117797853013292183336605833978965308819053328024165526443635591568621617930363334845346052623013987076872674507840142211507856979217095722165800794364270210549268805065466841650553161440785578110756757685599025444373384744057190936388607080395542217472570331957150919678759742125627723157531, 168, 3, "CoinNodeModel$Scripts", none, "flow", 2, 42)
def y_14_flow : MethodName := ⟨"CoinNodeModel$Scripts", "flow", "(I)V"⟩
theorem n_14_flow : jn_is prog_18_method_19_code mi_14_flow.1 mi_14_flow.2.1 := by unfold jn_is; decide +kernel
theorem k_14_flow : jmok y_14_flow prog_18_method_19_code mi_14_flow 1 := ⟨jw_1970, jw_18, ⟨by decide, by decide⟩, by decide +kernel⟩
theorem v_14_flow_86 (l : Launch)  (a0 : Nat) (H : jH) : JV l mi_14_flow jeV 86 [(0, .ref a0)] [] H (B_14_flow_86  a0 H) := by
  unfold B_14_flow_86
  refine s_42 87 rfl rfl ?_
  refine s_89 88 rfl rfl ?_
  refine s_180I 0 116 91 116 f_14_9 jw_1400 rfl rfl ?_
  refine s_4 92 rfl ?_
  refine s_96 93 rfl ?_
  refine s_181I 0 116 96 116 f_14_9 rfl rfl jw_1400 rfl rfl (fun h1 => ?_)
  exact s_177 rfl rfl
theorem v_14_flow_85 (l : Launch)  (a0 : Nat) (s0 : Nat) (s1 : Int32) (s2 : Int32) (H : jH) : JV l mi_14_flow jeV 85 [(0, .ref a0)] [.int s2, .int s1, .ref s0] H (B_14_flow_85  a0 s0 s1 s2 H) := by
  unfold B_14_flow_85
  refine s_79 86 rfl (fun h2 => ?_)
  exact s_jmp (v_14_flow_86 l _ _) ⟨rfl, trivial⟩
theorem v_14_flow_77 (l : Launch)  (a0 : Nat) (s0 : Nat) (s1 : Int32) (s2 : Int32) (s3 : Int32) (H : jH) : JV l mi_14_flow jeV 77 [(0, .ref a0)] [.int s3, .int s2, .int s1, .ref s0] H (B_14_flow_77  a0 s0 s1 s2 s3 H) := by
  unfold B_14_flow_77
  refine s_160 0 7 84 80 rfl rfl ?_ ?_
  · refine s_5 85 rfl ?_
    exact s_jmp (v_14_flow_85 l _ _ _ _ _) ⟨rfl, trivial⟩
  · refine s_4 81 rfl ?_
    refine s_167 0 4 85 rfl rfl ?_
    exact s_jmp (v_14_flow_85 l _ _ _ _ _) ⟨rfl, trivial⟩
theorem v_14_flow_12 (l : Launch)  (a0 : Nat) (a1 : Int32) (H : jH) : JV l mi_14_flow jeV 12 [(0, .ref a0), (1, .int a1)] [] H (B_14_flow_12  a0 a1 H) := by
  unfold B_14_flow_12
  refine s_42 13 rfl rfl ?_
  refine s_182I 0 119 16 119 (m_14_isDone l _ _) rfl k_14_isDone jc_14 jw_1955 jw_1957 jps_75 rfl rfl rfl rfl rfl (fun x3 h4 => ?_)
  refine s_154 0 16 32 19 rfl rfl ?_ ?_
  · refine s_42 33 rfl rfl ?_
    refine s_4 34 rfl ?_
    refine s_182I 0 64 37 64 (m_14_has l _ _ _) rfl k_14_has jc_14 jw_1971 jw_1973 jps_79 rfl rfl rfl rfl rfl (fun x5 h6 => ?_)
    refine s_153 0 49 86 40 rfl rfl ?_ ?_
    · exact s_jmp (v_14_flow_86 l _ _) ⟨rfl, trivial⟩
    · refine s_42 41 rfl rfl ?_
      refine s_89 42 rfl rfl ?_
      refine s_180I 0 44 45 44 f_14_2 jw_1392 rfl rfl ?_
      refine s_4 46 rfl ?_
      refine s_100 47 rfl ?_
      refine s_181I 0 44 50 44 f_14_2 rfl rfl jw_1392 rfl rfl (fun h7 => ?_)
      refine s_42 51 rfl rfl ?_
      refine s_180R 0 19 54 19 f_14_10 jw_1401 rfl rfl ?_
      refine s_42 55 rfl rfl ?_
      refine s_180I 0 116 58 116 f_14_9 jw_1400 rfl rfl ?_
      refine s_42 59 rfl rfl ?_
      refine s_42 60 rfl rfl ?_
      refine s_180I 0 44 63 44 f_14_2 jw_1392 rfl rfl ?_
      refine s_182I 0 76 66 76 (m_14_isTrueRow l _ _ _) rfl k_14_isTrueRow jc_14 jw_1975 jw_1977 jps_80 rfl rfl rfl rfl rfl (fun x8 h9 => ?_)
      refine s_27 67 rfl rfl ?_
      refine s_16 99 69 99 jbp_99 rfl ?_
      refine s_160 0 7 76 72 rfl rfl ?_ ?_
      · refine s_3 77 rfl ?_
        exact s_jmp (v_14_flow_77 l _ _ _ _ _ _) ⟨rfl, trivial⟩
      · refine s_4 73 rfl ?_
        refine s_167 0 4 77 rfl rfl ?_
        exact s_jmp (v_14_flow_77 l _ _ _ _ _ _) ⟨rfl, trivial⟩
  · refine s_42 20 rfl rfl ?_
    refine s_180R 0 19 23 19 f_14_10 jw_1401 rfl rfl ?_
    refine s_42 24 rfl rfl ?_
    refine s_180I 0 116 27 116 f_14_9 jw_1400 rfl rfl ?_
    refine s_6 28 rfl ?_
    refine s_79 29 rfl (fun h10 => ?_)
    refine s_167 0 57 86 rfl rfl ?_
    exact s_jmp (v_14_flow_86 l _ _) ⟨rfl, trivial⟩
theorem v_14_flow_167 (l : Launch)   (H : jH) : JV l mi_14_flow jeV 167 [] [] H (B_14_flow_167   H) := by
  unfold B_14_flow_167
  exact s_177 rfl rfl
theorem v_14_flow_166 (l : Launch)  (s0 : Nat) (s1 : Int32) (s2 : Int32) (H : jH) : JV l mi_14_flow jeV 166 [] [.int s2, .int s1, .ref s0] H (B_14_flow_166  s0 s1 s2 H) := by
  unfold B_14_flow_166
  refine s_79 167 rfl (fun h11 => ?_)
  exact s_jmp (v_14_flow_167 l _) trivial
theorem v_14_flow (l : Launch) (a0 : Nat) (a1 : Int32) (H : jH) : JV l mi_14_flow jeV 0 [(0, .ref a0), (1, .int a1)] [] H (F_14_flow a0 a1 H) := by
  unfold F_14_flow
  refine s_27 1 rfl rfl ?_
  refine s_16 99 3 99 jbp_99 rfl ?_
  refine s_159 0 9 12 6 rfl rfl ?_ ?_
  · exact s_jmp (v_14_flow_12 l _ _ _) ⟨rfl, rfl, trivial⟩
  · refine s_27 7 rfl rfl ?_
    refine s_16 100 9 100 jbp_100 rfl ?_
    refine s_160 0 88 97 12 rfl rfl ?_ ?_
    · refine s_42 98 rfl rfl ?_
      refine s_180I 0 116 101 116 f_14_9 jw_1400 rfl rfl ?_
      refine s_154 0 12 113 104 rfl rfl ?_ ?_
      · refine s_27 114 rfl rfl ?_
        refine s_16 104 116 104 jbp_104 rfl ?_
        refine s_160 0 16 132 119 rfl rfl ?_ ?_
        · refine s_42 133 rfl rfl ?_
          refine s_180R 0 19 136 19 f_14_10 jw_1401 rfl rfl ?_
          refine s_42 137 rfl rfl ?_
          refine s_180I 0 116 140 116 f_14_9 jw_1400 rfl rfl ?_
          refine s_4 141 rfl ?_
          refine s_100 142 rfl ?_
          refine s_46 143 rfl ?_
          refine s_61L 144 rfl rfl (fun x12 => ?_)
          refine s_42 145 rfl rfl ?_
          refine s_180R 0 19 148 19 f_14_10 jw_1401 rfl rfl ?_
          refine s_42 149 rfl rfl ?_
          refine s_180I 0 116 152 116 f_14_9 jw_1400 rfl rfl ?_
          refine s_4 153 rfl ?_
          refine s_100 154 rfl ?_
          refine s_28 155 rfl rfl ?_
          refine s_6 156 rfl ?_
          refine s_160 0 7 163 159 rfl rfl ?_ ?_
          · refine s_6 164 rfl ?_
            refine s_28 165 rfl rfl ?_
            refine s_100 166 rfl ?_
            exact s_jmp (v_14_flow_166 l _ _ _ _) trivial
          · refine s_6 160 rfl ?_
            refine s_167 0 6 166 rfl rfl ?_
            exact s_jmp (v_14_flow_166 l _ _ _ _) trivial
        · refine s_42 120 rfl rfl ?_
          refine s_89 121 rfl rfl ?_
          refine s_180I 0 116 124 116 f_14_9 jw_1400 rfl rfl ?_
          refine s_4 125 rfl ?_
          refine s_100 126 rfl ?_
          refine s_181I 0 116 129 116 f_14_9 rfl rfl jw_1400 rfl rfl (fun h13 => ?_)
          refine s_167 0 38 167 rfl rfl ?_
          exact s_jmp (v_14_flow_167 l _) trivial
      · refine s_42 105 rfl rfl ?_
        refine s_16 10 107 10 jbp_10 rfl ?_
        refine s_182V 0 60 110 60 (m_14_fails l _ _ _) rfl k_14_fails jc_14 jw_1959 jw_1961 jps_76 rfl rfl rfl rfl rfl (fun x14 h15 => ?_)
        refine s_167 0 57 167 rfl rfl ?_
        exact s_jmp (v_14_flow_167 l _) trivial
    · exact s_jmp (v_14_flow_12 l _ _ _) ⟨rfl, rfl, trivial⟩
theorem m_14_flow (l : Launch) (a0 : Nat) (a1 : Int32) (H : jH) : JMet l y_14_flow prog_18_method_19_code mi_14_flow jeV [.ref a0, .int a1] H (F_14_flow a0 a1 H) := jmet_of n_14_flow (by decide) ⟨rfl, rfl⟩ (Nat.le_of_ble_eq_true rfl) (v_14_flow l a0 a1 H)
def mi_12_mixed : jM := (35293241995816102162661622125747157196334366662875368617516014229700353146603854350487394402841080106162989277769468971406053885178688292790511574489626, 63, 4, "CoinNodeModel$Hashes", some FieldType.int, "mixed", 0, 0)
def y_12_mixed : MethodName := ⟨"CoinNodeModel$Hashes", "mixed", "(IIII)I"⟩
theorem n_12_mixed : jn_is prog_16_method_6_code mi_12_mixed.1 mi_12_mixed.2.1 := by unfold jn_is; decide +kernel
theorem k_12_mixed : jmok y_12_mixed prog_16_method_6_code mi_12_mixed 4 := ⟨jw_2077, jw_15, ⟨by decide, by decide⟩, by decide +kernel⟩
theorem v_12_mixed_62 (l : Launch)  (s0 : Int32) (H : jH) : JV l mi_12_mixed jeI 62 [] [.int s0] H (B_12_mixed_62  s0 H) := by
  unfold B_12_mixed_62
  exact s_172 rfl rfl
theorem v_12_mixed (l : Launch) (a0 : Int32) (a1 : Int32) (a2 : Int32) (a3 : Int32) (H : jH) : JV l mi_12_mixed jeI 0 [(0, .int a0), (1, .int a1), (2, .int a2), (3, .int a3)] [] H (F_12_mixed a0 a1 a2 a3 H) := by
  unfold F_12_mixed
  refine s_26 1 rfl rfl ?_
  refine s_154 0 9 10 4 rfl rfl ?_ ?_
  · refine s_26 11 rfl rfl ?_
    refine s_4 12 rfl ?_
    refine s_160 0 13 25 15 rfl rfl ?_ ?_
    · refine s_26 26 rfl rfl ?_
      refine s_5 27 rfl ?_
      refine s_160 0 11 38 30 rfl rfl ?_ ?_
      · refine s_26 39 rfl rfl ?_
        refine s_6 40 rfl ?_
        refine s_160 0 15 55 43 rfl rfl ?_ ?_
        · refine s_27 56 rfl rfl ?_
          refine s_28 57 rfl rfl ?_
          refine s_29 58 rfl rfl ?_
          refine s_2 59 rfl ?_
          refine s_130 60 rfl ?_
          refine s_128 61 rfl ?_
          refine s_130 62 rfl ?_
          exact s_jmp (v_12_mixed_62 l _ _) trivial
        · refine s_27 44 rfl rfl ?_
          refine s_29 45 rfl rfl ?_
          refine s_126 46 rfl ?_
          refine s_28 47 rfl rfl ?_
          refine s_29 48 rfl rfl ?_
          refine s_2 49 rfl ?_
          refine s_130 50 rfl ?_
          refine s_126 51 rfl ?_
          refine s_128 52 rfl ?_
          refine s_167 0 10 62 rfl rfl ?_
          exact s_jmp (v_12_mixed_62 l _ _) trivial
      · refine s_27 31 rfl rfl ?_
        refine s_28 32 rfl rfl ?_
        refine s_2 33 rfl ?_
        refine s_130 34 rfl ?_
        refine s_128 35 rfl ?_
        refine s_29 36 rfl rfl ?_
        refine s_130 37 rfl ?_
        exact s_172 rfl rfl
    · refine s_27 16 rfl rfl ?_
      refine s_28 17 rfl rfl ?_
      refine s_126 18 rfl ?_
      refine s_27 19 rfl rfl ?_
      refine s_2 20 rfl ?_
      refine s_130 21 rfl ?_
      refine s_29 22 rfl rfl ?_
      refine s_126 23 rfl ?_
      refine s_128 24 rfl ?_
      exact s_172 rfl rfl
  · refine s_27 5 rfl rfl ?_
    refine s_28 6 rfl rfl ?_
    refine s_130 7 rfl ?_
    refine s_29 8 rfl rfl ?_
    refine s_130 9 rfl ?_
    exact s_172 rfl rfl
theorem m_12_mixed (l : Launch) (a0 : Int32) (a1 : Int32) (a2 : Int32) (a3 : Int32) (H : jH) : JMet l y_12_mixed prog_16_method_6_code mi_12_mixed jeI [.int a0, .int a1, .int a2, .int a3] H (F_12_mixed a0 a1 a2 a3 H) := jmet_of n_12_mixed (by decide) ⟨rfl, rfl⟩ (Nat.le_of_ble_eq_true rfl) (v_12_mixed l a0 a1 a2 a3 H)
def mi_12_step : jM := (19835646737475068072419517841395182366052111851118338906930261080541126396829746275974532048765549098311708760446043018255035794730649195546741113730430202106513450165950316159400068667885634821732694826573581677981971813673072476602087239766782293034, 104, 5, "CoinNodeModel$Hashes", none, "step", 1, 21)
def y_12_step : MethodName := ⟨"CoinNodeModel$Hashes", "step", "(III)V"⟩
theorem n_12_step : jn_is prog_16_method_8_code mi_12_step.1 mi_12_step.2.1 := by unfold jn_is; decide +kernel
theorem k_12_step : jmok y_12_step prog_16_method_8_code mi_12_step 3 := ⟨jw_2085, jw_15, ⟨by decide, by decide⟩, by decide +kernel⟩
theorem v_12_step (l : Launch) (a0 : Nat) (a1 : Int32) (a2 : Int32) (a3 : Int32) (H : jH) : JV l mi_12_step jeV 0 [(0, .ref a0), (1, .int a1), (2, .int a2), (3, .int a3)] [] H (F_12_step a0 a1 a2 a3 H) := by
  unfold F_12_step
  refine s_42 1 rfl rfl ?_
  refine s_180R 0 16 4 16 f_12_2 jw_1277 rfl rfl ?_
  refine s_27 5 rfl rfl ?_
  refine s_46 6 rfl ?_
  refine s_28 7 rfl rfl ?_
  refine s_96 8 rfl ?_
  refine s_16 32 10 32 jbp_32 rfl ?_
  refine s_29 11 rfl rfl ?_
  refine s_100 12 rfl ?_
  refine s_184I 0 35 15 35 (m_12_right l _ _ _) rfl k_12_right jw_1605 jw_1606 rfl rfl rfl rfl rfl (fun x1 h2 => ?_)
  refine s_42 16 rfl rfl ?_
  refine s_180R 0 16 19 16 f_12_2 jw_1277 rfl rfl ?_
  refine s_27 20 rfl rfl ?_
  refine s_7 21 rfl ?_
  refine s_96 22 rfl ?_
  refine s_46 23 rfl ?_
  refine s_96 24 rfl ?_
  refine s_54L 4 26 rfl rfl (fun x3 => ?_)
  refine s_42 27 rfl rfl ?_
  refine s_180R 0 16 30 16 f_12_2 jw_1277 rfl rfl ?_
  refine s_27 31 rfl rfl ?_
  refine s_42 32 rfl rfl ?_
  refine s_180R 0 16 35 16 f_12_2 jw_1277 rfl rfl ?_
  refine s_27 36 rfl rfl ?_
  refine s_7 37 rfl ?_
  refine s_96 38 rfl ?_
  refine s_46 39 rfl ?_
  refine s_79 40 rfl (fun h4 => ?_)
  refine s_42 41 rfl rfl ?_
  refine s_180R 0 16 44 16 f_12_2 jw_1277 rfl rfl ?_
  refine s_27 45 rfl rfl ?_
  refine s_7 46 rfl ?_
  refine s_96 47 rfl ?_
  refine s_42 48 rfl rfl ?_
  refine s_180R 0 16 51 16 f_12_2 jw_1277 rfl rfl ?_
  refine s_27 52 rfl rfl ?_
  refine s_6 53 rfl ?_
  refine s_96 54 rfl ?_
  refine s_46 55 rfl ?_
  refine s_79 56 rfl (fun h5 => ?_)
  refine s_42 57 rfl rfl ?_
  refine s_180R 0 16 60 16 f_12_2 jw_1277 rfl rfl ?_
  refine s_27 61 rfl rfl ?_
  refine s_6 62 rfl ?_
  refine s_96 63 rfl ?_
  refine s_42 64 rfl rfl ?_
  refine s_180R 0 16 67 16 f_12_2 jw_1277 rfl rfl ?_
  refine s_27 68 rfl rfl ?_
  refine s_5 69 rfl ?_
  refine s_96 70 rfl ?_
  refine s_46 71 rfl ?_
  refine s_16 22 73 22 jbp_22 rfl ?_
  refine s_184I 0 35 76 35 (m_12_right l _ _ _) rfl k_12_right jw_1605 jw_1606 rfl rfl rfl rfl rfl (fun x6 h7 => ?_)
  refine s_79 77 rfl (fun h8 => ?_)
  refine s_42 78 rfl rfl ?_
  refine s_180R 0 16 81 16 f_12_2 jw_1277 rfl rfl ?_
  refine s_27 82 rfl rfl ?_
  refine s_5 83 rfl ?_
  refine s_96 84 rfl ?_
  refine s_42 85 rfl rfl ?_
  refine s_180R 0 16 88 16 f_12_2 jw_1277 rfl rfl ?_
  refine s_27 89 rfl rfl ?_
  refine s_4 90 rfl ?_
  refine s_96 91 rfl ?_
  refine s_46 92 rfl ?_
  refine s_79 93 rfl (fun h9 => ?_)
  refine s_42 94 rfl rfl ?_
  refine s_180R 0 16 97 16 f_12_2 jw_1277 rfl rfl ?_
  refine s_27 98 rfl rfl ?_
  refine s_4 99 rfl ?_
  refine s_96 100 rfl ?_
  refine s_21 4 102 rfl rfl ?_
  refine s_79 103 rfl (fun h10 => ?_)
  exact s_177 rfl rfl
theorem m_12_step (l : Launch) (a0 : Nat) (a1 : Int32) (a2 : Int32) (a3 : Int32) (H : jH) : JMet l y_12_step prog_16_method_8_code mi_12_step jeV [.ref a0, .int a1, .int a2, .int a3] H (F_12_step a0 a1 a2 a3 H) := jmet_of n_12_step (by decide) ⟨rfl, rfl⟩ (Nat.le_of_ble_eq_true rfl) (v_12_step l a0 a1 a2 a3 H)
def mi_12_small : jM := (527407885531014019466628551995296557827931994254800621730854883159229676885064901342729781048371476348373387584284185541649764532089837905507081046102408169297002888948495128830924029448493636965786469126132064194244231667974377528900083094297381943322120700226210622997731838118133259278178033426937889373830836548073884771289065032227227457078081234712037648377576214191199877073409907673666206306063960028517492738481556162382948603835058207852098226572614491338796155988811430224282459228728733749987936823945115989007999521108755138172411786271426717355846297771658825811182287301184088416023503071660594936828330694648210223567794272940355599357902236173872810742710026223465932654847084849896741790896633815411924873407486324478356989548198885970384593589816585863778482479460370720789605398046565370623979248271439220350327510567860347715284545563100056236071966039365088861428572033645939188543647393593510834906751228261335381920013267151979904850162594131976185939288095435419775618091189166081217363316230686812835457005896522434696393971846516737103659459018042243070885316198474651825874447520443336371560803214812024303478789736887578238751319863259775516987438825986486037727001635028274155917003324391275571292935427463940639152046966625691749103921012162220870075307720751372340005738676188821155463949892155491351353580050525734224722139792896209962, 568, 11, "CoinNodeModel$Hashes", none, "small", 2, 45)
def y_12_small : MethodName := ⟨"CoinNodeModel$Hashes", "small", "([BII[BI)V"⟩
theorem n_12_small : jn_is prog_16_method_7_code mi_12_small.1 mi_12_small.2.1 := by unfold jn_is; decide +kernel
theorem k_12_small : jmok y_12_small prog_16_method_7_code mi_12_small 5 := ⟨jw_2061, jw_15, ⟨by decide, by decide⟩, by decide +kernel⟩
theorem v_12_small_76 (l : Launch) (k58 : Nat → Nat → Int32 → Int32 → Nat → Int32 → Int32 → Int32 → jH → Option (Unit × jH)) (hk58 : ∀ a0 a1 a2 a3 a4 a5 a6 a7 H, JV l mi_12_small jeV 58 [(0, .ref a0), (1, .ref a1), (2, .int a2), (3, .int a3), (4, .ref a4), (5, .int a5), (6, .int a6), (7, .int a7)] [] H (k58 a0 a1 a2 a3 a4 a5 a6 a7 H)) (k76 : Nat → Nat → Int32 → Int32 → Nat → Int32 → Int32 → Int32 → Int32 → jH → Option (Unit × jH)) (hk76 : ∀ a0 a1 a2 a3 a4 a5 a6 a7 a8 H, JV l mi_12_small jeV 76 [(0, .ref a0), (1, .ref a1), (2, .int a2), (3, .int a3), (4, .ref a4), (5, .int a5), (6, .int a6), (7, .int a7), (8, .int a8)] [] H (k76 a0 a1 a2 a3 a4 a5 a6 a7 a8 H)) (a0 : Nat) (a1 : Nat) (a2 : Int32) (a3 : Int32) (a4 : Nat) (a5 : Int32) (a6 : Int32) (a7 : Int32) (a8 : Int32) (H : jH) : JV l mi_12_small jeV 76 [(0, .ref a0), (1, .ref a1), (2, .int a2), (3, .int a3), (4, .ref a4), (5, .int a5), (6, .int a6), (7, .int a7), (8, .int a8)] [] H (B_12_small_76 k58 k76 a0 a1 a2 a3 a4 a5 a6 a7 a8 H) := by
  unfold B_12_small_76
  refine s_21 8 78 rfl rfl ?_
  refine s_155 0 47 125 81 rfl rfl ?_ ?_
  · refine s_132L 7 1 128 1 ji_1 rfl rfl rfl (fun x1 => ?_)
    refine s_167 255 186 58 rfl rfl ?_
    exact s_jmp (hk58 _ _ _ _ _ _ _ _ _) ⟨rfl, rfl, rfl, rfl, rfl, rfl, rfl, rfl, trivial⟩
  · refine s_42 82 rfl rfl ?_
    refine s_180R 0 7 85 7 f_12_0 jw_1275 rfl rfl ?_
    refine s_21 7 87 rfl rfl ?_
    refine s_42 88 rfl rfl ?_
    refine s_180R 0 7 91 7 f_12_0 jw_1275 rfl rfl ?_
    refine s_21 7 93 rfl rfl ?_
    refine s_46 94 rfl ?_
    refine s_16 8 96 8 jbp_8 rfl ?_
    refine s_120 97 rfl ?_
    refine s_43 98 rfl rfl ?_
    refine s_28 99 rfl rfl ?_
    refine s_29 100 rfl rfl ?_
    refine s_16 64 102 64 jbp_64 rfl ?_
    refine s_21 6 104 rfl rfl ?_
    refine s_104 105 rfl ?_
    refine s_7 106 rfl ?_
    refine s_21 7 108 rfl rfl ?_
    refine s_104 109 rfl ?_
    refine s_96 110 rfl ?_
    refine s_21 8 112 rfl rfl ?_
    refine s_96 113 rfl ?_
    refine s_3 114 rfl ?_
    refine s_184I 0 31 117 31 (m_12_padded l _ _ _ _ _ _) rfl k_12_padded jw_1602 jw_1603 rfl rfl rfl rfl rfl (fun x2 h3 => ?_)
    refine s_128 118 rfl ?_
    refine s_79 119 rfl (fun h4 => ?_)
    refine s_132L 8 255 122 (-1) ji_255 rfl rfl rfl (fun x5 => ?_)
    refine s_167 255 210 76 rfl rfl ?_
    exact s_jmp (hk76 _ _ _ _ _ _ _ _ _ _) ⟨rfl, rfl, rfl, rfl, rfl, rfl, rfl, rfl, rfl, trivial⟩
theorem w_12_small_76 (l : Launch) (k58 : Nat → Nat → Int32 → Int32 → Nat → Int32 → Int32 → Int32 → jH → Option (Unit × jH)) (hk58 : ∀ a0 a1 a2 a3 a4 a5 a6 a7 H, JV l mi_12_small jeV 58 [(0, .ref a0), (1, .ref a1), (2, .int a2), (3, .int a3), (4, .ref a4), (5, .int a5), (6, .int a6), (7, .int a7)] [] H (k58 a0 a1 a2 a3 a4 a5 a6 a7 H)) (n : Nat) : ∀ a0 a1 a2 a3 a4 a5 a6 a7 a8 H, JV l mi_12_small jeV 76 [(0, .ref a0), (1, .ref a1), (2, .int a2), (3, .int a3), (4, .ref a4), (5, .int a5), (6, .int a6), (7, .int a7), (8, .int a8)] [] H (F_12_small_76 k58 n a0 a1 a2 a3 a4 a5 a6 a7 a8 H) := by
  induction n with
  | zero => intro _ _ _ _ _ _ _ _ _ _; exact s_none
  | succ n ih => intro a0 a1 a2 a3 a4 a5 a6 a7 a8 H; exact v_12_small_76 l k58 hk58 (F_12_small_76 k58 n) ih a0 a1 a2 a3 a4 a5 a6 a7 a8 H
theorem v_12_small_270 (l : Launch) (k166 : Nat → Nat → Int32 → Int32 → Nat → Int32 → Int32 → Int32 → jH → Option (Unit × jH)) (hk166 : ∀ a0 a1 a2 a3 a4 a5 a6 a7 H, JV l mi_12_small jeV 166 [(0, .ref a0), (1, .ref a1), (2, .int a2), (3, .int a3), (4, .ref a4), (5, .int a5), (6, .int a6), (7, .int a7)] [] H (k166 a0 a1 a2 a3 a4 a5 a6 a7 H)) (a0 : Nat) (a1 : Nat) (a2 : Int32) (a3 : Int32) (a4 : Nat) (a5 : Int32) (a6 : Int32) (a7 : Int32) (a8 : Int32) (a9 : Int32) (s0 : Int32) (H : jH) : JV l mi_12_small jeV 270 [(0, .ref a0), (1, .ref a1), (2, .int a2), (3, .int a3), (4, .ref a4), (5, .int a5), (6, .int a6), (7, .int a7), (8, .int a8), (9, .int a9)] [.int s0] H (B_12_small_270 k166 a0 a1 a2 a3 a4 a5 a6 a7 a8 a9 s0 H) := by
  unfold B_12_small_270
  refine s_54 10 272 rfl rfl ?_
  refine s_42 273 rfl rfl ?_
  refine s_3 274 rfl ?_
  refine s_21 8 276 rfl rfl ?_
  refine s_42 277 rfl rfl ?_
  refine s_180R 0 16 280 16 f_12_2 jw_1277 rfl rfl ?_
  refine s_4 281 rfl ?_
  refine s_46 282 rfl ?_
  refine s_42 283 rfl rfl ?_
  refine s_180R 0 16 286 16 f_12_2 jw_1277 rfl rfl ?_
  refine s_5 287 rfl ?_
  refine s_46 288 rfl ?_
  refine s_42 289 rfl rfl ?_
  refine s_180R 0 16 292 16 f_12_2 jw_1277 rfl rfl ?_
  refine s_6 293 rfl ?_
  refine s_46 294 rfl ?_
  refine s_184I 0 59 297 59 (m_12_mixed l _ _ _ _ _) rfl k_12_mixed jw_2075 jw_2076 rfl rfl rfl rfl rfl (fun x6 h7 => ?_)
  refine s_42 298 rfl rfl ?_
  refine s_180R 0 7 301 7 f_12_0 jw_1275 rfl rfl ?_
  refine s_178 0 63 304 63 14 "CoinNodeModel$Hashes" "WORDS" jst_14 ⟨by decide, by decide⟩ jw_2078 rfl rfl ?_
  refine s_21 7 306 rfl rfl ?_
  refine s_46 307 rfl ?_
  refine s_46 308 rfl ?_
  refine s_96 309 rfl ?_
  refine s_21 9 311 rfl rfl ?_
  refine s_96 312 rfl ?_
  refine s_178 0 66 315 66 16 "CoinNodeModel$Hashes" "TURNS" jst_16 ⟨by decide, by decide⟩ jw_2080 rfl rfl ?_
  refine s_21 7 317 rfl rfl ?_
  refine s_46 318 rfl ?_
  refine s_182V 0 69 321 69 (m_12_step l _ _ _ _ _) rfl k_12_step jc_12 jw_2082 jw_2084 jps_100 rfl rfl rfl rfl rfl (fun x8 h9 => ?_)
  refine s_42 322 rfl rfl ?_
  refine s_8 323 rfl ?_
  refine s_7 324 rfl ?_
  refine s_21 8 326 rfl rfl ?_
  refine s_100 327 rfl ?_
  refine s_42 328 rfl rfl ?_
  refine s_180R 0 16 331 16 f_12_2 jw_1277 rfl rfl ?_
  refine s_16 6 333 6 jbp_6 rfl ?_
  refine s_46 334 rfl ?_
  refine s_42 335 rfl rfl ?_
  refine s_180R 0 16 338 16 f_12_2 jw_1277 rfl rfl ?_
  refine s_16 7 340 7 jbp_7 rfl ?_
  refine s_46 341 rfl ?_
  refine s_42 342 rfl rfl ?_
  refine s_180R 0 16 345 16 f_12_2 jw_1277 rfl rfl ?_
  refine s_16 8 347 8 jbp_8 rfl ?_
  refine s_46 348 rfl ?_
  refine s_184I 0 59 351 59 (m_12_mixed l _ _ _ _ _) rfl k_12_mixed jw_2075 jw_2076 rfl rfl rfl rfl rfl (fun x10 h11 => ?_)
  refine s_42 352 rfl rfl ?_
  refine s_180R 0 7 355 7 f_12_0 jw_1275 rfl rfl ?_
  refine s_178 0 73 358 73 15 "CoinNodeModel$Hashes" "OTHERS" jst_15 ⟨by decide, by decide⟩ jw_2086 rfl rfl ?_
  refine s_21 7 360 rfl rfl ?_
  refine s_46 361 rfl ?_
  refine s_46 362 rfl ?_
  refine s_96 363 rfl ?_
  refine s_21 10 365 rfl rfl ?_
  refine s_96 366 rfl ?_
  refine s_178 0 76 369 76 17 "CoinNodeModel$Hashes" "OTHER_TURNS" jst_17 ⟨by decide, by decide⟩ jw_2088 rfl rfl ?_
  refine s_21 7 371 rfl rfl ?_
  refine s_46 372 rfl ?_
  refine s_182V 0 69 375 69 (m_12_step l _ _ _ _ _) rfl k_12_step jc_12 jw_2082 jw_2084 jps_100 rfl rfl rfl rfl rfl (fun x12 h13 => ?_)
  refine s_132L 7 1 378 1 ji_1 rfl rfl rfl (fun x14 => ?_)
  refine s_167 255 44 166 rfl rfl ?_
  exact s_jmp (hk166 _ _ _ _ _ _ _ _ _) ⟨rfl, rfl, rfl, rfl, rfl, rfl, rfl, rfl, trivial⟩
theorem v_12_small_224 (l : Launch) (k166 : Nat → Nat → Int32 → Int32 → Nat → Int32 → Int32 → Int32 → jH → Option (Unit × jH)) (hk166 : ∀ a0 a1 a2 a3 a4 a5 a6 a7 H, JV l mi_12_small jeV 166 [(0, .ref a0), (1, .ref a1), (2, .int a2), (3, .int a3), (4, .ref a4), (5, .int a5), (6, .int a6), (7, .int a7)] [] H (k166 a0 a1 a2 a3 a4 a5 a6 a7 H)) (a0 : Nat) (a1 : Nat) (a2 : Int32) (a3 : Int32) (a4 : Nat) (a5 : Int32) (a6 : Int32) (a7 : Int32) (a8 : Int32) (s0 : Int32) (H : jH) : JV l mi_12_small jeV 224 [(0, .ref a0), (1, .ref a1), (2, .int a2), (3, .int a3), (4, .ref a4), (5, .int a5), (6, .int a6), (7, .int a7), (8, .int a8)] [.int s0] H (B_12_small_224 k166 a0 a1 a2 a3 a4 a5 a6 a7 a8 s0 H) := by
  unfold B_12_small_224
  refine s_54 9 226 rfl rfl ?_
  refine s_21 8 228 rfl rfl ?_
  refine s_154 0 8 236 231 rfl rfl ?_ ?_
  · refine s_21 8 238 rfl rfl ?_
    refine s_4 239 rfl ?_
    refine s_160 0 8 247 242 rfl rfl ?_ ?_
    · refine s_21 8 249 rfl rfl ?_
      refine s_5 250 rfl ?_
      refine s_160 0 8 258 253 rfl rfl ?_ ?_
      · refine s_21 8 260 rfl rfl ?_
        refine s_6 261 rfl ?_
        refine s_160 0 8 269 264 rfl rfl ?_ ?_
        · refine s_3 270 rfl ?_
          exact s_jmp (v_12_small_270 l k166 hk166 _ _ _ _ _ _ _ _ _ _ _ _) ⟨rfl, rfl, rfl, rfl, rfl, rfl, rfl, rfl, rfl, rfl, trivial⟩
        · refine s_18 58 266 2053994217 jw_2074 rfl ?_
          refine s_167 0 4 270 rfl rfl ?_
          exact s_jmp (v_12_small_270 l k166 hk166 _ _ _ _ _ _ _ _ _ _ _ _) ⟨rfl, rfl, rfl, rfl, rfl, rfl, rfl, rfl, rfl, rfl, trivial⟩
      · refine s_18 57 255 1836072691 jw_2073 rfl ?_
        refine s_167 0 15 270 rfl rfl ?_
        exact s_jmp (v_12_small_270 l k166 hk166 _ _ _ _ _ _ _ _ _ _ _ _) ⟨rfl, rfl, rfl, rfl, rfl, rfl, rfl, rfl, rfl, rfl, trivial⟩
    · refine s_18 56 244 1548603684 jw_2072 rfl ?_
      refine s_167 0 26 270 rfl rfl ?_
      exact s_jmp (v_12_small_270 l k166 hk166 _ _ _ _ _ _ _ _ _ _ _ _) ⟨rfl, rfl, rfl, rfl, rfl, rfl, rfl, rfl, rfl, rfl, trivial⟩
  · refine s_18 55 233 1352829926 jw_2071 rfl ?_
    refine s_167 0 37 270 rfl rfl ?_
    exact s_jmp (v_12_small_270 l k166 hk166 _ _ _ _ _ _ _ _ _ _ _ _) ⟨rfl, rfl, rfl, rfl, rfl, rfl, rfl, rfl, rfl, rfl, trivial⟩
theorem v_12_small_166 (l : Launch) (k43 : Nat → Nat → Int32 → Int32 → Nat → Int32 → Int32 → jH → Option (Unit × jH)) (hk43 : ∀ a0 a1 a2 a3 a4 a5 a6 H, JV l mi_12_small jeV 43 [(0, .ref a0), (1, .ref a1), (2, .int a2), (3, .int a3), (4, .ref a4), (5, .int a5), (6, .int a6)] [] H (k43 a0 a1 a2 a3 a4 a5 a6 H)) (k166 : Nat → Nat → Int32 → Int32 → Nat → Int32 → Int32 → Int32 → jH → Option (Unit × jH)) (hk166 : ∀ a0 a1 a2 a3 a4 a5 a6 a7 H, JV l mi_12_small jeV 166 [(0, .ref a0), (1, .ref a1), (2, .int a2), (3, .int a3), (4, .ref a4), (5, .int a5), (6, .int a6), (7, .int a7)] [] H (k166 a0 a1 a2 a3 a4 a5 a6 a7 H)) (a0 : Nat) (a1 : Nat) (a2 : Int32) (a3 : Int32) (a4 : Nat) (a5 : Int32) (a6 : Int32) (a7 : Int32) (H : jH) : JV l mi_12_small jeV 166 [(0, .ref a0), (1, .ref a1), (2, .int a2), (3, .int a3), (4, .ref a4), (5, .int a5), (6, .int a6), (7, .int a7)] [] H (B_12_small_166 k43 k166 a0 a1 a2 a3 a4 a5 a6 a7 H) := by
  unfold B_12_small_166
  refine s_21 7 168 rfl rfl ?_
  refine s_16 80 170 80 jbp_80 rfl ?_
  refine s_162 0 211 381 173 rfl rfl ?_ ?_
  · refine s_42 382 rfl rfl ?_
    refine s_180R 0 13 385 13 f_12_1 jw_1276 rfl rfl ?_
    refine s_4 386 rfl ?_
    refine s_46 387 rfl ?_
    refine s_42 388 rfl rfl ?_
    refine s_180R 0 16 391 16 f_12_2 jw_1277 rfl rfl ?_
    refine s_5 392 rfl ?_
    refine s_46 393 rfl ?_
    refine s_96 394 rfl ?_
    refine s_42 395 rfl rfl ?_
    refine s_180R 0 16 398 16 f_12_2 jw_1277 rfl rfl ?_
    refine s_16 8 400 8 jbp_8 rfl ?_
    refine s_46 401 rfl ?_
    refine s_96 402 rfl ?_
    refine s_54L 7 404 rfl rfl (fun x15 => ?_)
    refine s_42 405 rfl rfl ?_
    refine s_180R 0 13 408 13 f_12_1 jw_1276 rfl rfl ?_
    refine s_4 409 rfl ?_
    refine s_42 410 rfl rfl ?_
    refine s_180R 0 13 413 13 f_12_1 jw_1276 rfl rfl ?_
    refine s_5 414 rfl ?_
    refine s_46 415 rfl ?_
    refine s_42 416 rfl rfl ?_
    refine s_180R 0 16 419 16 f_12_2 jw_1277 rfl rfl ?_
    refine s_6 420 rfl ?_
    refine s_46 421 rfl ?_
    refine s_96 422 rfl ?_
    refine s_42 423 rfl rfl ?_
    refine s_180R 0 16 426 16 f_12_2 jw_1277 rfl rfl ?_
    refine s_16 9 428 9 jbp_9 rfl ?_
    refine s_46 429 rfl ?_
    refine s_96 430 rfl ?_
    refine s_79 431 rfl (fun h16 => ?_)
    refine s_42 432 rfl rfl ?_
    refine s_180R 0 13 435 13 f_12_1 jw_1276 rfl rfl ?_
    refine s_5 436 rfl ?_
    refine s_42 437 rfl rfl ?_
    refine s_180R 0 13 440 13 f_12_1 jw_1276 rfl rfl ?_
    refine s_6 441 rfl ?_
    refine s_46 442 rfl ?_
    refine s_42 443 rfl rfl ?_
    refine s_180R 0 16 446 16 f_12_2 jw_1277 rfl rfl ?_
    refine s_7 447 rfl ?_
    refine s_46 448 rfl ?_
    refine s_96 449 rfl ?_
    refine s_42 450 rfl rfl ?_
    refine s_180R 0 16 453 16 f_12_2 jw_1277 rfl rfl ?_
    refine s_8 454 rfl ?_
    refine s_46 455 rfl ?_
    refine s_96 456 rfl ?_
    refine s_79 457 rfl (fun h17 => ?_)
    refine s_42 458 rfl rfl ?_
    refine s_180R 0 13 461 13 f_12_1 jw_1276 rfl rfl ?_
    refine s_6 462 rfl ?_
    refine s_42 463 rfl rfl ?_
    refine s_180R 0 13 466 13 f_12_1 jw_1276 rfl rfl ?_
    refine s_7 467 rfl ?_
    refine s_46 468 rfl ?_
    refine s_42 469 rfl rfl ?_
    refine s_180R 0 16 472 16 f_12_2 jw_1277 rfl rfl ?_
    refine s_3 473 rfl ?_
    refine s_46 474 rfl ?_
    refine s_96 475 rfl ?_
    refine s_42 476 rfl rfl ?_
    refine s_180R 0 16 479 16 f_12_2 jw_1277 rfl rfl ?_
    refine s_16 6 481 6 jbp_6 rfl ?_
    refine s_46 482 rfl ?_
    refine s_96 483 rfl ?_
    refine s_79 484 rfl (fun h18 => ?_)
    refine s_42 485 rfl rfl ?_
    refine s_180R 0 13 488 13 f_12_1 jw_1276 rfl rfl ?_
    refine s_7 489 rfl ?_
    refine s_42 490 rfl rfl ?_
    refine s_180R 0 13 493 13 f_12_1 jw_1276 rfl rfl ?_
    refine s_3 494 rfl ?_
    refine s_46 495 rfl ?_
    refine s_42 496 rfl rfl ?_
    refine s_180R 0 16 499 16 f_12_2 jw_1277 rfl rfl ?_
    refine s_4 500 rfl ?_
    refine s_46 501 rfl ?_
    refine s_96 502 rfl ?_
    refine s_42 503 rfl rfl ?_
    refine s_180R 0 16 506 16 f_12_2 jw_1277 rfl rfl ?_
    refine s_16 7 508 7 jbp_7 rfl ?_
    refine s_46 509 rfl ?_
    refine s_96 510 rfl ?_
    refine s_79 511 rfl (fun h19 => ?_)
    refine s_42 512 rfl rfl ?_
    refine s_180R 0 13 515 13 f_12_1 jw_1276 rfl rfl ?_
    refine s_3 516 rfl ?_
    refine s_21 7 518 rfl rfl ?_
    refine s_79 519 rfl (fun h20 => ?_)
    refine s_132L 6 1 522 1 ji_1 rfl rfl rfl (fun x21 => ?_)
    refine s_167 254 33 43 rfl rfl ?_
    exact s_jmp (hk43 _ _ _ _ _ _ _ _) ⟨rfl, rfl, rfl, rfl, rfl, rfl, rfl, trivial⟩
  · refine s_21 7 175 rfl rfl ?_
    refine s_16 16 177 16 jbp_16 rfl ?_
    refine s_108 178 rfl ?_
    refine s_54L 8 180 rfl rfl (fun x22 => ?_)
    refine s_21 8 182 rfl rfl ?_
    refine s_154 0 7 189 185 rfl rfl ?_ ?_
    · refine s_21 8 191 rfl rfl ?_
      refine s_4 192 rfl ?_
      refine s_160 0 8 200 195 rfl rfl ?_ ?_
      · refine s_21 8 202 rfl rfl ?_
        refine s_5 203 rfl ?_
        refine s_160 0 8 211 206 rfl rfl ?_ ?_
        · refine s_21 8 213 rfl rfl ?_
          refine s_6 214 rfl ?_
          refine s_160 0 8 222 217 rfl rfl ?_ ?_
          · refine s_18 54 224 (-1454113458) jw_2070 rfl ?_
            exact s_jmp (v_12_small_224 l k166 hk166 _ _ _ _ _ _ _ _ _ _ _) ⟨rfl, rfl, rfl, rfl, rfl, rfl, rfl, rfl, rfl, trivial⟩
          · refine s_18 53 219 (-1894007588) jw_2069 rfl ?_
            refine s_167 0 5 224 rfl rfl ?_
            exact s_jmp (v_12_small_224 l k166 hk166 _ _ _ _ _ _ _ _ _ _ _) ⟨rfl, rfl, rfl, rfl, rfl, rfl, rfl, rfl, rfl, trivial⟩
        · refine s_18 52 208 1859775393 jw_2068 rfl ?_
          refine s_167 0 16 224 rfl rfl ?_
          exact s_jmp (v_12_small_224 l k166 hk166 _ _ _ _ _ _ _ _ _ _ _) ⟨rfl, rfl, rfl, rfl, rfl, rfl, rfl, rfl, rfl, trivial⟩
      · refine s_18 51 197 1518500249 jw_2067 rfl ?_
        refine s_167 0 27 224 rfl rfl ?_
        exact s_jmp (v_12_small_224 l k166 hk166 _ _ _ _ _ _ _ _ _ _ _) ⟨rfl, rfl, rfl, rfl, rfl, rfl, rfl, rfl, rfl, trivial⟩
    · refine s_3 186 rfl ?_
      refine s_167 0 38 224 rfl rfl ?_
      exact s_jmp (v_12_small_224 l k166 hk166 _ _ _ _ _ _ _ _ _ _ _) ⟨rfl, rfl, rfl, rfl, rfl, rfl, rfl, rfl, rfl, trivial⟩
theorem w_12_small_166 (l : Launch) (k43 : Nat → Nat → Int32 → Int32 → Nat → Int32 → Int32 → jH → Option (Unit × jH)) (hk43 : ∀ a0 a1 a2 a3 a4 a5 a6 H, JV l mi_12_small jeV 43 [(0, .ref a0), (1, .ref a1), (2, .int a2), (3, .int a3), (4, .ref a4), (5, .int a5), (6, .int a6)] [] H (k43 a0 a1 a2 a3 a4 a5 a6 H)) (n : Nat) : ∀ a0 a1 a2 a3 a4 a5 a6 a7 H, JV l mi_12_small jeV 166 [(0, .ref a0), (1, .ref a1), (2, .int a2), (3, .int a3), (4, .ref a4), (5, .int a5), (6, .int a6), (7, .int a7)] [] H (F_12_small_166 k43 n a0 a1 a2 a3 a4 a5 a6 a7 H) := by
  induction n with
  | zero => intro _ _ _ _ _ _ _ _ _; exact s_none
  | succ n ih => intro a0 a1 a2 a3 a4 a5 a6 a7 H; exact v_12_small_166 l k43 hk43 (F_12_small_166 k43 n) ih a0 a1 a2 a3 a4 a5 a6 a7 H
theorem v_12_small_134 (l : Launch) (k43 : Nat → Nat → Int32 → Int32 → Nat → Int32 → Int32 → jH → Option (Unit × jH)) (hk43 : ∀ a0 a1 a2 a3 a4 a5 a6 H, JV l mi_12_small jeV 43 [(0, .ref a0), (1, .ref a1), (2, .int a2), (3, .int a3), (4, .ref a4), (5, .int a5), (6, .int a6)] [] H (k43 a0 a1 a2 a3 a4 a5 a6 H)) (k134 : Nat → Nat → Int32 → Int32 → Nat → Int32 → Int32 → Int32 → jH → Option (Unit × jH)) (hk134 : ∀ a0 a1 a2 a3 a4 a5 a6 a7 H, JV l mi_12_small jeV 134 [(0, .ref a0), (1, .ref a1), (2, .int a2), (3, .int a3), (4, .ref a4), (5, .int a5), (6, .int a6), (7, .int a7)] [] H (k134 a0 a1 a2 a3 a4 a5 a6 a7 H)) (a0 : Nat) (a1 : Nat) (a2 : Int32) (a3 : Int32) (a4 : Nat) (a5 : Int32) (a6 : Int32) (a7 : Int32) (H : jH) : JV l mi_12_small jeV 134 [(0, .ref a0), (1, .ref a1), (2, .int a2), (3, .int a3), (4, .ref a4), (5, .int a5), (6, .int a6), (7, .int a7)] [] H (B_12_small_134 k43 k134 a0 a1 a2 a3 a4 a5 a6 a7 H) := by
  unfold B_12_small_134
  refine s_21 7 136 rfl rfl ?_
  refine s_16 10 138 10 jbp_10 rfl ?_
  refine s_162 0 25 163 141 rfl rfl ?_ ?_
  · refine s_3 164 rfl ?_
    refine s_54 7 166 rfl rfl ?_
    exact s_jmp (w_12_small_166 l k43 hk43 jfuel _ _ _ _ _ _ _ _ _) ⟨rfl, rfl, rfl, rfl, rfl, rfl, rfl, rfl, trivial⟩
  · refine s_42 142 rfl rfl ?_
    refine s_180R 0 16 145 16 f_12_2 jw_1277 rfl rfl ?_
    refine s_21 7 147 rfl rfl ?_
    refine s_42 148 rfl rfl ?_
    refine s_180R 0 13 151 13 f_12_1 jw_1276 rfl rfl ?_
    refine s_21 7 153 rfl rfl ?_
    refine s_8 154 rfl ?_
    refine s_112 155 rfl ?_
    refine s_46 156 rfl ?_
    refine s_79 157 rfl (fun h23 => ?_)
    refine s_132L 7 1 160 1 ji_1 rfl rfl rfl (fun x24 => ?_)
    refine s_167 255 230 134 rfl rfl ?_
    exact s_jmp (hk134 _ _ _ _ _ _ _ _ _) ⟨rfl, rfl, rfl, rfl, rfl, rfl, rfl, rfl, trivial⟩
theorem w_12_small_134 (l : Launch) (k43 : Nat → Nat → Int32 → Int32 → Nat → Int32 → Int32 → jH → Option (Unit × jH)) (hk43 : ∀ a0 a1 a2 a3 a4 a5 a6 H, JV l mi_12_small jeV 43 [(0, .ref a0), (1, .ref a1), (2, .int a2), (3, .int a3), (4, .ref a4), (5, .int a5), (6, .int a6)] [] H (k43 a0 a1 a2 a3 a4 a5 a6 H)) (n : Nat) : ∀ a0 a1 a2 a3 a4 a5 a6 a7 H, JV l mi_12_small jeV 134 [(0, .ref a0), (1, .ref a1), (2, .int a2), (3, .int a3), (4, .ref a4), (5, .int a5), (6, .int a6), (7, .int a7)] [] H (F_12_small_134 k43 n a0 a1 a2 a3 a4 a5 a6 a7 H) := by
  induction n with
  | zero => intro _ _ _ _ _ _ _ _ _; exact s_none
  | succ n ih => intro a0 a1 a2 a3 a4 a5 a6 a7 H; exact v_12_small_134 l k43 hk43 (F_12_small_134 k43 n) ih a0 a1 a2 a3 a4 a5 a6 a7 H
theorem v_12_small_58 (l : Launch) (k43 : Nat → Nat → Int32 → Int32 → Nat → Int32 → Int32 → jH → Option (Unit × jH)) (hk43 : ∀ a0 a1 a2 a3 a4 a5 a6 H, JV l mi_12_small jeV 43 [(0, .ref a0), (1, .ref a1), (2, .int a2), (3, .int a3), (4, .ref a4), (5, .int a5), (6, .int a6)] [] H (k43 a0 a1 a2 a3 a4 a5 a6 H)) (k58 : Nat → Nat → Int32 → Int32 → Nat → Int32 → Int32 → Int32 → jH → Option (Unit × jH)) (hk58 : ∀ a0 a1 a2 a3 a4 a5 a6 a7 H, JV l mi_12_small jeV 58 [(0, .ref a0), (1, .ref a1), (2, .int a2), (3, .int a3), (4, .ref a4), (5, .int a5), (6, .int a6), (7, .int a7)] [] H (k58 a0 a1 a2 a3 a4 a5 a6 a7 H)) (a0 : Nat) (a1 : Nat) (a2 : Int32) (a3 : Int32) (a4 : Nat) (a5 : Int32) (a6 : Int32) (a7 : Int32) (H : jH) : JV l mi_12_small jeV 58 [(0, .ref a0), (1, .ref a1), (2, .int a2), (3, .int a3), (4, .ref a4), (5, .int a5), (6, .int a6), (7, .int a7)] [] H (B_12_small_58 k43 k58 a0 a1 a2 a3 a4 a5 a6 a7 H) := by
  unfold B_12_small_58
  refine s_21 7 60 rfl rfl ?_
  refine s_16 16 62 16 jbp_16 rfl ?_
  refine s_162 0 69 131 65 rfl rfl ?_ ?_
  · refine s_3 132 rfl ?_
    refine s_54 7 134 rfl rfl ?_
    exact s_jmp (w_12_small_134 l k43 hk43 jfuel _ _ _ _ _ _ _ _ _) ⟨rfl, rfl, rfl, rfl, rfl, rfl, rfl, rfl, trivial⟩
  · refine s_42 66 rfl rfl ?_
    refine s_180R 0 7 69 7 f_12_0 jw_1275 rfl rfl ?_
    refine s_21 7 71 rfl rfl ?_
    refine s_3 72 rfl ?_
    refine s_79 73 rfl (fun h25 => ?_)
    refine s_6 74 rfl ?_
    refine s_54 8 76 rfl rfl ?_
    exact s_jmp (w_12_small_76 l k58 hk58 jfuel _ _ _ _ _ _ _ _ _ _) ⟨rfl, rfl, rfl, rfl, rfl, rfl, rfl, rfl, rfl, trivial⟩
theorem w_12_small_58 (l : Launch) (k43 : Nat → Nat → Int32 → Int32 → Nat → Int32 → Int32 → jH → Option (Unit × jH)) (hk43 : ∀ a0 a1 a2 a3 a4 a5 a6 H, JV l mi_12_small jeV 43 [(0, .ref a0), (1, .ref a1), (2, .int a2), (3, .int a3), (4, .ref a4), (5, .int a5), (6, .int a6)] [] H (k43 a0 a1 a2 a3 a4 a5 a6 H)) (n : Nat) : ∀ a0 a1 a2 a3 a4 a5 a6 a7 H, JV l mi_12_small jeV 58 [(0, .ref a0), (1, .ref a1), (2, .int a2), (3, .int a3), (4, .ref a4), (5, .int a5), (6, .int a6), (7, .int a7)] [] H (F_12_small_58 k43 n a0 a1 a2 a3 a4 a5 a6 a7 H) := by
  induction n with
  | zero => intro _ _ _ _ _ _ _ _ _; exact s_none
  | succ n ih => intro a0 a1 a2 a3 a4 a5 a6 a7 H; exact v_12_small_58 l k43 hk43 (F_12_small_58 k43 n) ih a0 a1 a2 a3 a4 a5 a6 a7 H
theorem v_12_small_528 (l : Launch) (k528 : Nat → Nat → Int32 → Int32 → jH → Option (Unit × jH)) (hk528 : ∀ a0 a4 a5 a6 H, JV l mi_12_small jeV 528 [(0, .ref a0), (4, .ref a4), (5, .int a5), (6, .int a6)] [] H (k528 a0 a4 a5 a6 H)) (a0 : Nat) (a4 : Nat) (a5 : Int32) (a6 : Int32) (H : jH) : JV l mi_12_small jeV 528 [(0, .ref a0), (4, .ref a4), (5, .int a5), (6, .int a6)] [] H (B_12_small_528 k528 a0 a4 a5 a6 H) := by
  unfold B_12_small_528
  refine s_21 6 530 rfl rfl ?_
  refine s_16 20 532 20 jbp_20 rfl ?_
  refine s_162 0 35 567 535 rfl rfl ?_ ?_
  · exact s_177 rfl rfl
  · refine s_25 4 537 rfl rfl ?_
    refine s_21 5 539 rfl rfl ?_
    refine s_21 6 541 rfl rfl ?_
    refine s_96 542 rfl ?_
    refine s_42 543 rfl rfl ?_
    refine s_180R 0 13 546 13 f_12_1 jw_1276 rfl rfl ?_
    refine s_21 6 548 rfl rfl ?_
    refine s_7 549 rfl ?_
    refine s_108 550 rfl ?_
    refine s_46 551 rfl ?_
    refine s_16 8 553 8 jbp_8 rfl ?_
    refine s_21 6 555 rfl rfl ?_
    refine s_7 556 rfl ?_
    refine s_112 557 rfl ?_
    refine s_104 558 rfl ?_
    refine s_124 559 rfl ?_
    refine s_145 560 rfl ?_
    refine s_84B 561 rfl (fun h26 => ?_)
    refine s_132L 6 1 564 1 ji_1 rfl rfl rfl (fun x27 => ?_)
    refine s_167 255 220 528 rfl rfl ?_
    exact s_jmp (hk528 _ _ _ _ _) ⟨rfl, rfl, rfl, rfl, trivial⟩
theorem w_12_small_528 (l : Launch)  (n : Nat) : ∀ a0 a4 a5 a6 H, JV l mi_12_small jeV 528 [(0, .ref a0), (4, .ref a4), (5, .int a5), (6, .int a6)] [] H (F_12_small_528  n a0 a4 a5 a6 H) := by
  induction n with
  | zero => intro _ _ _ _ _; exact s_none
  | succ n ih => intro a0 a4 a5 a6 H; exact v_12_small_528 l (F_12_small_528  n) ih a0 a4 a5 a6 H
theorem v_12_small_43 (l : Launch) (k43 : Nat → Nat → Int32 → Int32 → Nat → Int32 → Int32 → jH → Option (Unit × jH)) (hk43 : ∀ a0 a1 a2 a3 a4 a5 a6 H, JV l mi_12_small jeV 43 [(0, .ref a0), (1, .ref a1), (2, .int a2), (3, .int a3), (4, .ref a4), (5, .int a5), (6, .int a6)] [] H (k43 a0 a1 a2 a3 a4 a5 a6 H)) (a0 : Nat) (a1 : Nat) (a2 : Int32) (a3 : Int32) (a4 : Nat) (a5 : Int32) (a6 : Int32) (H : jH) : JV l mi_12_small jeV 43 [(0, .ref a0), (1, .ref a1), (2, .int a2), (3, .int a3), (4, .ref a4), (5, .int a5), (6, .int a6)] [] H (B_12_small_43 k43 a0 a1 a2 a3 a4 a5 a6 H) := by
  unfold B_12_small_43
  refine s_21 6 45 rfl rfl ?_
  refine s_29 46 rfl rfl ?_
  refine s_16 72 48 72 jbp_72 rfl ?_
  refine s_96 49 rfl ?_
  refine s_16 64 51 64 jbp_64 rfl ?_
  refine s_108 52 rfl ?_
  refine s_162 1 217 525 55 rfl rfl ?_ ?_
  · refine s_3 526 rfl ?_
    refine s_54 6 528 rfl rfl ?_
    exact s_jmp (w_12_small_528 l jfuel _ _ _ _ _) ⟨rfl, rfl, rfl, rfl, trivial⟩
  · refine s_3 56 rfl ?_
    refine s_54 7 58 rfl rfl ?_
    exact s_jmp (w_12_small_58 l k43 hk43 jfuel _ _ _ _ _ _ _ _ _) ⟨rfl, rfl, rfl, rfl, rfl, rfl, rfl, rfl, trivial⟩
theorem w_12_small_43 (l : Launch)  (n : Nat) : ∀ a0 a1 a2 a3 a4 a5 a6 H, JV l mi_12_small jeV 43 [(0, .ref a0), (1, .ref a1), (2, .int a2), (3, .int a3), (4, .ref a4), (5, .int a5), (6, .int a6)] [] H (F_12_small_43  n a0 a1 a2 a3 a4 a5 a6 H) := by
  induction n with
  | zero => intro _ _ _ _ _ _ _ _; exact s_none
  | succ n ih => intro a0 a1 a2 a3 a4 a5 a6 H; exact v_12_small_43 l (F_12_small_43  n) ih a0 a1 a2 a3 a4 a5 a6 H
theorem v_12_small (l : Launch) (a0 : Nat) (a1 : Nat) (a2 : Int32) (a3 : Int32) (a4 : Nat) (a5 : Int32) (H : jH) : JV l mi_12_small jeV 0 [(0, .ref a0), (1, .ref a1), (2, .int a2), (3, .int a3), (4, .ref a4), (5, .int a5)] [] H (F_12_small a0 a1 a2 a3 a4 a5 H) := by
  unfold F_12_small
  refine s_42 1 rfl rfl ?_
  refine s_180R 0 13 4 13 f_12_1 jw_1276 rfl rfl ?_
  refine s_3 5 rfl ?_
  refine s_18 46 7 1732584193 jw_2062 rfl ?_
  refine s_79 8 rfl (fun h28 => ?_)
  refine s_42 9 rfl rfl ?_
  refine s_180R 0 13 12 13 f_12_1 jw_1276 rfl rfl ?_
  refine s_4 13 rfl ?_
  refine s_18 47 15 (-271733879) jw_2063 rfl ?_
  refine s_79 16 rfl (fun h29 => ?_)
  refine s_42 17 rfl rfl ?_
  refine s_180R 0 13 20 13 f_12_1 jw_1276 rfl rfl ?_
  refine s_5 21 rfl ?_
  refine s_18 48 23 (-1732584194) jw_2064 rfl ?_
  refine s_79 24 rfl (fun h30 => ?_)
  refine s_42 25 rfl rfl ?_
  refine s_180R 0 13 28 13 f_12_1 jw_1276 rfl rfl ?_
  refine s_6 29 rfl ?_
  refine s_18 49 31 271733878 jw_2065 rfl ?_
  refine s_79 32 rfl (fun h31 => ?_)
  refine s_42 33 rfl rfl ?_
  refine s_180R 0 13 36 13 f_12_1 jw_1276 rfl rfl ?_
  refine s_7 37 rfl ?_
  refine s_18 50 39 (-1009589776) jw_2066 rfl ?_
  refine s_79 40 rfl (fun h32 => ?_)
  refine s_3 41 rfl ?_
  refine s_54 6 43 rfl rfl ?_
  exact s_jmp (w_12_small_43 l jfuel _ _ _ _ _ _ _ _) ⟨rfl, rfl, rfl, rfl, rfl, rfl, rfl, trivial⟩
theorem m_12_small (l : Launch) (a0 : Nat) (a1 : Nat) (a2 : Int32) (a3 : Int32) (a4 : Nat) (a5 : Int32) (H : jH) : JMet l y_12_small prog_16_method_7_code mi_12_small jeV [.ref a0, .ref a1, .int a2, .int a3, .ref a4, .int a5] H (F_12_small a0 a1 a2 a3 a4 a5 H) := jmet_of n_12_small (by decide) ⟨rfl, rfl⟩ (Nat.le_of_ble_eq_true rfl) (v_12_small l a0 a1 a2 a3 a4 a5 H)
def mi_14_digested : jM := (2785298332334031145315398793872727257526844287383582043724636424517419374882661266561743037771110050383906160047338284900185561423660787843516815371827230802610420626365743131311666818920267141583064780526522514883988414810679716919863984475160831468997560681416781716898203100731121795917868696333025725330278512904795485090593913090987254851295032362, 146, 5, "CoinNodeModel$Scripts", none, "digested", 3, 75)
def y_14_digested : MethodName := ⟨"CoinNodeModel$Scripts", "digested", "(IZ)V"⟩
theorem n_14_digested : jn_is prog_18_method_14_code mi_14_digested.1 mi_14_digested.2.1 := by unfold jn_is; decide +kernel
theorem k_14_digested : jmok y_14_digested prog_18_method_14_code mi_14_digested 2 := ⟨jw_2056, jw_18, ⟨by decide, by decide⟩, by decide +kernel⟩
theorem v_14_digested_105 (l : Launch) (k105 : Nat → Int32 → Int32 → jH → Option (Unit × jH)) (hk105 : ∀ a0 a1 a4 H, JV l mi_14_digested jeV 105 [(0, .ref a0), (1, .int a1), (4, .int a4)] [] H (k105 a0 a1 a4 H)) (a0 : Nat) (a1 : Int32) (a4 : Int32) (H : jH) : JV l mi_14_digested jeV 105 [(0, .ref a0), (1, .int a1), (4, .int a4)] [] H (B_14_digested_105 k105 a0 a1 a4 H) := by
  unfold B_14_digested_105
  refine s_21 4 107 rfl rfl ?_
  refine s_42 108 rfl rfl ?_
  refine s_180R 0 13 111 13 f_14_1 jw_1391 rfl rfl ?_
  refine s_27 112 rfl rfl ?_
  refine s_46 113 rfl ?_
  refine s_162 0 32 145 116 rfl rfl ?_ ?_
  · exact s_177 rfl rfl
  · refine s_42 117 rfl rfl ?_
    refine s_180R 0 7 120 7 f_14_0 jw_1390 rfl rfl ?_
    refine s_16 120 122 120 jbp_120 rfl ?_
    refine s_27 123 rfl rfl ?_
    refine s_104 124 rfl ?_
    refine s_21 4 126 rfl rfl ?_
    refine s_96 127 rfl ?_
    refine s_42 128 rfl rfl ?_
    refine s_180R 0 29 131 29 f_14_14 jw_1405 rfl rfl ?_
    refine s_21 4 133 rfl rfl ?_
    refine s_51B 134 rfl ?_
    refine s_17 0 255 137 255 jsp_0_255 rfl ?_
    refine s_126 138 rfl ?_
    refine s_79 139 rfl (fun h1 => ?_)
    refine s_132L 4 1 142 1 ji_1 rfl rfl rfl (fun x2 => ?_)
    refine s_167 255 219 105 rfl rfl ?_
    exact s_jmp (hk105 _ _ _ _) ⟨rfl, rfl, rfl, trivial⟩
theorem w_14_digested_105 (l : Launch)  (n : Nat) : ∀ a0 a1 a4 H, JV l mi_14_digested jeV 105 [(0, .ref a0), (1, .int a1), (4, .int a4)] [] H (F_14_digested_105  n a0 a1 a4 H) := by
  induction n with
  | zero => intro _ _ _ _; exact s_none
  | succ n ih => intro a0 a1 a4 H; exact v_14_digested_105 l (F_14_digested_105  n) ih a0 a1 a4 H
theorem v_14_digested_101 (l : Launch)  (a0 : Nat) (a1 : Int32) (s0 : Nat) (s1 : Int32) (s2 : Int32) (H : jH) : JV l mi_14_digested jeV 101 [(0, .ref a0), (1, .int a1)] [.int s2, .int s1, .ref s0] H (B_14_digested_101  a0 a1 s0 s1 s2 H) := by
  unfold B_14_digested_101
  refine s_79 102 rfl (fun h3 => ?_)
  refine s_3 103 rfl ?_
  refine s_54 4 105 rfl rfl ?_
  exact s_jmp (w_14_digested_105 l jfuel _ _ _ _) ⟨rfl, rfl, rfl, trivial⟩
theorem v_14_digested_85 (l : Launch)  (a0 : Nat) (a1 : Int32) (a2 : Int32) (H : jH) : JV l mi_14_digested jeV 85 [(0, .ref a0), (1, .int a1), (2, .int a2)] [] H (B_14_digested_85  a0 a1 a2 H) := by
  unfold B_14_digested_85
  refine s_42 86 rfl rfl ?_
  refine s_180R 0 13 89 13 f_14_1 jw_1391 rfl rfl ?_
  refine s_27 90 rfl rfl ?_
  refine s_28 91 rfl rfl ?_
  refine s_153 0 8 99 94 rfl rfl ?_ ?_
  · refine s_16 20 101 20 jbp_20 rfl ?_
    exact s_jmp (v_14_digested_101 l _ _ _ _ _ _) ⟨rfl, rfl, trivial⟩
  · refine s_16 32 96 32 jbp_32 rfl ?_
    refine s_167 0 5 101 rfl rfl ?_
    exact s_jmp (v_14_digested_101 l _ _ _ _ _ _) ⟨rfl, rfl, trivial⟩
theorem v_14_digested_10 (l : Launch) (k10 : Nat → Int32 → Int32 → Int32 → Int32 → jH → Option (Unit × jH)) (hk10 : ∀ a0 a1 a2 a3 a4 H, JV l mi_14_digested jeV 10 [(0, .ref a0), (1, .int a1), (2, .int a2), (3, .int a3), (4, .int a4)] [] H (k10 a0 a1 a2 a3 a4 H)) (a0 : Nat) (a1 : Int32) (a2 : Int32) (a3 : Int32) (a4 : Int32) (H : jH) : JV l mi_14_digested jeV 10 [(0, .ref a0), (1, .int a1), (2, .int a2), (3, .int a3), (4, .int a4)] [] H (B_14_digested_10 k10 a0 a1 a2 a3 a4 H) := by
  unfold B_14_digested_10
  refine s_21 4 12 rfl rfl ?_
  refine s_29 13 rfl rfl ?_
  refine s_162 0 29 42 16 rfl rfl ?_ ?_
  · refine s_28 43 rfl rfl ?_
    refine s_153 0 24 67 46 rfl rfl ?_ ?_
    · refine s_42 68 rfl rfl ?_
      refine s_180R 0 32 71 32 f_14_15 jw_1406 rfl rfl ?_
      refine s_42 72 rfl rfl ?_
      refine s_180R 0 22 75 22 f_14_12 jw_1403 rfl rfl ?_
      refine s_3 76 rfl ?_
      refine s_29 77 rfl rfl ?_
      refine s_42 78 rfl rfl ?_
      refine s_180R 0 29 81 29 f_14_14 jw_1405 rfl rfl ?_
      refine s_3 82 rfl ?_
      refine s_182V 0 85 85 85 (m_12_small l _ _ _ _ _ _ _) rfl k_12_small jc_12 jw_2058 jw_2059 jw_2060 rfl rfl rfl rfl rfl (fun x4 h5 => ?_)
      exact s_jmp (v_14_digested_85 l _ _ _ _) ⟨rfl, rfl, rfl, trivial⟩
    · refine s_42 47 rfl rfl ?_
      refine s_180R 0 32 50 32 f_14_15 jw_1406 rfl rfl ?_
      refine s_42 51 rfl rfl ?_
      refine s_180R 0 22 54 22 f_14_12 jw_1403 rfl rfl ?_
      refine s_3 55 rfl ?_
      refine s_29 56 rfl rfl ?_
      refine s_42 57 rfl rfl ?_
      refine s_180R 0 29 60 29 f_14_14 jw_1405 rfl rfl ?_
      refine s_3 61 rfl ?_
      refine s_182V 0 79 64 79 (m_12_wide l _ _ _ _ _ _ _) rfl k_12_wide jc_12 jw_2057 jw_1591 jw_1592 rfl rfl rfl rfl rfl (fun x6 h7 => ?_)
      refine s_167 0 21 85 rfl rfl ?_
      exact s_jmp (v_14_digested_85 l _ _ _ _) ⟨rfl, rfl, rfl, trivial⟩
  · refine s_42 17 rfl rfl ?_
    refine s_180R 0 22 20 22 f_14_12 jw_1403 rfl rfl ?_
    refine s_21 4 22 rfl rfl ?_
    refine s_42 23 rfl rfl ?_
    refine s_180R 0 7 26 7 f_14_0 jw_1390 rfl rfl ?_
    refine s_16 120 28 120 jbp_120 rfl ?_
    refine s_27 29 rfl rfl ?_
    refine s_104 30 rfl ?_
    refine s_21 4 32 rfl rfl ?_
    refine s_96 33 rfl ?_
    refine s_46 34 rfl ?_
    refine s_145 35 rfl ?_
    refine s_84B 36 rfl (fun h8 => ?_)
    refine s_132L 4 1 39 1 ji_1 rfl rfl rfl (fun x9 => ?_)
    refine s_167 255 227 10 rfl rfl ?_
    exact s_jmp (hk10 _ _ _ _ _ _) ⟨rfl, rfl, rfl, rfl, rfl, trivial⟩
theorem w_14_digested_10 (l : Launch)  (n : Nat) : ∀ a0 a1 a2 a3 a4 H, JV l mi_14_digested jeV 10 [(0, .ref a0), (1, .int a1), (2, .int a2), (3, .int a3), (4, .int a4)] [] H (F_14_digested_10  n a0 a1 a2 a3 a4 H) := by
  induction n with
  | zero => intro _ _ _ _ _ _; exact s_none
  | succ n ih => intro a0 a1 a2 a3 a4 H; exact v_14_digested_10 l (F_14_digested_10  n) ih a0 a1 a2 a3 a4 H
theorem v_14_digested (l : Launch) (a0 : Nat) (a1 : Int32) (a2 : Int32) (H : jH) : JV l mi_14_digested jeV 0 [(0, .ref a0), (1, .int a1), (2, .int a2)] [] H (F_14_digested a0 a1 a2 H) := by
  unfold F_14_digested
  refine s_42 1 rfl rfl ?_
  refine s_180R 0 13 4 13 f_14_1 jw_1391 rfl rfl ?_
  refine s_27 5 rfl rfl ?_
  refine s_46 6 rfl ?_
  refine s_62L 7 rfl rfl (fun x10 => ?_)
  refine s_3 8 rfl ?_
  refine s_54 4 10 rfl rfl ?_
  exact s_jmp (w_14_digested_10 l jfuel _ _ _ _ _ _) ⟨rfl, rfl, rfl, rfl, rfl, trivial⟩
theorem m_14_digested (l : Launch) (a0 : Nat) (a1 : Int32) (a2 : Int32) (H : jH) : JMet l y_14_digested prog_18_method_14_code mi_14_digested jeV [.ref a0, .int a1, .int a2] H (F_14_digested a0 a1 a2 H) := jmet_of n_14_digested (by decide) ⟨rfl, rfl⟩ (Nat.le_of_ble_eq_true rfl) (v_14_digested l a0 a1 a2 H)
def mi_14_top : jM := (3180053449875287749674, 9, 2, "CoinNodeModel$Scripts", some FieldType.int, "top", 0, 0)
def y_14_top : MethodName := ⟨"CoinNodeModel$Scripts", "top", "(I)I"⟩
theorem n_14_top : jn_is prog_18_method_4_code mi_14_top.1 mi_14_top.2.1 := by unfold jn_is; decide +kernel
theorem k_14_top : jmok y_14_top prog_18_method_4_code mi_14_top 1 := ⟨jw_2012, jw_18, ⟨by decide, by decide⟩, by decide +kernel⟩
theorem v_14_top (l : Launch) (a0 : Nat) (a1 : Int32) (H : jH) : JV l mi_14_top jeI 0 [(0, .ref a0), (1, .int a1)] [] H (F_14_top a0 a1 H) := by
  unfold F_14_top
  refine s_42 1 rfl rfl ?_
  refine s_180I 0 44 4 44 f_14_2 jw_1392 rfl rfl ?_
  refine s_4 5 rfl ?_
  refine s_100 6 rfl ?_
  refine s_27 7 rfl rfl ?_
  refine s_100 8 rfl ?_
  exact s_172 rfl rfl
theorem m_14_top (l : Launch) (a0 : Nat) (a1 : Int32) (H : jH) : JMet l y_14_top prog_18_method_4_code mi_14_top jeI [.ref a0, .int a1] H (F_14_top a0 a1 H) := jmet_of n_14_top (by decide) ⟨rfl, rfl⟩ (Nat.le_of_ble_eq_true rfl) (v_14_top l a0 a1 H)
def mi_14_digest : jM := (39942800166723764830921741282018778890035135903034010624480181265710332124134143148278785609340015427822336474525608749416834125631706257845834871600974803762545706, 68, 2, "CoinNodeModel$Scripts", none, "digest", 4, 99)
def y_14_digest : MethodName := ⟨"CoinNodeModel$Scripts", "digest", "(I)V"⟩
theorem n_14_digest : jn_is prog_18_method_28_code mi_14_digest.1 mi_14_digest.2.1 := by unfold jn_is; decide +kernel
theorem k_14_digest : jmok y_14_digest prog_18_method_28_code mi_14_digest 1 := ⟨jw_2052, jw_18, ⟨by decide, by decide⟩, by decide +kernel⟩
theorem v_14_digest_67 (l : Launch)   (H : jH) : JV l mi_14_digest jeV 67 [] [] H (B_14_digest_67   H) := by
  unfold B_14_digest_67
  exact s_177 rfl rfl
theorem v_14_digest_50 (l : Launch)  (a0 : Nat) (a1 : Int32) (H : jH) : JV l mi_14_digest jeV 50 [(0, .ref a0), (1, .int a1)] [] H (B_14_digest_50  a0 a1 H) := by
  unfold B_14_digest_50
  refine s_27 51 rfl rfl ?_
  refine s_17 0 170 54 170 jsp_0_170 rfl ?_
  refine s_160 0 13 67 57 rfl rfl ?_ ?_
  · exact s_jmp (v_14_digest_67 l _) trivial
  · refine s_42 58 rfl rfl ?_
    refine s_42 59 rfl rfl ?_
    refine s_3 60 rfl ?_
    refine s_182I 0 68 63 68 (m_14_top l _ _ _) rfl k_14_top jc_14 jw_2009 jw_2011 jps_88 rfl rfl rfl rfl rfl (fun x1 h2 => ?_)
    refine s_4 64 rfl ?_
    refine s_182V 0 145 67 145 (m_14_digested l _ _ _ _) rfl k_14_digested jc_14 jw_2053 jw_2055 jps_99 rfl rfl rfl rfl rfl (fun x3 h4 => ?_)
    exact s_jmp (v_14_digest_67 l _) trivial
theorem v_14_digest_40 (l : Launch)  (a0 : Nat) (a1 : Int32) (H : jH) : JV l mi_14_digest jeV 40 [(0, .ref a0), (1, .int a1)] [] H (B_14_digest_40  a0 a1 H) := by
  unfold B_14_digest_40
  refine s_42 41 rfl rfl ?_
  refine s_42 42 rfl rfl ?_
  refine s_3 43 rfl ?_
  refine s_182I 0 68 46 68 (m_14_top l _ _ _) rfl k_14_top jc_14 jw_2009 jw_2011 jps_88 rfl rfl rfl rfl rfl (fun x5 h6 => ?_)
  refine s_3 47 rfl ?_
  refine s_182V 0 145 50 145 (m_14_digested l _ _ _ _) rfl k_14_digested jc_14 jw_2053 jw_2055 jps_99 rfl rfl rfl rfl rfl (fun x7 h8 => ?_)
  exact s_jmp (v_14_digest_50 l _ _ _) ⟨rfl, rfl, trivial⟩
theorem v_14_digest_26 (l : Launch)  (a0 : Nat) (a1 : Int32) (H : jH) : JV l mi_14_digest jeV 26 [(0, .ref a0), (1, .int a1)] [] H (B_14_digest_26  a0 a1 H) := by
  unfold B_14_digest_26
  refine s_27 27 rfl rfl ?_
  refine s_17 0 166 30 166 jsp_0_166 rfl ?_
  refine s_159 0 10 40 33 rfl rfl ?_ ?_
  · exact s_jmp (v_14_digest_40 l _ _ _) ⟨rfl, rfl, trivial⟩
  · refine s_27 34 rfl rfl ?_
    refine s_17 0 169 37 169 jsp_0_169 rfl ?_
    refine s_160 0 13 50 40 rfl rfl ?_ ?_
    · exact s_jmp (v_14_digest_50 l _ _ _) ⟨rfl, rfl, trivial⟩
    · exact s_jmp (v_14_digest_40 l _ _ _) ⟨rfl, rfl, trivial⟩
theorem v_14_digest (l : Launch) (a0 : Nat) (a1 : Int32) (H : jH) : JV l mi_14_digest jeV 0 [(0, .ref a0), (1, .int a1)] [] H (F_14_digest a0 a1 H) := by
  unfold F_14_digest
  refine s_42 1 rfl rfl ?_
  refine s_4 2 rfl ?_
  refine s_182I 0 64 5 64 (m_14_has l _ _ _) rfl k_14_has jc_14 jw_1971 jw_1973 jps_79 rfl rfl rfl rfl rfl (fun x9 h10 => ?_)
  refine s_154 0 4 9 8 rfl rfl ?_ ?_
  · refine s_27 10 rfl rfl ?_
    refine s_17 0 166 13 166 jsp_0_166 rfl ?_
    refine s_159 0 13 26 16 rfl rfl ?_ ?_
    · exact s_jmp (v_14_digest_26 l _ _ _) ⟨rfl, rfl, trivial⟩
    · refine s_42 17 rfl rfl ?_
      refine s_42 18 rfl rfl ?_
      refine s_3 19 rfl ?_
      refine s_182I 0 68 22 68 (m_14_top l _ _ _) rfl k_14_top jc_14 jw_2009 jw_2011 jps_88 rfl rfl rfl rfl rfl (fun x11 h12 => ?_)
      refine s_4 23 rfl ?_
      refine s_182V 0 145 26 145 (m_14_digested l _ _ _ _) rfl k_14_digested jc_14 jw_2053 jw_2055 jps_99 rfl rfl rfl rfl rfl (fun x13 h14 => ?_)
      exact s_jmp (v_14_digest_26 l _ _ _) ⟨rfl, rfl, trivial⟩
  · exact s_177 rfl rfl
theorem m_14_digest (l : Launch) (a0 : Nat) (a1 : Int32) (H : jH) : JMet l y_14_digest prog_18_method_28_code mi_14_digest jeV [.ref a0, .int a1] H (F_14_digest a0 a1 H) := jmet_of n_14_digest (by decide) ⟨rfl, rfl⟩ (Nat.le_of_ble_eq_true rfl) (v_14_digest l a0 a1 H)
def mi_14_isSame : jM := (3067464712032840291590232353763828434718474261028211423334081210137718607622040493509715717936126977599043774674816798442227188525276293792422374690962699930398408572873303500185638327197676586, 80, 5, "CoinNodeModel$Scripts", some FieldType.boolean, "isSame", 0, 0)
def y_14_isSame : MethodName := ⟨"CoinNodeModel$Scripts", "isSame", "(II)Z"⟩
theorem n_14_isSame : jn_is prog_18_method_9_code mi_14_isSame.1 mi_14_isSame.2.1 := by unfold jn_is; decide +kernel
theorem k_14_isSame : jmok y_14_isSame prog_18_method_9_code mi_14_isSame 2 := ⟨jw_2032, jw_18, ⟨by decide, by decide⟩, by decide +kernel⟩
theorem v_14_isSame_71 (l : Launch) (k24 : Nat → Int32 → Int32 → Int32 → Int32 → jH → Option (Int32 × jH)) (hk24 : ∀ a0 a1 a2 a3 a4 H, JV l mi_14_isSame jeI 24 [(0, .ref a0), (1, .int a1), (2, .int a2), (3, .int a3), (4, .int a4)] [] H (k24 a0 a1 a2 a3 a4 H)) (a0 : Nat) (a1 : Int32) (a2 : Int32) (a4 : Int32) (s0 : Int32) (H : jH) : JV l mi_14_isSame jeI 71 [(0, .ref a0), (1, .int a1), (2, .int a2), (4, .int a4)] [.int s0] H (B_14_isSame_71 k24 a0 a1 a2 a4 s0 H) := by
  unfold B_14_isSame_71
  refine s_62 72 rfl rfl ?_
  refine s_132L 4 1 75 1 ji_1 rfl rfl rfl (fun x1 => ?_)
  refine s_167 255 205 24 rfl rfl ?_
  exact s_jmp (hk24 _ _ _ _ _ _) ⟨rfl, rfl, rfl, rfl, rfl, trivial⟩
theorem v_14_isSame_70 (l : Launch) (k24 : Nat → Int32 → Int32 → Int32 → Int32 → jH → Option (Int32 × jH)) (hk24 : ∀ a0 a1 a2 a3 a4 H, JV l mi_14_isSame jeI 24 [(0, .ref a0), (1, .int a1), (2, .int a2), (3, .int a3), (4, .int a4)] [] H (k24 a0 a1 a2 a3 a4 H)) (a0 : Nat) (a1 : Int32) (a2 : Int32) (a4 : Int32) (H : jH) : JV l mi_14_isSame jeI 70 [(0, .ref a0), (1, .int a1), (2, .int a2), (4, .int a4)] [] H (B_14_isSame_70 k24 a0 a1 a2 a4 H) := by
  unfold B_14_isSame_70
  refine s_3 71 rfl ?_
  exact s_jmp (v_14_isSame_71 l k24 hk24 _ _ _ _ _ _) ⟨rfl, rfl, rfl, rfl, trivial⟩
theorem v_14_isSame_24 (l : Launch) (k24 : Nat → Int32 → Int32 → Int32 → Int32 → jH → Option (Int32 × jH)) (hk24 : ∀ a0 a1 a2 a3 a4 H, JV l mi_14_isSame jeI 24 [(0, .ref a0), (1, .int a1), (2, .int a2), (3, .int a3), (4, .int a4)] [] H (k24 a0 a1 a2 a3 a4 H)) (a0 : Nat) (a1 : Int32) (a2 : Int32) (a3 : Int32) (a4 : Int32) (H : jH) : JV l mi_14_isSame jeI 24 [(0, .ref a0), (1, .int a1), (2, .int a2), (3, .int a3), (4, .int a4)] [] H (B_14_isSame_24 k24 a0 a1 a2 a3 a4 H) := by
  unfold B_14_isSame_24
  refine s_21 4 26 rfl rfl ?_
  refine s_42 27 rfl rfl ?_
  refine s_180R 0 13 30 13 f_14_1 jw_1391 rfl rfl ?_
  refine s_27 31 rfl rfl ?_
  refine s_46 32 rfl ?_
  refine s_162 0 46 78 35 rfl rfl ?_ ?_
  · refine s_29 79 rfl rfl ?_
    exact s_172Z rfl rfl
  · refine s_29 36 rfl rfl ?_
    refine s_153 0 34 70 39 rfl rfl ?_ ?_
    · exact s_jmp (v_14_isSame_70 l k24 hk24 _ _ _ _ _) ⟨rfl, rfl, rfl, rfl, trivial⟩
    · refine s_42 40 rfl rfl ?_
      refine s_180R 0 7 43 7 f_14_0 jw_1390 rfl rfl ?_
      refine s_16 120 45 120 jbp_120 rfl ?_
      refine s_27 46 rfl rfl ?_
      refine s_104 47 rfl ?_
      refine s_21 4 49 rfl rfl ?_
      refine s_96 50 rfl ?_
      refine s_46 51 rfl ?_
      refine s_42 52 rfl rfl ?_
      refine s_180R 0 7 55 7 f_14_0 jw_1390 rfl rfl ?_
      refine s_16 120 57 120 jbp_120 rfl ?_
      refine s_28 58 rfl rfl ?_
      refine s_104 59 rfl ?_
      refine s_21 4 61 rfl rfl ?_
      refine s_96 62 rfl ?_
      refine s_46 63 rfl ?_
      refine s_160 0 7 70 66 rfl rfl ?_ ?_
      · exact s_jmp (v_14_isSame_70 l k24 hk24 _ _ _ _ _) ⟨rfl, rfl, rfl, rfl, trivial⟩
      · refine s_4 67 rfl ?_
        refine s_167 0 4 71 rfl rfl ?_
        exact s_jmp (v_14_isSame_71 l k24 hk24 _ _ _ _ _ _) ⟨rfl, rfl, rfl, rfl, trivial⟩
theorem w_14_isSame_24 (l : Launch)  (n : Nat) : ∀ a0 a1 a2 a3 a4 H, JV l mi_14_isSame jeI 24 [(0, .ref a0), (1, .int a1), (2, .int a2), (3, .int a3), (4, .int a4)] [] H (F_14_isSame_24  n a0 a1 a2 a3 a4 H) := by
  induction n with
  | zero => intro _ _ _ _ _ _; exact s_none
  | succ n ih => intro a0 a1 a2 a3 a4 H; exact v_14_isSame_24 l (F_14_isSame_24  n) ih a0 a1 a2 a3 a4 H
theorem v_14_isSame_20 (l : Launch)  (a0 : Nat) (a1 : Int32) (a2 : Int32) (s0 : Int32) (H : jH) : JV l mi_14_isSame jeI 20 [(0, .ref a0), (1, .int a1), (2, .int a2)] [.int s0] H (B_14_isSame_20  a0 a1 a2 s0 H) := by
  unfold B_14_isSame_20
  refine s_62 21 rfl rfl ?_
  refine s_3 22 rfl ?_
  refine s_54 4 24 rfl rfl ?_
  exact s_jmp (w_14_isSame_24 l jfuel _ _ _ _ _ _) ⟨rfl, rfl, rfl, rfl, rfl, trivial⟩
theorem v_14_isSame (l : Launch) (a0 : Nat) (a1 : Int32) (a2 : Int32) (H : jH) : JV l mi_14_isSame jeI 0 [(0, .ref a0), (1, .int a1), (2, .int a2)] [] H (F_14_isSame a0 a1 a2 H) := by
  unfold F_14_isSame
  refine s_42 1 rfl rfl ?_
  refine s_180R 0 13 4 13 f_14_1 jw_1391 rfl rfl ?_
  refine s_27 5 rfl rfl ?_
  refine s_46 6 rfl ?_
  refine s_42 7 rfl rfl ?_
  refine s_180R 0 13 10 13 f_14_1 jw_1391 rfl rfl ?_
  refine s_28 11 rfl rfl ?_
  refine s_46 12 rfl ?_
  refine s_160 0 7 19 15 rfl rfl ?_ ?_
  · refine s_3 20 rfl ?_
    exact s_jmp (v_14_isSame_20 l _ _ _ _ _) ⟨rfl, rfl, rfl, trivial⟩
  · refine s_4 16 rfl ?_
    refine s_167 0 4 20 rfl rfl ?_
    exact s_jmp (v_14_isSame_20 l _ _ _ _ _) ⟨rfl, rfl, rfl, trivial⟩
theorem m_14_isSame (l : Launch) (a0 : Nat) (a1 : Int32) (a2 : Int32) (H : jH) : JMet l y_14_isSame prog_18_method_9_code mi_14_isSame jeI [.ref a0, .int a1, .int a2] H (F_14_isSame a0 a1 a2 H) := jmet_of n_14_isSame (by decide) ⟨rfl, rfl⟩ (Nat.le_of_ble_eq_true rfl) (v_14_isSame l a0 a1 a2 H)
def mi_14_mustBeTrue : jM := (344307728023376754453041218003603708510866058994146978702937922170594823639269513757738, 36, 1, "CoinNodeModel$Scripts", none, "mustBeTrue", 2, 42)
def y_14_mustBeTrue : MethodName := ⟨"CoinNodeModel$Scripts", "mustBeTrue", "()V"⟩
theorem n_14_mustBeTrue : jn_is prog_18_method_13_code mi_14_mustBeTrue.1 mi_14_mustBeTrue.2.1 := by unfold jn_is; decide +kernel
theorem k_14_mustBeTrue : jmok y_14_mustBeTrue prog_18_method_13_code mi_14_mustBeTrue 0 := ⟨jw_2040, jw_18, ⟨by decide, by decide⟩, by decide +kernel⟩
theorem v_14_mustBeTrue_35 (l : Launch)   (H : jH) : JV l mi_14_mustBeTrue jeV 35 [] [] H (B_14_mustBeTrue_35   H) := by
  unfold B_14_mustBeTrue_35
  exact s_177 rfl rfl
theorem v_14_mustBeTrue (l : Launch) (a0 : Nat) (H : jH) : JV l mi_14_mustBeTrue jeV 0 [(0, .ref a0)] [] H (F_14_mustBeTrue a0 H) := by
  unfold F_14_mustBeTrue
  refine s_42 1 rfl rfl ?_
  refine s_4 2 rfl ?_
  refine s_182I 0 64 5 64 (m_14_has l _ _ _) rfl k_14_has jc_14 jw_1971 jw_1973 jps_79 rfl rfl rfl rfl rfl (fun x1 h2 => ?_)
  refine s_153 0 30 35 8 rfl rfl ?_ ?_
  · exact s_jmp (v_14_mustBeTrue_35 l _) trivial
  · refine s_42 9 rfl rfl ?_
    refine s_89 10 rfl rfl ?_
    refine s_180I 0 44 13 44 f_14_2 jw_1392 rfl rfl ?_
    refine s_4 14 rfl ?_
    refine s_100 15 rfl ?_
    refine s_181I 0 44 18 44 f_14_2 rfl rfl jw_1392 rfl rfl (fun h3 => ?_)
    refine s_42 19 rfl rfl ?_
    refine s_42 20 rfl rfl ?_
    refine s_180I 0 44 23 44 f_14_2 jw_1392 rfl rfl ?_
    refine s_182I 0 76 26 76 (m_14_isTrueRow l _ _ _) rfl k_14_isTrueRow jc_14 jw_1975 jw_1977 jps_80 rfl rfl rfl rfl rfl (fun x4 h5 => ?_)
    refine s_154 0 9 35 29 rfl rfl ?_ ?_
    · exact s_jmp (v_14_mustBeTrue_35 l _) trivial
    · refine s_42 30 rfl rfl ?_
      refine s_16 8 32 8 jbp_8 rfl ?_
      refine s_182V 0 60 35 60 (m_14_fails l _ _ _) rfl k_14_fails jc_14 jw_1959 jw_1961 jps_76 rfl rfl rfl rfl rfl (fun x6 h7 => ?_)
      exact s_jmp (v_14_mustBeTrue_35 l _) trivial
theorem m_14_mustBeTrue (l : Launch) (a0 : Nat) (H : jH) : JMet l y_14_mustBeTrue prog_18_method_13_code mi_14_mustBeTrue jeV [.ref a0] H (F_14_mustBeTrue a0 H) := jmet_of n_14_mustBeTrue (by decide) ⟨rfl, rfl⟩ (Nat.le_of_ble_eq_true rfl) (v_14_mustBeTrue l a0 H)
