def mi_7_pass : jM := (467867356399479347102580828690767674798469978921602764639504730926569405853937317194195934097716104894999525284263413777489528354838468486370651479424694705123492547061013406722848457958869056881610474363717569299525197769800084906331195905296744036414166742892569293036896680083853413824014252593852989816863600502891386598607764217982907463543676430215657074006295572496846012577693093500294481187995954221158107546758743528802702483280192130779074869476009421434352903386097555140245390756033659707601516743820878738573290922816801145255265641518675058168706709682131856788850912901394388386405511382249238376852499482829270957079802998180780860960868914943367991226033884031079640595792862852796952605399334026074700122262663871613600990065260263750981426592326749596058135434296877071265565834213868248892540318197125073876483, 345, 9, "CoinNode$Scripts", some FieldType.boolean, "pass", 4, 143)
def y_7_pass : MethodName := ⟨"CoinNode$Scripts", "pass", "(LCoinNode$Tx;[LCoinNode$Tx;[I)Z"⟩
theorem n_7_pass : jn_is prog_9_method_3_code mi_7_pass.1 mi_7_pass.2.1 := by unfold jn_is; decide +kernel
theorem k_7_pass : jmok y_7_pass prog_9_method_3_code mi_7_pass 3 := ⟨jw_855, jw_3, ⟨by decide, by decide⟩, by decide +kernel⟩
theorem v_7_pass_34 (l : Launch)   (H : jH) : JV l mi_7_pass jeI 34 [] [] H (B_7_pass_34   H) := by
  unfold B_7_pass_34
  refine s_3 35 rfl ?_
  exact s_172Z rfl rfl
theorem v_7_pass_319 (l : Launch) (k90 : Nat → Nat → Nat → Nat → Int32 → Nat → Int32 → Int32 → jH → Option (Int32 × jH)) (hk90 : ∀ a0 a1 a2 a3 a4 a5 a6 a7 H, JV l mi_7_pass jeI 90 [(0, .ref a0), (1, .ref a1), (2, .ref a2), (3, .ref a3), (4, .int a4), (5, .ref a5), (6, .int a6), (7, .int a7)] [] H (k90 a0 a1 a2 a3 a4 a5 a6 a7 H)) (a0 : Nat) (a1 : Nat) (a2 : Nat) (a3 : Nat) (a4 : Int32) (a5 : Nat) (a6 : Int32) (a7 : Int32) (H : jH) : JV l mi_7_pass jeI 319 [(0, .ref a0), (1, .ref a1), (2, .ref a2), (3, .ref a3), (4, .int a4), (5, .ref a5), (6, .int a6), (7, .int a7)] [] H (B_7_pass_319 k90 a0 a1 a2 a3 a4 a5 a6 a7 H) := by
  unfold B_7_pass_319
  refine s_132L 7 1 322 1 ji_1 rfl rfl rfl (fun x1 => ?_)
  refine s_167 255 24 90 rfl rfl ?_
  exact s_jmp (hk90 _ _ _ _ _ _ _ _ _) ⟨rfl, rfl, rfl, rfl, rfl, rfl, rfl, rfl, trivial⟩
theorem v_7_pass_273 (l : Launch) (k90 : Nat → Nat → Nat → Nat → Int32 → Nat → Int32 → Int32 → jH → Option (Int32 × jH)) (hk90 : ∀ a0 a1 a2 a3 a4 a5 a6 a7 H, JV l mi_7_pass jeI 90 [(0, .ref a0), (1, .ref a1), (2, .ref a2), (3, .ref a3), (4, .int a4), (5, .ref a5), (6, .int a6), (7, .int a7)] [] H (k90 a0 a1 a2 a3 a4 a5 a6 a7 H)) (a0 : Nat) (a1 : Nat) (a2 : Nat) (a3 : Nat) (a4 : Int32) (a5 : Nat) (a6 : Int32) (a7 : Int32) (a8 : Int32) (H : jH) : JV l mi_7_pass jeI 273 [(0, .ref a0), (1, .ref a1), (2, .ref a2), (3, .ref a3), (4, .int a4), (5, .ref a5), (6, .int a6), (7, .int a7), (8, .int a8)] [] H (B_7_pass_273 k90 a0 a1 a2 a3 a4 a5 a6 a7 a8 H) := by
  unfold B_7_pass_273
  refine s_42 274 rfl rfl ?_
  refine s_180R 0 34 277 34 f_7_1 jw_241 rfl rfl ?_
  refine s_21 8 279 rfl rfl ?_
  refine s_182V 0 119 282 119 (m_4_answer l _ _ _) rfl k_4_answer jc_4 jw_1156 jw_1157 jw_1158 rfl rfl rfl rfl rfl (fun x2 h3 => ?_)
  refine s_167 0 37 319 rfl rfl ?_
  exact s_jmp (v_7_pass_319 l k90 hk90 _ _ _ _ _ _ _ _ _) ⟨rfl, rfl, rfl, rfl, rfl, rfl, rfl, rfl, trivial⟩
theorem v_7_pass_268 (l : Launch) (k90 : Nat → Nat → Nat → Nat → Int32 → Nat → Int32 → Int32 → jH → Option (Int32 × jH)) (hk90 : ∀ a0 a1 a2 a3 a4 a5 a6 a7 H, JV l mi_7_pass jeI 90 [(0, .ref a0), (1, .ref a1), (2, .ref a2), (3, .ref a3), (4, .int a4), (5, .ref a5), (6, .int a6), (7, .int a7)] [] H (k90 a0 a1 a2 a3 a4 a5 a6 a7 H)) (a0 : Nat) (a1 : Nat) (a2 : Nat) (a3 : Nat) (a4 : Int32) (a5 : Nat) (a6 : Int32) (a7 : Int32) (s0 : Nat) (s1 : Nat) (s2 : Int32) (H : jH) : JV l mi_7_pass jeI 268 [(0, .ref a0), (1, .ref a1), (2, .ref a2), (3, .ref a3), (4, .int a4), (5, .ref a5), (6, .int a6), (7, .int a7)] [.int s2, .ref s1, .ref s0] H (B_7_pass_268 k90 a0 a1 a2 a3 a4 a5 a6 a7 s0 s1 s2 H) := by
  unfold B_7_pass_268
  refine s_182I 0 115 271 115 (m_8_holds l _ _ _ _) rfl k_8_holds jc_8 jw_1131 jw_1132 jw_1133 rfl rfl rfl rfl rfl (fun x4 h5 => ?_)
  refine s_54 8 273 rfl rfl ?_
  exact s_jmp (v_7_pass_273 l k90 hk90 _ _ _ _ _ _ _ _ _ _) ⟨rfl, rfl, rfl, rfl, rfl, rfl, rfl, rfl, rfl, trivial⟩
theorem v_7_pass_196 (l : Launch) (k90 : Nat → Nat → Nat → Nat → Int32 → Nat → Int32 → Int32 → jH → Option (Int32 × jH)) (hk90 : ∀ a0 a1 a2 a3 a4 a5 a6 a7 H, JV l mi_7_pass jeI 90 [(0, .ref a0), (1, .ref a1), (2, .ref a2), (3, .ref a3), (4, .int a4), (5, .ref a5), (6, .int a6), (7, .int a7)] [] H (k90 a0 a1 a2 a3 a4 a5 a6 a7 H)) (a0 : Nat) (a1 : Nat) (a2 : Nat) (a3 : Nat) (a4 : Int32) (a5 : Nat) (a6 : Int32) (a7 : Int32) (s0 : Int32) (H : jH) : JV l mi_7_pass jeI 196 [(0, .ref a0), (1, .ref a1), (2, .ref a2), (3, .ref a3), (4, .int a4), (5, .ref a5), (6, .int a6), (7, .int a7)] [.int s0] H (B_7_pass_196 k90 a0 a1 a2 a3 a4 a5 a6 a7 s0 H) := by
  unfold B_7_pass_196
  refine s_54 8 198 rfl rfl ?_
  refine s_21 8 200 rfl rfl ?_
  refine s_153 0 73 273 203 rfl rfl ?_ ?_
  · exact s_jmp (v_7_pass_273 l k90 hk90 _ _ _ _ _ _ _ _ _ _) ⟨rfl, rfl, rfl, rfl, rfl, rfl, rfl, rfl, rfl, trivial⟩
  · refine s_42 204 rfl rfl ?_
    refine s_43 205 rfl rfl ?_
    refine s_21 4 207 rfl rfl ?_
    refine s_25 5 209 rfl rfl ?_
    refine s_21 6 211 rfl rfl ?_
    refine s_42 212 rfl rfl ?_
    refine s_180R 0 12 215 12 f_7_2 jw_242 rfl rfl ?_
    refine s_180I 0 97 218 97 f_8_0 jw_98 rfl rfl ?_
    refine s_182V 0 100 221 100 (m_7_write l _ _ _ _ _ _ _) rfl k_7_write jc_7 jw_1109 jw_1111 jps_23 rfl rfl rfl rfl rfl (fun x6 h7 => ?_)
    refine s_42 222 rfl rfl ?_
    refine s_180R 0 25 225 25 f_7_0 jw_240 rfl rfl ?_
    refine s_42 226 rfl rfl ?_
    refine s_180R 0 18 229 18 f_7_3 jw_243 rfl rfl ?_
    refine s_3 230 rfl ?_
    refine s_42 231 rfl rfl ?_
    refine s_180I 0 104 234 104 f_7_4 jw_244 rfl rfl ?_
    refine s_42 235 rfl rfl ?_
    refine s_180R 0 22 238 22 f_7_5 jw_245 rfl rfl ?_
    refine s_182V 0 107 241 107 (m_3_name l _ _ _ _ _ _) rfl k_3_name jc_3 jw_1122 jw_363 jw_364 rfl rfl rfl rfl rfl (fun x8 h9 => ?_)
    refine s_42 242 rfl rfl ?_
    refine s_180R 0 12 245 12 f_7_2 jw_242 rfl rfl ?_
    refine s_182V 0 112 248 112 (m_8_setBase l _ _) rfl k_8_setBase jc_8 jw_1123 jw_1124 jw_1125 rfl rfl rfl rfl rfl (fun x10 h11 => ?_)
    refine s_42 249 rfl rfl ?_
    refine s_180R 0 12 252 12 f_7_2 jw_242 rfl rfl ?_
    refine s_42 253 rfl rfl ?_
    refine s_180R 0 22 256 22 f_7_5 jw_245 rfl rfl ?_
    refine s_42 257 rfl rfl ?_
    refine s_180I 0 104 260 104 f_7_4 jw_244 rfl rfl ?_
    refine s_154 0 7 267 263 rfl rfl ?_ ?_
    · refine s_3 268 rfl ?_
      exact s_jmp (v_7_pass_268 l k90 hk90 _ _ _ _ _ _ _ _ _ _ _ _) ⟨rfl, rfl, rfl, rfl, rfl, rfl, rfl, rfl, trivial⟩
    · refine s_4 264 rfl ?_
      refine s_167 0 4 268 rfl rfl ?_
      exact s_jmp (v_7_pass_268 l k90 hk90 _ _ _ _ _ _ _ _ _ _ _ _) ⟨rfl, rfl, rfl, rfl, rfl, rfl, rfl, rfl, trivial⟩
theorem v_7_pass_195 (l : Launch) (k90 : Nat → Nat → Nat → Nat → Int32 → Nat → Int32 → Int32 → jH → Option (Int32 × jH)) (hk90 : ∀ a0 a1 a2 a3 a4 a5 a6 a7 H, JV l mi_7_pass jeI 90 [(0, .ref a0), (1, .ref a1), (2, .ref a2), (3, .ref a3), (4, .int a4), (5, .ref a5), (6, .int a6), (7, .int a7)] [] H (k90 a0 a1 a2 a3 a4 a5 a6 a7 H)) (a0 : Nat) (a1 : Nat) (a2 : Nat) (a3 : Nat) (a4 : Int32) (a5 : Nat) (a6 : Int32) (a7 : Int32) (H : jH) : JV l mi_7_pass jeI 195 [(0, .ref a0), (1, .ref a1), (2, .ref a2), (3, .ref a3), (4, .int a4), (5, .ref a5), (6, .int a6), (7, .int a7)] [] H (B_7_pass_195 k90 a0 a1 a2 a3 a4 a5 a6 a7 H) := by
  unfold B_7_pass_195
  refine s_3 196 rfl ?_
  exact s_jmp (v_7_pass_196 l k90 hk90 _ _ _ _ _ _ _ _ _ _) ⟨rfl, rfl, rfl, rfl, rfl, rfl, rfl, rfl, trivial⟩
theorem v_7_pass_325 (l : Launch) (k3 : Nat → Nat → Nat → Nat → Int32 → jH → Option (Int32 × jH)) (hk3 : ∀ a0 a1 a2 a3 a4 H, JV l mi_7_pass jeI 3 [(0, .ref a0), (1, .ref a1), (2, .ref a2), (3, .ref a3), (4, .int a4)] [] H (k3 a0 a1 a2 a3 a4 H)) (a0 : Nat) (a1 : Nat) (a2 : Nat) (a3 : Nat) (a4 : Int32) (H : jH) : JV l mi_7_pass jeI 325 [(0, .ref a0), (1, .ref a1), (2, .ref a2), (3, .ref a3), (4, .int a4)] [] H (B_7_pass_325 k3 a0 a1 a2 a3 a4 H) := by
  unfold B_7_pass_325
  refine s_42 326 rfl rfl ?_
  refine s_180R 0 34 329 34 f_7_1 jw_241 rfl rfl ?_
  refine s_182I 0 130 332 130 (m_4_isHappy l _ _) rfl k_4_isHappy jc_4 jw_1165 jw_1166 jw_1167 rfl rfl rfl rfl rfl (fun x12 h13 => ?_)
  refine s_154 0 5 337 335 rfl rfl ?_ ?_
  · refine s_132L 4 1 340 1 ji_1 rfl rfl rfl (fun x14 => ?_)
    refine s_167 254 175 3 rfl rfl ?_
    exact s_jmp (hk3 _ _ _ _ _ _) ⟨rfl, rfl, rfl, rfl, rfl, trivial⟩
  · refine s_3 336 rfl ?_
    exact s_172Z rfl rfl
theorem v_7_pass_90 (l : Launch) (k3 : Nat → Nat → Nat → Nat → Int32 → jH → Option (Int32 × jH)) (hk3 : ∀ a0 a1 a2 a3 a4 H, JV l mi_7_pass jeI 3 [(0, .ref a0), (1, .ref a1), (2, .ref a2), (3, .ref a3), (4, .int a4)] [] H (k3 a0 a1 a2 a3 a4 H)) (k90 : Nat → Nat → Nat → Nat → Int32 → Nat → Int32 → Int32 → jH → Option (Int32 × jH)) (hk90 : ∀ a0 a1 a2 a3 a4 a5 a6 a7 H, JV l mi_7_pass jeI 90 [(0, .ref a0), (1, .ref a1), (2, .ref a2), (3, .ref a3), (4, .int a4), (5, .ref a5), (6, .int a6), (7, .int a7)] [] H (k90 a0 a1 a2 a3 a4 a5 a6 a7 H)) (a0 : Nat) (a1 : Nat) (a2 : Nat) (a3 : Nat) (a4 : Int32) (a5 : Nat) (a6 : Int32) (a7 : Int32) (H : jH) : JV l mi_7_pass jeI 90 [(0, .ref a0), (1, .ref a1), (2, .ref a2), (3, .ref a3), (4, .int a4), (5, .ref a5), (6, .int a6), (7, .int a7)] [] H (B_7_pass_90 k3 k90 a0 a1 a2 a3 a4 a5 a6 a7 H) := by
  unfold B_7_pass_90
  refine s_21 7 92 rfl rfl ?_
  refine s_17 0 200 95 200 jsp_0_200 rfl ?_
  refine s_162 0 230 325 98 rfl rfl ?_ ?_
  · exact s_jmp (v_7_pass_325 l k3 hk3 _ _ _ _ _ _) ⟨rfl, rfl, rfl, rfl, rfl, trivial⟩
  · refine s_42 99 rfl rfl ?_
    refine s_180R 0 34 102 34 f_7_1 jw_241 rfl rfl ?_
    refine s_182I 0 71 105 71 (m_4_run l _ _) rfl k_4_run jc_4 jw_876 jw_877 jw_878 rfl rfl rfl rfl rfl (fun x15 h16 => ?_)
    refine s_5 106 rfl ?_
    refine s_159 0 219 325 109 rfl rfl ?_ ?_
    · exact s_jmp (v_7_pass_325 l k3 hk3 _ _ _ _ _ _) ⟨rfl, rfl, rfl, rfl, rfl, trivial⟩
    · refine s_42 110 rfl rfl ?_
      refine s_180R 0 34 113 34 f_7_1 jw_241 rfl rfl ?_
      refine s_180I 0 75 116 75 f_4_9 jw_186 rfl rfl ?_
      refine s_6 117 rfl ?_
      refine s_160 0 168 285 120 rfl rfl ?_ ?_
      · refine s_42 286 rfl rfl ?_
        refine s_180R 0 34 289 34 f_7_1 jw_241 rfl rfl ?_
        refine s_180I 0 123 292 123 f_4_8 jw_185 rfl rfl ?_
        refine s_153 0 6 298 295 rfl rfl ?_ ?_
        · refine s_42 299 rfl rfl ?_
          refine s_180R 0 34 302 34 f_7_1 jw_241 rfl rfl ?_
          refine s_25 5 304 rfl rfl ?_
          refine s_180R 0 58 307 58 f_10_0 jw_707 rfl rfl ?_
          refine s_21 6 309 rfl rfl ?_
          refine s_25 5 311 rfl rfl ?_
          refine s_21 6 313 rfl rfl ?_
          refine s_182I 0 64 316 64 (m_10_scriptSize l _ _ _) rfl k_10_scriptSize jc_10 jw_868 jw_869 jw_870 rfl rfl rfl rfl rfl (fun x17 h18 => ?_)
          refine s_182V 0 127 319 127 (m_4_openLast l _ _ _ _ _) rfl k_4_openLast jc_4 jw_1160 jw_1161 jw_1162 rfl rfl rfl rfl rfl (fun x19 h20 => ?_)
          exact s_jmp (v_7_pass_319 l k90 hk90 _ _ _ _ _ _ _ _ _) ⟨rfl, rfl, rfl, rfl, rfl, rfl, rfl, rfl, trivial⟩
        · refine s_167 0 30 325 rfl rfl ?_
          exact s_jmp (v_7_pass_325 l k3 hk3 _ _ _ _ _ _) ⟨rfl, rfl, rfl, rfl, rfl, trivial⟩
      · refine s_42 121 rfl rfl ?_
        refine s_89 122 rfl rfl ?_
        refine s_180I 0 42 125 42 f_7_6 jw_246 rfl rfl ?_
        refine s_4 126 rfl ?_
        refine s_96 127 rfl ?_
        refine s_181I 0 42 130 42 f_7_6 rfl rfl jw_246 rfl rfl (fun h21 => ?_)
        refine s_42 131 rfl rfl ?_
        refine s_180I 0 42 134 42 f_7_6 jw_246 rfl rfl ?_
        refine s_42 135 rfl rfl ?_
        refine s_180I 0 38 138 38 f_7_7 jw_247 rfl rfl ?_
        refine s_164 0 5 143 141 rfl rfl ?_ ?_
        · refine s_42 144 rfl rfl ?_
          refine s_180R 0 12 147 12 f_7_2 jw_242 rfl rfl ?_
          refine s_42 148 rfl rfl ?_
          refine s_180R 0 34 151 34 f_7_1 jw_241 rfl rfl ?_
          refine s_182R 0 78 154 78 (m_4_signature l _ _) rfl k_4_signature jc_4 jw_1005 jw_1006 jw_1007 rfl rfl rfl rfl rfl (fun x22 h23 => ?_)
          refine s_42 155 rfl rfl ?_
          refine s_180R 0 34 158 34 f_7_1 jw_241 rfl rfl ?_
          refine s_182I 0 81 161 81 (m_4_signatureSize l _ _) rfl k_4_signatureSize jc_4 jw_1009 jw_1010 jw_1011 rfl rfl rfl rfl rfl (fun x24 h25 => ?_)
          refine s_182I 0 84 164 84 (m_8_setSignature l _ _ _ _) rfl k_8_setSignature jc_8 jw_1013 jw_1014 jw_1015 rfl rfl rfl rfl rfl (fun x26 h27 => ?_)
          refine s_153 0 31 195 167 rfl rfl ?_ ?_
          · exact s_jmp (v_7_pass_195 l k90 hk90 _ _ _ _ _ _ _ _ _) ⟨rfl, rfl, rfl, rfl, rfl, rfl, rfl, rfl, trivial⟩
          · refine s_42 168 rfl rfl ?_
            refine s_180R 0 12 171 12 f_7_2 jw_242 rfl rfl ?_
            refine s_42 172 rfl rfl ?_
            refine s_180R 0 34 175 34 f_7_1 jw_241 rfl rfl ?_
            refine s_182R 0 88 178 88 (m_4_publicKey l _ _) rfl k_4_publicKey jc_4 jw_1036 jw_1037 jw_1038 rfl rfl rfl rfl rfl (fun x28 h29 => ?_)
            refine s_42 179 rfl rfl ?_
            refine s_180R 0 34 182 34 f_7_1 jw_241 rfl rfl ?_
            refine s_182I 0 91 185 91 (m_4_publicKeySize l _ _) rfl k_4_publicKeySize jc_4 jw_1040 jw_1041 jw_1042 rfl rfl rfl rfl rfl (fun x30 h31 => ?_)
            refine s_182I 0 94 188 94 (m_8_setKey l _ _ _ _) rfl k_8_setKey jc_8 jw_1044 jw_1045 jw_1046 rfl rfl rfl rfl rfl (fun x32 h33 => ?_)
            refine s_153 0 7 195 191 rfl rfl ?_ ?_
            · exact s_jmp (v_7_pass_195 l k90 hk90 _ _ _ _ _ _ _ _ _) ⟨rfl, rfl, rfl, rfl, rfl, rfl, rfl, rfl, trivial⟩
            · refine s_4 192 rfl ?_
              refine s_167 0 4 196 rfl rfl ?_
              exact s_jmp (v_7_pass_196 l k90 hk90 _ _ _ _ _ _ _ _ _ _) ⟨rfl, rfl, rfl, rfl, rfl, rfl, rfl, rfl, trivial⟩
        · refine s_3 142 rfl ?_
          exact s_172Z rfl rfl
theorem w_7_pass_90 (l : Launch) (k3 : Nat → Nat → Nat → Nat → Int32 → jH → Option (Int32 × jH)) (hk3 : ∀ a0 a1 a2 a3 a4 H, JV l mi_7_pass jeI 3 [(0, .ref a0), (1, .ref a1), (2, .ref a2), (3, .ref a3), (4, .int a4)] [] H (k3 a0 a1 a2 a3 a4 H)) (n : Nat) : ∀ a0 a1 a2 a3 a4 a5 a6 a7 H, JV l mi_7_pass jeI 90 [(0, .ref a0), (1, .ref a1), (2, .ref a2), (3, .ref a3), (4, .int a4), (5, .ref a5), (6, .int a6), (7, .int a7)] [] H (F_7_pass_90 k3 n a0 a1 a2 a3 a4 a5 a6 a7 H) := by
  induction n with
  | zero => intro _ _ _ _ _ _ _ _ _; exact s_none
  | succ n ih => intro a0 a1 a2 a3 a4 a5 a6 a7 H; exact v_7_pass_90 l k3 hk3 (F_7_pass_90 k3 n) ih a0 a1 a2 a3 a4 a5 a6 a7 H
theorem v_7_pass_3 (l : Launch) (k3 : Nat → Nat → Nat → Nat → Int32 → jH → Option (Int32 × jH)) (hk3 : ∀ a0 a1 a2 a3 a4 H, JV l mi_7_pass jeI 3 [(0, .ref a0), (1, .ref a1), (2, .ref a2), (3, .ref a3), (4, .int a4)] [] H (k3 a0 a1 a2 a3 a4 H)) (a0 : Nat) (a1 : Nat) (a2 : Nat) (a3 : Nat) (a4 : Int32) (H : jH) : JV l mi_7_pass jeI 3 [(0, .ref a0), (1, .ref a1), (2, .ref a2), (3, .ref a3), (4, .int a4)] [] H (B_7_pass_3 k3 a0 a1 a2 a3 a4 H) := by
  unfold B_7_pass_3
  refine s_21 4 5 rfl rfl ?_
  refine s_43 6 rfl rfl ?_
  refine s_180R 0 45 9 45 f_10_4 jw_725 rfl rfl ?_
  refine s_190 10 100 jm_100 rfl ?_
  refine s_162 1 77 343 13 rfl rfl ?_ ?_
  · refine s_4 344 rfl ?_
    exact s_172Z rfl rfl
  · refine s_21 4 15 rfl rfl ?_
    refine s_44 16 rfl rfl ?_
    refine s_190 17 113 jm_113 rfl ?_
    refine s_162 0 17 34 20 rfl rfl ?_ ?_
    · exact s_jmp (v_7_pass_34 l _) trivial
    · refine s_21 4 22 rfl rfl ?_
      refine s_45 23 rfl rfl ?_
      refine s_190 24 100 jm_100 rfl ?_
      refine s_162 0 10 34 27 rfl rfl ?_ ?_
      · exact s_jmp (v_7_pass_34 l _) trivial
      · refine s_44 28 rfl rfl ?_
        refine s_21 4 30 rfl rfl ?_
        refine s_50 31 113 jt_113 rfl ?_
        refine s_199 0 5 36 34 rfl rfl ?_ ?_
        · refine s_44 37 rfl rfl ?_
          refine s_21 4 39 rfl rfl ?_
          refine s_50 40 113 jt_113 rfl ?_
          refine s_58L 5 42 rfl rfl (fun x34 => ?_)
          refine s_25 5 44 rfl rfl ?_
          refine s_45 45 rfl rfl ?_
          refine s_21 4 47 rfl rfl ?_
          refine s_46 48 rfl ?_
          refine s_182I 0 51 51 51 (m_10_outputScript l _ _ _) rfl k_10_outputScript jc_10 jw_856 jw_857 jw_858 rfl rfl rfl rfl rfl (fun x35 h36 => ?_)
          refine s_54 6 53 rfl rfl ?_
          refine s_42 54 rfl rfl ?_
          refine s_180R 0 34 57 34 f_7_1 jw_241 rfl rfl ?_
          refine s_182V 0 55 60 55 (m_4_clear l _ _) rfl k_4_clear jc_4 jw_860 jw_861 jw_862 rfl rfl rfl rfl rfl (fun x37 h38 => ?_)
          refine s_42 61 rfl rfl ?_
          refine s_180R 0 34 64 34 f_7_1 jw_241 rfl rfl ?_
          refine s_43 65 rfl rfl ?_
          refine s_180R 0 58 68 58 f_10_0 jw_707 rfl rfl ?_
          refine s_43 69 rfl rfl ?_
          refine s_21 4 71 rfl rfl ?_
          refine s_182I 0 61 74 61 (m_10_inputScript l _ _ _) rfl k_10_inputScript jc_10 jw_864 jw_865 jw_866 rfl rfl rfl rfl rfl (fun x39 h40 => ?_)
          refine s_43 75 rfl rfl ?_
          refine s_43 76 rfl rfl ?_
          refine s_21 4 78 rfl rfl ?_
          refine s_182I 0 61 81 61 (m_10_inputScript l _ _ _) rfl k_10_inputScript jc_10 jw_864 jw_865 jw_866 rfl rfl rfl rfl rfl (fun x41 h42 => ?_)
          refine s_182I 0 64 84 64 (m_10_scriptSize l _ _ _) rfl k_10_scriptSize jc_10 jw_868 jw_869 jw_870 rfl rfl rfl rfl rfl (fun x43 h44 => ?_)
          refine s_182V 0 67 87 67 (m_4_open l _ _ _ _ _) rfl k_4_open jc_4 jw_872 jw_873 jw_874 rfl rfl rfl rfl rfl (fun x45 h46 => ?_)
          refine s_3 88 rfl ?_
          refine s_54 7 90 rfl rfl ?_
          exact s_jmp (w_7_pass_90 l k3 hk3 jfuel _ _ _ _ _ _ _ _ _) ⟨rfl, rfl, rfl, rfl, rfl, rfl, rfl, rfl, trivial⟩
        · exact s_jmp (v_7_pass_34 l _) trivial
theorem w_7_pass_3 (l : Launch)  (n : Nat) : ∀ a0 a1 a2 a3 a4 H, JV l mi_7_pass jeI 3 [(0, .ref a0), (1, .ref a1), (2, .ref a2), (3, .ref a3), (4, .int a4)] [] H (F_7_pass_3  n a0 a1 a2 a3 a4 H) := by
  induction n with
  | zero => intro _ _ _ _ _ _; exact s_none
  | succ n ih => intro a0 a1 a2 a3 a4 H; exact v_7_pass_3 l (F_7_pass_3  n) ih a0 a1 a2 a3 a4 H
theorem v_7_pass (l : Launch) (a0 : Nat) (a1 : Nat) (a2 : Nat) (a3 : Nat) (H : jH) : JV l mi_7_pass jeI 0 [(0, .ref a0), (1, .ref a1), (2, .ref a2), (3, .ref a3)] [] H (F_7_pass a0 a1 a2 a3 H) := by
  unfold F_7_pass
  refine s_3 1 rfl ?_
  refine s_54 4 3 rfl rfl ?_
  exact s_jmp (w_7_pass_3 l jfuel _ _ _ _ _ _) ⟨rfl, rfl, rfl, rfl, rfl, trivial⟩
theorem m_7_pass (l : Launch) (a0 : Nat) (a1 : Nat) (a2 : Nat) (a3 : Nat) (H : jH) : JMet l y_7_pass prog_9_method_3_code mi_7_pass jeI [.ref a0, .ref a1, .ref a2, .ref a3] H (F_7_pass a0 a1 a2 a3 H) := jmet_of n_7_pass (by decide) ⟨rfl, rfl⟩ (Nat.le_of_ble_eq_true rfl) (v_7_pass l a0 a1 a2 a3 H)
def mi_10_isTooMuch : jM := (35191359032720013561245876318628288810403514299603962324122301293054700400328532240034131426286583794943874387003934272591365916611715265373392450306057, 63, 6, "CoinNode$Tx", some FieldType.boolean, "isTooMuch", 2, 43)
def y_10_isTooMuch : MethodName := ⟨"CoinNode$Tx", "isTooMuch", "()Z"⟩
theorem n_10_isTooMuch : jn_is prog_12_method_13_code mi_10_isTooMuch.1 mi_10_isTooMuch.2.1 := by unfold jn_is; decide +kernel
theorem k_10_isTooMuch : jmok y_10_isTooMuch prog_12_method_13_code mi_10_isTooMuch 0 := ⟨jw_807, jw_11, ⟨by decide, by decide⟩, by decide +kernel⟩
theorem v_10_isTooMuch_36 (l : Launch)   (H : jH) : JV l mi_10_isTooMuch jeI 36 [] [] H (B_10_isTooMuch_36   H) := by
  unfold B_10_isTooMuch_36
  refine s_4 37 rfl ?_
  exact s_172Z rfl rfl
theorem v_10_isTooMuch_62 (l : Launch)  (s0 : Int32) (H : jH) : JV l mi_10_isTooMuch jeI 62 [] [.int s0] H (B_10_isTooMuch_62  s0 H) := by
  unfold B_10_isTooMuch_62
  exact s_172Z rfl rfl
theorem v_10_isTooMuch_4 (l : Launch) (k4 : Nat → Int64 → Int32 → jH → Option (Int32 × jH)) (hk4 : ∀ a0 a1 a3 H, JV l mi_10_isTooMuch jeI 4 [(0, .ref a0), (1, .long a1), (3, .int a3)] [] H (k4 a0 a1 a3 H)) (a0 : Nat) (a1 : Int64) (a3 : Int32) (H : jH) : JV l mi_10_isTooMuch jeI 4 [(0, .ref a0), (1, .long a1), (3, .int a3)] [] H (B_10_isTooMuch_4 k4 a0 a1 a3 H) := by
  unfold B_10_isTooMuch_4
  refine s_29 5 rfl rfl ?_
  refine s_42 6 rfl rfl ?_
  refine s_180R 0 19 9 19 f_10_5 jw_729 rfl rfl ?_
  refine s_190 10 100 jm_100 rfl ?_
  refine s_162 0 39 49 13 rfl rfl ?_ ?_
  · refine s_31 50 rfl rfl ?_
    refine s_20 0 68 53 68 2100000000000000 rfl jw_808 rfl ?_
    refine s_148_158 0 7 61 54 57 rfl rfl rfl ?_ ?_
    · refine s_3 62 rfl ?_
      exact s_jmp (v_10_isTooMuch_62 l _ _) trivial
    · refine s_4 58 rfl ?_
      refine s_167 0 4 62 rfl rfl ?_
      exact s_jmp (v_10_isTooMuch_62 l _ _) trivial
  · refine s_42 14 rfl rfl ?_
    refine s_29 15 rfl rfl ?_
    refine s_182L 0 58 18 58 (m_10_worth l _ _ _) rfl k_10_worth jc_10 jw_773 jw_774 jw_775 rfl rfl rfl rfl rfl (fun x1 h2 => ?_)
    refine s_55 4 20 rfl rfl ?_
    refine s_22 4 22 rfl rfl ?_
    refine s_9 23 rfl ?_
    refine s_148_155 0 12 36 24 27 rfl rfl rfl ?_ ?_
    · exact s_jmp (v_10_isTooMuch_36 l _) trivial
    · refine s_22 4 29 rfl rfl ?_
      refine s_20 0 68 32 68 2100000000000000 rfl jw_808 rfl ?_
      refine s_148_158 0 5 38 33 36 rfl rfl rfl ?_ ?_
      · refine s_31 39 rfl rfl ?_
        refine s_22 4 41 rfl rfl ?_
        refine s_97 42 rfl ?_
        refine s_64L 43 rfl rfl (fun x3 => ?_)
        refine s_132L 3 1 46 1 ji_1 rfl rfl rfl (fun x4 => ?_)
        refine s_167 255 214 4 rfl rfl ?_
        exact s_jmp (hk4 _ _ _ _) ⟨rfl, rfl, rfl, trivial⟩
      · exact s_jmp (v_10_isTooMuch_36 l _) trivial
theorem w_10_isTooMuch_4 (l : Launch)  (n : Nat) : ∀ a0 a1 a3 H, JV l mi_10_isTooMuch jeI 4 [(0, .ref a0), (1, .long a1), (3, .int a3)] [] H (F_10_isTooMuch_4  n a0 a1 a3 H) := by
  induction n with
  | zero => intro _ _ _ _; exact s_none
  | succ n ih => intro a0 a1 a3 H; exact v_10_isTooMuch_4 l (F_10_isTooMuch_4  n) ih a0 a1 a3 H
theorem v_10_isTooMuch (l : Launch) (a0 : Nat) (H : jH) : JV l mi_10_isTooMuch jeI 0 [(0, .ref a0)] [] H (F_10_isTooMuch a0 H) := by
  unfold F_10_isTooMuch
  refine s_9 1 rfl ?_
  refine s_64 2 rfl rfl ?_
  refine s_3 3 rfl ?_
  refine s_62 4 rfl rfl ?_
  exact s_jmp (w_10_isTooMuch_4 l jfuel _ _ _ _) ⟨rfl, rfl, rfl, trivial⟩
theorem m_10_isTooMuch (l : Launch) (a0 : Nat) (H : jH) : JMet l y_10_isTooMuch prog_12_method_13_code mi_10_isTooMuch jeI [.ref a0] H (F_10_isTooMuch a0 H) := jmet_of n_10_isTooMuch (by decide) ⟨rfl, rfl⟩ (Nat.le_of_ble_eq_true rfl) (v_10_isTooMuch l a0 H)
def mi_10_fault : jM := (4480453345953165495709007807163330192260100645810475100450424030299373578482421337447204010229800567941505236918982027085358456540130022050808792942126009534212701092272442352698397534554587878066260020842328044360746721667185880757927195690, 100, 3, "CoinNode$Tx", some FieldType.int, "fault", 3, 68)
def y_10_fault : MethodName := ⟨"CoinNode$Tx", "fault", "()I"⟩
theorem n_10_fault : jn_is prog_12_method_14_code mi_10_fault.1 mi_10_fault.2.1 := by unfold jn_is; decide +kernel
theorem k_10_fault : jmok y_10_fault prog_12_method_14_code mi_10_fault 0 := ⟨jw_803, jw_11, ⟨by decide, by decide⟩, by decide +kernel⟩
theorem v_10_fault_16 (l : Launch)   (H : jH) : JV l mi_10_fault jeI 16 [] [] H (B_10_fault_16   H) := by
  unfold B_10_fault_16
  refine s_5 17 rfl ?_
  exact s_172 rfl rfl
theorem v_10_fault_86 (l : Launch) (k40 : Nat → Int32 → Int32 → jH → Option (Int32 × jH)) (hk40 : ∀ a0 a1 a2 H, JV l mi_10_fault jeI 40 [(0, .ref a0), (1, .int a1), (2, .int a2)] [] H (k40 a0 a1 a2 H)) (a0 : Nat) (a1 : Int32) (a2 : Int32) (H : jH) : JV l mi_10_fault jeI 86 [(0, .ref a0), (1, .int a1), (2, .int a2)] [] H (B_10_fault_86 k40 a0 a1 a2 H) := by
  unfold B_10_fault_86
  refine s_132L 2 1 89 1 ji_1 rfl rfl rfl (fun x1 => ?_)
  refine s_167 255 207 40 rfl rfl ?_
  exact s_jmp (hk40 _ _ _ _) ⟨rfl, rfl, rfl, trivial⟩
theorem v_10_fault_40 (l : Launch) (k29 : Nat → Int32 → jH → Option (Int32 × jH)) (hk29 : ∀ a0 a1 H, JV l mi_10_fault jeI 29 [(0, .ref a0), (1, .int a1)] [] H (k29 a0 a1 H)) (k40 : Nat → Int32 → Int32 → jH → Option (Int32 × jH)) (hk40 : ∀ a0 a1 a2 H, JV l mi_10_fault jeI 40 [(0, .ref a0), (1, .int a1), (2, .int a2)] [] H (k40 a0 a1 a2 H)) (a0 : Nat) (a1 : Int32) (a2 : Int32) (H : jH) : JV l mi_10_fault jeI 40 [(0, .ref a0), (1, .int a1), (2, .int a2)] [] H (B_10_fault_40 k29 k40 a0 a1 a2 H) := by
  unfold B_10_fault_40
  refine s_28 41 rfl rfl ?_
  refine s_27 42 rfl rfl ?_
  refine s_162 0 50 92 45 rfl rfl ?_ ?_
  · refine s_132L 1 1 95 1 ji_1 rfl rfl rfl (fun x2 => ?_)
    refine s_167 255 190 29 rfl rfl ?_
    exact s_jmp (hk29 _ _ _) ⟨rfl, rfl, trivial⟩
  · refine s_42 46 rfl rfl ?_
    refine s_27 47 rfl rfl ?_
    refine s_182I 0 74 50 74 (m_10_index l _ _ _) rfl k_10_index jc_10 jw_809 jw_810 jw_811 rfl rfl rfl rfl rfl (fun x3 h4 => ?_)
    refine s_42 51 rfl rfl ?_
    refine s_28 52 rfl rfl ?_
    refine s_182I 0 74 55 74 (m_10_index l _ _ _) rfl k_10_index jc_10 jw_809 jw_810 jw_811 rfl rfl rfl rfl rfl (fun x5 h6 => ?_)
    refine s_160 0 31 86 58 rfl rfl ?_ ?_
    · exact s_jmp (v_10_fault_86 l k40 hk40 _ _ _ _) ⟨rfl, rfl, rfl, trivial⟩
    · refine s_42 59 rfl rfl ?_
      refine s_180R 0 22 62 22 f_10_0 jw_706 rfl rfl ?_
      refine s_42 63 rfl rfl ?_
      refine s_180R 0 15 66 15 f_10_4 jw_724 rfl rfl ?_
      refine s_27 67 rfl rfl ?_
      refine s_46 68 rfl ?_
      refine s_42 69 rfl rfl ?_
      refine s_180R 0 22 72 22 f_10_0 jw_706 rfl rfl ?_
      refine s_42 73 rfl rfl ?_
      refine s_180R 0 15 76 15 f_10_4 jw_724 rfl rfl ?_
      refine s_28 77 rfl rfl ?_
      refine s_46 78 rfl ?_
      refine s_184I 0 77 81 77 (m_3_same l _ _ _ _ _) rfl k_3_same jw_813 jw_814 rfl rfl rfl rfl rfl (fun x7 h8 => ?_)
      refine s_153 0 5 86 84 rfl rfl ?_ ?_
      · exact s_jmp (v_10_fault_86 l k40 hk40 _ _ _ _) ⟨rfl, rfl, rfl, trivial⟩
      · refine s_7 85 rfl ?_
        exact s_172 rfl rfl
theorem w_10_fault_40 (l : Launch) (k29 : Nat → Int32 → jH → Option (Int32 × jH)) (hk29 : ∀ a0 a1 H, JV l mi_10_fault jeI 29 [(0, .ref a0), (1, .int a1)] [] H (k29 a0 a1 H)) (n : Nat) : ∀ a0 a1 a2 H, JV l mi_10_fault jeI 40 [(0, .ref a0), (1, .int a1), (2, .int a2)] [] H (F_10_fault_40 k29 n a0 a1 a2 H) := by
  induction n with
  | zero => intro _ _ _ _; exact s_none
  | succ n ih => intro a0 a1 a2 H; exact v_10_fault_40 l k29 hk29 (F_10_fault_40 k29 n) ih a0 a1 a2 H
theorem v_10_fault_29 (l : Launch) (k29 : Nat → Int32 → jH → Option (Int32 × jH)) (hk29 : ∀ a0 a1 H, JV l mi_10_fault jeI 29 [(0, .ref a0), (1, .int a1)] [] H (k29 a0 a1 H)) (a0 : Nat) (a1 : Int32) (H : jH) : JV l mi_10_fault jeI 29 [(0, .ref a0), (1, .int a1)] [] H (B_10_fault_29 k29 a0 a1 H) := by
  unfold B_10_fault_29
  refine s_27 30 rfl rfl ?_
  refine s_42 31 rfl rfl ?_
  refine s_180R 0 15 34 15 f_10_4 jw_724 rfl rfl ?_
  refine s_190 35 100 jm_100 rfl ?_
  refine s_162 0 63 98 38 rfl rfl ?_ ?_
  · refine s_3 99 rfl ?_
    exact s_172 rfl rfl
  · refine s_3 39 rfl ?_
    refine s_61 40 rfl rfl ?_
    exact s_jmp (w_10_fault_40 l k29 hk29 jfuel _ _ _ _) ⟨rfl, rfl, rfl, trivial⟩
theorem w_10_fault_29 (l : Launch)  (n : Nat) : ∀ a0 a1 H, JV l mi_10_fault jeI 29 [(0, .ref a0), (1, .int a1)] [] H (F_10_fault_29  n a0 a1 H) := by
  induction n with
  | zero => intro _ _ _; exact s_none
  | succ n ih => intro a0 a1 H; exact v_10_fault_29 l (F_10_fault_29  n) ih a0 a1 H
theorem v_10_fault (l : Launch) (a0 : Nat) (H : jH) : JV l mi_10_fault jeI 0 [(0, .ref a0)] [] H (F_10_fault a0 H) := by
  unfold F_10_fault
  refine s_42 1 rfl rfl ?_
  refine s_180R 0 15 4 15 f_10_4 jw_724 rfl rfl ?_
  refine s_190 5 100 jm_100 rfl ?_
  refine s_153 0 11 16 8 rfl rfl ?_ ?_
  · exact s_jmp (v_10_fault_16 l _) trivial
  · refine s_42 9 rfl rfl ?_
    refine s_180R 0 19 12 19 f_10_5 jw_729 rfl rfl ?_
    refine s_190 13 100 jm_100 rfl ?_
    refine s_154 0 5 18 16 rfl rfl ?_ ?_
    · refine s_42 19 rfl rfl ?_
      refine s_182I 0 70 22 70 (m_10_isTooMuch l _ _) rfl k_10_isTooMuch jc_10 jw_804 jw_805 jw_806 rfl rfl rfl rfl rfl (fun x9 h10 => ?_)
      refine s_153 0 5 27 25 rfl rfl ?_ ?_
      · refine s_3 28 rfl ?_
        refine s_60 29 rfl rfl ?_
        exact s_jmp (w_10_fault_29 l jfuel _ _ _) ⟨rfl, rfl, trivial⟩
      · refine s_6 26 rfl ?_
        exact s_172 rfl rfl
    · exact s_jmp (v_10_fault_16 l _) trivial
theorem m_10_fault (l : Launch) (a0 : Nat) (H : jH) : JMet l y_10_fault prog_12_method_14_code mi_10_fault jeI [.ref a0] H (F_10_fault a0 H) := jmet_of n_10_fault (by decide) ⟨rfl, rfl⟩ (Nat.le_of_ble_eq_true rfl) (v_10_fault l a0 H)
def mi_6_offer : jM := (311911975824647946887516071937132174794458711116491193336414013268375400164671170419433059777345958148385911608103520833444005627561343720592589352277416105072088686646805700319764156724960004271573491932421430425349665103250345627787263167964589265019544054847915227297929100537912300425453184855629755362389260328728026185904146569348249273584877763463542894347577307328795289924241429571618883869185955258816647427501018101291, 178, 5, "CoinNode$Pool", some FieldType.int, "offer", 5, 171)
def y_6_offer : MethodName := ⟨"CoinNode$Pool", "offer", "(LCoinNode$Tx;IZ)I"⟩
theorem n_6_offer : jn_is prog_8_method_4_code mi_6_offer.1 mi_6_offer.2.1 := by unfold jn_is; decide +kernel
theorem k_6_offer : jmok y_6_offer prog_8_method_4_code mi_6_offer 3 := ⟨jw_799, jw_13, ⟨by decide, by decide⟩, by decide +kernel⟩
theorem v_6_offer_113 (l : Launch)  (a4 : Int32) (H : jH) : JV l mi_6_offer jeI 113 [(4, .int a4)] [] H (B_6_offer_113  a4 H) := by
  unfold B_6_offer_113
  refine s_21 4 115 rfl rfl ?_
  exact s_172 rfl rfl
theorem v_6_offer_177 (l : Launch)  (s0 : Int32) (H : jH) : JV l mi_6_offer jeI 177 [] [.int s0] H (B_6_offer_177  s0 H) := by
  unfold B_6_offer_177
  exact s_172 rfl rfl
theorem v_6_offer_176 (l : Launch)   (H : jH) : JV l mi_6_offer jeI 176 [] [] H (B_6_offer_176   H) := by
  unfold B_6_offer_176
  refine s_3 177 rfl ?_
  exact s_jmp (v_6_offer_177 l _ _) trivial
theorem v_6_offer_99 (l : Launch)  (a0 : Nat) (a1 : Nat) (a4 : Int32) (H : jH) : JV l mi_6_offer jeI 99 [(0, .ref a0), (1, .ref a1), (4, .int a4)] [] H (B_6_offer_99  a0 a1 a4 H) := by
  unfold B_6_offer_99
  refine s_21 4 101 rfl rfl ?_
  refine s_154 0 12 113 104 rfl rfl ?_ ?_
  · exact s_jmp (v_6_offer_113 l _ _) ⟨rfl, trivial⟩
  · refine s_42 105 rfl rfl ?_
    refine s_180I 0 41 108 41 f_6_4 jw_449 rfl rfl ?_
    refine s_16 40 110 40 jbp_40 rfl ?_
    refine s_164 0 6 116 113 rfl rfl ?_ ?_
    · refine s_42 117 rfl rfl ?_
      refine s_180R 0 11 120 11 f_6_2 jw_447 rfl rfl ?_
      refine s_42 121 rfl rfl ?_
      refine s_180I 0 41 124 41 f_6_4 jw_449 rfl rfl ?_
      refine s_43 125 rfl rfl ?_
      refine s_83 126 113 10 js_113 jc_10 rfl (fun h1 => ?_)
      refine s_42 127 rfl rfl ?_
      refine s_180R 0 15 130 15 f_6_3 jw_448 rfl rfl ?_
      refine s_42 131 rfl rfl ?_
      refine s_180I 0 41 134 41 f_6_4 jw_449 rfl rfl ?_
      refine s_42 135 rfl rfl ?_
      refine s_180L 0 84 138 84 f_6_9 jw_455 rfl rfl ?_
      refine s_43 139 rfl rfl ?_
      refine s_180L 0 88 142 88 f_10_6 jw_735 rfl rfl ?_
      refine s_101 143 rfl ?_
      refine s_80 144 rfl (fun h2 => ?_)
      refine s_42 145 rfl rfl ?_
      refine s_89 146 rfl rfl ?_
      refine s_180I 0 41 149 41 f_6_4 jw_449 rfl rfl ?_
      refine s_4 150 rfl ?_
      refine s_96 151 rfl ?_
      refine s_181I 0 41 154 41 f_6_4 rfl rfl jw_449 rfl rfl (fun h3 => ?_)
      refine s_42 155 rfl rfl ?_
      refine s_180I 0 41 158 41 f_6_4 jw_449 rfl rfl ?_
      refine s_16 40 160 40 jbp_40 rfl ?_
      refine s_164 0 16 176 163 rfl rfl ?_ ?_
      · exact s_jmp (v_6_offer_176 l _) trivial
      · refine s_42 164 rfl rfl ?_
        refine s_43 165 rfl rfl ?_
        refine s_182I 0 91 168 91 (m_6_dropLeast l _ _ _) rfl k_6_dropLeast jc_6 jw_1185 jw_1187 jps_31 rfl rfl rfl rfl rfl (fun x4 h5 => ?_)
        refine s_153 0 8 176 171 rfl rfl ?_ ?_
        · exact s_jmp (v_6_offer_176 l _) trivial
        · refine s_16 11 173 11 jbp_11 rfl ?_
          refine s_167 0 4 177 rfl rfl ?_
          exact s_jmp (v_6_offer_177 l _ _) trivial
    · exact s_jmp (v_6_offer_113 l _ _) ⟨rfl, trivial⟩
theorem v_6_offer_87 (l : Launch)  (a0 : Nat) (a1 : Nat) (a4 : Int32) (H : jH) : JV l mi_6_offer jeI 87 [(0, .ref a0), (1, .ref a1), (4, .int a4)] [] H (B_6_offer_87  a0 a1 a4 H) := by
  unfold B_6_offer_87
  refine s_21 4 89 rfl rfl ?_
  refine s_154 0 10 99 92 rfl rfl ?_ ?_
  · exact s_jmp (v_6_offer_99 l _ _ _ _) ⟨rfl, rfl, rfl, trivial⟩
  · refine s_42 93 rfl rfl ?_
    refine s_43 94 rfl rfl ?_
    refine s_182I 0 81 97 81 (m_6_knot l _ _ _) rfl k_6_knot jc_6 jw_1169 jw_1171 jps_29 rfl rfl rfl rfl rfl (fun x6 h7 => ?_)
    refine s_54 4 99 rfl rfl ?_
    exact s_jmp (v_6_offer_99 l _ _ _ _) ⟨rfl, rfl, rfl, trivial⟩
theorem v_6_offer_85 (l : Launch)  (a0 : Nat) (a1 : Nat) (s0 : Int32) (H : jH) : JV l mi_6_offer jeI 85 [(0, .ref a0), (1, .ref a1)] [.int s0] H (B_6_offer_85  a0 a1 s0 H) := by
  unfold B_6_offer_85
  refine s_54 4 87 rfl rfl ?_
  exact s_jmp (v_6_offer_87 l _ _ _ _) ⟨rfl, rfl, rfl, trivial⟩
theorem v_6_offer_42 (l : Launch)  (a0 : Nat) (a1 : Nat) (a3 : Int32) (a4 : Int32) (H : jH) : JV l mi_6_offer jeI 42 [(0, .ref a0), (1, .ref a1), (3, .int a3), (4, .int a4)] [] H (B_6_offer_42  a0 a1 a3 a4 H) := by
  unfold B_6_offer_42
  refine s_21 4 44 rfl rfl ?_
  refine s_154 0 43 87 47 rfl rfl ?_ ?_
  · exact s_jmp (v_6_offer_87 l _ _ _ _) ⟨rfl, rfl, rfl, trivial⟩
  · refine s_29 48 rfl rfl ?_
    refine s_153 0 39 87 51 rfl rfl ?_ ?_
    · exact s_jmp (v_6_offer_87 l _ _ _ _) ⟨rfl, rfl, rfl, trivial⟩
    · refine s_42 52 rfl rfl ?_
      refine s_180R 0 37 55 37 f_6_1 jw_446 rfl rfl ?_
      refine s_16 8 57 8 jbp_8 rfl ?_
      refine s_182V 0 71 60 71 (m_7_begin l _ _ _) rfl k_7_begin jc_7 jw_848 jw_849 jw_850 rfl rfl rfl rfl rfl (fun x8 h9 => ?_)
      refine s_42 61 rfl rfl ?_
      refine s_180R 0 37 64 37 f_6_1 jw_446 rfl rfl ?_
      refine s_43 65 rfl rfl ?_
      refine s_42 66 rfl rfl ?_
      refine s_180R 0 26 69 26 f_6_7 jw_453 rfl rfl ?_
      refine s_42 70 rfl rfl ?_
      refine s_180R 0 29 73 29 f_6_8 jw_454 rfl rfl ?_
      refine s_182I 0 77 76 77 (m_7_pass l _ _ _ _ _) rfl k_7_pass jc_7 jw_852 jw_853 jw_854 rfl rfl rfl rfl rfl (fun x10 h11 => ?_)
      refine s_153 0 7 83 79 rfl rfl ?_ ?_
      · refine s_16 10 85 10 jbp_10 rfl ?_
        exact s_jmp (v_6_offer_85 l _ _ _ _) ⟨rfl, rfl, trivial⟩
      · refine s_3 80 rfl ?_
        refine s_167 0 5 85 rfl rfl ?_
        exact s_jmp (v_6_offer_85 l _ _ _ _) ⟨rfl, rfl, trivial⟩
theorem v_6_offer_29 (l : Launch)  (a0 : Nat) (a1 : Nat) (a2 : Int32) (a3 : Int32) (a4 : Int32) (H : jH) : JV l mi_6_offer jeI 29 [(0, .ref a0), (1, .ref a1), (2, .int a2), (3, .int a3), (4, .int a4)] [] H (B_6_offer_29  a0 a1 a2 a3 a4 H) := by
  unfold B_6_offer_29
  refine s_21 4 31 rfl rfl ?_
  refine s_154 0 11 42 34 rfl rfl ?_ ?_
  · exact s_jmp (v_6_offer_42 l _ _ _ _ _) ⟨rfl, rfl, rfl, rfl, trivial⟩
  · refine s_42 35 rfl rfl ?_
    refine s_43 36 rfl rfl ?_
    refine s_28 37 rfl rfl ?_
    refine s_182I 0 67 40 67 (m_6_take l _ _ _ _) rfl k_6_take jc_6 jw_829 jw_831 jps_10 rfl rfl rfl rfl rfl (fun x12 h13 => ?_)
    refine s_54 4 42 rfl rfl ?_
    exact s_jmp (v_6_offer_42 l _ _ _ _ _) ⟨rfl, rfl, rfl, rfl, trivial⟩
theorem v_6_offer_27 (l : Launch)  (a0 : Nat) (a1 : Nat) (a2 : Int32) (a3 : Int32) (s0 : Int32) (H : jH) : JV l mi_6_offer jeI 27 [(0, .ref a0), (1, .ref a1), (2, .int a2), (3, .int a3)] [.int s0] H (B_6_offer_27  a0 a1 a2 a3 s0 H) := by
  unfold B_6_offer_27
  refine s_54 4 29 rfl rfl ?_
  exact s_jmp (v_6_offer_29 l _ _ _ _ _ _) ⟨rfl, rfl, rfl, rfl, rfl, trivial⟩
theorem v_6_offer (l : Launch) (a0 : Nat) (a1 : Nat) (a2 : Int32) (a3 : Int32) (H : jH) : JV l mi_6_offer jeI 0 [(0, .ref a0), (1, .ref a1), (2, .int a2), (3, .int a3)] [] H (F_6_offer a0 a1 a2 a3 H) := by
  unfold F_6_offer
  refine s_43 1 rfl rfl ?_
  refine s_182I 0 55 4 55 (m_10_fault l _ _) rfl k_10_fault jc_10 jw_800 jw_801 jw_802 rfl rfl rfl rfl rfl (fun x14 h15 => ?_)
  refine s_54 4 6 rfl rfl ?_
  refine s_21 4 8 rfl rfl ?_
  refine s_154 0 21 29 11 rfl rfl ?_ ?_
  · exact s_jmp (v_6_offer_29 l _ _ _ _ _ _) ⟨rfl, rfl, rfl, rfl, rfl, trivial⟩
  · refine s_43 12 rfl rfl ?_
    refine s_180I 0 59 15 59 f_10_7 jw_739 rfl rfl ?_
    refine s_153 0 7 22 18 rfl rfl ?_ ?_
    · refine s_42 23 rfl rfl ?_
      refine s_43 24 rfl rfl ?_
      refine s_182I 0 63 27 63 (m_6_clash l _ _ _) rfl k_6_clash jc_6 jw_816 jw_818 jps_9 rfl rfl rfl rfl rfl (fun x16 h17 => ?_)
      exact s_jmp (v_6_offer_27 l _ _ _ _ _ _) ⟨rfl, rfl, rfl, rfl, trivial⟩
    · refine s_8 19 rfl ?_
      refine s_167 0 8 27 rfl rfl ?_
      exact s_jmp (v_6_offer_27 l _ _ _ _ _ _) ⟨rfl, rfl, rfl, rfl, trivial⟩
theorem m_6_offer (l : Launch) (a0 : Nat) (a1 : Nat) (a2 : Int32) (a3 : Int32) (H : jH) : JMet l y_6_offer prog_8_method_4_code mi_6_offer jeI [.ref a0, .ref a1, .int a2, .int a3] H (F_6_offer a0 a1 a2 a3 H) := jmet_of n_6_offer (by decide) ⟨rfl, rfl⟩ (Nat.le_of_ble_eq_true rfl) (v_6_offer l a0 a1 a2 a3 H)
def mi_10_init : jM := (88074784935441340302363947484500083671212796917493779970584969236964249200458842381530922, 37, 3, "CoinNode$Tx", none, "<init>", 1, 12)
def y_10_init : MethodName := ⟨"CoinNode$Tx", "<init>", "([BI)V"⟩
theorem n_10_init : jn_is prog_12_method_1_code mi_10_init.1 mi_10_init.2.1 := by unfold jn_is; decide +kernel
theorem k_10_init : jmok y_10_init prog_12_method_1_code mi_10_init 2 := ⟨jw_704, jw_11, ⟨by decide, by decide⟩, by decide +kernel⟩
theorem v_10_init (l : Launch) (a0 : Nat) (a1 : Nat) (a2 : Int32) (H : jH) : JV l mi_10_init jeV 0 [(0, .ref a0), (1, .ref a1), (2, .int a2)] [] H (F_10_init a0 a1 a2 H) := by
  unfold F_10_init
  refine s_42 1 rfl rfl ?_
  refine s_oinit 0 3 4 3 jw_705 jw_25 jw_26 rfl rfl rfl ?_
  refine s_42 5 rfl rfl ?_
  refine s_16 32 7 32 jbp_32 rfl ?_
  refine s_188_8 9 jw_54 rfl (fun r1 h2 => ?_)
  refine s_181RF 0 9 12 9 f_10_3 rfl ⟨rfl, rfl, rfl⟩ jw_719 rfl rfl (fun h3 => ?_)
  refine s_42 13 rfl rfl ?_
  refine s_3 14 rfl ?_
  refine s_188_10 16 jw_55 rfl (fun r4 h5 => ?_)
  refine s_181R 0 15 19 15 f_10_4 rfl rfl jw_724 rfl rfl (fun h6 => ?_)
  refine s_42 20 rfl rfl ?_
  refine s_3 21 rfl ?_
  refine s_188_10 23 jw_55 rfl (fun r7 h8 => ?_)
  refine s_181R 0 19 26 19 f_10_5 rfl rfl jw_729 rfl rfl (fun h9 => ?_)
  refine s_42 27 rfl rfl ?_
  refine s_43 28 rfl rfl ?_
  refine s_181RF 0 22 31 22 f_10_0 rfl ⟨rfl, rfl, rfl⟩ jw_706 rfl rfl (fun h10 => ?_)
  refine s_42 32 rfl rfl ?_
  refine s_28 33 rfl rfl ?_
  refine s_181IF 0 25 36 25 f_10_1 rfl ⟨rfl, rfl, rfl⟩ jw_711 rfl rfl (fun h11 => ?_)
  exact s_177 rfl rfl
theorem m_10_init (l : Launch) (a0 : Nat) (a1 : Nat) (a2 : Int32) (H : jH) : JMet l y_10_init prog_12_method_1_code mi_10_init jeV [.ref a0, .ref a1, .int a2] H (F_10_init a0 a1 a2 H) := jmet_of n_10_init (by decide) ⟨rfl, rfl⟩ (Nat.le_of_ble_eq_true rfl) (v_10_init l a0 a1 a2 H)
def mi_10_isRootInput : jM := (125029913189357404432653984616271616769135347717901230284166142407441789410011034306911006599413370153881791415231272021515803155404438787, 57, 4, "CoinNode$Tx", some FieldType.boolean, "isRootInput", 0, 0)
def y_10_isRootInput : MethodName := ⟨"CoinNode$Tx", "isRootInput", "(I)Z"⟩
theorem n_10_isRootInput : jn_is prog_12_method_12_code mi_10_isRootInput.1 mi_10_isRootInput.2.1 := by unfold jn_is; decide +kernel
theorem k_10_isRootInput : jmok y_10_isRootInput prog_12_method_12_code mi_10_isRootInput 1 := ⟨jw_768, jw_11, ⟨by decide, by decide⟩, by decide +kernel⟩
theorem v_10_isRootInput_47 (l : Launch)   (H : jH) : JV l mi_10_isRootInput jeI 47 [] [] H (B_10_isRootInput_47   H) := by
  unfold B_10_isRootInput_47
  refine s_3 48 rfl ?_
  exact s_172Z rfl rfl
theorem v_10_isRootInput_19 (l : Launch) (k2 : Nat → Int32 → Int32 → jH → Option (Int32 × jH)) (hk2 : ∀ a0 a1 a2 H, JV l mi_10_isRootInput jeI 2 [(0, .ref a0), (1, .int a1), (2, .int a2)] [] H (k2 a0 a1 a2 H)) (a0 : Nat) (a1 : Int32) (a2 : Int32) (s0 : Int32) (H : jH) : JV l mi_10_isRootInput jeI 19 [(0, .ref a0), (1, .int a1), (2, .int a2)] [.int s0] H (B_10_isRootInput_19 k2 a0 a1 a2 s0 H) := by
  unfold B_10_isRootInput_19
  refine s_62 20 rfl rfl ?_
  refine s_27 21 rfl rfl ?_
  refine s_155 0 26 47 24 rfl rfl ?_ ?_
  · exact s_jmp (v_10_isRootInput_47 l _) trivial
  · refine s_27 25 rfl rfl ?_
    refine s_28 26 rfl rfl ?_
    refine s_96 27 rfl ?_
    refine s_42 28 rfl rfl ?_
    refine s_180R 0 22 31 22 f_10_0 jw_706 rfl rfl ?_
    refine s_190 32 101 jm_101 rfl ?_
    refine s_162 0 15 47 35 rfl rfl ?_ ?_
    · exact s_jmp (v_10_isRootInput_47 l _) trivial
    · refine s_42 36 rfl rfl ?_
      refine s_180R 0 22 39 22 f_10_0 jw_706 rfl rfl ?_
      refine s_27 40 rfl rfl ?_
      refine s_28 41 rfl rfl ?_
      refine s_96 42 rfl ?_
      refine s_51B 43 rfl ?_
      refine s_29 44 rfl rfl ?_
      refine s_159 0 5 49 47 rfl rfl ?_ ?_
      · refine s_132L 2 1 52 1 ji_1 rfl rfl rfl (fun x1 => ?_)
        refine s_167 255 206 2 rfl rfl ?_
        exact s_jmp (hk2 _ _ _ _) ⟨rfl, rfl, rfl, trivial⟩
      · exact s_jmp (v_10_isRootInput_47 l _) trivial
theorem v_10_isRootInput_2 (l : Launch) (k2 : Nat → Int32 → Int32 → jH → Option (Int32 × jH)) (hk2 : ∀ a0 a1 a2 H, JV l mi_10_isRootInput jeI 2 [(0, .ref a0), (1, .int a1), (2, .int a2)] [] H (k2 a0 a1 a2 H)) (a0 : Nat) (a1 : Int32) (a2 : Int32) (H : jH) : JV l mi_10_isRootInput jeI 2 [(0, .ref a0), (1, .int a1), (2, .int a2)] [] H (B_10_isRootInput_2 k2 a0 a1 a2 H) := by
  unfold B_10_isRootInput_2
  refine s_28 3 rfl rfl ?_
  refine s_16 36 5 36 jbp_36 rfl ?_
  refine s_162 0 50 55 8 rfl rfl ?_ ?_
  · refine s_4 56 rfl ?_
    exact s_172Z rfl rfl
  · refine s_28 9 rfl rfl ?_
    refine s_16 32 11 32 jbp_32 rfl ?_
    refine s_162 0 7 18 14 rfl rfl ?_ ?_
    · refine s_2 19 rfl ?_
      exact s_jmp (v_10_isRootInput_19 l k2 hk2 _ _ _ _ _) ⟨rfl, rfl, rfl, trivial⟩
    · refine s_3 15 rfl ?_
      refine s_167 0 4 19 rfl rfl ?_
      exact s_jmp (v_10_isRootInput_19 l k2 hk2 _ _ _ _ _) ⟨rfl, rfl, rfl, trivial⟩
theorem w_10_isRootInput_2 (l : Launch)  (n : Nat) : ∀ a0 a1 a2 H, JV l mi_10_isRootInput jeI 2 [(0, .ref a0), (1, .int a1), (2, .int a2)] [] H (F_10_isRootInput_2  n a0 a1 a2 H) := by
  induction n with
  | zero => intro _ _ _ _; exact s_none
  | succ n ih => intro a0 a1 a2 H; exact v_10_isRootInput_2 l (F_10_isRootInput_2  n) ih a0 a1 a2 H
theorem v_10_isRootInput (l : Launch) (a0 : Nat) (a1 : Int32) (H : jH) : JV l mi_10_isRootInput jeI 0 [(0, .ref a0), (1, .int a1)] [] H (F_10_isRootInput a0 a1 H) := by
  unfold F_10_isRootInput
  refine s_3 1 rfl ?_
  refine s_61 2 rfl rfl ?_
  exact s_jmp (w_10_isRootInput_2 l jfuel _ _ _ _) ⟨rfl, rfl, rfl, trivial⟩
theorem m_10_isRootInput (l : Launch) (a0 : Nat) (a1 : Int32) (H : jH) : JMet l y_10_isRootInput prog_12_method_12_code mi_10_isRootInput jeI [.ref a0, .int a1] H (F_10_isRootInput a0 a1 H) := jmet_of n_10_isRootInput (by decide) ⟨rfl, rfl⟩ (Nat.le_of_ble_eq_true rfl) (v_10_isRootInput l a0 a1 H)
def mi_10_sizeAt : jM := (304097953694428772740401572741083527333794146236496143330190908769100143387, 31, 4, "CoinNode$Tx", some FieldType.int, "sizeAt", 0, 0)
def y_10_sizeAt : MethodName := ⟨"CoinNode$Tx", "sizeAt", "([BII)I"⟩
theorem n_10_sizeAt : jn_is prog_12_method_5_code mi_10_sizeAt.1 mi_10_sizeAt.2.1 := by unfold jn_is; decide +kernel
theorem k_10_sizeAt : jmok y_10_sizeAt prog_12_method_5_code mi_10_sizeAt 3 := ⟨jw_764, jw_11, ⟨by decide, by decide⟩, by decide +kernel⟩
theorem v_10_sizeAt_10 (l : Launch)   (H : jH) : JV l mi_10_sizeAt jeI 10 [] [] H (B_10_sizeAt_10   H) := by
  unfold B_10_sizeAt_10
  refine s_2 11 rfl ?_
  exact s_172 rfl rfl
theorem v_10_sizeAt_30 (l : Launch)  (s0 : Int32) (H : jH) : JV l mi_10_sizeAt jeI 30 [] [.int s0] H (B_10_sizeAt_30  s0 H) := by
  unfold B_10_sizeAt_30
  exact s_172 rfl rfl
theorem v_10_sizeAt (l : Launch) (a0 : Nat) (a1 : Int32) (a2 : Int32) (H : jH) : JV l mi_10_sizeAt jeI 0 [(0, .ref a0), (1, .int a1), (2, .int a2)] [] H (F_10_sizeAt a0 a1 a2 H) := by
  unfold F_10_sizeAt
  refine s_27 1 rfl rfl ?_
  refine s_155 0 9 10 4 rfl rfl ?_ ?_
  · exact s_jmp (v_10_sizeAt_10 l _) trivial
  · refine s_27 5 rfl rfl ?_
    refine s_42 6 rfl rfl ?_
    refine s_190 7 101 jm_101 rfl ?_
    refine s_161 0 5 12 10 rfl rfl ?_ ?_
    · refine s_42 13 rfl rfl ?_
      refine s_27 14 rfl rfl ?_
      refine s_51B 15 rfl ?_
      refine s_17 0 255 18 255 jsp_0_255 rfl ?_
      refine s_126 19 rfl ?_
      refine s_62L 20 rfl rfl (fun x1 => ?_)
      refine s_29 21 rfl rfl ?_
      refine s_28 22 rfl rfl ?_
      refine s_164 0 7 29 25 rfl rfl ?_ ?_
      · refine s_29 30 rfl rfl ?_
        exact s_jmp (v_10_sizeAt_30 l _ _) trivial
      · refine s_2 26 rfl ?_
        refine s_167 0 4 30 rfl rfl ?_
        exact s_jmp (v_10_sizeAt_30 l _ _) trivial
    · exact s_jmp (v_10_sizeAt_10 l _) trivial
theorem m_10_sizeAt (l : Launch) (a0 : Nat) (a1 : Int32) (a2 : Int32) (H : jH) : JMet l y_10_sizeAt prog_12_method_5_code mi_10_sizeAt jeI [.ref a0, .int a1, .int a2] H (F_10_sizeAt a0 a1 a2 H) := jmet_of n_10_sizeAt (by decide) ⟨rfl, rfl⟩ (Nat.le_of_ble_eq_true rfl) (v_10_sizeAt l a0 a1 a2 H)
def mi_10_readInputs : jM := (293804384902572926754938282557846065338044497084355664424252939160154470267184277546249552481721423053349924780130560717949918255156366662304785533063772900358963943306130698023365614811859315150492798170774687720771882467569065690362249922786346, 102, 6, "CoinNode$Tx", some FieldType.int, "readInputs", 1, 23)
def y_10_readInputs : MethodName := ⟨"CoinNode$Tx", "readInputs", "(I)I"⟩
theorem n_10_readInputs : jn_is prog_12_method_3_code mi_10_readInputs.1 mi_10_readInputs.2.1 := by unfold jn_is; decide +kernel
theorem k_10_readInputs : jmok y_10_readInputs prog_12_method_3_code mi_10_readInputs 1 := ⟨jw_761, jw_11, ⟨by decide, by decide⟩, by decide +kernel⟩
theorem v_10_readInputs_32 (l : Launch) (k32 : Nat → Int32 → Int32 → Int32 → jH → Option (Int32 × jH)) (hk32 : ∀ a0 a2 a3 a4 H, JV l mi_10_readInputs jeI 32 [(0, .ref a0), (2, .int a2), (3, .int a3), (4, .int a4)] [] H (k32 a0 a2 a3 a4 H)) (a0 : Nat) (a2 : Int32) (a3 : Int32) (a4 : Int32) (H : jH) : JV l mi_10_readInputs jeI 32 [(0, .ref a0), (2, .int a2), (3, .int a3), (4, .int a4)] [] H (B_10_readInputs_32 k32 a0 a2 a3 a4 H) := by
  unfold B_10_readInputs_32
  refine s_21 4 34 rfl rfl ?_
  refine s_28 35 rfl rfl ?_
  refine s_162 0 65 100 38 rfl rfl ?_ ?_
  · refine s_29 101 rfl rfl ?_
    exact s_172 rfl rfl
  · refine s_42 39 rfl rfl ?_
    refine s_180R 0 22 42 22 f_10_0 jw_706 rfl rfl ?_
    refine s_29 43 rfl rfl ?_
    refine s_16 36 45 36 jbp_36 rfl ?_
    refine s_96 46 rfl ?_
    refine s_17 0 200 49 200 jsp_0_200 rfl ?_
    refine s_184I 0 42 52 42 (m_10_sizeAt l _ _ _ _) rfl k_10_sizeAt jw_762 jw_763 rfl rfl rfl rfl rfl (fun x1 h2 => ?_)
    refine s_54 5 54 rfl rfl ?_
    refine s_21 5 56 rfl rfl ?_
    refine s_2 57 rfl ?_
    refine s_160 0 5 62 60 rfl rfl ?_ ?_
    · refine s_42 63 rfl rfl ?_
      refine s_180R 0 15 66 15 f_10_4 jw_724 rfl rfl ?_
      refine s_21 4 68 rfl rfl ?_
      refine s_29 69 rfl rfl ?_
      refine s_79 70 rfl (fun h3 => ?_)
      refine s_42 71 rfl rfl ?_
      refine s_89 72 rfl rfl ?_
      refine s_180I 0 46 75 46 f_10_7 jw_738 rfl rfl ?_
      refine s_42 76 rfl rfl ?_
      refine s_29 77 rfl rfl ?_
      refine s_182I 0 50 80 50 (m_10_isRootInput l _ _ _) rfl k_10_isRootInput jc_10 jw_765 jw_767 jps_3 rfl rfl rfl rfl rfl (fun x4 h5 => ?_)
      refine s_128 81 rfl ?_
      refine s_181Z 0 46 84 46 f_10_7 rfl rfl jw_738 rfl rfl (fun h6 => ?_)
      refine s_29 85 rfl rfl ?_
      refine s_16 37 87 37 jbp_37 rfl ?_
      refine s_21 5 89 rfl rfl ?_
      refine s_96 90 rfl ?_
      refine s_7 91 rfl ?_
      refine s_96 92 rfl ?_
      refine s_96 93 rfl ?_
      refine s_62L 94 rfl rfl (fun x7 => ?_)
      refine s_132L 4 1 97 1 ji_1 rfl rfl rfl (fun x8 => ?_)
      refine s_167 255 191 32 rfl rfl ?_
      exact s_jmp (hk32 _ _ _ _ _) ⟨rfl, rfl, rfl, rfl, trivial⟩
    · refine s_2 61 rfl ?_
      exact s_172 rfl rfl
theorem w_10_readInputs_32 (l : Launch)  (n : Nat) : ∀ a0 a2 a3 a4 H, JV l mi_10_readInputs jeI 32 [(0, .ref a0), (2, .int a2), (3, .int a3), (4, .int a4)] [] H (F_10_readInputs_32  n a0 a2 a3 a4 H) := by
  induction n with
  | zero => intro _ _ _ _ _; exact s_none
  | succ n ih => intro a0 a2 a3 a4 H; exact v_10_readInputs_32 l (F_10_readInputs_32  n) ih a0 a2 a3 a4 H
theorem v_10_readInputs (l : Launch) (a0 : Nat) (a1 : Int32) (H : jH) : JV l mi_10_readInputs jeI 0 [(0, .ref a0), (1, .int a1)] [] H (F_10_readInputs a0 a1 H) := by
  unfold F_10_readInputs
  refine s_42 1 rfl rfl ?_
  refine s_180R 0 22 4 22 f_10_0 jw_706 rfl rfl ?_
  refine s_27 5 rfl rfl ?_
  refine s_16 8 7 8 jbp_8 rfl ?_
  refine s_184I 0 42 10 42 (m_10_sizeAt l _ _ _ _) rfl k_10_sizeAt jw_762 jw_763 rfl rfl rfl rfl rfl (fun x9 h10 => ?_)
  refine s_61 11 rfl rfl ?_
  refine s_28 12 rfl rfl ?_
  refine s_2 13 rfl ?_
  refine s_160 0 5 18 16 rfl rfl ?_ ?_
  · refine s_42 19 rfl rfl ?_
    refine s_28 20 rfl rfl ?_
    refine s_188_10 22 jw_55 rfl (fun r11 h12 => ?_)
    refine s_181R 0 15 25 15 f_10_4 rfl rfl jw_724 rfl rfl (fun h13 => ?_)
    refine s_27 26 rfl rfl ?_
    refine s_4 27 rfl ?_
    refine s_96 28 rfl ?_
    refine s_62L 29 rfl rfl (fun x14 => ?_)
    refine s_3 30 rfl ?_
    refine s_54 4 32 rfl rfl ?_
    exact s_jmp (w_10_readInputs_32 l jfuel _ _ _ _ _) ⟨rfl, rfl, rfl, rfl, trivial⟩
  · refine s_2 17 rfl ?_
    exact s_172 rfl rfl
theorem m_10_readInputs (l : Launch) (a0 : Nat) (a1 : Int32) (H : jH) : JMet l y_10_readInputs prog_12_method_3_code mi_10_readInputs jeI [.ref a0, .int a1] H (F_10_readInputs a0 a1 H) := jmet_of n_10_readInputs (by decide) ⟨rfl, rfl⟩ (Nat.le_of_ble_eq_true rfl) (v_10_readInputs l a0 a1 H)
def mi_10_readOutputs : jM := (1147673480271501192155738440115704060791483307073724407343714771200609157135894112609690185405840781153961053997985982973133375932798088936980119217437378436182267901828300669814236963457025772380586104678514717926860892480222515397452682540074, 101, 6, "CoinNode$Tx", some FieldType.int, "readOutputs", 2, 43)
def y_10_readOutputs : MethodName := ⟨"CoinNode$Tx", "readOutputs", "(I)I"⟩
theorem n_10_readOutputs : jn_is prog_12_method_4_code mi_10_readOutputs.1 mi_10_readOutputs.2.1 := by unfold jn_is; decide +kernel
theorem k_10_readOutputs : jmok y_10_readOutputs prog_12_method_4_code mi_10_readOutputs 1 := ⟨jw_772, jw_11, ⟨by decide, by decide⟩, by decide +kernel⟩
theorem v_10_readOutputs_32 (l : Launch) (k32 : Nat → Int32 → Int32 → Int32 → jH → Option (Int32 × jH)) (hk32 : ∀ a0 a2 a3 a4 H, JV l mi_10_readOutputs jeI 32 [(0, .ref a0), (2, .int a2), (3, .int a3), (4, .int a4)] [] H (k32 a0 a2 a3 a4 H)) (a0 : Nat) (a2 : Int32) (a3 : Int32) (a4 : Int32) (H : jH) : JV l mi_10_readOutputs jeI 32 [(0, .ref a0), (2, .int a2), (3, .int a3), (4, .int a4)] [] H (B_10_readOutputs_32 k32 a0 a2 a3 a4 H) := by
  unfold B_10_readOutputs_32
  refine s_21 4 34 rfl rfl ?_
  refine s_28 35 rfl rfl ?_
  refine s_162 0 64 99 38 rfl rfl ?_ ?_
  · refine s_29 100 rfl rfl ?_
    exact s_172 rfl rfl
  · refine s_42 39 rfl rfl ?_
    refine s_180R 0 22 42 22 f_10_0 jw_706 rfl rfl ?_
    refine s_29 43 rfl rfl ?_
    refine s_16 8 45 8 jbp_8 rfl ?_
    refine s_96 46 rfl ?_
    refine s_17 0 200 49 200 jsp_0_200 rfl ?_
    refine s_184I 0 42 52 42 (m_10_sizeAt l _ _ _ _) rfl k_10_sizeAt jw_762 jw_763 rfl rfl rfl rfl rfl (fun x1 h2 => ?_)
    refine s_54 5 54 rfl rfl ?_
    refine s_21 5 56 rfl rfl ?_
    refine s_2 57 rfl ?_
    refine s_160 0 5 62 60 rfl rfl ?_ ?_
    · refine s_42 63 rfl rfl ?_
      refine s_180R 0 19 66 19 f_10_5 jw_729 rfl rfl ?_
      refine s_21 4 68 rfl rfl ?_
      refine s_29 69 rfl rfl ?_
      refine s_79 70 rfl (fun h3 => ?_)
      refine s_42 71 rfl rfl ?_
      refine s_89 72 rfl rfl ?_
      refine s_180L 0 54 75 54 f_10_6 jw_734 rfl rfl ?_
      refine s_42 76 rfl rfl ?_
      refine s_21 4 78 rfl rfl ?_
      refine s_182L 0 58 81 58 (m_10_worth l _ _ _) rfl k_10_worth jc_10 jw_773 jw_774 jw_775 rfl rfl rfl rfl rfl (fun x4 h5 => ?_)
      refine s_97 82 rfl ?_
      refine s_181L 0 54 85 54 f_10_6 rfl rfl jw_734 rfl rfl (fun h6 => ?_)
      refine s_29 86 rfl rfl ?_
      refine s_16 9 88 9 jbp_9 rfl ?_
      refine s_21 5 90 rfl rfl ?_
      refine s_96 91 rfl ?_
      refine s_96 92 rfl ?_
      refine s_62L 93 rfl rfl (fun x7 => ?_)
      refine s_132L 4 1 96 1 ji_1 rfl rfl rfl (fun x8 => ?_)
      refine s_167 255 192 32 rfl rfl ?_
      exact s_jmp (hk32 _ _ _ _ _) ⟨rfl, rfl, rfl, rfl, trivial⟩
    · refine s_2 61 rfl ?_
      exact s_172 rfl rfl
theorem w_10_readOutputs_32 (l : Launch)  (n : Nat) : ∀ a0 a2 a3 a4 H, JV l mi_10_readOutputs jeI 32 [(0, .ref a0), (2, .int a2), (3, .int a3), (4, .int a4)] [] H (F_10_readOutputs_32  n a0 a2 a3 a4 H) := by
  induction n with
  | zero => intro _ _ _ _ _; exact s_none
  | succ n ih => intro a0 a2 a3 a4 H; exact v_10_readOutputs_32 l (F_10_readOutputs_32  n) ih a0 a2 a3 a4 H
theorem v_10_readOutputs (l : Launch) (a0 : Nat) (a1 : Int32) (H : jH) : JV l mi_10_readOutputs jeI 0 [(0, .ref a0), (1, .int a1)] [] H (F_10_readOutputs a0 a1 H) := by
  unfold F_10_readOutputs
  refine s_42 1 rfl rfl ?_
  refine s_180R 0 22 4 22 f_10_0 jw_706 rfl rfl ?_
  refine s_27 5 rfl rfl ?_
  refine s_16 8 7 8 jbp_8 rfl ?_
  refine s_184I 0 42 10 42 (m_10_sizeAt l _ _ _ _) rfl k_10_sizeAt jw_762 jw_763 rfl rfl rfl rfl rfl (fun x9 h10 => ?_)
  refine s_61 11 rfl rfl ?_
  refine s_28 12 rfl rfl ?_
  refine s_2 13 rfl ?_
  refine s_160 0 5 18 16 rfl rfl ?_ ?_
  · refine s_42 19 rfl rfl ?_
    refine s_28 20 rfl rfl ?_
    refine s_188_10 22 jw_55 rfl (fun r11 h12 => ?_)
    refine s_181R 0 19 25 19 f_10_5 rfl rfl jw_729 rfl rfl (fun h13 => ?_)
    refine s_27 26 rfl rfl ?_
    refine s_4 27 rfl ?_
    refine s_96 28 rfl ?_
    refine s_62L 29 rfl rfl (fun x14 => ?_)
    refine s_3 30 rfl ?_
    refine s_54 4 32 rfl rfl ?_
    exact s_jmp (w_10_readOutputs_32 l jfuel _ _ _ _ _) ⟨rfl, rfl, rfl, rfl, trivial⟩
  · refine s_2 17 rfl ?_
    exact s_172 rfl rfl
theorem m_10_readOutputs (l : Launch) (a0 : Nat) (a1 : Int32) (H : jH) : JMet l y_10_readOutputs prog_12_method_4_code mi_10_readOutputs jeI [.ref a0, .int a1] H (F_10_readOutputs a0 a1 H) := jmet_of n_10_readOutputs (by decide) ⟨rfl, rfl⟩ (Nat.le_of_ble_eq_true rfl) (v_10_readOutputs l a0 a1 H)
def mi_10_read : jM := (8391817523949356231834137424013672650152403855723059198578696840139809367254573543951695510168962697054170636735256815042052971848176694329531, 59, 4, "CoinNode$Tx", some (FieldType.object "CoinNode$Tx"), "read", 3, 68)
def y_10_read : MethodName := ⟨"CoinNode$Tx", "read", "([BI)LCoinNode$Tx;"⟩
theorem n_10_read : jn_is prog_12_method_2_code mi_10_read.1 mi_10_read.2.1 := by unfold jn_is; decide +kernel
theorem k_10_read : jmok y_10_read prog_12_method_2_code mi_10_read 2 := ⟨jw_699, jw_11, ⟨by decide, by decide⟩, by decide +kernel⟩
theorem v_10_read_46 (l : Launch)   (H : jH) : JV l mi_10_read jeR 46 [] [] H (B_10_read_46   H) := by
  unfold B_10_read_46
  refine s_1 47 rfl ?_
  exact s_176 rfl rfl rfl
theorem v_10_read_32 (l : Launch)  (a0 : Nat) (a1 : Int32) (a2 : Nat) (s0 : Int32) (H : jH) : JV l mi_10_read jeR 32 [(0, .ref a0), (1, .int a1), (2, .ref a2)] [.int s0] H (B_10_read_32  a0 a1 a2 s0 H) := by
  unfold B_10_read_32
  refine s_62 33 rfl rfl ?_
  refine s_29 34 rfl rfl ?_
  refine s_2 35 rfl ?_
  refine s_159 0 11 46 38 rfl rfl ?_ ?_
  · exact s_jmp (v_10_read_46 l _) trivial
  · refine s_29 39 rfl rfl ?_
    refine s_7 40 rfl ?_
    refine s_96 41 rfl ?_
    refine s_42 42 rfl rfl ?_
    refine s_190 43 101 jm_101 rfl ?_
    refine s_164 0 5 48 46 rfl rfl ?_ ?_
    · refine s_44 49 rfl rfl ?_
      refine s_29 50 rfl rfl ?_
      refine s_7 51 rfl ?_
      refine s_96 52 rfl ?_
      refine s_27 53 rfl rfl ?_
      refine s_100 54 rfl ?_
      refine s_181I 0 39 57 39 f_10_2 rfl rfl jw_714 rfl rfl (fun h1 => ?_)
      refine s_44 58 rfl rfl ?_
      exact s_176 rfl rfl rfl
    · exact s_jmp (v_10_read_46 l _) trivial
theorem v_10_read (l : Launch) (a0 : Nat) (a1 : Int32) (H : jH) : JV l mi_10_read jeR 0 [(0, .ref a0), (1, .int a1)] [] H (F_10_read a0 a1 H) := by
  unfold F_10_read
  refine s_187 0 10 3 10 jc_10 jw_700 jw_701 jw_11 rfl rfl (fun r2 h3 => ?_)
  refine s_89 4 rfl rfl ?_
  refine s_42 5 rfl rfl ?_
  refine s_27 6 rfl rfl ?_
  refine s_183V 0 29 9 29 (m_10_init l _ _ _ _) rfl k_10_init rfl rfl jw_702 jw_703 rfl rfl rfl rfl rfl (fun x4 h5 => ?_)
  refine s_77 10 rfl rfl ?_
  refine s_44 11 rfl rfl ?_
  refine s_27 12 rfl rfl ?_
  refine s_7 13 rfl ?_
  refine s_96 14 rfl ?_
  refine s_182I 0 32 17 32 (m_10_readInputs l _ _ _) rfl k_10_readInputs jc_10 jw_758 jw_760 jps_2 rfl rfl rfl rfl rfl (fun x6 h7 => ?_)
  refine s_62 18 rfl rfl ?_
  refine s_29 19 rfl rfl ?_
  refine s_2 20 rfl ?_
  refine s_160 0 7 27 23 rfl rfl ?_ ?_
  · refine s_44 28 rfl rfl ?_
    refine s_29 29 rfl rfl ?_
    refine s_182I 0 36 32 36 (m_10_readOutputs l _ _ _) rfl k_10_readOutputs jc_10 jw_769 jw_771 jps_4 rfl rfl rfl rfl rfl (fun x8 h9 => ?_)
    exact s_jmp (v_10_read_32 l _ _ _ _ _) ⟨rfl, rfl, rfl, trivial⟩
  · refine s_2 24 rfl ?_
    refine s_167 0 8 32 rfl rfl ?_
    exact s_jmp (v_10_read_32 l _ _ _ _ _) ⟨rfl, rfl, rfl, trivial⟩
theorem m_10_read (l : Launch) (a0 : Nat) (a1 : Int32) (H : jH) : JMet l y_10_read prog_12_method_2_code mi_10_read jeR [.ref a0, .int a1] H (F_10_read a0 a1 H) := jmet_of n_10_read (by decide) ⟨rfl, rfl⟩ (Nat.le_of_ble_eq_true rfl) (v_10_read l a0 a1 H)
def mi_11_takeTransaction : jM := (1078063929341359172259988479378039065793882256837443988228294229211540177135721899362861592559590688392569352632626256278217317474886274731984447670640512870142182769024421832061812934321516858363314224157432344252497368148321240108, 96, 5, "CoinNode", none, "takeTransaction", 6, 195)
def y_11_takeTransaction : MethodName := ⟨"CoinNode", "takeTransaction", "(I[B)V"⟩
theorem n_11_takeTransaction : jn_is prog_1_method_12_code mi_11_takeTransaction.1 mi_11_takeTransaction.2.1 := by unfold jn_is; decide +kernel
theorem k_11_takeTransaction : jmok y_11_takeTransaction prog_1_method_12_code mi_11_takeTransaction 2 := ⟨jw_696, jw_1, ⟨by decide, by decide⟩, by decide +kernel⟩
theorem v_11_takeTransaction_21 (l : Launch)  (a0 : Nat) (a1 : Int32) (H : jH) : JV l mi_11_takeTransaction jeV 21 [(0, .ref a0), (1, .int a1)] [] H (B_11_takeTransaction_21  a0 a1 H) := by
  unfold B_11_takeTransaction_21
  refine s_42 22 rfl rfl ?_
  refine s_27 23 rfl rfl ?_
  refine s_4 24 rfl ?_
  refine s_1 25 rfl ?_
  refine s_182V 0 134 28 134 (m_11_answerVerdict l _ _ _ _ _) rfl k_11_answerVerdict jc_11 jw_779 jw_781 jps_5 rfl rfl rfl rfl rfl (fun x1 h2 => ?_)
  exact s_177 rfl rfl
theorem v_11_takeTransaction_95 (l : Launch)   (H : jH) : JV l mi_11_takeTransaction jeV 95 [] [] H (B_11_takeTransaction_95   H) := by
  unfold B_11_takeTransaction_95
  exact s_177 rfl rfl
theorem v_11_takeTransaction (l : Launch) (a0 : Nat) (a1 : Int32) (a2 : Nat) (H : jH) : JV l mi_11_takeTransaction jeV 0 [(0, .ref a0), (1, .int a1), (2, .ref a2)] [] H (F_11_takeTransaction a0 a1 a2 H) := by
  unfold F_11_takeTransaction
  refine s_44 1 rfl rfl ?_
  refine s_4 2 rfl ?_
  refine s_184R 0 180 5 180 (m_10_read l _ _ _) rfl k_10_read jw_697 jw_698 rfl rfl rfl rfl rfl (fun x3 h4 => ?_)
  refine s_78 6 rfl rfl ?_
  refine s_45 7 rfl rfl ?_
  refine s_198 0 14 21 10 rfl rfl ?_ ?_
  · exact s_jmp (v_11_takeTransaction_21 l _ _ _) ⟨rfl, rfl, trivial⟩
  · refine s_4 11 rfl ?_
    refine s_45 12 rfl rfl ?_
    refine s_180I 0 185 15 185 f_10_2 jw_718 rfl rfl ?_
    refine s_96 16 rfl ?_
    refine s_44 17 rfl rfl ?_
    refine s_190 18 101 jm_101 rfl ?_
    refine s_159 0 11 29 21 rfl rfl ?_ ?_
    · refine s_42 30 rfl rfl ?_
      refine s_180R 0 34 33 34 f_11_9 jw_486 rfl rfl ?_
      refine s_44 34 rfl rfl ?_
      refine s_4 35 rfl ?_
      refine s_45 36 rfl rfl ?_
      refine s_180I 0 185 39 185 f_10_2 jw_718 rfl rfl ?_
      refine s_45 40 rfl rfl ?_
      refine s_180R 0 188 43 188 f_10_3 jw_723 rfl rfl ?_
      refine s_182V 0 189 46 189 (m_3_name l _ _ _ _ _ _) rfl k_3_name jc_3 jw_795 jw_363 jw_364 rfl rfl rfl rfl rfl (fun x5 h6 => ?_)
      refine s_42 47 rfl rfl ?_
      refine s_180R 0 68 50 68 f_11_13 jw_490 rfl rfl ?_
      refine s_45 51 rfl rfl ?_
      refine s_42 52 rfl rfl ?_
      refine s_180R 0 59 55 59 f_11_12 jw_489 rfl rfl ?_
      refine s_180R 0 90 58 90 f_1_6 jw_390 rfl rfl ?_
      refine s_180I 0 114 61 114 f_0_6 jw_338 rfl rfl ?_
      refine s_4 62 rfl ?_
      refine s_96 63 rfl ?_
      refine s_4 64 rfl ?_
      refine s_182I 0 192 67 192 (m_6_offer l _ _ _ _ _) rfl k_6_offer jc_6 jw_796 jw_797 jw_798 rfl rfl rfl rfl rfl (fun x7 h8 => ?_)
      refine s_54 4 69 rfl rfl ?_
      refine s_42 70 rfl rfl ?_
      refine s_27 71 rfl rfl ?_
      refine s_21 4 73 rfl rfl ?_
      refine s_45 74 rfl rfl ?_
      refine s_180R 0 188 77 188 f_10_3 jw_723 rfl rfl ?_
      refine s_182V 0 134 80 134 (m_11_answerVerdict l _ _ _ _ _) rfl k_11_answerVerdict jc_11 jw_779 jw_781 jps_5 rfl rfl rfl rfl rfl (fun x9 h10 => ?_)
      refine s_21 4 82 rfl rfl ?_
      refine s_154 0 13 95 85 rfl rfl ?_ ?_
      · exact s_jmp (v_11_takeTransaction_95 l _) trivial
      · refine s_42 86 rfl rfl ?_
        refine s_27 87 rfl rfl ?_
        refine s_4 88 rfl ?_
        refine s_45 89 rfl rfl ?_
        refine s_180R 0 188 92 188 f_10_3 jw_723 rfl rfl ?_
        refine s_182V 0 196 95 196 (m_11_tellOthers l _ _ _ _ _) rfl k_11_tellOthers jc_11 jw_1192 jw_1194 jps_32 rfl rfl rfl rfl rfl (fun x11 h12 => ?_)
        exact s_jmp (v_11_takeTransaction_95 l _) trivial
    · exact s_jmp (v_11_takeTransaction_21 l _ _ _) ⟨rfl, rfl, trivial⟩
theorem m_11_takeTransaction (l : Launch) (a0 : Nat) (a1 : Int32) (a2 : Nat) (H : jH) : JMet l y_11_takeTransaction prog_1_method_12_code mi_11_takeTransaction jeV [.ref a0, .int a1, .ref a2] H (F_11_takeTransaction a0 a1 a2 H) := jmet_of n_11_takeTransaction (by decide) ⟨rfl, rfl⟩ (Nat.le_of_ble_eq_true rfl) (v_11_takeTransaction l a0 a1 a2 H)
def mi_0_read : jM := (7374015546023892399352681335543050179726738547371114170261223458662244859699240284415138084525237726308201456264376556750876645289120042748907212807255584177912195057393225526131184557911207021846014590932310894143260151245609918102379722077847540017496683549297935926907776857395294287852416237899818, 125, 7, "CoinNode$Block", some (FieldType.object "CoinNode$Block"), "read", 4, 118)
def y_0_read : MethodName := ⟨"CoinNode$Block", "read", "([BLCoinNode$Hash;)LCoinNode$Block;"⟩
theorem n_0_read : jn_is prog_2_method_2_code mi_0_read.1 mi_0_read.2.1 := by unfold jn_is; decide +kernel
theorem k_0_read : jmok y_0_read prog_2_method_2_code mi_0_read 2 := ⟨jw_1203, jw_10, ⟨by decide, by decide⟩, by decide +kernel⟩
theorem v_0_read_39 (l : Launch) (k39 : Nat → Nat → Int32 → Nat → Int32 → Int32 → jH → Option (Nat × jH)) (hk39 : ∀ a0 a1 a2 a3 a4 a5 H, JV l mi_0_read jeR 39 [(0, .ref a0), (1, .ref a1), (2, .int a2), (3, .ref a3), (4, .int a4), (5, .int a5)] [] H (k39 a0 a1 a2 a3 a4 a5 H)) (a0 : Nat) (a1 : Nat) (a2 : Int32) (a3 : Nat) (a4 : Int32) (a5 : Int32) (H : jH) : JV l mi_0_read jeR 39 [(0, .ref a0), (1, .ref a1), (2, .int a2), (3, .ref a3), (4, .int a4), (5, .int a5)] [] H (B_0_read_39 k39 a0 a1 a2 a3 a4 a5 H) := by
  unfold B_0_read_39
  refine s_21 5 41 rfl rfl ?_
  refine s_28 42 rfl rfl ?_
  refine s_162 0 60 102 45 rfl rfl ?_ ?_
  · refine s_21 4 104 rfl rfl ?_
    refine s_42 105 rfl rfl ?_
    refine s_190 106 101 jm_101 rfl ?_
    refine s_159 0 5 111 109 rfl rfl ?_ ?_
    · refine s_43 112 rfl rfl ?_
      refine s_42 113 rfl rfl ?_
      refine s_4 114 rfl ?_
      refine s_16 80 116 80 jbp_80 rfl ?_
      refine s_45 117 rfl rfl ?_
      refine s_180R 0 9 120 9 f_0_1 jw_326 rfl rfl ?_
      refine s_182V 0 57 123 57 (m_3_name l _ _ _ _ _ _) rfl k_3_name jc_3 jw_1208 jw_363 jw_364 rfl rfl rfl rfl rfl (fun x1 h2 => ?_)
      refine s_45 124 rfl rfl ?_
      exact s_176 rfl rfl rfl
    · refine s_1 110 rfl ?_
      exact s_176 rfl rfl rfl
  · refine s_42 46 rfl rfl ?_
    refine s_21 4 48 rfl rfl ?_
    refine s_184R 0 49 51 49 (m_10_read l _ _ _) rfl k_10_read jw_1207 jw_698 rfl rfl rfl rfl rfl (fun x3 h4 => ?_)
    refine s_58 6 53 rfl rfl ?_
    refine s_25 6 55 rfl rfl ?_
    refine s_199 0 5 60 58 rfl rfl ?_ ?_
    · refine s_43 61 rfl rfl ?_
      refine s_42 62 rfl rfl ?_
      refine s_21 4 64 rfl rfl ?_
      refine s_25 6 66 rfl rfl ?_
      refine s_180I 0 53 69 53 f_10_2 jw_715 rfl rfl ?_
      refine s_25 6 71 rfl rfl ?_
      refine s_180R 0 56 74 56 f_10_3 jw_720 rfl rfl ?_
      refine s_182V 0 57 77 57 (m_3_name l _ _ _ _ _ _) rfl k_3_name jc_3 jw_1208 jw_363 jw_364 rfl rfl rfl rfl rfl (fun x5 h6 => ?_)
      refine s_45 78 rfl rfl ?_
      refine s_180R 0 17 81 17 f_0_4 jw_333 rfl rfl ?_
      refine s_21 5 83 rfl rfl ?_
      refine s_25 6 85 rfl rfl ?_
      refine s_83 86 113 10 js_113 jc_10 rfl (fun h7 => ?_)
      refine s_21 4 88 rfl rfl ?_
      refine s_25 6 90 rfl rfl ?_
      refine s_180I 0 53 93 53 f_10_2 jw_715 rfl rfl ?_
      refine s_96 94 rfl ?_
      refine s_54L 4 96 rfl rfl (fun x8 => ?_)
      refine s_132L 5 1 99 1 ji_1 rfl rfl rfl (fun x9 => ?_)
      refine s_167 255 196 39 rfl rfl ?_
      exact s_jmp (hk39 _ _ _ _ _ _ _) ⟨rfl, rfl, rfl, rfl, rfl, rfl, trivial⟩
    · refine s_1 59 rfl ?_
      exact s_176 rfl rfl rfl
theorem w_0_read_39 (l : Launch)  (n : Nat) : ∀ a0 a1 a2 a3 a4 a5 H, JV l mi_0_read jeR 39 [(0, .ref a0), (1, .ref a1), (2, .int a2), (3, .ref a3), (4, .int a4), (5, .int a5)] [] H (F_0_read_39  n a0 a1 a2 a3 a4 a5 H) := by
  induction n with
  | zero => intro _ _ _ _ _ _ _; exact s_none
  | succ n ih => intro a0 a1 a2 a3 a4 a5 H; exact v_0_read_39 l (F_0_read_39  n) ih a0 a1 a2 a3 a4 a5 H
theorem v_0_read (l : Launch) (a0 : Nat) (a1 : Nat) (H : jH) : JV l mi_0_read jeR 0 [(0, .ref a0), (1, .ref a1)] [] H (F_0_read a0 a1 H) := by
  unfold F_0_read
  refine s_42 1 rfl rfl ?_
  refine s_16 81 3 81 jbp_81 rfl ?_
  refine s_16 12 5 12 jbp_12 rfl ?_
  refine s_184I 0 42 8 42 (m_10_sizeAt l _ _ _ _) rfl k_10_sizeAt jw_1204 jw_763 rfl rfl rfl rfl rfl (fun x10 h11 => ?_)
  refine s_61 9 rfl rfl ?_
  refine s_28 10 rfl rfl ?_
  refine s_156 0 5 15 13 rfl rfl ?_ ?_
  · refine s_187 0 10 18 10 jc_0 jw_1205 jw_313 jw_10 rfl rfl (fun r12 h13 => ?_)
    refine s_89 19 rfl rfl ?_
    refine s_42 20 rfl rfl ?_
    refine s_183V 0 46 23 46 (m_0_init l _ _ _) rfl k_0_init rfl rfl jw_1206 jw_315 rfl rfl rfl rfl rfl (fun x14 h15 => ?_)
    refine s_78 24 rfl rfl ?_
    refine s_45 25 rfl rfl ?_
    refine s_28 26 rfl rfl ?_
    refine s_189 0 15 29 15 113 ⟨by decide, rfl⟩ (by decide) jw_318 rfl rfl (fun r16 h17 => ?_)
    refine s_181R 0 17 32 17 f_0_4 rfl rfl jw_333 rfl rfl (fun h18 => ?_)
    refine s_16 82 34 82 jbp_82 rfl ?_
    refine s_54 4 36 rfl rfl ?_
    refine s_3 37 rfl ?_
    refine s_54 5 39 rfl rfl ?_
    exact s_jmp (w_0_read_39 l jfuel _ _ _ _ _ _ _) ⟨rfl, rfl, rfl, rfl, rfl, rfl, trivial⟩
  · refine s_1 14 rfl ?_
    exact s_176 rfl rfl rfl
theorem m_0_read (l : Launch) (a0 : Nat) (a1 : Nat) (H : jH) : JMet l y_0_read prog_2_method_2_code mi_0_read jeR [.ref a0, .ref a1] H (F_0_read a0 a1 H) := jmet_of n_0_read (by decide) ⟨rfl, rfl⟩ (Nat.le_of_ble_eq_true rfl) (v_0_read l a0 a1 H)
def mi_1_compare : jM := (125027162701188744800386159286466954968640401710235845317960095442679189739151820096599115059778395590242096445242497964122976955614871082, 57, 3, "CoinNode$Chain", some FieldType.int, "compare", 1, 15)
def y_1_compare : MethodName := ⟨"CoinNode$Chain", "compare", "([I[I)I"⟩
theorem n_1_compare : jn_is prog_3_method_16_code mi_1_compare.1 mi_1_compare.2.1 := by unfold jn_is; decide +kernel
theorem k_1_compare : jmok y_1_compare prog_3_method_16_code mi_1_compare 2 := ⟨jw_1235, jw_9, ⟨by decide, by decide⟩, by decide +kernel⟩
theorem v_1_compare_48 (l : Launch)  (s0 : Int32) (H : jH) : JV l mi_1_compare jeI 48 [] [.int s0] H (B_1_compare_48  s0 H) := by
  unfold B_1_compare_48
  exact s_172 rfl rfl
theorem v_1_compare_10 (l : Launch) (k10 : Nat → Nat → Int32 → jH → Option (Int32 × jH)) (hk10 : ∀ a0 a1 a2 H, JV l mi_1_compare jeI 10 [(0, .ref a0), (1, .ref a1), (2, .int a2)] [] H (k10 a0 a1 a2 H)) (a0 : Nat) (a1 : Nat) (a2 : Int32) (H : jH) : JV l mi_1_compare jeI 10 [(0, .ref a0), (1, .ref a1), (2, .int a2)] [] H (B_1_compare_10 k10 a0 a1 a2 H) := by
  unfold B_1_compare_10
  refine s_28 11 rfl rfl ?_
  refine s_155 0 44 55 14 rfl rfl ?_ ?_
  · refine s_3 56 rfl ?_
    exact s_172 rfl rfl
  · refine s_42 15 rfl rfl ?_
    refine s_28 16 rfl rfl ?_
    refine s_46 17 rfl ?_
    refine s_43 18 rfl rfl ?_
    refine s_28 19 rfl rfl ?_
    refine s_46 20 rfl ?_
    refine s_159 0 29 49 23 rfl rfl ?_ ?_
    · refine s_132L 2 255 52 (-1) ji_255 rfl rfl rfl (fun x1 => ?_)
      refine s_167 255 214 10 rfl rfl ?_
      exact s_jmp (hk10 _ _ _ _) ⟨rfl, rfl, rfl, trivial⟩
    · refine s_42 24 rfl rfl ?_
      refine s_28 25 rfl rfl ?_
      refine s_46 26 rfl ?_
      refine s_133 27 rfl ?_
      refine s_20 0 196 30 196 4294967295 rfl jw_1231 rfl ?_
      refine s_127 31 rfl ?_
      refine s_43 32 rfl rfl ?_
      refine s_28 33 rfl rfl ?_
      refine s_46 34 rfl ?_
      refine s_133 35 rfl ?_
      refine s_20 0 196 38 196 4294967295 rfl jw_1231 rfl ?_
      refine s_127 39 rfl ?_
      refine s_148_156 0 7 47 40 43 rfl rfl rfl ?_ ?_
      · refine s_4 48 rfl ?_
        exact s_jmp (v_1_compare_48 l _ _) trivial
      · refine s_2 44 rfl ?_
        refine s_167 0 4 48 rfl rfl ?_
        exact s_jmp (v_1_compare_48 l _ _) trivial
theorem w_1_compare_10 (l : Launch)  (n : Nat) : ∀ a0 a1 a2 H, JV l mi_1_compare jeI 10 [(0, .ref a0), (1, .ref a1), (2, .int a2)] [] H (F_1_compare_10  n a0 a1 a2 H) := by
  induction n with
  | zero => intro _ _ _ _; exact s_none
  | succ n ih => intro a0 a1 a2 H; exact v_1_compare_10 l (F_1_compare_10  n) ih a0 a1 a2 H
theorem v_1_compare (l : Launch) (a0 : Nat) (a1 : Nat) (H : jH) : JV l mi_1_compare jeI 0 [(0, .ref a0), (1, .ref a1)] [] H (F_1_compare a0 a1 H) := by
  unfold F_1_compare
  refine s_42 1 rfl rfl ?_
  refine s_190 2 100 jm_100 rfl ?_
  refine s_43 3 rfl rfl ?_
  refine s_190 4 100 jm_100 rfl ?_
  refine s_minI 0 215 7 215 jw_1236 jw_690 jw_15 jw_691 rfl rfl rfl ?_
  refine s_4 8 rfl ?_
  refine s_100 9 rfl ?_
  refine s_61L 10 rfl rfl (fun x2 => ?_)
  exact s_jmp (w_1_compare_10 l jfuel _ _ _ _) ⟨rfl, rfl, rfl, trivial⟩
theorem m_1_compare (l : Launch) (a0 : Nat) (a1 : Nat) (H : jH) : JMet l y_1_compare prog_3_method_16_code mi_1_compare jeI [.ref a0, .ref a1] H (F_1_compare a0 a1 H) := jmet_of n_1_compare (by decide) ⟨rfl, rfl⟩ (Nat.le_of_ble_eq_true rfl) (v_1_compare l a0 a1 H)
def mi_1_best : jM := (549962008886087913581395059435264517889452727907305465841111148569562797430391077276147833141728426445008256105926947700493511410932201325565359146, 61, 5, "CoinNode$Chain", some (FieldType.object "CoinNode$Block"), "best", 2, 37)
def y_1_best : MethodName := ⟨"CoinNode$Chain", "best", "()LCoinNode$Block;"⟩
theorem n_1_best : jn_is prog_3_method_6_code mi_1_best.1 mi_1_best.2.1 := by unfold jn_is; decide +kernel
theorem k_1_best : jmok y_1_best prog_3_method_6_code mi_1_best 0 := ⟨jw_1281, jw_9, ⟨by decide, by decide⟩, by decide +kernel⟩
theorem v_1_best_53 (l : Launch) (k7 : Nat → Nat → Int32 → jH → Option (Nat × jH)) (hk7 : ∀ a0 a1 a2 H, JV l mi_1_best jeR 7 [(0, .ref a0), (1, .ref a1), (2, .int a2)] [] H (k7 a0 a1 a2 H)) (a0 : Nat) (a1 : Nat) (a2 : Int32) (H : jH) : JV l mi_1_best jeR 53 [(0, .ref a0), (1, .ref a1), (2, .int a2)] [] H (B_1_best_53 k7 a0 a1 a2 H) := by
  unfold B_1_best_53
  refine s_132L 2 1 56 1 ji_1 rfl rfl rfl (fun x1 => ?_)
  refine s_167 255 207 7 rfl rfl ?_
  exact s_jmp (hk7 _ _ _ _) ⟨rfl, rfl, rfl, trivial⟩
theorem v_1_best_44 (l : Launch) (k7 : Nat → Nat → Int32 → jH → Option (Nat × jH)) (hk7 : ∀ a0 a1 a2 H, JV l mi_1_best jeR 7 [(0, .ref a0), (1, .ref a1), (2, .int a2)] [] H (k7 a0 a1 a2 H)) (a0 : Nat) (a1 : Nat) (a2 : Int32) (a3 : Nat) (s0 : Int32) (H : jH) : JV l mi_1_best jeR 44 [(0, .ref a0), (1, .ref a1), (2, .int a2), (3, .ref a3)] [.int s0] H (B_1_best_44 k7 a0 a1 a2 a3 s0 H) := by
  unfold B_1_best_44
  refine s_54 4 46 rfl rfl ?_
  refine s_21 4 48 rfl rfl ?_
  refine s_158 0 5 53 51 rfl rfl ?_ ?_
  · exact s_jmp (v_1_best_53 l k7 hk7 _ _ _ _) ⟨rfl, rfl, rfl, trivial⟩
  · refine s_45 52 rfl rfl ?_
    refine s_76 53 rfl rfl ?_
    exact s_jmp (v_1_best_53 l k7 hk7 _ _ _ _) ⟨rfl, rfl, rfl, trivial⟩
theorem v_1_best_7 (l : Launch) (k7 : Nat → Nat → Int32 → jH → Option (Nat × jH)) (hk7 : ∀ a0 a1 a2 H, JV l mi_1_best jeR 7 [(0, .ref a0), (1, .ref a1), (2, .int a2)] [] H (k7 a0 a1 a2 H)) (a0 : Nat) (a1 : Nat) (a2 : Int32) (H : jH) : JV l mi_1_best jeR 7 [(0, .ref a0), (1, .ref a1), (2, .int a2)] [] H (B_1_best_7 k7 a0 a1 a2 H) := by
  unfold B_1_best_7
  refine s_28 8 rfl rfl ?_
  refine s_42 9 rfl rfl ?_
  refine s_180I 0 70 12 70 f_1_4 jw_385 rfl rfl ?_
  refine s_162 0 47 59 15 rfl rfl ?_ ?_
  · refine s_43 60 rfl rfl ?_
    exact s_176 rfl rfl rfl
  · refine s_42 16 rfl rfl ?_
    refine s_180R 0 13 19 13 f_1_3 jw_384 rfl rfl ?_
    refine s_28 20 rfl rfl ?_
    refine s_50 21 114 jt_114 rfl ?_
    refine s_78L 22 rfl rfl (fun x2 => ?_)
    refine s_45 23 rfl rfl ?_
    refine s_180I 0 95 26 95 f_0_7 jw_340 rfl rfl ?_
    refine s_153 0 7 33 29 rfl rfl ?_ ?_
    · refine s_45 34 rfl rfl ?_
      refine s_180R 0 164 37 164 f_0_8 jw_342 rfl rfl ?_
      refine s_43 38 rfl rfl ?_
      refine s_180R 0 164 41 164 f_0_8 jw_342 rfl rfl ?_
      refine s_184I 0 167 44 167 (m_1_compare l _ _ _) rfl k_1_compare jw_1233 jw_1234 rfl rfl rfl rfl rfl (fun x3 h4 => ?_)
      exact s_jmp (v_1_best_44 l k7 hk7 _ _ _ _ _ _) ⟨rfl, rfl, rfl, rfl, trivial⟩
    · refine s_2 30 rfl ?_
      refine s_167 0 14 44 rfl rfl ?_
      exact s_jmp (v_1_best_44 l k7 hk7 _ _ _ _ _ _) ⟨rfl, rfl, rfl, rfl, trivial⟩
theorem w_1_best_7 (l : Launch)  (n : Nat) : ∀ a0 a1 a2 H, JV l mi_1_best jeR 7 [(0, .ref a0), (1, .ref a1), (2, .int a2)] [] H (F_1_best_7  n a0 a1 a2 H) := by
  induction n with
  | zero => intro _ _ _ _; exact s_none
  | succ n ih => intro a0 a1 a2 H; exact v_1_best_7 l (F_1_best_7  n) ih a0 a1 a2 H
theorem v_1_best (l : Launch) (a0 : Nat) (H : jH) : JV l mi_1_best jeR 0 [(0, .ref a0)] [] H (F_1_best a0 H) := by
  unfold F_1_best
  refine s_42 1 rfl rfl ?_
  refine s_180R 0 74 4 74 f_1_6 jw_389 rfl rfl ?_
  refine s_76L 5 rfl rfl (fun x5 => ?_)
  refine s_3 6 rfl ?_
  refine s_61 7 rfl rfl ?_
  exact s_jmp (w_1_best_7 l jfuel _ _ _ _) ⟨rfl, rfl, rfl, trivial⟩
theorem m_1_best (l : Launch) (a0 : Nat) (H : jH) : JMet l y_1_best prog_3_method_6_code mi_1_best jeR [.ref a0] H (F_1_best a0 H) := jmet_of n_1_best (by decide) ⟨rfl, rfl⟩ (Nat.le_of_ble_eq_true rfl) (v_1_best l a0 H)
def mi_1_condemn : jM := (43970706624906893788424288500042201891104292242780001055232997273260569024639163316136544613317482718271796716422578826140027113549085001431061963757910021284801342804485014571, 73, 4, "CoinNode$Chain", none, "condemn", 0, 0)
def y_1_condemn : MethodName := ⟨"CoinNode$Chain", "condemn", "(LCoinNode$Block;)V"⟩
theorem n_1_condemn : jn_is prog_3_method_10_code mi_1_condemn.1 mi_1_condemn.2.1 := by unfold jn_is; decide +kernel
theorem k_1_condemn : jmok y_1_condemn prog_3_method_10_code mi_1_condemn 1 := ⟨jw_1336, jw_9, ⟨by decide, by decide⟩, by decide +kernel⟩
theorem v_1_condemn_66 (l : Launch) (k12 : Nat → Int32 → jH → Option (Unit × jH)) (hk12 : ∀ a0 a2 H, JV l mi_1_condemn jeV 12 [(0, .ref a0), (2, .int a2)] [] H (k12 a0 a2 H)) (a0 : Nat) (a2 : Int32) (H : jH) : JV l mi_1_condemn jeV 66 [(0, .ref a0), (2, .int a2)] [] H (B_1_condemn_66 k12 a0 a2 H) := by
  unfold B_1_condemn_66
  refine s_132L 2 1 69 1 ji_1 rfl rfl rfl (fun x1 => ?_)
  refine s_167 255 199 12 rfl rfl ?_
  exact s_jmp (hk12 _ _ _) ⟨rfl, rfl, trivial⟩
theorem v_1_condemn_49 (l : Launch) (k12 : Nat → Int32 → jH → Option (Unit × jH)) (hk12 : ∀ a0 a2 H, JV l mi_1_condemn jeV 12 [(0, .ref a0), (2, .int a2)] [] H (k12 a0 a2 H)) (a0 : Nat) (a2 : Int32) (a3 : Nat) (H : jH) : JV l mi_1_condemn jeV 49 [(0, .ref a0), (2, .int a2), (3, .ref a3)] [] H (B_1_condemn_49 k12 a0 a2 a3 H) := by
  unfold B_1_condemn_49
  refine s_45 50 rfl rfl ?_
  refine s_180I 0 95 53 95 f_0_7 jw_340 rfl rfl ?_
  refine s_153 0 13 66 56 rfl rfl ?_ ?_
  · exact s_jmp (v_1_condemn_66 l k12 hk12 _ _ _) ⟨rfl, rfl, trivial⟩
  · refine s_42 57 rfl rfl ?_
    refine s_89 58 rfl rfl ?_
    refine s_180I 0 181 61 181 f_1_5 jw_388 rfl rfl ?_
    refine s_4 62 rfl ?_
    refine s_96 63 rfl ?_
    refine s_181I 0 181 66 181 f_1_5 rfl rfl jw_388 rfl rfl (fun h2 => ?_)
    exact s_jmp (v_1_condemn_66 l k12 hk12 _ _ _) ⟨rfl, rfl, trivial⟩
theorem v_1_condemn_12 (l : Launch) (k12 : Nat → Int32 → jH → Option (Unit × jH)) (hk12 : ∀ a0 a2 H, JV l mi_1_condemn jeV 12 [(0, .ref a0), (2, .int a2)] [] H (k12 a0 a2 H)) (a0 : Nat) (a2 : Int32) (H : jH) : JV l mi_1_condemn jeV 12 [(0, .ref a0), (2, .int a2)] [] H (B_1_condemn_12 k12 a0 a2 H) := by
  unfold B_1_condemn_12
  refine s_28 13 rfl rfl ?_
  refine s_42 14 rfl rfl ?_
  refine s_180I 0 70 17 70 f_1_4 jw_385 rfl rfl ?_
  refine s_162 0 55 72 20 rfl rfl ?_ ?_
  · exact s_177 rfl rfl
  · refine s_42 21 rfl rfl ?_
    refine s_180R 0 13 24 13 f_1_3 jw_384 rfl rfl ?_
    refine s_28 25 rfl rfl ?_
    refine s_50 26 114 jt_114 rfl ?_
    refine s_78L 27 rfl rfl (fun x3 => ?_)
    refine s_45 28 rfl rfl ?_
    refine s_180R 0 92 31 92 f_0_5 jw_336 rfl rfl ?_
    refine s_198 0 18 49 34 rfl rfl ?_ ?_
    · exact s_jmp (v_1_condemn_49 l k12 hk12 _ _ _ _) ⟨rfl, rfl, rfl, trivial⟩
    · refine s_45 35 rfl rfl ?_
      refine s_180R 0 92 38 92 f_0_5 jw_336 rfl rfl ?_
      refine s_180I 0 95 41 95 f_0_7 jw_340 rfl rfl ?_
      refine s_153 0 8 49 44 rfl rfl ?_ ?_
      · exact s_jmp (v_1_condemn_49 l k12 hk12 _ _ _ _) ⟨rfl, rfl, rfl, trivial⟩
      · refine s_45 45 rfl rfl ?_
        refine s_4 46 rfl ?_
        refine s_181Z 0 95 49 95 f_0_7 rfl rfl jw_340 rfl rfl (fun h4 => ?_)
        exact s_jmp (v_1_condemn_49 l k12 hk12 _ _ _ _) ⟨rfl, rfl, rfl, trivial⟩
theorem w_1_condemn_12 (l : Launch)  (n : Nat) : ∀ a0 a2 H, JV l mi_1_condemn jeV 12 [(0, .ref a0), (2, .int a2)] [] H (F_1_condemn_12  n a0 a2 H) := by
  induction n with
  | zero => intro _ _ _; exact s_none
  | succ n ih => intro a0 a2 H; exact v_1_condemn_12 l (F_1_condemn_12  n) ih a0 a2 H
theorem v_1_condemn (l : Launch) (a0 : Nat) (a1 : Nat) (H : jH) : JV l mi_1_condemn jeV 0 [(0, .ref a0), (1, .ref a1)] [] H (F_1_condemn a0 a1 H) := by
  unfold F_1_condemn
  refine s_43 1 rfl rfl ?_
  refine s_4 2 rfl ?_
  refine s_181Z 0 95 5 95 f_0_7 rfl rfl jw_340 rfl rfl (fun h5 => ?_)
  refine s_42 6 rfl rfl ?_
  refine s_3 7 rfl ?_
  refine s_181I 0 181 10 181 f_1_5 rfl rfl jw_388 rfl rfl (fun h6 => ?_)
  refine s_3 11 rfl ?_
  refine s_61 12 rfl rfl ?_
  exact s_jmp (w_1_condemn_12 l jfuel _ _ _) ⟨rfl, rfl, trivial⟩
theorem m_1_condemn (l : Launch) (a0 : Nat) (a1 : Nat) (H : jH) : JMet l y_1_condemn prog_3_method_10_code mi_1_condemn jeV [.ref a0, .ref a1] H (F_1_condemn a0 a1 H) := jmet_of n_1_condemn (by decide) ⟨rfl, rfl⟩ (Nat.le_of_ble_eq_true rfl) (v_1_condemn l a0 a1 H)
def mi_1_layWay : jM := (42616190191218023647577603921608615072766178691240284355338740080500527443258027456455260172166274857945100706134713773693924530797051046243623722013158437427430678431283760427, 73, 4, "CoinNode$Chain", some FieldType.int, "layWay", 1, 21)
def y_1_layWay : MethodName := ⟨"CoinNode$Chain", "layWay", "(LCoinNode$Block;)I"⟩
theorem n_1_layWay : jn_is prog_3_method_7_code mi_1_layWay.1 mi_1_layWay.2.1 := by unfold jn_is; decide +kernel
theorem k_1_layWay : jmok y_1_layWay prog_3_method_7_code mi_1_layWay 1 := ⟨jw_1285, jw_9, ⟨by decide, by decide⟩, by decide +kernel⟩
theorem v_1_layWay_57 (l : Launch) (k4 : Nat → Nat → Int32 → jH → Option (Int32 × jH)) (hk4 : ∀ a0 a2 a3 H, JV l mi_1_layWay jeI 4 [(0, .ref a0), (2, .ref a2), (3, .int a3)] [] H (k4 a0 a2 a3 H)) (a0 : Nat) (a2 : Nat) (a3 : Int32) (H : jH) : JV l mi_1_layWay jeI 57 [(0, .ref a0), (2, .ref a2), (3, .int a3)] [] H (B_1_layWay_57 k4 a0 a2 a3 H) := by
  unfold B_1_layWay_57
  refine s_44 58 rfl rfl ?_
  refine s_180R 0 92 61 92 f_0_5 jw_336 rfl rfl ?_
  refine s_77L 62 rfl rfl (fun x1 => ?_)
  refine s_132L 3 1 65 1 ji_1 rfl rfl rfl (fun x2 => ?_)
  refine s_167 255 195 4 rfl rfl ?_
  exact s_jmp (hk4 _ _ _ _) ⟨rfl, rfl, rfl, trivial⟩
theorem v_1_layWay_68 (l : Launch)  (a2 : Nat) (H : jH) : JV l mi_1_layWay jeI 68 [(2, .ref a2)] [] H (B_1_layWay_68  a2 H) := by
  unfold B_1_layWay_68
  refine s_44 69 rfl rfl ?_
  refine s_180I 0 78 72 78 f_0_6 jw_337 rfl rfl ?_
  exact s_172 rfl rfl
theorem v_1_layWay_4 (l : Launch) (k4 : Nat → Nat → Int32 → jH → Option (Int32 × jH)) (hk4 : ∀ a0 a2 a3 H, JV l mi_1_layWay jeI 4 [(0, .ref a0), (2, .ref a2), (3, .int a3)] [] H (k4 a0 a2 a3 H)) (a0 : Nat) (a2 : Nat) (a3 : Int32) (H : jH) : JV l mi_1_layWay jeI 4 [(0, .ref a0), (2, .ref a2), (3, .int a3)] [] H (B_1_layWay_4 k4 a0 a2 a3 H) := by
  unfold B_1_layWay_4
  refine s_29 5 rfl rfl ?_
  refine s_17 1 44 8 300 jsp_1_44 rfl ?_
  refine s_162 0 60 68 11 rfl rfl ?_ ?_
  · exact s_jmp (v_1_layWay_68 l _ _) ⟨rfl, trivial⟩
  · refine s_44 12 rfl rfl ?_
    refine s_180R 0 92 15 92 f_0_5 jw_336 rfl rfl ?_
    refine s_198 0 53 68 18 rfl rfl ?_ ?_
    · exact s_jmp (v_1_layWay_68 l _ _) ⟨rfl, trivial⟩
    · refine s_42 19 rfl rfl ?_
      refine s_44 20 rfl rfl ?_
      refine s_180I 0 78 23 78 f_0_6 jw_337 rfl rfl ?_
      refine s_182R 0 171 26 171 (m_1_at l _ _ _) rfl k_1_at jc_1 jw_1286 jw_1287 jw_1288 rfl rfl rfl rfl rfl (fun x3 h4 => ?_)
      refine s_44 27 rfl rfl ?_
      refine s_165 0 41 68 30 rfl rfl ?_ ?_
      · exact s_jmp (v_1_layWay_68 l _ _) ⟨rfl, trivial⟩
      · refine s_44 31 rfl rfl ?_
        refine s_180I 0 78 34 78 f_0_6 jw_337 rfl rfl ?_
        refine s_155 0 23 57 37 rfl rfl ?_ ?_
        · exact s_jmp (v_1_layWay_57 l k4 hk4 _ _ _ _) ⟨rfl, rfl, rfl, trivial⟩
        · refine s_44 38 rfl rfl ?_
          refine s_180I 0 78 41 78 f_0_6 jw_337 rfl rfl ?_
          refine s_17 1 44 44 300 jsp_1_44 rfl ?_
          refine s_162 0 13 57 47 rfl rfl ?_ ?_
          · exact s_jmp (v_1_layWay_57 l k4 hk4 _ _ _ _) ⟨rfl, rfl, rfl, trivial⟩
          · refine s_42 48 rfl rfl ?_
            refine s_180R 0 20 51 20 f_1_8 jw_392 rfl rfl ?_
            refine s_44 52 rfl rfl ?_
            refine s_180I 0 78 55 78 f_0_6 jw_337 rfl rfl ?_
            refine s_44 56 rfl rfl ?_
            refine s_83 57 114 0 js_114 jc_0 rfl (fun h5 => ?_)
            exact s_jmp (v_1_layWay_57 l k4 hk4 _ _ _ _) ⟨rfl, rfl, rfl, trivial⟩
theorem w_1_layWay_4 (l : Launch)  (n : Nat) : ∀ a0 a2 a3 H, JV l mi_1_layWay jeI 4 [(0, .ref a0), (2, .ref a2), (3, .int a3)] [] H (F_1_layWay_4  n a0 a2 a3 H) := by
  induction n with
  | zero => intro _ _ _ _; exact s_none
  | succ n ih => intro a0 a2 a3 H; exact v_1_layWay_4 l (F_1_layWay_4  n) ih a0 a2 a3 H
theorem v_1_layWay (l : Launch) (a0 : Nat) (a1 : Nat) (H : jH) : JV l mi_1_layWay jeI 0 [(0, .ref a0), (1, .ref a1)] [] H (F_1_layWay a0 a1 H) := by
  unfold F_1_layWay
  refine s_43 1 rfl rfl ?_
  refine s_77 2 rfl rfl ?_
  refine s_3 3 rfl ?_
  refine s_62 4 rfl rfl ?_
  exact s_jmp (w_1_layWay_4 l jfuel _ _ _ _) ⟨rfl, rfl, rfl, trivial⟩
theorem m_1_layWay (l : Launch) (a0 : Nat) (a1 : Nat) (H : jH) : JMet l y_1_layWay prog_3_method_7_code mi_1_layWay jeI [.ref a0, .ref a1] H (F_1_layWay a0 a1 H) := jmet_of n_1_layWay (by decide) ⟨rfl, rfl⟩ (Nat.le_of_ble_eq_true rfl) (v_1_layWay l a0 a1 H)
def mi_1_move : jM := (1075173804154281013133573003511277309863537777221198100061440759392653050873134662537706886265822252594886099472367719924261067160301676556855045122811178382333941151206951846616795632868890029956414196324821324072159315079261586459, 96, 4, "CoinNode$Chain", none, "move", 0, 0)
def y_1_move : MethodName := ⟨"CoinNode$Chain", "move", "(ILCoinNode$Block;)V"⟩
theorem n_1_move : jn_is prog_3_method_9_code mi_1_move.1 mi_1_move.2.1 := by unfold jn_is; decide +kernel
theorem k_1_move : jmok y_1_move prog_3_method_9_code mi_1_move 2 := ⟨jw_1332, jw_9, ⟨by decide, by decide⟩, by decide +kernel⟩
theorem v_1_move_90 (l : Launch)  (a0 : Nat) (a2 : Nat) (H : jH) : JV l mi_1_move jeV 90 [(0, .ref a0), (2, .ref a2)] [] H (B_1_move_90  a0 a2 H) := by
  unfold B_1_move_90
  refine s_42 91 rfl rfl ?_
  refine s_44 92 rfl rfl ?_
  refine s_181R 0 74 95 74 f_1_6 rfl rfl jw_389 rfl rfl (fun h1 => ?_)
  exact s_177 rfl rfl
theorem v_1_move_57 (l : Launch) (k57 : Nat → Nat → Int32 → jH → Option (Unit × jH)) (hk57 : ∀ a0 a2 a3 H, JV l mi_1_move jeV 57 [(0, .ref a0), (2, .ref a2), (3, .int a3)] [] H (k57 a0 a2 a3 H)) (a0 : Nat) (a2 : Nat) (a3 : Int32) (H : jH) : JV l mi_1_move jeV 57 [(0, .ref a0), (2, .ref a2), (3, .int a3)] [] H (B_1_move_57 k57 a0 a2 a3 H) := by
  unfold B_1_move_57
  refine s_29 58 rfl rfl ?_
  refine s_44 59 rfl rfl ?_
  refine s_180I 0 78 62 78 f_0_6 jw_337 rfl rfl ?_
  refine s_163 0 28 90 65 rfl rfl ?_ ?_
  · exact s_jmp (v_1_move_90 l _ _ _) ⟨rfl, rfl, trivial⟩
  · refine s_29 66 rfl rfl ?_
    refine s_17 1 44 69 300 jsp_1_44 rfl ?_
    refine s_162 0 21 90 72 rfl rfl ?_ ?_
    · exact s_jmp (v_1_move_90 l _ _ _) ⟨rfl, rfl, trivial⟩
    · refine s_42 73 rfl rfl ?_
      refine s_180R 0 17 76 17 f_1_7 jw_391 rfl rfl ?_
      refine s_29 77 rfl rfl ?_
      refine s_42 78 rfl rfl ?_
      refine s_180R 0 20 81 20 f_1_8 jw_392 rfl rfl ?_
      refine s_29 82 rfl rfl ?_
      refine s_50 83 114 jt_114 rfl ?_
      refine s_83 84 114 0 js_114 jc_0 rfl (fun h2 => ?_)
      refine s_132L 3 1 87 1 ji_1 rfl rfl rfl (fun x3 => ?_)
      refine s_167 255 226 57 rfl rfl ?_
      exact s_jmp (hk57 _ _ _ _) ⟨rfl, rfl, rfl, trivial⟩
theorem w_1_move_57 (l : Launch)  (n : Nat) : ∀ a0 a2 a3 H, JV l mi_1_move jeV 57 [(0, .ref a0), (2, .ref a2), (3, .int a3)] [] H (F_1_move_57  n a0 a2 a3 H) := by
  induction n with
  | zero => intro _ _ _ _; exact s_none
  | succ n ih => intro a0 a2 a3 H; exact v_1_move_57 l (F_1_move_57  n) ih a0 a2 a3 H
theorem v_1_move_53 (l : Launch)  (a0 : Nat) (a1 : Int32) (a2 : Nat) (H : jH) : JV l mi_1_move jeV 53 [(0, .ref a0), (1, .int a1), (2, .ref a2)] [] H (B_1_move_53  a0 a1 a2 H) := by
  unfold B_1_move_53
  refine s_27 54 rfl rfl ?_
  refine s_4 55 rfl ?_
  refine s_96 56 rfl ?_
  refine s_62L 57 rfl rfl (fun x4 => ?_)
  exact s_jmp (w_1_move_57 l jfuel _ _ _ _) ⟨rfl, rfl, rfl, trivial⟩
theorem v_1_move_4 (l : Launch) (k4 : Nat → Int32 → Nat → Int32 → jH → Option (Unit × jH)) (hk4 : ∀ a0 a1 a2 a3 H, JV l mi_1_move jeV 4 [(0, .ref a0), (1, .int a1), (2, .ref a2), (3, .int a3)] [] H (k4 a0 a1 a2 a3 H)) (a0 : Nat) (a1 : Int32) (a2 : Nat) (a3 : Int32) (H : jH) : JV l mi_1_move jeV 4 [(0, .ref a0), (1, .int a1), (2, .ref a2), (3, .int a3)] [] H (B_1_move_4 k4 a0 a1 a2 a3 H) := by
  unfold B_1_move_4
  refine s_29 5 rfl rfl ?_
  refine s_42 6 rfl rfl ?_
  refine s_180R 0 74 9 74 f_1_6 jw_389 rfl rfl ?_
  refine s_180I 0 78 12 78 f_0_6 jw_337 rfl rfl ?_
  refine s_163 0 41 53 15 rfl rfl ?_ ?_
  · exact s_jmp (v_1_move_53 l _ _ _ _) ⟨rfl, rfl, rfl, trivial⟩
  · refine s_29 16 rfl rfl ?_
    refine s_17 1 44 19 300 jsp_1_44 rfl ?_
    refine s_162 0 34 53 22 rfl rfl ?_ ?_
    · exact s_jmp (v_1_move_53 l _ _ _ _) ⟨rfl, rfl, rfl, trivial⟩
    · refine s_42 23 rfl rfl ?_
      refine s_180R 0 23 26 23 f_1_9 jw_393 rfl rfl ?_
      refine s_42 27 rfl rfl ?_
      refine s_180I 0 133 30 133 f_1_10 jw_396 rfl rfl ?_
      refine s_42 31 rfl rfl ?_
      refine s_180R 0 17 34 17 f_1_7 jw_391 rfl rfl ?_
      refine s_29 35 rfl rfl ?_
      refine s_50 36 114 jt_114 rfl ?_
      refine s_83 37 114 0 js_114 jc_0 rfl (fun h5 => ?_)
      refine s_42 38 rfl rfl ?_
      refine s_89 39 rfl rfl ?_
      refine s_180I 0 133 42 133 f_1_10 jw_396 rfl rfl ?_
      refine s_4 43 rfl ?_
      refine s_96 44 rfl ?_
      refine s_181I 0 133 47 133 f_1_10 rfl rfl jw_396 rfl rfl (fun h6 => ?_)
      refine s_132L 3 1 50 1 ji_1 rfl rfl rfl (fun x7 => ?_)
      refine s_167 255 210 4 rfl rfl ?_
      exact s_jmp (hk4 _ _ _ _ _) ⟨rfl, rfl, rfl, rfl, trivial⟩
theorem w_1_move_4 (l : Launch)  (n : Nat) : ∀ a0 a1 a2 a3 H, JV l mi_1_move jeV 4 [(0, .ref a0), (1, .int a1), (2, .ref a2), (3, .int a3)] [] H (F_1_move_4  n a0 a1 a2 a3 H) := by
  induction n with
  | zero => intro _ _ _ _ _; exact s_none
  | succ n ih => intro a0 a1 a2 a3 H; exact v_1_move_4 l (F_1_move_4  n) ih a0 a1 a2 a3 H
theorem v_1_move (l : Launch) (a0 : Nat) (a1 : Int32) (a2 : Nat) (H : jH) : JV l mi_1_move jeV 0 [(0, .ref a0), (1, .int a1), (2, .ref a2)] [] H (F_1_move a0 a1 a2 H) := by
  unfold F_1_move
  refine s_27 1 rfl rfl ?_
  refine s_4 2 rfl ?_
  refine s_96 3 rfl ?_
  refine s_62L 4 rfl rfl (fun x8 => ?_)
  exact s_jmp (w_1_move_4 l jfuel _ _ _ _ _) ⟨rfl, rfl, rfl, rfl, trivial⟩
theorem m_1_move (l : Launch) (a0 : Nat) (a1 : Int32) (a2 : Nat) (H : jH) : JMet l y_1_move prog_3_method_9_code mi_1_move jeV [.ref a0, .int a1, .ref a2] H (F_1_move a0 a1 a2 H) := jmet_of n_1_move (by decide) ⟨rfl, rfl⟩ (Nat.le_of_ble_eq_true rfl) (v_1_move l a0 a1 a2 H)
def mi_2_change : jM := (13959439482383672082846782701863376423747629145152144770470718805103701340238708839430777868677355953381717984501776290875281183216664425293481894596609592351962302628955150492969120949624801357198983995450619268280732908185367332102801594013256801850785957265392790716657766016894925364193865445867825974787292709470182508129048849607426580625241374419186180943350654939698786141741339220071083164145026910967816970038497394245992344167108130226158539875549745651229585556914244206402504900361740731735401725290942043672758640260272952242580249528938804739, 231, 6, "CoinNode$Coins", none, "change", 2, 48)
def y_2_change : MethodName := ⟨"CoinNode$Coins", "change", "(LCoinNode$Tx;IZ)V"⟩
theorem n_2_change : jn_is prog_4_method_11_code mi_2_change.1 mi_2_change.2.1 := by unfold jn_is; decide +kernel
theorem k_2_change : jmok y_2_change prog_4_method_11_code mi_2_change 3 := ⟨jw_1305, jw_8, ⟨by decide, by decide⟩, by decide +kernel⟩
theorem v_2_change_139 (l : Launch) (k3 : Nat → Nat → Int32 → Int32 → Int32 → jH → Option (Unit × jH)) (hk3 : ∀ a0 a1 a2 a3 a4 H, JV l mi_2_change jeV 3 [(0, .ref a0), (1, .ref a1), (2, .int a2), (3, .int a3), (4, .int a4)] [] H (k3 a0 a1 a2 a3 a4 H)) (a0 : Nat) (a1 : Nat) (a2 : Int32) (a3 : Int32) (a4 : Int32) (H : jH) : JV l mi_2_change jeV 139 [(0, .ref a0), (1, .ref a1), (2, .int a2), (3, .int a3), (4, .int a4)] [] H (B_2_change_139 k3 a0 a1 a2 a3 a4 H) := by
  unfold B_2_change_139
  refine s_132L 4 1 142 1 ji_1 rfl rfl rfl (fun x1 => ?_)
  refine s_167 255 117 3 rfl rfl ?_
  exact s_jmp (hk3 _ _ _ _ _ _) ⟨rfl, rfl, rfl, rfl, rfl, trivial⟩
theorem v_2_change_230 (l : Launch)   (H : jH) : JV l mi_2_change jeV 230 [] [] H (B_2_change_230   H) := by
  unfold B_2_change_230
  exact s_177 rfl rfl
theorem v_2_change_148 (l : Launch) (k148 : Nat → Nat → Int32 → Int32 → jH → Option (Unit × jH)) (hk148 : ∀ a0 a1 a2 a4 H, JV l mi_2_change jeV 148 [(0, .ref a0), (1, .ref a1), (2, .int a2), (4, .int a4)] [] H (k148 a0 a1 a2 a4 H)) (a0 : Nat) (a1 : Nat) (a2 : Int32) (a4 : Int32) (H : jH) : JV l mi_2_change jeV 148 [(0, .ref a0), (1, .ref a1), (2, .int a2), (4, .int a4)] [] H (B_2_change_148 k148 a0 a1 a2 a4 H) := by
  unfold B_2_change_148
  refine s_21 4 150 rfl rfl ?_
  refine s_43 151 rfl rfl ?_
  refine s_180R 0 111 154 111 f_10_5 jw_733 rfl rfl ?_
  refine s_190 155 100 jm_100 rfl ?_
  refine s_162 0 75 230 158 rfl rfl ?_ ?_
  · exact s_jmp (v_2_change_230 l _) trivial
  · refine s_42 159 rfl rfl ?_
    refine s_180I 0 28 162 28 f_2_3 jw_276 rfl rfl ?_
    refine s_17 5 220 165 1500 jsp_5_220 rfl ?_
    refine s_162 0 65 230 168 rfl rfl ?_ ?_
    · exact s_jmp (v_2_change_230 l _) trivial
    · refine s_42 169 rfl rfl ?_
      refine s_180R 0 11 172 11 f_2_0 jw_273 rfl rfl ?_
      refine s_42 173 rfl rfl ?_
      refine s_180I 0 28 176 28 f_2_3 jw_276 rfl rfl ?_
      refine s_43 177 rfl rfl ?_
      refine s_83 178 113 10 js_113 jc_10 rfl (fun h2 => ?_)
      refine s_42 179 rfl rfl ?_
      refine s_180R 0 15 182 15 f_2_1 jw_274 rfl rfl ?_
      refine s_42 183 rfl rfl ?_
      refine s_180I 0 28 186 28 f_2_3 jw_276 rfl rfl ?_
      refine s_21 4 188 rfl rfl ?_
      refine s_79 189 rfl (fun h3 => ?_)
      refine s_42 190 rfl rfl ?_
      refine s_180R 0 19 193 19 f_2_2 jw_275 rfl rfl ?_
      refine s_42 194 rfl rfl ?_
      refine s_180I 0 28 197 28 f_2_3 jw_276 rfl rfl ?_
      refine s_28 198 rfl rfl ?_
      refine s_79 199 rfl (fun h4 => ?_)
      refine s_42 200 rfl rfl ?_
      refine s_89 201 rfl rfl ?_
      refine s_180I 0 28 204 28 f_2_3 jw_276 rfl rfl ?_
      refine s_4 205 rfl ?_
      refine s_96 206 rfl ?_
      refine s_181I 0 28 209 28 f_2_3 rfl rfl jw_276 rfl rfl (fun h5 => ?_)
      refine s_42 210 rfl rfl ?_
      refine s_89 211 rfl rfl ?_
      refine s_180L 0 35 214 35 f_2_5 jw_279 rfl rfl ?_
      refine s_43 215 rfl rfl ?_
      refine s_21 4 217 rfl rfl ?_
      refine s_182L 0 49 220 49 (m_10_worth l _ _ _) rfl k_10_worth jc_10 jw_1308 jw_774 jw_775 rfl rfl rfl rfl rfl (fun x6 h7 => ?_)
      refine s_97 221 rfl ?_
      refine s_181L 0 35 224 35 f_2_5 rfl rfl jw_279 rfl rfl (fun h8 => ?_)
      refine s_132L 4 1 227 1 ji_1 rfl rfl rfl (fun x9 => ?_)
      refine s_167 255 177 148 rfl rfl ?_
      exact s_jmp (hk148 _ _ _ _ _) ⟨rfl, rfl, rfl, rfl, trivial⟩
theorem w_2_change_148 (l : Launch)  (n : Nat) : ∀ a0 a1 a2 a4 H, JV l mi_2_change jeV 148 [(0, .ref a0), (1, .ref a1), (2, .int a2), (4, .int a4)] [] H (F_2_change_148  n a0 a1 a2 a4 H) := by
  induction n with
  | zero => intro _ _ _ _ _; exact s_none
  | succ n ih => intro a0 a1 a2 a4 H; exact v_2_change_148 l (F_2_change_148  n) ih a0 a1 a2 a4 H
theorem v_2_change_145 (l : Launch)  (a0 : Nat) (a1 : Nat) (a2 : Int32) (H : jH) : JV l mi_2_change jeV 145 [(0, .ref a0), (1, .ref a1), (2, .int a2)] [] H (B_2_change_145  a0 a1 a2 H) := by
  unfold B_2_change_145
  refine s_3 146 rfl ?_
  refine s_54 4 148 rfl rfl ?_
  exact s_jmp (w_2_change_148 l jfuel _ _ _ _ _) ⟨rfl, rfl, rfl, rfl, trivial⟩
theorem v_2_change_3 (l : Launch) (k3 : Nat → Nat → Int32 → Int32 → Int32 → jH → Option (Unit × jH)) (hk3 : ∀ a0 a1 a2 a3 a4 H, JV l mi_2_change jeV 3 [(0, .ref a0), (1, .ref a1), (2, .int a2), (3, .int a3), (4, .int a4)] [] H (k3 a0 a1 a2 a3 a4 H)) (a0 : Nat) (a1 : Nat) (a2 : Int32) (a3 : Int32) (a4 : Int32) (H : jH) : JV l mi_2_change jeV 3 [(0, .ref a0), (1, .ref a1), (2, .int a2), (3, .int a3), (4, .int a4)] [] H (B_2_change_3 k3 a0 a1 a2 a3 a4 H) := by
  unfold B_2_change_3
  refine s_29 4 rfl rfl ?_
  refine s_154 0 141 145 7 rfl rfl ?_ ?_
  · exact s_jmp (v_2_change_145 l _ _ _ _) ⟨rfl, rfl, rfl, trivial⟩
  · refine s_21 4 9 rfl rfl ?_
    refine s_43 10 rfl rfl ?_
    refine s_180R 0 79 13 79 f_10_4 jw_728 rfl rfl ?_
    refine s_190 14 100 jm_100 rfl ?_
    refine s_162 0 131 145 17 rfl rfl ?_ ?_
    · exact s_jmp (v_2_change_145 l _ _ _ _) ⟨rfl, rfl, rfl, trivial⟩
    · refine s_42 18 rfl rfl ?_
      refine s_43 19 rfl rfl ?_
      refine s_180R 0 95 22 95 f_10_0 jw_709 rfl rfl ?_
      refine s_43 23 rfl rfl ?_
      refine s_180R 0 79 26 79 f_10_4 jw_728 rfl rfl ?_
      refine s_21 4 28 rfl rfl ?_
      refine s_46 29 rfl ?_
      refine s_43 30 rfl rfl ?_
      refine s_21 4 32 rfl rfl ?_
      refine s_182I 0 98 35 98 (m_10_index l _ _ _) rfl k_10_index jc_10 jw_1306 jw_810 jw_811 rfl rfl rfl rfl rfl (fun x10 h11 => ?_)
      refine s_182I 0 102 38 102 (m_2_find l _ _ _ _ _) rfl k_2_find jc_2 jw_1307 jw_835 jw_836 rfl rfl rfl rfl rfl (fun x12 h13 => ?_)
      refine s_54 5 40 rfl rfl ?_
      refine s_21 5 42 rfl rfl ?_
      refine s_155 0 97 139 45 rfl rfl ?_ ?_
      · exact s_jmp (v_2_change_139 l k3 hk3 _ _ _ _ _ _) ⟨rfl, rfl, rfl, rfl, rfl, trivial⟩
      · refine s_42 46 rfl rfl ?_
        refine s_89 47 rfl rfl ?_
        refine s_180L 0 35 50 35 f_2_5 jw_279 rfl rfl ?_
        refine s_42 51 rfl rfl ?_
        refine s_180R 0 11 54 11 f_2_0 jw_273 rfl rfl ?_
        refine s_21 5 56 rfl rfl ?_
        refine s_50 57 113 jt_113 rfl ?_
        refine s_42 58 rfl rfl ?_
        refine s_180R 0 15 61 15 f_2_1 jw_274 rfl rfl ?_
        refine s_21 5 63 rfl rfl ?_
        refine s_46 64 rfl ?_
        refine s_182L 0 49 67 49 (m_10_worth l _ _ _) rfl k_10_worth jc_10 jw_1308 jw_774 jw_775 rfl rfl rfl rfl rfl (fun x14 h15 => ?_)
        refine s_101 68 rfl ?_
        refine s_181L 0 35 71 35 f_2_5 rfl rfl jw_279 rfl rfl (fun h16 => ?_)
        refine s_42 72 rfl rfl ?_
        refine s_89 73 rfl rfl ?_
        refine s_180I 0 32 76 32 f_2_4 jw_278 rfl rfl ?_
        refine s_4 77 rfl ?_
        refine s_96 78 rfl ?_
        refine s_181I 0 32 81 32 f_2_4 rfl rfl jw_278 rfl rfl (fun h17 => ?_)
        refine s_42 82 rfl rfl ?_
        refine s_89 83 rfl rfl ?_
        refine s_180I 0 28 86 28 f_2_3 jw_276 rfl rfl ?_
        refine s_4 87 rfl ?_
        refine s_100 88 rfl ?_
        refine s_181I 0 28 91 28 f_2_3 rfl rfl jw_276 rfl rfl (fun h18 => ?_)
        refine s_42 92 rfl rfl ?_
        refine s_180R 0 11 95 11 f_2_0 jw_273 rfl rfl ?_
        refine s_21 5 97 rfl rfl ?_
        refine s_42 98 rfl rfl ?_
        refine s_180R 0 11 101 11 f_2_0 jw_273 rfl rfl ?_
        refine s_42 102 rfl rfl ?_
        refine s_180I 0 28 105 28 f_2_3 jw_276 rfl rfl ?_
        refine s_50 106 113 jt_113 rfl ?_
        refine s_83 107 113 10 js_113 jc_10 rfl (fun h19 => ?_)
        refine s_42 108 rfl rfl ?_
        refine s_180R 0 15 111 15 f_2_1 jw_274 rfl rfl ?_
        refine s_21 5 113 rfl rfl ?_
        refine s_42 114 rfl rfl ?_
        refine s_180R 0 15 117 15 f_2_1 jw_274 rfl rfl ?_
        refine s_42 118 rfl rfl ?_
        refine s_180I 0 28 121 28 f_2_3 jw_276 rfl rfl ?_
        refine s_46 122 rfl ?_
        refine s_79 123 rfl (fun h20 => ?_)
        refine s_42 124 rfl rfl ?_
        refine s_180R 0 19 127 19 f_2_2 jw_275 rfl rfl ?_
        refine s_21 5 129 rfl rfl ?_
        refine s_42 130 rfl rfl ?_
        refine s_180R 0 19 133 19 f_2_2 jw_275 rfl rfl ?_
        refine s_42 134 rfl rfl ?_
        refine s_180I 0 28 137 28 f_2_3 jw_276 rfl rfl ?_
        refine s_46 138 rfl ?_
        refine s_79 139 rfl (fun h21 => ?_)
        exact s_jmp (v_2_change_139 l k3 hk3 _ _ _ _ _ _) ⟨rfl, rfl, rfl, rfl, rfl, trivial⟩
theorem w_2_change_3 (l : Launch)  (n : Nat) : ∀ a0 a1 a2 a3 a4 H, JV l mi_2_change jeV 3 [(0, .ref a0), (1, .ref a1), (2, .int a2), (3, .int a3), (4, .int a4)] [] H (F_2_change_3  n a0 a1 a2 a3 a4 H) := by
  induction n with
  | zero => intro _ _ _ _ _ _; exact s_none
  | succ n ih => intro a0 a1 a2 a3 a4 H; exact v_2_change_3 l (F_2_change_3  n) ih a0 a1 a2 a3 a4 H
theorem v_2_change (l : Launch) (a0 : Nat) (a1 : Nat) (a2 : Int32) (a3 : Int32) (H : jH) : JV l mi_2_change jeV 0 [(0, .ref a0), (1, .ref a1), (2, .int a2), (3, .int a3)] [] H (F_2_change a0 a1 a2 a3 H) := by
  unfold F_2_change
  refine s_3 1 rfl ?_
  refine s_54 4 3 rfl rfl ?_
  exact s_jmp (w_2_change_3 l jfuel _ _ _ _ _ _) ⟨rfl, rfl, rfl, rfl, rfl, trivial⟩
theorem m_2_change (l : Launch) (a0 : Nat) (a1 : Nat) (a2 : Int32) (a3 : Int32) (H : jH) : JMet l y_2_change prog_4_method_11_code mi_2_change jeV [.ref a0, .ref a1, .int a2, .int a3] H (F_2_change a0 a1 a2 a3 H) := jmet_of n_2_change (by decide) ⟨rfl, rfl⟩ (Nat.le_of_ble_eq_true rfl) (v_2_change l a0 a1 a2 a3 H)
def mi_2_apply : jM := (379921995285203343336547999451070024546506948983417436603683635901161336406165269689835668459240707, 41, 3, "CoinNode$Coins", none, "apply", 3, 73)
def y_2_apply : MethodName := ⟨"CoinNode$Coins", "apply", "(LCoinNode$Block;)V"⟩
theorem n_2_apply : jn_is prog_4_method_8_code mi_2_apply.1 mi_2_apply.2.1 := by unfold jn_is; decide +kernel
theorem k_2_apply : jmok y_2_apply prog_4_method_8_code mi_2_apply 1 := ⟨jw_1301, jw_8, ⟨by decide, by decide⟩, by decide +kernel⟩
theorem v_2_apply_31 (l : Launch) (k2 : Nat → Nat → Int32 → jH → Option (Unit × jH)) (hk2 : ∀ a0 a1 a2 H, JV l mi_2_apply jeV 2 [(0, .ref a0), (1, .ref a1), (2, .int a2)] [] H (k2 a0 a1 a2 H)) (a0 : Nat) (a1 : Nat) (a2 : Int32) (s0 : Nat) (s1 : Nat) (s2 : Int32) (s3 : Int32) (H : jH) : JV l mi_2_apply jeV 31 [(0, .ref a0), (1, .ref a1), (2, .int a2)] [.int s3, .int s2, .ref s1, .ref s0] H (B_2_apply_31 k2 a0 a1 a2 s0 s1 s2 s3 H) := by
  unfold B_2_apply_31
  refine s_182V 0 89 34 89 (m_2_change l _ _ _ _ _) rfl k_2_change jc_2 jw_1302 jw_1304 jps_40 rfl rfl rfl rfl rfl (fun x1 h2 => ?_)
  refine s_132L 2 1 37 1 ji_1 rfl rfl rfl (fun x3 => ?_)
  refine s_167 255 221 2 rfl rfl ?_
  exact s_jmp (hk2 _ _ _ _) ⟨rfl, rfl, rfl, trivial⟩
theorem v_2_apply_2 (l : Launch) (k2 : Nat → Nat → Int32 → jH → Option (Unit × jH)) (hk2 : ∀ a0 a1 a2 H, JV l mi_2_apply jeV 2 [(0, .ref a0), (1, .ref a1), (2, .int a2)] [] H (k2 a0 a1 a2 H)) (a0 : Nat) (a1 : Nat) (a2 : Int32) (H : jH) : JV l mi_2_apply jeV 2 [(0, .ref a0), (1, .ref a1), (2, .int a2)] [] H (B_2_apply_2 k2 a0 a1 a2 H) := by
  unfold B_2_apply_2
  refine s_28 3 rfl rfl ?_
  refine s_43 4 rfl rfl ?_
  refine s_180R 0 63 7 63 f_0_4 jw_335 rfl rfl ?_
  refine s_190 8 113 jm_113 rfl ?_
  refine s_162 0 32 40 11 rfl rfl ?_ ?_
  · exact s_177 rfl rfl
  · refine s_42 12 rfl rfl ?_
    refine s_43 13 rfl rfl ?_
    refine s_180R 0 63 16 63 f_0_4 jw_335 rfl rfl ?_
    refine s_28 17 rfl rfl ?_
    refine s_50 18 113 jt_113 rfl ?_
    refine s_43 19 rfl rfl ?_
    refine s_180I 0 68 22 68 f_0_6 jw_339 rfl rfl ?_
    refine s_28 23 rfl rfl ?_
    refine s_154 0 7 30 26 rfl rfl ?_ ?_
    · refine s_3 31 rfl ?_
      exact s_jmp (v_2_apply_31 l k2 hk2 _ _ _ _ _ _ _ _) ⟨rfl, rfl, rfl, trivial⟩
    · refine s_4 27 rfl ?_
      refine s_167 0 4 31 rfl rfl ?_
      exact s_jmp (v_2_apply_31 l k2 hk2 _ _ _ _ _ _ _ _) ⟨rfl, rfl, rfl, trivial⟩
theorem w_2_apply_2 (l : Launch)  (n : Nat) : ∀ a0 a1 a2 H, JV l mi_2_apply jeV 2 [(0, .ref a0), (1, .ref a1), (2, .int a2)] [] H (F_2_apply_2  n a0 a1 a2 H) := by
  induction n with
  | zero => intro _ _ _ _; exact s_none
  | succ n ih => intro a0 a1 a2 H; exact v_2_apply_2 l (F_2_apply_2  n) ih a0 a1 a2 H
theorem v_2_apply (l : Launch) (a0 : Nat) (a1 : Nat) (H : jH) : JV l mi_2_apply jeV 0 [(0, .ref a0), (1, .ref a1)] [] H (F_2_apply a0 a1 H) := by
  unfold F_2_apply
  refine s_3 1 rfl ?_
  refine s_61 2 rfl rfl ?_
  exact s_jmp (w_2_apply_2 l jfuel _ _ _ _) ⟨rfl, rfl, rfl, trivial⟩
theorem m_2_apply (l : Launch) (a0 : Nat) (a1 : Nat) (H : jH) : JMet l y_2_apply prog_4_method_8_code mi_2_apply jeV [.ref a0, .ref a1] H (F_2_apply a0 a1 H) := jmet_of n_2_apply (by decide) ⟨rfl, rfl⟩ (Nat.le_of_ble_eq_true rfl) (v_2_apply l a0 a1 H)
def mi_2_clear : jM := (235455099987112534654404208590660633386, 16, 1, "CoinNode$Coins", none, "clear", 0, 0)
def y_2_clear : MethodName := ⟨"CoinNode$Coins", "clear", "()V"⟩
theorem n_2_clear : jn_is prog_4_method_2_code mi_2_clear.1 mi_2_clear.2.1 := by unfold jn_is; decide +kernel
theorem k_2_clear : jmok y_2_clear prog_4_method_2_code mi_2_clear 0 := ⟨jw_1297, jw_8, ⟨by decide, by decide⟩, by decide +kernel⟩
theorem v_2_clear (l : Launch) (a0 : Nat) (H : jH) : JV l mi_2_clear jeV 0 [(0, .ref a0)] [] H (F_2_clear a0 H) := by
  unfold F_2_clear
  refine s_42 1 rfl rfl ?_
  refine s_3 2 rfl ?_
  refine s_181I 0 28 5 28 f_2_3 rfl rfl jw_276 rfl rfl (fun h1 => ?_)
  refine s_42 6 rfl rfl ?_
  refine s_3 7 rfl ?_
  refine s_181I 0 32 10 32 f_2_4 rfl rfl jw_278 rfl rfl (fun h2 => ?_)
  refine s_42 11 rfl rfl ?_
  refine s_9 12 rfl ?_
  refine s_181L 0 35 15 35 f_2_5 rfl rfl jw_279 rfl rfl (fun h3 => ?_)
  exact s_177 rfl rfl
theorem m_2_clear (l : Launch) (a0 : Nat) (H : jH) : JMet l y_2_clear prog_4_method_2_code mi_2_clear jeV [.ref a0] H (F_2_clear a0 H) := jmet_of n_2_clear (by decide) ⟨rfl, rfl⟩ (Nat.le_of_ble_eq_true rfl) (v_2_clear l a0 H)
def mi_1_replay : jM := (379980401180716808359820532716755056074211596613526934444670509938072154235907314000465311496713258, 41, 3, "CoinNode$Chain", none, "replay", 4, 95)
def y_1_replay : MethodName := ⟨"CoinNode$Chain", "replay", "(I)V"⟩
theorem n_1_replay : jn_is prog_3_method_8_code mi_1_replay.1 mi_1_replay.2.1 := by unfold jn_is; decide +kernel
theorem k_1_replay : jmok y_1_replay prog_3_method_8_code mi_1_replay 1 := ⟨jw_1293, jw_9, ⟨by decide, by decide⟩, by decide +kernel⟩
theorem v_1_replay_40 (l : Launch)   (H : jH) : JV l mi_1_replay jeV 40 [] [] H (B_1_replay_40   H) := by
  unfold B_1_replay_40
  exact s_177 rfl rfl
theorem v_1_replay_9 (l : Launch) (k9 : Nat → Int32 → Int32 → jH → Option (Unit × jH)) (hk9 : ∀ a0 a1 a2 H, JV l mi_1_replay jeV 9 [(0, .ref a0), (1, .int a1), (2, .int a2)] [] H (k9 a0 a1 a2 H)) (a0 : Nat) (a1 : Int32) (a2 : Int32) (H : jH) : JV l mi_1_replay jeV 9 [(0, .ref a0), (1, .int a1), (2, .int a2)] [] H (B_1_replay_9 k9 a0 a1 a2 H) := by
  unfold B_1_replay_9
  refine s_28 10 rfl rfl ?_
  refine s_27 11 rfl rfl ?_
  refine s_163 0 29 40 14 rfl rfl ?_ ?_
  · exact s_jmp (v_1_replay_40 l _) trivial
  · refine s_28 15 rfl rfl ?_
    refine s_17 1 44 18 300 jsp_1_44 rfl ?_
    refine s_162 0 22 40 21 rfl rfl ?_ ?_
    · exact s_jmp (v_1_replay_40 l _) trivial
    · refine s_42 22 rfl rfl ?_
      refine s_180R 0 51 25 51 f_1_1 jw_382 rfl rfl ?_
      refine s_42 26 rfl rfl ?_
      refine s_180R 0 17 29 17 f_1_7 jw_391 rfl rfl ?_
      refine s_28 30 rfl rfl ?_
      refine s_50 31 114 jt_114 rfl ?_
      refine s_182V 0 178 34 178 (m_2_apply l _ _ _) rfl k_2_apply jc_2 jw_1298 jw_1299 jw_1300 rfl rfl rfl rfl rfl (fun x1 h2 => ?_)
      refine s_132L 2 1 37 1 ji_1 rfl rfl rfl (fun x3 => ?_)
      refine s_167 255 228 9 rfl rfl ?_
      exact s_jmp (hk9 _ _ _ _) ⟨rfl, rfl, rfl, trivial⟩
theorem w_1_replay_9 (l : Launch)  (n : Nat) : ∀ a0 a1 a2 H, JV l mi_1_replay jeV 9 [(0, .ref a0), (1, .int a1), (2, .int a2)] [] H (F_1_replay_9  n a0 a1 a2 H) := by
  induction n with
  | zero => intro _ _ _ _; exact s_none
  | succ n ih => intro a0 a1 a2 H; exact v_1_replay_9 l (F_1_replay_9  n) ih a0 a1 a2 H
theorem v_1_replay (l : Launch) (a0 : Nat) (a1 : Int32) (H : jH) : JV l mi_1_replay jeV 0 [(0, .ref a0), (1, .int a1)] [] H (F_1_replay a0 a1 H) := by
  unfold F_1_replay
  refine s_42 1 rfl rfl ?_
  refine s_180R 0 51 4 51 f_1_1 jw_382 rfl rfl ?_
  refine s_182V 0 175 7 175 (m_2_clear l _ _) rfl k_2_clear jc_2 jw_1294 jw_1295 jw_1296 rfl rfl rfl rfl rfl (fun x4 h5 => ?_)
  refine s_4 8 rfl ?_
  refine s_61 9 rfl rfl ?_
  exact s_jmp (w_1_replay_9 l jfuel _ _ _ _) ⟨rfl, rfl, rfl, trivial⟩
theorem m_1_replay (l : Launch) (a0 : Nat) (a1 : Int32) (H : jH) : JMet l y_1_replay prog_3_method_8_code mi_1_replay jeV [.ref a0, .int a1] H (F_1_replay a0 a1 H) := jmet_of n_1_replay (by decide) ⟨rfl, rfl⟩ (Nat.le_of_ble_eq_true rfl) (v_1_replay l a0 a1 H)
def mi_1_setTarget : jM := (811080727782505682315120925766706429533781886300505707102632152537366326192460719034140165333822754518508784338871982650249328086854379105633987347204072518977330796438189286823919040709063610395, 81, 6, "CoinNode$Chain", none, "setTarget", 1, 23)
def y_1_setTarget : MethodName := ⟨"CoinNode$Chain", "setTarget", "([II)V"⟩
theorem n_1_setTarget : jn_is prog_3_method_15_code mi_1_setTarget.1 mi_1_setTarget.2.1 := by unfold jn_is; decide +kernel
theorem k_1_setTarget : jmok y_1_setTarget prog_3_method_15_code mi_1_setTarget 2 := ⟨jw_1228, jw_9, ⟨by decide, by decide⟩, by decide +kernel⟩
theorem v_1_setTarget_74 (l : Launch) (k18 : Nat → Int32 → Int32 → Int32 → jH → Option (Unit × jH)) (hk18 : ∀ a0 a2 a3 a4 H, JV l mi_1_setTarget jeV 18 [(0, .ref a0), (2, .int a2), (3, .int a3), (4, .int a4)] [] H (k18 a0 a2 a3 a4 H)) (a0 : Nat) (a2 : Int32) (a3 : Int32) (a4 : Int32) (H : jH) : JV l mi_1_setTarget jeV 74 [(0, .ref a0), (2, .int a2), (3, .int a3), (4, .int a4)] [] H (B_1_setTarget_74 k18 a0 a2 a3 a4 H) := by
  unfold B_1_setTarget_74
  refine s_132L 4 1 77 1 ji_1 rfl rfl rfl (fun x1 => ?_)
  refine s_167 255 197 18 rfl rfl ?_
  exact s_jmp (hk18 _ _ _ _ _) ⟨rfl, rfl, rfl, rfl, trivial⟩
theorem v_1_setTarget_18 (l : Launch) (k18 : Nat → Int32 → Int32 → Int32 → jH → Option (Unit × jH)) (hk18 : ∀ a0 a2 a3 a4 H, JV l mi_1_setTarget jeV 18 [(0, .ref a0), (2, .int a2), (3, .int a3), (4, .int a4)] [] H (k18 a0 a2 a3 a4 H)) (a0 : Nat) (a2 : Int32) (a3 : Int32) (a4 : Int32) (H : jH) : JV l mi_1_setTarget jeV 18 [(0, .ref a0), (2, .int a2), (3, .int a3), (4, .int a4)] [] H (B_1_setTarget_18 k18 a0 a2 a3 a4 H) := by
  unfold B_1_setTarget_18
  refine s_21 4 20 rfl rfl ?_
  refine s_6 21 rfl ?_
  refine s_162 0 59 80 24 rfl rfl ?_ ?_
  · exact s_177 rfl rfl
  · refine s_28 25 rfl rfl ?_
    refine s_6 26 rfl ?_
    refine s_100 27 rfl ?_
    refine s_21 4 29 rfl rfl ?_
    refine s_96 30 rfl ?_
    refine s_54L 5 32 rfl rfl (fun x2 => ?_)
    refine s_21 5 34 rfl rfl ?_
    refine s_155 0 40 74 37 rfl rfl ?_ ?_
    · exact s_jmp (v_1_setTarget_74 l k18 hk18 _ _ _ _ _) ⟨rfl, rfl, rfl, rfl, trivial⟩
    · refine s_21 5 39 rfl rfl ?_
      refine s_7 40 rfl ?_
      refine s_108 41 rfl ?_
      refine s_42 42 rfl rfl ?_
      refine s_190 43 100 jm_100 rfl ?_
      refine s_162 0 31 74 46 rfl rfl ?_ ?_
      · exact s_jmp (v_1_setTarget_74 l k18 hk18 _ _ _ _ _) ⟨rfl, rfl, rfl, rfl, trivial⟩
      · refine s_42 47 rfl rfl ?_
        refine s_21 5 49 rfl rfl ?_
        refine s_7 50 rfl ?_
        refine s_108 51 rfl ?_
        refine s_92 52 rfl rfl rfl ?_
        refine s_46 53 rfl ?_
        refine s_29 54 rfl rfl ?_
        refine s_16 8 56 8 jbp_8 rfl ?_
        refine s_21 4 58 rfl rfl ?_
        refine s_104 59 rfl ?_
        refine s_124 60 rfl ?_
        refine s_17 0 255 63 255 jsp_0_255 rfl ?_
        refine s_126 64 rfl ?_
        refine s_16 8 66 8 jbp_8 rfl ?_
        refine s_21 5 68 rfl rfl ?_
        refine s_7 69 rfl ?_
        refine s_112 70 rfl ?_
        refine s_104 71 rfl ?_
        refine s_120 72 rfl ?_
        refine s_128 73 rfl ?_
        refine s_79 74 rfl (fun h3 => ?_)
        exact s_jmp (v_1_setTarget_74 l k18 hk18 _ _ _ _ _) ⟨rfl, rfl, rfl, rfl, trivial⟩
theorem w_1_setTarget_18 (l : Launch)  (n : Nat) : ∀ a0 a2 a3 a4 H, JV l mi_1_setTarget jeV 18 [(0, .ref a0), (2, .int a2), (3, .int a3), (4, .int a4)] [] H (F_1_setTarget_18  n a0 a2 a3 a4 H) := by
  induction n with
  | zero => intro _ _ _ _ _; exact s_none
  | succ n ih => intro a0 a2 a3 a4 H; exact v_1_setTarget_18 l (F_1_setTarget_18  n) ih a0 a2 a3 a4 H
theorem v_1_setTarget (l : Launch) (a0 : Nat) (a1 : Int32) (H : jH) : JV l mi_1_setTarget jeV 0 [(0, .ref a0), (1, .int a1)] [] H (F_1_setTarget a0 a1 H) := by
  unfold F_1_setTarget
  refine s_27 1 rfl rfl ?_
  refine s_16 24 3 24 jbp_24 rfl ?_
  refine s_124 4 rfl ?_
  refine s_61L 5 rfl rfl (fun x4 => ?_)
  refine s_27 6 rfl rfl ?_
  refine s_18 209 8 8388607 jw_1229 rfl ?_
  refine s_126 9 rfl ?_
  refine s_62L 10 rfl rfl (fun x5 => ?_)
  refine s_42 11 rfl rfl ?_
  refine s_3 12 rfl ?_
  refine s_184V 0 210 15 210 (m_A_fill l _ _ _) rfl k_A_fill jw_1230 jw_1024 rfl rfl rfl rfl rfl (fun x6 h7 => ?_)
  refine s_3 16 rfl ?_
  refine s_54 4 18 rfl rfl ?_
  exact s_jmp (w_1_setTarget_18 l jfuel _ _ _ _ _) ⟨rfl, rfl, rfl, rfl, trivial⟩
theorem m_1_setTarget (l : Launch) (a0 : Nat) (a1 : Int32) (H : jH) : JMet l y_1_setTarget prog_3_method_15_code mi_1_setTarget jeV [.ref a0, .int a1] H (F_1_setTarget a0 a1 H) := jmet_of n_1_setTarget (by decide) ⟨rfl, rfl⟩ (Nat.le_of_ble_eq_true rfl) (v_1_setTarget l a0 a1 H)
def mi_1_setWork : jM := (1420720589821128888113285585015331874252690927574758932856724020421376886627340563642450996771062634979022538875040328689780819232008420490136531288440691265357996039271240478015678482411722734673939071109467044381302374839511543693191941880043247537878068637769589929114492182204886625043638345787930766238838329227425989169580096620570892924072084264584687777400356922389994022224975664661759303442194438270089477200979564444141643101132065928379074480051572064951277313865843979219753019094093778715387635481430547791982911654003986412304168274341228988837992066679857683376255404949415588500111078569543833998012993985148096891269133041930295553433475099813438259959496113369377262840609015964348056468418074152059503817919749429593621000781355497094726995804824790172007365461204019491882, 329, 7, "CoinNode$Chain", none, "setWork", 2, 48)
def y_1_setWork : MethodName := ⟨"CoinNode$Chain", "setWork", "(LCoinNode$Block;)V"⟩
theorem n_1_setWork : jn_is prog_3_method_18_code mi_1_setWork.1 mi_1_setWork.2.1 := by unfold jn_is; decide +kernel
theorem k_1_setWork : jmok y_1_setWork prog_3_method_18_code mi_1_setWork 1 := ⟨jw_1277, jw_9, ⟨by decide, by decide⟩, by decide +kernel⟩
theorem v_1_setWork_50 (l : Launch) (k15 : Nat → Nat → Int32 → Int32 → jH → Option (Unit × jH)) (hk15 : ∀ a0 a1 a2 a3 H, JV l mi_1_setWork jeV 15 [(0, .ref a0), (1, .ref a1), (2, .int a2), (3, .int a3)] [] H (k15 a0 a1 a2 a3 H)) (a0 : Nat) (a1 : Nat) (a2 : Int32) (s0 : Int32) (H : jH) : JV l mi_1_setWork jeV 50 [(0, .ref a0), (1, .ref a1), (2, .int a2)] [.int s0] H (B_1_setWork_50 k15 a0 a1 a2 s0 H) := by
  unfold B_1_setWork_50
  refine s_jmp (ls' := [(0, .ref a0), (1, .ref a1), (2, .int a2)]) ?_ ⟨rfl, rfl, rfl, trivial⟩
  refine s_62 51 rfl rfl ?_
  refine s_132L 2 1 54 1 ji_1 rfl rfl rfl (fun x1 => ?_)
  refine s_167 255 217 15 rfl rfl ?_
  exact s_jmp (hk15 _ _ _ _ _) ⟨rfl, rfl, rfl, rfl, trivial⟩
theorem v_1_setWork_248 (l : Launch) (k77 : Nat → Nat → Int32 → jH → Option (Unit × jH)) (hk77 : ∀ a0 a1 a2 H, JV l mi_1_setWork jeV 77 [(0, .ref a0), (1, .ref a1), (2, .int a2)] [] H (k77 a0 a1 a2 H)) (a0 : Nat) (a1 : Nat) (a2 : Int32) (H : jH) : JV l mi_1_setWork jeV 248 [(0, .ref a0), (1, .ref a1), (2, .int a2)] [] H (B_1_setWork_248 k77 a0 a1 a2 H) := by
  unfold B_1_setWork_248
  refine s_132L 2 255 251 (-1) ji_255 rfl rfl rfl (fun x2 => ?_)
  refine s_167 255 82 77 rfl rfl ?_
  exact s_jmp (hk77 _ _ _ _) ⟨rfl, rfl, rfl, trivial⟩
theorem v_1_setWork_163 (l : Launch) (k77 : Nat → Nat → Int32 → jH → Option (Unit × jH)) (hk77 : ∀ a0 a1 a2 H, JV l mi_1_setWork jeV 77 [(0, .ref a0), (1, .ref a1), (2, .int a2)] [] H (k77 a0 a1 a2 H)) (k163 : Nat → Nat → Int32 → Int64 → Int32 → jH → Option (Unit × jH)) (hk163 : ∀ a0 a1 a2 a4 a6 H, JV l mi_1_setWork jeV 163 [(0, .ref a0), (1, .ref a1), (2, .int a2), (4, .long a4), (6, .int a6)] [] H (k163 a0 a1 a2 a4 a6 H)) (a0 : Nat) (a1 : Nat) (a2 : Int32) (a4 : Int64) (a6 : Int32) (H : jH) : JV l mi_1_setWork jeV 163 [(0, .ref a0), (1, .ref a1), (2, .int a2), (4, .long a4), (6, .int a6)] [] H (B_1_setWork_163 k77 k163 a0 a1 a2 a4 a6 H) := by
  unfold B_1_setWork_163
  refine s_21 6 165 rfl rfl ?_
  refine s_16 9 167 9 jbp_9 rfl ?_
  refine s_162 0 56 223 170 rfl rfl ?_ ?_
  · refine s_28 224 rfl rfl ?_
    refine s_17 1 0 227 256 jsp_1_0 rfl ?_
    refine s_162 0 21 248 230 rfl rfl ?_ ?_
    · exact s_jmp (v_1_setWork_248 l k77 hk77 _ _ _ _) ⟨rfl, rfl, rfl, trivial⟩
    · refine s_43 231 rfl rfl ?_
      refine s_180R 0 164 234 164 f_0_8 jw_342 rfl rfl ?_
      refine s_28 235 rfl rfl ?_
      refine s_16 32 237 32 jbp_32 rfl ?_
      refine s_108 238 rfl ?_
      refine s_92 239 rfl rfl rfl ?_
      refine s_46 240 rfl ?_
      refine s_4 241 rfl ?_
      refine s_28 242 rfl rfl ?_
      refine s_16 32 244 32 jbp_32 rfl ?_
      refine s_112 245 rfl ?_
      refine s_120 246 rfl ?_
      refine s_128 247 rfl ?_
      refine s_79 248 rfl (fun h3 => ?_)
      exact s_jmp (v_1_setWork_248 l k77 hk77 _ _ _ _) ⟨rfl, rfl, rfl, trivial⟩
  · refine s_22 4 172 rfl rfl ?_
    refine s_42 173 rfl rfl ?_
    refine s_180R 0 33 176 33 f_1_13 jw_399 rfl rfl ?_
    refine s_21 6 178 rfl rfl ?_
    refine s_46 179 rfl ?_
    refine s_133 180 rfl ?_
    refine s_20 0 196 183 196 4294967295 rfl jw_1231 rfl ?_
    refine s_127 184 rfl ?_
    refine s_42 185 rfl rfl ?_
    refine s_180R 0 26 188 26 f_1_11 jw_397 rfl rfl ?_
    refine s_21 6 190 rfl rfl ?_
    refine s_46 191 rfl ?_
    refine s_133 192 rfl ?_
    refine s_20 0 196 195 196 4294967295 rfl jw_1231 rfl ?_
    refine s_127 196 rfl ?_
    refine s_101 197 rfl ?_
    refine s_97 198 rfl ?_
    refine s_jmp (ls' := [(0, .ref a0), (1, .ref a1), (2, .int a2), (4, .long a4), (6, .int a6)]) ?_ ⟨rfl, rfl, rfl, rfl, rfl, trivial⟩
    refine s_55L 4 200 rfl rfl (fun x4 => ?_)
    refine s_42 201 rfl rfl ?_
    refine s_180R 0 33 204 33 f_1_13 jw_399 rfl rfl ?_
    refine s_21 6 206 rfl rfl ?_
    refine s_22 4 208 rfl rfl ?_
    refine s_136 209 rfl ?_
    refine s_79 210 rfl (fun h5 => ?_)
    refine s_22 4 212 rfl rfl ?_
    refine s_16 32 214 32 jbp_32 rfl ?_
    refine s_123 215 rfl ?_
    refine s_jmp (ls' := [(0, .ref a0), (1, .ref a1), (2, .int a2), (4, .long x4), (6, .int a6)]) ?_ ⟨rfl, rfl, rfl, rfl, rfl, trivial⟩
    refine s_55L 4 217 rfl rfl (fun x6 => ?_)
    refine s_132L 6 1 220 1 ji_1 rfl rfl rfl (fun x7 => ?_)
    refine s_167 255 199 163 rfl rfl ?_
    exact s_jmp (hk163 _ _ _ _ _ _) ⟨rfl, rfl, rfl, rfl, rfl, trivial⟩
theorem w_1_setWork_163 (l : Launch) (k77 : Nat → Nat → Int32 → jH → Option (Unit × jH)) (hk77 : ∀ a0 a1 a2 H, JV l mi_1_setWork jeV 77 [(0, .ref a0), (1, .ref a1), (2, .int a2)] [] H (k77 a0 a1 a2 H)) (n : Nat) : ∀ a0 a1 a2 a4 a6 H, JV l mi_1_setWork jeV 163 [(0, .ref a0), (1, .ref a1), (2, .int a2), (4, .long a4), (6, .int a6)] [] H (F_1_setWork_163 k77 n a0 a1 a2 a4 a6 H) := by
  induction n with
  | zero => intro _ _ _ _ _ _; exact s_none
  | succ n ih => intro a0 a1 a2 a4 a6 H; exact v_1_setWork_163 l k77 hk77 (F_1_setWork_163 k77 n) ih a0 a1 a2 a4 a6 H
theorem v_1_setWork_97 (l : Launch) (k77 : Nat → Nat → Int32 → jH → Option (Unit × jH)) (hk77 : ∀ a0 a1 a2 H, JV l mi_1_setWork jeV 77 [(0, .ref a0), (1, .ref a1), (2, .int a2)] [] H (k77 a0 a1 a2 H)) (k97 : Nat → Nat → Int32 → Int32 → Int32 → jH → Option (Unit × jH)) (hk97 : ∀ a0 a1 a2 a3 a4 H, JV l mi_1_setWork jeV 97 [(0, .ref a0), (1, .ref a1), (2, .int a2), (3, .int a3), (4, .int a4)] [] H (k97 a0 a1 a2 a3 a4 H)) (a0 : Nat) (a1 : Nat) (a2 : Int32) (a3 : Int32) (a4 : Int32) (H : jH) : JV l mi_1_setWork jeV 97 [(0, .ref a0), (1, .ref a1), (2, .int a2), (3, .int a3), (4, .int a4)] [] H (B_1_setWork_97 k77 k97 a0 a1 a2 a3 a4 H) := by
  unfold B_1_setWork_97
  refine s_21 4 99 rfl rfl ?_
  refine s_16 9 101 9 jbp_9 rfl ?_
  refine s_162 0 42 143 104 rfl rfl ?_ ?_
  · refine s_42 144 rfl rfl ?_
    refine s_180R 0 33 147 33 f_1_13 jw_399 rfl rfl ?_
    refine s_42 148 rfl rfl ?_
    refine s_180R 0 26 151 26 f_1_11 jw_397 rfl rfl ?_
    refine s_184I 0 167 154 167 (m_1_compare l _ _ _) rfl k_1_compare jw_1233 jw_1234 rfl rfl rfl rfl rfl (fun x8 h9 => ?_)
    refine s_155 0 94 248 157 rfl rfl ?_ ?_
    · exact s_jmp (v_1_setWork_248 l k77 hk77 _ _ _ _) ⟨rfl, rfl, rfl, trivial⟩
    · refine s_9 158 rfl ?_
      refine s_jmp (ls' := [(0, .ref a0), (1, .ref a1), (2, .int a2), (3, .int a3), (4, .int a4)]) ?_ ⟨rfl, rfl, rfl, rfl, rfl, trivial⟩
      refine s_55 4 160 rfl rfl ?_
      refine s_3 161 rfl ?_
      refine s_54 6 163 rfl rfl ?_
      exact s_jmp (w_1_setWork_163 l k77 hk77 jfuel _ _ _ _ _ _) ⟨rfl, rfl, rfl, rfl, rfl, trivial⟩
  · refine s_42 105 rfl rfl ?_
    refine s_180R 0 33 108 33 f_1_13 jw_399 rfl rfl ?_
    refine s_21 4 110 rfl rfl ?_
    refine s_46 111 rfl ?_
    refine s_16 31 113 31 jbp_31 rfl ?_
    refine s_124 114 rfl ?_
    refine s_jmp (ls' := [(0, .ref a0), (1, .ref a1), (2, .int a2), (3, .int a3), (4, .int a4)]) ?_ ⟨rfl, rfl, rfl, rfl, rfl, trivial⟩
    refine s_54L 5 116 rfl rfl (fun x10 => ?_)
    refine s_42 117 rfl rfl ?_
    refine s_180R 0 33 120 33 f_1_13 jw_399 rfl rfl ?_
    refine s_21 4 122 rfl rfl ?_
    refine s_42 123 rfl rfl ?_
    refine s_180R 0 33 126 33 f_1_13 jw_399 rfl rfl ?_
    refine s_21 4 128 rfl rfl ?_
    refine s_46 129 rfl ?_
    refine s_4 130 rfl ?_
    refine s_120 131 rfl ?_
    refine s_29 132 rfl rfl ?_
    refine s_128 133 rfl ?_
    refine s_79 134 rfl (fun h11 => ?_)
    refine s_21 5 136 rfl rfl ?_
    refine s_jmp (ls' := [(0, .ref a0), (1, .ref a1), (2, .int a2), (3, .int a3), (4, .int a4), (5, .int x10)]) ?_ ⟨rfl, rfl, rfl, rfl, rfl, rfl, trivial⟩
    refine s_62 137 rfl rfl ?_
    refine s_132L 4 1 140 1 ji_1 rfl rfl rfl (fun x12 => ?_)
    refine s_167 255 213 97 rfl rfl ?_
    exact s_jmp (hk97 _ _ _ _ _ _) ⟨rfl, rfl, rfl, rfl, rfl, trivial⟩
theorem w_1_setWork_97 (l : Launch) (k77 : Nat → Nat → Int32 → jH → Option (Unit × jH)) (hk77 : ∀ a0 a1 a2 H, JV l mi_1_setWork jeV 77 [(0, .ref a0), (1, .ref a1), (2, .int a2)] [] H (k77 a0 a1 a2 H)) (n : Nat) : ∀ a0 a1 a2 a3 a4 H, JV l mi_1_setWork jeV 97 [(0, .ref a0), (1, .ref a1), (2, .int a2), (3, .int a3), (4, .int a4)] [] H (F_1_setWork_97 k77 n a0 a1 a2 a3 a4 H) := by
  induction n with
  | zero => intro _ _ _ _ _ _; exact s_none
  | succ n ih => intro a0 a1 a2 a3 a4 H; exact v_1_setWork_97 l k77 hk77 (F_1_setWork_97 k77 n) ih a0 a1 a2 a3 a4 H
theorem v_1_setWork_93 (l : Launch) (k77 : Nat → Nat → Int32 → jH → Option (Unit × jH)) (hk77 : ∀ a0 a1 a2 H, JV l mi_1_setWork jeV 77 [(0, .ref a0), (1, .ref a1), (2, .int a2)] [] H (k77 a0 a1 a2 H)) (a0 : Nat) (a1 : Nat) (a2 : Int32) (s0 : Int32) (H : jH) : JV l mi_1_setWork jeV 93 [(0, .ref a0), (1, .ref a1), (2, .int a2)] [.int s0] H (B_1_setWork_93 k77 a0 a1 a2 s0 H) := by
  unfold B_1_setWork_93
  refine s_jmp (ls' := [(0, .ref a0), (1, .ref a1), (2, .int a2)]) ?_ ⟨rfl, rfl, rfl, trivial⟩
  refine s_62 94 rfl rfl ?_
  refine s_3 95 rfl ?_
  refine s_54 4 97 rfl rfl ?_
  exact s_jmp (w_1_setWork_97 l k77 hk77 jfuel _ _ _ _ _ _) ⟨rfl, rfl, rfl, rfl, rfl, trivial⟩
theorem v_1_setWork_305 (l : Launch) (k259 : Nat → Int64 → Int32 → jH → Option (Unit × jH)) (hk259 : ∀ a1 a2 a4 H, JV l mi_1_setWork jeV 259 [(1, .ref a1), (2, .long a2), (4, .int a4)] [] H (k259 a1 a2 a4 H)) (a1 : Nat) (a4 : Int32) (s0 : Int64) (s1 : Int64) (s2 : Int64) (H : jH) : JV l mi_1_setWork jeV 305 [(1, .ref a1), (4, .int a4)] [.long s2, .long s1, .long s0] H (B_1_setWork_305 k259 a1 a4 s0 s1 s2 H) := by
  unfold B_1_setWork_305
  refine s_97 306 rfl ?_
  refine s_97 307 rfl ?_
  refine s_jmp (ls' := [(1, .ref a1), (4, .int a4)]) ?_ ⟨rfl, rfl, trivial⟩
  refine s_65L 308 rfl rfl (fun x13 => ?_)
  refine s_43 309 rfl rfl ?_
  refine s_180R 0 164 312 164 f_0_8 jw_342 rfl rfl ?_
  refine s_21 4 314 rfl rfl ?_
  refine s_32 315 rfl rfl ?_
  refine s_136 316 rfl ?_
  refine s_79 317 rfl (fun h14 => ?_)
  refine s_32 318 rfl rfl ?_
  refine s_16 32 320 32 jbp_32 rfl ?_
  refine s_125 321 rfl ?_
  refine s_jmp (ls' := [(1, .ref a1), (2, .long x13), (4, .int a4)]) ?_ ⟨rfl, rfl, rfl, trivial⟩
  refine s_65L 322 rfl rfl (fun x15 => ?_)
  refine s_132L 4 1 325 1 ji_1 rfl rfl rfl (fun x16 => ?_)
  refine s_167 255 190 259 rfl rfl ?_
  exact s_jmp (hk259 _ _ _ _) ⟨rfl, rfl, rfl, trivial⟩
theorem v_1_setWork_259 (l : Launch) (k259 : Nat → Int64 → Int32 → jH → Option (Unit × jH)) (hk259 : ∀ a1 a2 a4 H, JV l mi_1_setWork jeV 259 [(1, .ref a1), (2, .long a2), (4, .int a4)] [] H (k259 a1 a2 a4 H)) (a1 : Nat) (a2 : Int64) (a4 : Int32) (H : jH) : JV l mi_1_setWork jeV 259 [(1, .ref a1), (2, .long a2), (4, .int a4)] [] H (B_1_setWork_259 k259 a1 a2 a4 H) := by
  unfold B_1_setWork_259
  refine s_21 4 261 rfl rfl ?_
  refine s_16 8 263 8 jbp_8 rfl ?_
  refine s_162 0 65 328 266 rfl rfl ?_ ?_
  · exact s_177 rfl rfl
  · refine s_32 267 rfl rfl ?_
    refine s_43 268 rfl rfl ?_
    refine s_180R 0 164 271 164 f_0_8 jw_342 rfl rfl ?_
    refine s_21 4 273 rfl rfl ?_
    refine s_46 274 rfl ?_
    refine s_133 275 rfl ?_
    refine s_20 0 196 278 196 4294967295 rfl jw_1231 rfl ?_
    refine s_127 279 rfl ?_
    refine s_43 280 rfl rfl ?_
    refine s_180R 0 92 283 92 f_0_5 jw_336 rfl rfl ?_
    refine s_199 0 7 290 286 rfl rfl ?_ ?_
    · refine s_43 291 rfl rfl ?_
      refine s_180R 0 92 294 92 f_0_5 jw_336 rfl rfl ?_
      refine s_180R 0 164 297 164 f_0_8 jw_342 rfl rfl ?_
      refine s_21 4 299 rfl rfl ?_
      refine s_46 300 rfl ?_
      refine s_133 301 rfl ?_
      refine s_20 0 196 304 196 4294967295 rfl jw_1231 rfl ?_
      refine s_127 305 rfl ?_
      exact s_jmp (v_1_setWork_305 l k259 hk259 _ _ _ _ _ _) ⟨rfl, rfl, trivial⟩
    · refine s_9 287 rfl ?_
      refine s_167 0 18 305 rfl rfl ?_
      exact s_jmp (v_1_setWork_305 l k259 hk259 _ _ _ _ _ _) ⟨rfl, rfl, trivial⟩
theorem w_1_setWork_259 (l : Launch)  (n : Nat) : ∀ a1 a2 a4 H, JV l mi_1_setWork jeV 259 [(1, .ref a1), (2, .long a2), (4, .int a4)] [] H (F_1_setWork_259  n a1 a2 a4 H) := by
  induction n with
  | zero => intro _ _ _ _; exact s_none
  | succ n ih => intro a1 a2 a4 H; exact v_1_setWork_259 l (F_1_setWork_259  n) ih a1 a2 a4 H
theorem v_1_setWork_77 (l : Launch) (k77 : Nat → Nat → Int32 → jH → Option (Unit × jH)) (hk77 : ∀ a0 a1 a2 H, JV l mi_1_setWork jeV 77 [(0, .ref a0), (1, .ref a1), (2, .int a2)] [] H (k77 a0 a1 a2 H)) (a0 : Nat) (a1 : Nat) (a2 : Int32) (H : jH) : JV l mi_1_setWork jeV 77 [(0, .ref a0), (1, .ref a1), (2, .int a2)] [] H (B_1_setWork_77 k77 a0 a1 a2 H) := by
  unfold B_1_setWork_77
  refine s_28 78 rfl rfl ?_
  refine s_155 0 176 254 81 rfl rfl ?_ ?_
  · refine s_9 255 rfl ?_
    refine s_jmp (ls' := [(0, .ref a0), (1, .ref a1), (2, .int a2)]) ?_ ⟨rfl, rfl, rfl, trivial⟩
    refine s_65 256 rfl rfl ?_
    refine s_3 257 rfl ?_
    refine s_54 4 259 rfl rfl ?_
    exact s_jmp (w_1_setWork_259 l jfuel _ _ _ _) ⟨rfl, rfl, rfl, trivial⟩
  · refine s_28 82 rfl rfl ?_
    refine s_17 1 0 85 256 jsp_1_0 rfl ?_
    refine s_160 0 7 92 88 rfl rfl ?_ ?_
    · refine s_3 93 rfl ?_
      exact s_jmp (v_1_setWork_93 l k77 hk77 _ _ _ _ _) ⟨rfl, rfl, rfl, trivial⟩
    · refine s_4 89 rfl ?_
      refine s_167 0 4 93 rfl rfl ?_
      exact s_jmp (v_1_setWork_93 l k77 hk77 _ _ _ _ _) ⟨rfl, rfl, rfl, trivial⟩
theorem w_1_setWork_77 (l : Launch)  (n : Nat) : ∀ a0 a1 a2 H, JV l mi_1_setWork jeV 77 [(0, .ref a0), (1, .ref a1), (2, .int a2)] [] H (F_1_setWork_77  n a0 a1 a2 H) := by
  induction n with
  | zero => intro _ _ _ _; exact s_none
  | succ n ih => intro a0 a1 a2 H; exact v_1_setWork_77 l (F_1_setWork_77  n) ih a0 a1 a2 H
theorem v_1_setWork_57 (l : Launch)  (a0 : Nat) (a1 : Nat) (H : jH) : JV l mi_1_setWork jeV 57 [(0, .ref a0), (1, .ref a1)] [] H (B_1_setWork_57  a0 a1 H) := by
  unfold B_1_setWork_57
  refine s_42 58 rfl rfl ?_
  refine s_180R 0 33 61 33 f_1_13 jw_399 rfl rfl ?_
  refine s_3 62 rfl ?_
  refine s_184V 0 210 65 210 (m_A_fill l _ _ _) rfl k_A_fill jw_1230 jw_1024 rfl rfl rfl rfl rfl (fun x17 h18 => ?_)
  refine s_43 66 rfl rfl ?_
  refine s_180R 0 164 69 164 f_0_8 jw_342 rfl rfl ?_
  refine s_3 70 rfl ?_
  refine s_184V 0 210 73 210 (m_A_fill l _ _ _) rfl k_A_fill jw_1230 jw_1024 rfl rfl rfl rfl rfl (fun x19 h20 => ?_)
  refine s_17 1 0 76 256 jsp_1_0 rfl ?_
  refine s_61 77 rfl rfl ?_
  exact s_jmp (w_1_setWork_77 l jfuel _ _ _ _) ⟨rfl, rfl, rfl, trivial⟩
theorem v_1_setWork_15 (l : Launch) (k15 : Nat → Nat → Int32 → Int32 → jH → Option (Unit × jH)) (hk15 : ∀ a0 a1 a2 a3 H, JV l mi_1_setWork jeV 15 [(0, .ref a0), (1, .ref a1), (2, .int a2), (3, .int a3)] [] H (k15 a0 a1 a2 a3 H)) (a0 : Nat) (a1 : Nat) (a2 : Int32) (a3 : Int32) (H : jH) : JV l mi_1_setWork jeV 15 [(0, .ref a0), (1, .ref a1), (2, .int a2), (3, .int a3)] [] H (B_1_setWork_15 k15 a0 a1 a2 a3 H) := by
  unfold B_1_setWork_15
  refine s_28 16 rfl rfl ?_
  refine s_16 9 18 9 jbp_9 rfl ?_
  refine s_162 0 39 57 21 rfl rfl ?_ ?_
  · exact s_jmp (v_1_setWork_57 l _ _ _) ⟨rfl, rfl, trivial⟩
  · refine s_29 22 rfl rfl ?_
    refine s_4 23 rfl ?_
    refine s_160 0 34 57 26 rfl rfl ?_ ?_
    · exact s_jmp (v_1_setWork_57 l _ _ _) ⟨rfl, rfl, trivial⟩
    · refine s_42 27 rfl rfl ?_
      refine s_180R 0 26 30 26 f_1_11 jw_397 rfl rfl ?_
      refine s_28 31 rfl rfl ?_
      refine s_92 32 rfl rfl rfl ?_
      refine s_46 33 rfl ?_
      refine s_4 34 rfl ?_
      refine s_96 35 rfl ?_
      refine s_79 36 rfl (fun h21 => ?_)
      refine s_42 37 rfl rfl ?_
      refine s_180R 0 26 40 26 f_1_11 jw_397 rfl rfl ?_
      refine s_28 41 rfl rfl ?_
      refine s_46 42 rfl ?_
      refine s_154 0 7 49 45 rfl rfl ?_ ?_
      · refine s_3 50 rfl ?_
        exact s_jmp (v_1_setWork_50 l k15 hk15 _ _ _ _ _) ⟨rfl, rfl, rfl, trivial⟩
      · refine s_4 46 rfl ?_
        refine s_167 0 4 50 rfl rfl ?_
        exact s_jmp (v_1_setWork_50 l k15 hk15 _ _ _ _ _) ⟨rfl, rfl, rfl, trivial⟩
theorem w_1_setWork_15 (l : Launch)  (n : Nat) : ∀ a0 a1 a2 a3 H, JV l mi_1_setWork jeV 15 [(0, .ref a0), (1, .ref a1), (2, .int a2), (3, .int a3)] [] H (F_1_setWork_15  n a0 a1 a2 a3 H) := by
  induction n with
  | zero => intro _ _ _ _ _; exact s_none
  | succ n ih => intro a0 a1 a2 a3 H; exact v_1_setWork_15 l (F_1_setWork_15  n) ih a0 a1 a2 a3 H
theorem v_1_setWork (l : Launch) (a0 : Nat) (a1 : Nat) (H : jH) : JV l mi_1_setWork jeV 0 [(0, .ref a0), (1, .ref a1)] [] H (F_1_setWork a0 a1 H) := by
  unfold F_1_setWork
  refine s_42 1 rfl rfl ?_
  refine s_180R 0 26 4 26 f_1_11 jw_397 rfl rfl ?_
  refine s_43 5 rfl rfl ?_
  refine s_180I 0 99 8 99 f_0_2 jw_330 rfl rfl ?_
  refine s_184V 0 114 11 114 (m_1_setTarget l _ _ _) rfl k_1_setTarget jw_1226 jw_1227 rfl rfl rfl rfl rfl (fun x22 h23 => ?_)
  refine s_3 12 rfl ?_
  refine s_61 13 rfl rfl ?_
  refine s_4 14 rfl ?_
  refine s_jmp (ls' := [(0, .ref a0), (1, .ref a1), (2, .int 0)]) ?_ ⟨rfl, rfl, rfl, trivial⟩
  refine s_62 15 rfl rfl ?_
  exact s_jmp (w_1_setWork_15 l jfuel _ _ _ _ _) ⟨rfl, rfl, rfl, rfl, trivial⟩
theorem m_1_setWork (l : Launch) (a0 : Nat) (a1 : Nat) (H : jH) : JMet l y_1_setWork prog_3_method_18_code mi_1_setWork jeV [.ref a0, .ref a1] H (F_1_setWork a0 a1 H) := jmet_of n_1_setWork (by decide) ⟨rfl, rfl⟩ (Nat.le_of_ble_eq_true rfl) (v_1_setWork l a0 a1 H)
def mi_2_faultOfMaking : jM := (2535804662823149996557189894588183003849699253332863919951124842282475799604916150334569123214684284092741920043800121397179546643601208432477471772473158786955438013955, 70, 4, "CoinNode$Coins", some FieldType.int, "faultOfMaking", 2, 48)
def y_2_faultOfMaking : MethodName := ⟨"CoinNode$Coins", "faultOfMaking", "(LCoinNode$Tx;I)I"⟩
theorem n_2_faultOfMaking : jn_is prog_4_method_10_code mi_2_faultOfMaking.1 mi_2_faultOfMaking.2.1 := by unfold jn_is; decide +kernel
theorem k_2_faultOfMaking : jmok y_2_faultOfMaking prog_4_method_10_code mi_2_faultOfMaking 2 := ⟨jw_1327, jw_8, ⟨by decide, by decide⟩, by decide +kernel⟩
theorem v_2_faultOfMaking_69 (l : Launch)  (s0 : Int32) (H : jH) : JV l mi_2_faultOfMaking jeI 69 [] [.int s0] H (B_2_faultOfMaking_69  s0 H) := by
  unfold B_2_faultOfMaking_69
  exact s_172 rfl rfl
theorem v_2_faultOfMaking_63 (l : Launch)   (H : jH) : JV l mi_2_faultOfMaking jeI 63 [] [] H (B_2_faultOfMaking_63   H) := by
  unfold B_2_faultOfMaking_63
  refine s_16 37 65 37 jbp_37 rfl ?_
  refine s_167 0 4 69 rfl rfl ?_
  exact s_jmp (v_2_faultOfMaking_69 l _ _) trivial
theorem v_2_faultOfMaking_2 (l : Launch) (k2 : Nat → Nat → Int32 → Int32 → jH → Option (Int32 × jH)) (hk2 : ∀ a0 a1 a2 a3 H, JV l mi_2_faultOfMaking jeI 2 [(0, .ref a0), (1, .ref a1), (2, .int a2), (3, .int a3)] [] H (k2 a0 a1 a2 a3 H)) (a0 : Nat) (a1 : Nat) (a2 : Int32) (a3 : Int32) (H : jH) : JV l mi_2_faultOfMaking jeI 2 [(0, .ref a0), (1, .ref a1), (2, .int a2), (3, .int a3)] [] H (B_2_faultOfMaking_2 k2 a0 a1 a2 a3 H) := by
  unfold B_2_faultOfMaking_2
  refine s_29 3 rfl rfl ?_
  refine s_43 4 rfl rfl ?_
  refine s_180R 0 111 7 111 f_10_5 jw_733 rfl rfl ?_
  refine s_190 8 100 jm_100 rfl ?_
  refine s_162 0 25 33 11 rfl rfl ?_ ?_
  · refine s_42 34 rfl rfl ?_
    refine s_180I 0 28 37 28 f_2_3 jw_276 rfl rfl ?_
    refine s_28 38 rfl rfl ?_
    refine s_100 39 rfl ?_
    refine s_43 40 rfl rfl ?_
    refine s_180R 0 111 43 111 f_10_5 jw_733 rfl rfl ?_
    refine s_190 44 100 jm_100 rfl ?_
    refine s_96 45 rfl ?_
    refine s_17 5 220 48 1500 jsp_5_220 rfl ?_
    refine s_163 0 15 63 51 rfl rfl ?_ ?_
    · exact s_jmp (v_2_faultOfMaking_63 l _) trivial
    · refine s_42 52 rfl rfl ?_
      refine s_180I 0 32 55 32 f_2_4 jw_278 rfl rfl ?_
      refine s_28 56 rfl rfl ?_
      refine s_96 57 rfl ?_
      refine s_17 11 184 60 3000 jsp_11_184 rfl ?_
      refine s_164 0 8 68 63 rfl rfl ?_ ?_
      · refine s_3 69 rfl ?_
        exact s_jmp (v_2_faultOfMaking_69 l _ _) trivial
      · exact s_jmp (v_2_faultOfMaking_63 l _) trivial
  · refine s_42 12 rfl rfl ?_
    refine s_43 13 rfl rfl ?_
    refine s_180R 0 39 16 39 f_10_3 jw_722 rfl rfl ?_
    refine s_3 17 rfl ?_
    refine s_29 18 rfl rfl ?_
    refine s_182I 0 102 21 102 (m_2_find l _ _ _ _ _) rfl k_2_find jc_2 jw_1307 jw_835 jw_836 rfl rfl rfl rfl rfl (fun x1 h2 => ?_)
    refine s_155 0 6 27 24 rfl rfl ?_ ?_
    · refine s_132L 3 1 30 1 ji_1 rfl rfl rfl (fun x3 => ?_)
      refine s_167 255 228 2 rfl rfl ?_
      exact s_jmp (hk2 _ _ _ _ _) ⟨rfl, rfl, rfl, rfl, trivial⟩
    · refine s_16 36 26 36 jbp_36 rfl ?_
      exact s_172 rfl rfl
theorem w_2_faultOfMaking_2 (l : Launch)  (n : Nat) : ∀ a0 a1 a2 a3 H, JV l mi_2_faultOfMaking jeI 2 [(0, .ref a0), (1, .ref a1), (2, .int a2), (3, .int a3)] [] H (F_2_faultOfMaking_2  n a0 a1 a2 a3 H) := by
  induction n with
  | zero => intro _ _ _ _ _; exact s_none
  | succ n ih => intro a0 a1 a2 a3 H; exact v_2_faultOfMaking_2 l (F_2_faultOfMaking_2  n) ih a0 a1 a2 a3 H
theorem v_2_faultOfMaking (l : Launch) (a0 : Nat) (a1 : Nat) (a2 : Int32) (H : jH) : JV l mi_2_faultOfMaking jeI 0 [(0, .ref a0), (1, .ref a1), (2, .int a2)] [] H (F_2_faultOfMaking a0 a1 a2 H) := by
  unfold F_2_faultOfMaking
  refine s_3 1 rfl ?_
  refine s_62 2 rfl rfl ?_
  exact s_jmp (w_2_faultOfMaking_2 l jfuel _ _ _ _ _) ⟨rfl, rfl, rfl, rfl, trivial⟩
theorem m_2_faultOfMaking (l : Launch) (a0 : Nat) (a1 : Nat) (a2 : Int32) (H : jH) : JMet l y_2_faultOfMaking prog_4_method_10_code mi_2_faultOfMaking jeI [.ref a0, .ref a1, .int a2] H (F_2_faultOfMaking a0 a1 a2 H) := jmet_of n_2_faultOfMaking (by decide) ⟨rfl, rfl⟩ (Nat.le_of_ble_eq_true rfl) (v_2_faultOfMaking l a0 a1 a2 H)
def mi_2_worth : jM := (78336703222645016123154945238811282025501704009648086953851642041949082393371, 32, 2, "CoinNode$Coins", some FieldType.long, "worth", 2, 43)
def y_2_worth : MethodName := ⟨"CoinNode$Coins", "worth", "(I)J"⟩
theorem n_2_worth : jn_is prog_4_method_5_code mi_2_worth.1 mi_2_worth.2.1 := by unfold jn_is; decide +kernel
theorem k_2_worth : jmok y_2_worth prog_4_method_5_code mi_2_worth 1 := ⟨jw_1322, jw_8, ⟨by decide, by decide⟩, by decide +kernel⟩
theorem v_2_worth_31 (l : Launch)  (s0 : Int64) (H : jH) : JV l mi_2_worth jeL 31 [] [.long s0] H (B_2_worth_31  s0 H) := by
  unfold B_2_worth_31
  exact s_173 rfl rfl
theorem v_2_worth_12 (l : Launch)   (H : jH) : JV l mi_2_worth jeL 12 [] [] H (B_2_worth_12   H) := by
  unfold B_2_worth_12
  refine s_9 13 rfl ?_
  refine s_167 0 18 31 rfl rfl ?_
  exact s_jmp (v_2_worth_31 l _ _) trivial
theorem v_2_worth (l : Launch) (a0 : Nat) (a1 : Int32) (H : jH) : JV l mi_2_worth jeL 0 [(0, .ref a0), (1, .int a1)] [] H (F_2_worth a0 a1 H) := by
  unfold F_2_worth
  refine s_27 1 rfl rfl ?_
  refine s_155 0 11 12 4 rfl rfl ?_ ?_
  · exact s_jmp (v_2_worth_12 l _) trivial
  · refine s_27 5 rfl rfl ?_
    refine s_42 6 rfl rfl ?_
    refine s_180I 0 28 9 28 f_2_3 jw_276 rfl rfl ?_
    refine s_161 0 7 16 12 rfl rfl ?_ ?_
    · refine s_42 17 rfl rfl ?_
      refine s_180R 0 11 20 11 f_2_0 jw_273 rfl rfl ?_
      refine s_27 21 rfl rfl ?_
      refine s_50 22 113 jt_113 rfl ?_
      refine s_42 23 rfl rfl ?_
      refine s_180R 0 15 26 15 f_2_1 jw_274 rfl rfl ?_
      refine s_27 27 rfl rfl ?_
      refine s_46 28 rfl ?_
      refine s_182L 0 49 31 49 (m_10_worth l _ _ _) rfl k_10_worth jc_10 jw_1308 jw_774 jw_775 rfl rfl rfl rfl rfl (fun x1 h2 => ?_)
      exact s_jmp (v_2_worth_31 l _ _) trivial
    · exact s_jmp (v_2_worth_12 l _) trivial
theorem m_2_worth (l : Launch) (a0 : Nat) (a1 : Int32) (H : jH) : JMet l y_2_worth prog_4_method_5_code mi_2_worth jeL [.ref a0, .int a1] H (F_2_worth a0 a1 H) := jmet_of n_2_worth (by decide) ⟨rfl, rfl⟩ (Nat.le_of_ble_eq_true rfl) (v_2_worth l a0 a1 H)
