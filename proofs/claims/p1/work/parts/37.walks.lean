def mi_12_padded : jM := (14517645045909291182649322243224369019566848434796894539888888261500195859398924471898414158655491508073701505071140347436462172006316216280946923863458087297533767390234679493668368708232142555666732918210516488220, 89, 7, "CoinNodeModel$Hashes", some FieldType.int, "padded", 0, 0)
def y_12_padded : MethodName := ⟨"CoinNodeModel$Hashes", "padded", "([BIIIZ)I"⟩
theorem n_12_padded : jn_is prog_16_method_2_code mi_12_padded.1 mi_12_padded.2.1 := by unfold jn_is; decide +kernel
theorem k_12_padded : jmok y_12_padded prog_16_method_2_code mi_12_padded 5 := ⟨jw_1604, jw_15, ⟨by decide, by decide⟩, by decide +kernel⟩
theorem v_12_padded_88 (l : Launch)  (s0 : Int32) (H : jH) : JV l mi_12_padded jeI 88 [] [.int s0] H (B_12_padded_88  s0 H) := by
  unfold B_12_padded_88
  exact s_172 rfl rfl
theorem v_12_padded_70 (l : Launch)   (H : jH) : JV l mi_12_padded jeI 70 [] [] H (B_12_padded_70   H) := by
  unfold B_12_padded_70
  refine s_3 71 rfl ?_
  refine s_167 0 17 88 rfl rfl ?_
  exact s_jmp (v_12_padded_88 l _ _) trivial
theorem v_12_padded_57 (l : Launch)  (a2 : Int32) (s0 : Int32) (H : jH) : JV l mi_12_padded jeI 57 [(2, .int a2)] [.int s0] H (B_12_padded_57  a2 s0 H) := by
  unfold B_12_padded_57
  refine s_54 6 59 rfl rfl ?_
  refine s_21 6 61 rfl rfl ?_
  refine s_155 0 9 70 64 rfl rfl ?_ ?_
  · exact s_jmp (v_12_padded_70 l _) trivial
  · refine s_21 6 66 rfl rfl ?_
    refine s_5 67 rfl ?_
    refine s_164 0 7 74 70 rfl rfl ?_ ?_
    · refine s_16 8 76 8 jbp_8 rfl ?_
      refine s_28 77 rfl rfl ?_
      refine s_104 78 rfl ?_
      refine s_16 8 80 8 jbp_8 rfl ?_
      refine s_21 6 82 rfl rfl ?_
      refine s_104 83 rfl ?_
      refine s_122 84 rfl ?_
      refine s_17 0 255 87 255 jsp_0_255 rfl ?_
      refine s_126 88 rfl ?_
      exact s_jmp (v_12_padded_88 l _ _) trivial
    · exact s_jmp (v_12_padded_70 l _) trivial
theorem v_12_padded (l : Launch) (a0 : Nat) (a1 : Int32) (a2 : Int32) (a3 : Int32) (a4 : Int32) (H : jH) : JV l mi_12_padded jeI 0 [(0, .ref a0), (1, .int a1), (2, .int a2), (3, .int a3), (4, .int a4)] [] H (F_12_padded a0 a1 a2 a3 a4 H) := by
  unfold F_12_padded
  refine s_28 1 rfl rfl ?_
  refine s_16 72 3 72 jbp_72 rfl ?_
  refine s_96 4 rfl ?_
  refine s_16 64 6 64 jbp_64 rfl ?_
  refine s_108 7 rfl ?_
  refine s_16 64 9 64 jbp_64 rfl ?_
  refine s_104 10 rfl ?_
  refine s_54L 5 12 rfl rfl (fun x1 => ?_)
  refine s_29 13 rfl rfl ?_
  refine s_28 14 rfl rfl ?_
  refine s_162 0 13 27 17 rfl rfl ?_ ?_
  · refine s_29 28 rfl rfl ?_
    refine s_28 29 rfl rfl ?_
    refine s_160 0 7 36 32 rfl rfl ?_ ?_
    · refine s_21 4 38 rfl rfl ?_
      refine s_153 0 12 50 41 rfl rfl ?_ ?_
      · refine s_29 51 rfl rfl ?_
        refine s_21 5 53 rfl rfl ?_
        refine s_16 8 55 8 jbp_8 rfl ?_
        refine s_100 56 rfl ?_
        refine s_100 57 rfl ?_
        exact s_jmp (v_12_padded_57 l _ _ _) ⟨rfl, trivial⟩
      · refine s_21 5 43 rfl rfl ?_
        refine s_4 44 rfl ?_
        refine s_100 45 rfl ?_
        refine s_29 46 rfl rfl ?_
        refine s_100 47 rfl ?_
        refine s_167 0 10 57 rfl rfl ?_
        exact s_jmp (v_12_padded_57 l _ _ _) ⟨rfl, trivial⟩
    · refine s_17 0 128 35 128 jsp_0_128 rfl ?_
      exact s_172 rfl rfl
  · refine s_42 18 rfl rfl ?_
    refine s_27 19 rfl rfl ?_
    refine s_29 20 rfl rfl ?_
    refine s_96 21 rfl ?_
    refine s_51B 22 rfl ?_
    refine s_17 0 255 25 255 jsp_0_255 rfl ?_
    refine s_126 26 rfl ?_
    exact s_172 rfl rfl
theorem m_12_padded (l : Launch) (a0 : Nat) (a1 : Int32) (a2 : Int32) (a3 : Int32) (a4 : Int32) (H : jH) : JMet l y_12_padded prog_16_method_2_code mi_12_padded jeI [.ref a0, .int a1, .int a2, .int a3, .int a4] H (F_12_padded a0 a1 a2 a3 a4 H) := jmet_of n_12_padded (by decide) ⟨rfl, rfl⟩ (Nat.le_of_ble_eq_true rfl) (v_12_padded l a0 a1 a2 a3 a4 H)
def mi_12_right : jM := (208541924706206859482897178, 11, 2, "CoinNodeModel$Hashes", some FieldType.int, "right", 0, 0)
def y_12_right : MethodName := ⟨"CoinNodeModel$Hashes", "right", "(II)I"⟩
theorem n_12_right : jn_is prog_16_method_3_code mi_12_right.1 mi_12_right.2.1 := by unfold jn_is; decide +kernel
theorem k_12_right : jmok y_12_right prog_16_method_3_code mi_12_right 2 := ⟨jw_1607, jw_15, ⟨by decide, by decide⟩, by decide +kernel⟩
theorem v_12_right (l : Launch) (a0 : Int32) (a1 : Int32) (H : jH) : JV l mi_12_right jeI 0 [(0, .int a0), (1, .int a1)] [] H (F_12_right a0 a1 H) := by
  unfold F_12_right
  refine s_26 1 rfl rfl ?_
  refine s_27 2 rfl rfl ?_
  refine s_124 3 rfl ?_
  refine s_26 4 rfl rfl ?_
  refine s_16 32 6 32 jbp_32 rfl ?_
  refine s_27 7 rfl rfl ?_
  refine s_100 8 rfl ?_
  refine s_120 9 rfl ?_
  refine s_128 10 rfl ?_
  exact s_172 rfl rfl
theorem m_12_right (l : Launch) (a0 : Int32) (a1 : Int32) (H : jH) : JMet l y_12_right prog_16_method_3_code mi_12_right jeI [.int a0, .int a1] H (F_12_right a0 a1 H) := jmet_of n_12_right (by decide) ⟨rfl, rfl⟩ (Nat.le_of_ble_eq_true rfl) (v_12_right l a0 a1 H)
def mi_12_wide : jM := (9080563518159365926711901648057668573059645445102525199870147541854211968213329588784115346952453430462846652118109981270661412978745787365255785065063815297145525717173281145845096059288815266702616242153339243068563547873291043196052295593274883946913496023755837164528816813039912768125424365307522308587643731515369985944472506703744218657809426533101912908956418284404766627446209102454047856276954573858461939537425731664408640767383068114702630779049658449362797270868893693787113310148292886362078916339262471885095900126995606314585831879593992511284782685407708520601610031104304387173628069064951569245238583443229712791352697476735677511976629698604611148545505551706433225343851567124876844138472555917381498311806940634900323987524909121659302179972265939831382738953685757793288519613417566947696254393902955333449361617034232049099609101124735532957780184405039321243519390409649265995095077341758750009179547665513530518714842966894711638174712355945995620131853704263345496341658121827155485158153035003147821292877035323656692389715683679103327549604786293158917827304044626408280114069907025732902022909854583774745969776044128290079282508010418962967022190090467065595289739849811507325752773943647607089280904512855578116848357507107552923092394998375413065363670214252733154844552413764762738265994395484737454529638210782065028357739200361184412095851345332345256697914626045872510747041006556060219977218827523145718646231554155521571053922991179850000656598775721598975717434929030646388131573531681739371467261358730549045739237262586156149378359745701440229650790750790093718080766085719768978602225978161399249448094725846642214471854226459128084440217338559869768166299880467939284858922535636481066, 718, 11, "CoinNodeModel$Hashes", none, "wide", 1, 26)
def y_12_wide : MethodName := ⟨"CoinNodeModel$Hashes", "wide", "([BII[BI)V"⟩
theorem n_12_wide : jn_is prog_16_method_4_code mi_12_wide.1 mi_12_wide.2.1 := by unfold jn_is; decide +kernel
theorem k_12_wide : jmok y_12_wide prog_16_method_4_code mi_12_wide 5 := ⟨jw_1593, jw_15, ⟨by decide, by decide⟩, by decide +kernel⟩
theorem v_12_wide_358 (l : Launch) (k84 : Nat → Nat → Int32 → Int32 → Nat → Int32 → Int32 → Int32 → jH → Option (Unit × jH)) (hk84 : ∀ a0 a1 a2 a3 a4 a5 a6 a7 H, JV l mi_12_wide jeV 84 [(0, .ref a0), (1, .ref a1), (2, .int a2), (3, .int a3), (4, .ref a4), (5, .int a5), (6, .int a6), (7, .int a7)] [] H (k84 a0 a1 a2 a3 a4 a5 a6 a7 H)) (a0 : Nat) (a1 : Nat) (a2 : Int32) (a3 : Int32) (a4 : Nat) (a5 : Int32) (a6 : Int32) (a7 : Int32) (s0 : Nat) (s1 : Int32) (s2 : Int32) (H : jH) : JV l mi_12_wide jeV 358 [(0, .ref a0), (1, .ref a1), (2, .int a2), (3, .int a3), (4, .ref a4), (5, .int a5), (6, .int a6), (7, .int a7)] [.int s2, .int s1, .ref s0] H (B_12_wide_358 k84 a0 a1 a2 a3 a4 a5 a6 a7 s0 s1 s2 H) := by
  unfold B_12_wide_358
  refine s_79 359 rfl (fun h1 => ?_)
  refine s_132L 7 1 362 1 ji_1 rfl rfl rfl (fun x2 => ?_)
  refine s_167 254 234 84 rfl rfl ?_
  exact s_jmp (hk84 _ _ _ _ _ _ _ _ _) ⟨rfl, rfl, rfl, rfl, rfl, rfl, rfl, rfl, trivial⟩
theorem v_12_wide_231 (l : Launch) (k84 : Nat → Nat → Int32 → Int32 → Nat → Int32 → Int32 → Int32 → jH → Option (Unit × jH)) (hk84 : ∀ a0 a1 a2 a3 a4 a5 a6 a7 H, JV l mi_12_wide jeV 84 [(0, .ref a0), (1, .ref a1), (2, .int a2), (3, .int a3), (4, .ref a4), (5, .int a5), (6, .int a6), (7, .int a7)] [] H (k84 a0 a1 a2 a3 a4 a5 a6 a7 H)) (a0 : Nat) (a1 : Nat) (a2 : Int32) (a3 : Int32) (a4 : Nat) (a5 : Int32) (a6 : Int32) (a7 : Int32) (a8 : Int32) (H : jH) : JV l mi_12_wide jeV 231 [(0, .ref a0), (1, .ref a1), (2, .int a2), (3, .int a3), (4, .ref a4), (5, .int a5), (6, .int a6), (7, .int a7), (8, .int a8)] [] H (B_12_wide_231 k84 a0 a1 a2 a3 a4 a5 a6 a7 a8 H) := by
  unfold B_12_wide_231
  refine s_42 232 rfl rfl ?_
  refine s_180R 0 7 235 7 f_12_0 jw_1275 rfl rfl ?_
  refine s_21 7 237 rfl rfl ?_
  refine s_21 7 239 rfl rfl ?_
  refine s_16 16 241 16 jbp_16 rfl ?_
  refine s_162 0 8 249 244 rfl rfl ?_ ?_
  · refine s_42 250 rfl rfl ?_
    refine s_180R 0 7 253 7 f_12_0 jw_1275 rfl rfl ?_
    refine s_21 7 255 rfl rfl ?_
    refine s_5 256 rfl ?_
    refine s_100 257 rfl ?_
    refine s_46 258 rfl ?_
    refine s_16 17 260 17 jbp_17 rfl ?_
    refine s_184I 0 35 263 35 (m_12_right l _ _ _) rfl k_12_right jw_1605 jw_1606 rfl rfl rfl rfl rfl (fun x3 h4 => ?_)
    refine s_42 264 rfl rfl ?_
    refine s_180R 0 7 267 7 f_12_0 jw_1275 rfl rfl ?_
    refine s_21 7 269 rfl rfl ?_
    refine s_5 270 rfl ?_
    refine s_100 271 rfl ?_
    refine s_46 272 rfl ?_
    refine s_16 19 274 19 jbp_19 rfl ?_
    refine s_184I 0 35 277 35 (m_12_right l _ _ _) rfl k_12_right jw_1605 jw_1606 rfl rfl rfl rfl rfl (fun x5 h6 => ?_)
    refine s_130 278 rfl ?_
    refine s_42 279 rfl rfl ?_
    refine s_180R 0 7 282 7 f_12_0 jw_1275 rfl rfl ?_
    refine s_21 7 284 rfl rfl ?_
    refine s_5 285 rfl ?_
    refine s_100 286 rfl ?_
    refine s_46 287 rfl ?_
    refine s_16 10 289 10 jbp_10 rfl ?_
    refine s_124 290 rfl ?_
    refine s_130 291 rfl ?_
    refine s_42 292 rfl rfl ?_
    refine s_180R 0 7 295 7 f_12_0 jw_1275 rfl rfl ?_
    refine s_21 7 297 rfl rfl ?_
    refine s_16 7 299 7 jbp_7 rfl ?_
    refine s_100 300 rfl ?_
    refine s_46 301 rfl ?_
    refine s_96 302 rfl ?_
    refine s_42 303 rfl rfl ?_
    refine s_180R 0 7 306 7 f_12_0 jw_1275 rfl rfl ?_
    refine s_21 7 308 rfl rfl ?_
    refine s_16 15 310 15 jbp_15 rfl ?_
    refine s_100 311 rfl ?_
    refine s_46 312 rfl ?_
    refine s_16 7 314 7 jbp_7 rfl ?_
    refine s_184I 0 35 317 35 (m_12_right l _ _ _) rfl k_12_right jw_1605 jw_1606 rfl rfl rfl rfl rfl (fun x7 h8 => ?_)
    refine s_42 318 rfl rfl ?_
    refine s_180R 0 7 321 7 f_12_0 jw_1275 rfl rfl ?_
    refine s_21 7 323 rfl rfl ?_
    refine s_16 15 325 15 jbp_15 rfl ?_
    refine s_100 326 rfl ?_
    refine s_46 327 rfl ?_
    refine s_16 18 329 18 jbp_18 rfl ?_
    refine s_184I 0 35 332 35 (m_12_right l _ _ _) rfl k_12_right jw_1605 jw_1606 rfl rfl rfl rfl rfl (fun x9 h10 => ?_)
    refine s_130 333 rfl ?_
    refine s_42 334 rfl rfl ?_
    refine s_180R 0 7 337 7 f_12_0 jw_1275 rfl rfl ?_
    refine s_21 7 339 rfl rfl ?_
    refine s_16 15 341 15 jbp_15 rfl ?_
    refine s_100 342 rfl ?_
    refine s_46 343 rfl ?_
    refine s_6 344 rfl ?_
    refine s_124 345 rfl ?_
    refine s_130 346 rfl ?_
    refine s_96 347 rfl ?_
    refine s_42 348 rfl rfl ?_
    refine s_180R 0 7 351 7 f_12_0 jw_1275 rfl rfl ?_
    refine s_21 7 353 rfl rfl ?_
    refine s_16 16 355 16 jbp_16 rfl ?_
    refine s_100 356 rfl ?_
    refine s_46 357 rfl ?_
    refine s_96 358 rfl ?_
    exact s_jmp (v_12_wide_358 l k84 hk84 _ _ _ _ _ _ _ _ _ _ _ _) ⟨rfl, rfl, rfl, rfl, rfl, rfl, rfl, rfl, trivial⟩
  · refine s_21 8 246 rfl rfl ?_
    refine s_167 0 112 358 rfl rfl ?_
    exact s_jmp (v_12_wide_358 l k84 hk84 _ _ _ _ _ _ _ _ _ _ _ _) ⟨rfl, rfl, rfl, rfl, rfl, rfl, rfl, rfl, trivial⟩
theorem v_12_wide_184 (l : Launch) (k84 : Nat → Nat → Int32 → Int32 → Nat → Int32 → Int32 → Int32 → jH → Option (Unit × jH)) (hk84 : ∀ a0 a1 a2 a3 a4 a5 a6 a7 H, JV l mi_12_wide jeV 84 [(0, .ref a0), (1, .ref a1), (2, .int a2), (3, .int a3), (4, .ref a4), (5, .int a5), (6, .int a6), (7, .int a7)] [] H (k84 a0 a1 a2 a3 a4 a5 a6 a7 H)) (k184 : Nat → Nat → Int32 → Int32 → Nat → Int32 → Int32 → Int32 → Int32 → Int32 → Int32 → jH → Option (Unit × jH)) (hk184 : ∀ a0 a1 a2 a3 a4 a5 a6 a7 a8 a9 a10 H, JV l mi_12_wide jeV 184 [(0, .ref a0), (1, .ref a1), (2, .int a2), (3, .int a3), (4, .ref a4), (5, .int a5), (6, .int a6), (7, .int a7), (8, .int a8), (9, .int a9), (10, .int a10)] [] H (k184 a0 a1 a2 a3 a4 a5 a6 a7 a8 a9 a10 H)) (a0 : Nat) (a1 : Nat) (a2 : Int32) (a3 : Int32) (a4 : Nat) (a5 : Int32) (a6 : Int32) (a7 : Int32) (a8 : Int32) (a9 : Int32) (a10 : Int32) (H : jH) : JV l mi_12_wide jeV 184 [(0, .ref a0), (1, .ref a1), (2, .int a2), (3, .int a3), (4, .ref a4), (5, .int a5), (6, .int a6), (7, .int a7), (8, .int a8), (9, .int a9), (10, .int a10)] [] H (B_12_wide_184 k84 k184 a0 a1 a2 a3 a4 a5 a6 a7 a8 a9 a10 H) := by
  unfold B_12_wide_184
  refine s_21 10 186 rfl rfl ?_
  refine s_7 187 rfl ?_
  refine s_162 0 44 231 190 rfl rfl ?_ ?_
  · exact s_jmp (v_12_wide_231 l k84 hk84 _ _ _ _ _ _ _ _ _ _) ⟨rfl, rfl, rfl, rfl, rfl, rfl, rfl, rfl, rfl, trivial⟩
  · refine s_21 7 192 rfl rfl ?_
    refine s_16 16 194 16 jbp_16 rfl ?_
    refine s_162 0 37 231 197 rfl rfl ?_ ?_
    · exact s_jmp (v_12_wide_231 l k84 hk84 _ _ _ _ _ _ _ _ _ _) ⟨rfl, rfl, rfl, rfl, rfl, rfl, rfl, rfl, rfl, trivial⟩
    · refine s_21 9 199 rfl rfl ?_
      refine s_6 200 rfl ?_
      refine s_96 201 rfl ?_
      refine s_29 202 rfl rfl ?_
      refine s_161 0 29 231 205 rfl rfl ?_ ?_
      · exact s_jmp (v_12_wide_231 l k84 hk84 _ _ _ _ _ _ _ _ _ _) ⟨rfl, rfl, rfl, rfl, rfl, rfl, rfl, rfl, rfl, trivial⟩
      · refine s_21 8 207 rfl rfl ?_
        refine s_16 8 209 8 jbp_8 rfl ?_
        refine s_120 210 rfl ?_
        refine s_43 211 rfl rfl ?_
        refine s_28 212 rfl rfl ?_
        refine s_29 213 rfl rfl ?_
        refine s_21 9 215 rfl rfl ?_
        refine s_21 10 217 rfl rfl ?_
        refine s_96 218 rfl ?_
        refine s_4 219 rfl ?_
        refine s_184I 0 31 222 31 (m_12_padded l _ _ _ _ _ _) rfl k_12_padded jw_1602 jw_1603 rfl rfl rfl rfl rfl (fun x11 h12 => ?_)
        refine s_128 223 rfl ?_
        refine s_54L 8 225 rfl rfl (fun x13 => ?_)
        refine s_132L 10 1 228 1 ji_1 rfl rfl rfl (fun x14 => ?_)
        refine s_167 255 212 184 rfl rfl ?_
        exact s_jmp (hk184 _ _ _ _ _ _ _ _ _ _ _ _) ⟨rfl, rfl, rfl, rfl, rfl, rfl, rfl, rfl, rfl, rfl, rfl, trivial⟩
theorem w_12_wide_184 (l : Launch) (k84 : Nat → Nat → Int32 → Int32 → Nat → Int32 → Int32 → Int32 → jH → Option (Unit × jH)) (hk84 : ∀ a0 a1 a2 a3 a4 a5 a6 a7 H, JV l mi_12_wide jeV 84 [(0, .ref a0), (1, .ref a1), (2, .int a2), (3, .int a3), (4, .ref a4), (5, .int a5), (6, .int a6), (7, .int a7)] [] H (k84 a0 a1 a2 a3 a4 a5 a6 a7 H)) (n : Nat) : ∀ a0 a1 a2 a3 a4 a5 a6 a7 a8 a9 a10 H, JV l mi_12_wide jeV 184 [(0, .ref a0), (1, .ref a1), (2, .int a2), (3, .int a3), (4, .ref a4), (5, .int a5), (6, .int a6), (7, .int a7), (8, .int a8), (9, .int a9), (10, .int a10)] [] H (F_12_wide_184 k84 n a0 a1 a2 a3 a4 a5 a6 a7 a8 a9 a10 H) := by
  induction n with
  | zero => intro _ _ _ _ _ _ _ _ _ _ _ _; exact s_none
  | succ n ih => intro a0 a1 a2 a3 a4 a5 a6 a7 a8 a9 a10 H; exact v_12_wide_184 l k84 hk84 (F_12_wide_184 k84 n) ih a0 a1 a2 a3 a4 a5 a6 a7 a8 a9 a10 H
theorem v_12_wide_181 (l : Launch) (k84 : Nat → Nat → Int32 → Int32 → Nat → Int32 → Int32 → Int32 → jH → Option (Unit × jH)) (hk84 : ∀ a0 a1 a2 a3 a4 a5 a6 a7 H, JV l mi_12_wide jeV 84 [(0, .ref a0), (1, .ref a1), (2, .int a2), (3, .int a3), (4, .ref a4), (5, .int a5), (6, .int a6), (7, .int a7)] [] H (k84 a0 a1 a2 a3 a4 a5 a6 a7 H)) (a0 : Nat) (a1 : Nat) (a2 : Int32) (a3 : Int32) (a4 : Nat) (a5 : Int32) (a6 : Int32) (a7 : Int32) (a8 : Int32) (a9 : Int32) (H : jH) : JV l mi_12_wide jeV 181 [(0, .ref a0), (1, .ref a1), (2, .int a2), (3, .int a3), (4, .ref a4), (5, .int a5), (6, .int a6), (7, .int a7), (8, .int a8), (9, .int a9)] [] H (B_12_wide_181 k84 a0 a1 a2 a3 a4 a5 a6 a7 a8 a9 H) := by
  unfold B_12_wide_181
  refine s_3 182 rfl ?_
  refine s_54 10 184 rfl rfl ?_
  exact s_jmp (w_12_wide_184 l k84 hk84 jfuel _ _ _ _ _ _ _ _ _ _ _ _) ⟨rfl, rfl, rfl, rfl, rfl, rfl, rfl, rfl, rfl, rfl, rfl, trivial⟩
theorem v_12_wide_578 (l : Launch) (k398 : Nat → Nat → Int32 → Int32 → Nat → Int32 → Int32 → Int32 → jH → Option (Unit × jH)) (hk398 : ∀ a0 a1 a2 a3 a4 a5 a6 a7 H, JV l mi_12_wide jeV 398 [(0, .ref a0), (1, .ref a1), (2, .int a2), (3, .int a3), (4, .ref a4), (5, .int a5), (6, .int a6), (7, .int a7)] [] H (k398 a0 a1 a2 a3 a4 a5 a6 a7 H)) (k578 : Nat → Nat → Int32 → Int32 → Nat → Int32 → Int32 → Int32 → Int32 → Int32 → Int32 → jH → Option (Unit × jH)) (hk578 : ∀ a0 a1 a2 a3 a4 a5 a6 a7 a8 a9 a10 H, JV l mi_12_wide jeV 578 [(0, .ref a0), (1, .ref a1), (2, .int a2), (3, .int a3), (4, .ref a4), (5, .int a5), (6, .int a6), (7, .int a7), (8, .int a8), (9, .int a9), (10, .int a10)] [] H (k578 a0 a1 a2 a3 a4 a5 a6 a7 a8 a9 a10 H)) (a0 : Nat) (a1 : Nat) (a2 : Int32) (a3 : Int32) (a4 : Nat) (a5 : Int32) (a6 : Int32) (a7 : Int32) (a8 : Int32) (a9 : Int32) (a10 : Int32) (H : jH) : JV l mi_12_wide jeV 578 [(0, .ref a0), (1, .ref a1), (2, .int a2), (3, .int a3), (4, .ref a4), (5, .int a5), (6, .int a6), (7, .int a7), (8, .int a8), (9, .int a9), (10, .int a10)] [] H (B_12_wide_578 k398 k578 a0 a1 a2 a3 a4 a5 a6 a7 a8 a9 a10 H) := by
  unfold B_12_wide_578
  refine s_21 10 580 rfl rfl ?_
  refine s_158 0 25 605 583 rfl rfl ?_ ?_
  · refine s_42 606 rfl rfl ?_
    refine s_180R 0 16 609 16 f_12_2 jw_1277 rfl rfl ?_
    refine s_7 610 rfl ?_
    refine s_92 611 rfl rfl rfl ?_
    refine s_46 612 rfl ?_
    refine s_21 8 614 rfl rfl ?_
    refine s_96 615 rfl ?_
    refine s_79 616 rfl (fun h15 => ?_)
    refine s_42 617 rfl rfl ?_
    refine s_180R 0 16 620 16 f_12_2 jw_1277 rfl rfl ?_
    refine s_3 621 rfl ?_
    refine s_21 8 623 rfl rfl ?_
    refine s_21 9 625 rfl rfl ?_
    refine s_96 626 rfl ?_
    refine s_79 627 rfl (fun h16 => ?_)
    refine s_132L 7 1 630 1 ji_1 rfl rfl rfl (fun x17 => ?_)
    refine s_167 255 24 398 rfl rfl ?_
    exact s_jmp (hk398 _ _ _ _ _ _ _ _ _) ⟨rfl, rfl, rfl, rfl, rfl, rfl, rfl, rfl, trivial⟩
  · refine s_42 584 rfl rfl ?_
    refine s_180R 0 16 587 16 f_12_2 jw_1277 rfl rfl ?_
    refine s_21 10 589 rfl rfl ?_
    refine s_42 590 rfl rfl ?_
    refine s_180R 0 16 593 16 f_12_2 jw_1277 rfl rfl ?_
    refine s_21 10 595 rfl rfl ?_
    refine s_4 596 rfl ?_
    refine s_100 597 rfl ?_
    refine s_46 598 rfl ?_
    refine s_79 599 rfl (fun h18 => ?_)
    refine s_132L 10 255 602 (-1) ji_255 rfl rfl rfl (fun x19 => ?_)
    refine s_167 255 232 578 rfl rfl ?_
    exact s_jmp (hk578 _ _ _ _ _ _ _ _ _ _ _ _) ⟨rfl, rfl, rfl, rfl, rfl, rfl, rfl, rfl, rfl, rfl, rfl, trivial⟩
theorem w_12_wide_578 (l : Launch) (k398 : Nat → Nat → Int32 → Int32 → Nat → Int32 → Int32 → Int32 → jH → Option (Unit × jH)) (hk398 : ∀ a0 a1 a2 a3 a4 a5 a6 a7 H, JV l mi_12_wide jeV 398 [(0, .ref a0), (1, .ref a1), (2, .int a2), (3, .int a3), (4, .ref a4), (5, .int a5), (6, .int a6), (7, .int a7)] [] H (k398 a0 a1 a2 a3 a4 a5 a6 a7 H)) (n : Nat) : ∀ a0 a1 a2 a3 a4 a5 a6 a7 a8 a9 a10 H, JV l mi_12_wide jeV 578 [(0, .ref a0), (1, .ref a1), (2, .int a2), (3, .int a3), (4, .ref a4), (5, .int a5), (6, .int a6), (7, .int a7), (8, .int a8), (9, .int a9), (10, .int a10)] [] H (F_12_wide_578 k398 n a0 a1 a2 a3 a4 a5 a6 a7 a8 a9 a10 H) := by
  induction n with
  | zero => intro _ _ _ _ _ _ _ _ _ _ _ _; exact s_none
  | succ n ih => intro a0 a1 a2 a3 a4 a5 a6 a7 a8 a9 a10 H; exact v_12_wide_578 l k398 hk398 (F_12_wide_578 k398 n) ih a0 a1 a2 a3 a4 a5 a6 a7 a8 a9 a10 H
theorem v_12_wide_636 (l : Launch) (k69 : Nat → Nat → Int32 → Int32 → Nat → Int32 → Int32 → jH → Option (Unit × jH)) (hk69 : ∀ a0 a1 a2 a3 a4 a5 a6 H, JV l mi_12_wide jeV 69 [(0, .ref a0), (1, .ref a1), (2, .int a2), (3, .int a3), (4, .ref a4), (5, .int a5), (6, .int a6)] [] H (k69 a0 a1 a2 a3 a4 a5 a6 H)) (k636 : Nat → Nat → Int32 → Int32 → Nat → Int32 → Int32 → Int32 → jH → Option (Unit × jH)) (hk636 : ∀ a0 a1 a2 a3 a4 a5 a6 a7 H, JV l mi_12_wide jeV 636 [(0, .ref a0), (1, .ref a1), (2, .int a2), (3, .int a3), (4, .ref a4), (5, .int a5), (6, .int a6), (7, .int a7)] [] H (k636 a0 a1 a2 a3 a4 a5 a6 a7 H)) (a0 : Nat) (a1 : Nat) (a2 : Int32) (a3 : Int32) (a4 : Nat) (a5 : Int32) (a6 : Int32) (a7 : Int32) (H : jH) : JV l mi_12_wide jeV 636 [(0, .ref a0), (1, .ref a1), (2, .int a2), (3, .int a3), (4, .ref a4), (5, .int a5), (6, .int a6), (7, .int a7)] [] H (B_12_wide_636 k69 k636 a0 a1 a2 a3 a4 a5 a6 a7 H) := by
  unfold B_12_wide_636
  refine s_21 7 638 rfl rfl ?_
  refine s_16 8 640 8 jbp_8 rfl ?_
  refine s_162 0 26 666 643 rfl rfl ?_ ?_
  · refine s_132L 6 1 669 1 ji_1 rfl rfl rfl (fun x20 => ?_)
    refine s_167 253 168 69 rfl rfl ?_
    exact s_jmp (hk69 _ _ _ _ _ _ _ _) ⟨rfl, rfl, rfl, rfl, rfl, rfl, rfl, trivial⟩
  · refine s_42 644 rfl rfl ?_
    refine s_180R 0 13 647 13 f_12_1 jw_1276 rfl rfl ?_
    refine s_21 7 649 rfl rfl ?_
    refine s_92 650 rfl rfl rfl ?_
    refine s_46 651 rfl ?_
    refine s_42 652 rfl rfl ?_
    refine s_180R 0 16 655 16 f_12_2 jw_1277 rfl rfl ?_
    refine s_21 7 657 rfl rfl ?_
    refine s_46 658 rfl ?_
    refine s_96 659 rfl ?_
    refine s_79 660 rfl (fun h21 => ?_)
    refine s_132L 7 1 663 1 ji_1 rfl rfl rfl (fun x22 => ?_)
    refine s_167 255 229 636 rfl rfl ?_
    exact s_jmp (hk636 _ _ _ _ _ _ _ _ _) ⟨rfl, rfl, rfl, rfl, rfl, rfl, rfl, rfl, trivial⟩
theorem w_12_wide_636 (l : Launch) (k69 : Nat → Nat → Int32 → Int32 → Nat → Int32 → Int32 → jH → Option (Unit × jH)) (hk69 : ∀ a0 a1 a2 a3 a4 a5 a6 H, JV l mi_12_wide jeV 69 [(0, .ref a0), (1, .ref a1), (2, .int a2), (3, .int a3), (4, .ref a4), (5, .int a5), (6, .int a6)] [] H (k69 a0 a1 a2 a3 a4 a5 a6 H)) (n : Nat) : ∀ a0 a1 a2 a3 a4 a5 a6 a7 H, JV l mi_12_wide jeV 636 [(0, .ref a0), (1, .ref a1), (2, .int a2), (3, .int a3), (4, .ref a4), (5, .int a5), (6, .int a6), (7, .int a7)] [] H (F_12_wide_636 k69 n a0 a1 a2 a3 a4 a5 a6 a7 H) := by
  induction n with
  | zero => intro _ _ _ _ _ _ _ _ _; exact s_none
  | succ n ih => intro a0 a1 a2 a3 a4 a5 a6 a7 H; exact v_12_wide_636 l k69 hk69 (F_12_wide_636 k69 n) ih a0 a1 a2 a3 a4 a5 a6 a7 H
theorem v_12_wide_398 (l : Launch) (k69 : Nat → Nat → Int32 → Int32 → Nat → Int32 → Int32 → jH → Option (Unit × jH)) (hk69 : ∀ a0 a1 a2 a3 a4 a5 a6 H, JV l mi_12_wide jeV 69 [(0, .ref a0), (1, .ref a1), (2, .int a2), (3, .int a3), (4, .ref a4), (5, .int a5), (6, .int a6)] [] H (k69 a0 a1 a2 a3 a4 a5 a6 H)) (k398 : Nat → Nat → Int32 → Int32 → Nat → Int32 → Int32 → Int32 → jH → Option (Unit × jH)) (hk398 : ∀ a0 a1 a2 a3 a4 a5 a6 a7 H, JV l mi_12_wide jeV 398 [(0, .ref a0), (1, .ref a1), (2, .int a2), (3, .int a3), (4, .ref a4), (5, .int a5), (6, .int a6), (7, .int a7)] [] H (k398 a0 a1 a2 a3 a4 a5 a6 a7 H)) (a0 : Nat) (a1 : Nat) (a2 : Int32) (a3 : Int32) (a4 : Nat) (a5 : Int32) (a6 : Int32) (a7 : Int32) (H : jH) : JV l mi_12_wide jeV 398 [(0, .ref a0), (1, .ref a1), (2, .int a2), (3, .int a3), (4, .ref a4), (5, .int a5), (6, .int a6), (7, .int a7)] [] H (B_12_wide_398 k69 k398 a0 a1 a2 a3 a4 a5 a6 a7 H) := by
  unfold B_12_wide_398
  refine s_21 7 400 rfl rfl ?_
  refine s_16 64 402 64 jbp_64 rfl ?_
  refine s_162 0 231 633 405 rfl rfl ?_ ?_
  · refine s_3 634 rfl ?_
    refine s_54 7 636 rfl rfl ?_
    exact s_jmp (w_12_wide_636 l k69 hk69 jfuel _ _ _ _ _ _ _ _ _) ⟨rfl, rfl, rfl, rfl, rfl, rfl, rfl, rfl, trivial⟩
  · refine s_42 406 rfl rfl ?_
    refine s_180R 0 16 409 16 f_12_2 jw_1277 rfl rfl ?_
    refine s_16 7 411 7 jbp_7 rfl ?_
    refine s_46 412 rfl ?_
    refine s_42 413 rfl rfl ?_
    refine s_180R 0 16 416 16 f_12_2 jw_1277 rfl rfl ?_
    refine s_7 417 rfl ?_
    refine s_46 418 rfl ?_
    refine s_16 6 420 6 jbp_6 rfl ?_
    refine s_184I 0 35 423 35 (m_12_right l _ _ _) rfl k_12_right jw_1605 jw_1606 rfl rfl rfl rfl rfl (fun x23 h24 => ?_)
    refine s_42 424 rfl rfl ?_
    refine s_180R 0 16 427 16 f_12_2 jw_1277 rfl rfl ?_
    refine s_7 428 rfl ?_
    refine s_46 429 rfl ?_
    refine s_16 11 431 11 jbp_11 rfl ?_
    refine s_184I 0 35 434 35 (m_12_right l _ _ _) rfl k_12_right jw_1605 jw_1606 rfl rfl rfl rfl rfl (fun x25 h26 => ?_)
    refine s_130 435 rfl ?_
    refine s_42 436 rfl rfl ?_
    refine s_180R 0 16 439 16 f_12_2 jw_1277 rfl rfl ?_
    refine s_7 440 rfl ?_
    refine s_46 441 rfl ?_
    refine s_16 25 443 25 jbp_25 rfl ?_
    refine s_184I 0 35 446 35 (m_12_right l _ _ _) rfl k_12_right jw_1605 jw_1606 rfl rfl rfl rfl rfl (fun x27 h28 => ?_)
    refine s_130 447 rfl ?_
    refine s_96 448 rfl ?_
    refine s_42 449 rfl rfl ?_
    refine s_180R 0 16 452 16 f_12_2 jw_1277 rfl rfl ?_
    refine s_7 453 rfl ?_
    refine s_46 454 rfl ?_
    refine s_42 455 rfl rfl ?_
    refine s_180R 0 16 458 16 f_12_2 jw_1277 rfl rfl ?_
    refine s_8 459 rfl ?_
    refine s_46 460 rfl ?_
    refine s_126 461 rfl ?_
    refine s_42 462 rfl rfl ?_
    refine s_180R 0 16 465 16 f_12_2 jw_1277 rfl rfl ?_
    refine s_7 466 rfl ?_
    refine s_46 467 rfl ?_
    refine s_2 468 rfl ?_
    refine s_130 469 rfl ?_
    refine s_42 470 rfl rfl ?_
    refine s_180R 0 16 473 16 f_12_2 jw_1277 rfl rfl ?_
    refine s_16 6 475 6 jbp_6 rfl ?_
    refine s_46 476 rfl ?_
    refine s_126 477 rfl ?_
    refine s_130 478 rfl ?_
    refine s_96 479 rfl ?_
    refine s_178 0 39 482 39 13 "CoinNodeModel$Hashes" "CUBES" jst_13 ⟨by decide, by decide⟩ jw_1608 rfl rfl ?_
    refine s_21 7 484 rfl rfl ?_
    refine s_46 485 rfl ?_
    refine s_96 486 rfl ?_
    refine s_42 487 rfl rfl ?_
    refine s_180R 0 7 490 7 f_12_0 jw_1275 rfl rfl ?_
    refine s_21 7 492 rfl rfl ?_
    refine s_46 493 rfl ?_
    refine s_96 494 rfl ?_
    refine s_54L 8 496 rfl rfl (fun x29 => ?_)
    refine s_42 497 rfl rfl ?_
    refine s_180R 0 16 500 16 f_12_2 jw_1277 rfl rfl ?_
    refine s_3 501 rfl ?_
    refine s_46 502 rfl ?_
    refine s_5 503 rfl ?_
    refine s_184I 0 35 506 35 (m_12_right l _ _ _) rfl k_12_right jw_1605 jw_1606 rfl rfl rfl rfl rfl (fun x30 h31 => ?_)
    refine s_42 507 rfl rfl ?_
    refine s_180R 0 16 510 16 f_12_2 jw_1277 rfl rfl ?_
    refine s_3 511 rfl ?_
    refine s_46 512 rfl ?_
    refine s_16 13 514 13 jbp_13 rfl ?_
    refine s_184I 0 35 517 35 (m_12_right l _ _ _) rfl k_12_right jw_1605 jw_1606 rfl rfl rfl rfl rfl (fun x32 h33 => ?_)
    refine s_130 518 rfl ?_
    refine s_42 519 rfl rfl ?_
    refine s_180R 0 16 522 16 f_12_2 jw_1277 rfl rfl ?_
    refine s_3 523 rfl ?_
    refine s_46 524 rfl ?_
    refine s_16 22 526 22 jbp_22 rfl ?_
    refine s_184I 0 35 529 35 (m_12_right l _ _ _) rfl k_12_right jw_1605 jw_1606 rfl rfl rfl rfl rfl (fun x34 h35 => ?_)
    refine s_130 530 rfl ?_
    refine s_42 531 rfl rfl ?_
    refine s_180R 0 16 534 16 f_12_2 jw_1277 rfl rfl ?_
    refine s_3 535 rfl ?_
    refine s_46 536 rfl ?_
    refine s_42 537 rfl rfl ?_
    refine s_180R 0 16 540 16 f_12_2 jw_1277 rfl rfl ?_
    refine s_4 541 rfl ?_
    refine s_46 542 rfl ?_
    refine s_126 543 rfl ?_
    refine s_42 544 rfl rfl ?_
    refine s_180R 0 16 547 16 f_12_2 jw_1277 rfl rfl ?_
    refine s_3 548 rfl ?_
    refine s_46 549 rfl ?_
    refine s_42 550 rfl rfl ?_
    refine s_180R 0 16 553 16 f_12_2 jw_1277 rfl rfl ?_
    refine s_5 554 rfl ?_
    refine s_46 555 rfl ?_
    refine s_126 556 rfl ?_
    refine s_130 557 rfl ?_
    refine s_42 558 rfl rfl ?_
    refine s_180R 0 16 561 16 f_12_2 jw_1277 rfl rfl ?_
    refine s_4 562 rfl ?_
    refine s_46 563 rfl ?_
    refine s_42 564 rfl rfl ?_
    refine s_180R 0 16 567 16 f_12_2 jw_1277 rfl rfl ?_
    refine s_5 568 rfl ?_
    refine s_46 569 rfl ?_
    refine s_126 570 rfl ?_
    refine s_130 571 rfl ?_
    refine s_96 572 rfl ?_
    refine s_54L 9 574 rfl rfl (fun x36 => ?_)
    refine s_16 7 576 7 jbp_7 rfl ?_
    refine s_54 10 578 rfl rfl ?_
    exact s_jmp (w_12_wide_578 l k398 hk398 jfuel _ _ _ _ _ _ _ _ _ _ _ _) ⟨rfl, rfl, rfl, rfl, rfl, rfl, rfl, rfl, rfl, rfl, rfl, trivial⟩
theorem w_12_wide_398 (l : Launch) (k69 : Nat → Nat → Int32 → Int32 → Nat → Int32 → Int32 → jH → Option (Unit × jH)) (hk69 : ∀ a0 a1 a2 a3 a4 a5 a6 H, JV l mi_12_wide jeV 69 [(0, .ref a0), (1, .ref a1), (2, .int a2), (3, .int a3), (4, .ref a4), (5, .int a5), (6, .int a6)] [] H (k69 a0 a1 a2 a3 a4 a5 a6 H)) (n : Nat) : ∀ a0 a1 a2 a3 a4 a5 a6 a7 H, JV l mi_12_wide jeV 398 [(0, .ref a0), (1, .ref a1), (2, .int a2), (3, .int a3), (4, .ref a4), (5, .int a5), (6, .int a6), (7, .int a7)] [] H (F_12_wide_398 k69 n a0 a1 a2 a3 a4 a5 a6 a7 H) := by
  induction n with
  | zero => intro _ _ _ _ _ _ _ _ _; exact s_none
  | succ n ih => intro a0 a1 a2 a3 a4 a5 a6 a7 H; exact v_12_wide_398 l k69 hk69 (F_12_wide_398 k69 n) ih a0 a1 a2 a3 a4 a5 a6 a7 H
theorem v_12_wide_368 (l : Launch) (k69 : Nat → Nat → Int32 → Int32 → Nat → Int32 → Int32 → jH → Option (Unit × jH)) (hk69 : ∀ a0 a1 a2 a3 a4 a5 a6 H, JV l mi_12_wide jeV 69 [(0, .ref a0), (1, .ref a1), (2, .int a2), (3, .int a3), (4, .ref a4), (5, .int a5), (6, .int a6)] [] H (k69 a0 a1 a2 a3 a4 a5 a6 H)) (k368 : Nat → Nat → Int32 → Int32 → Nat → Int32 → Int32 → Int32 → jH → Option (Unit × jH)) (hk368 : ∀ a0 a1 a2 a3 a4 a5 a6 a7 H, JV l mi_12_wide jeV 368 [(0, .ref a0), (1, .ref a1), (2, .int a2), (3, .int a3), (4, .ref a4), (5, .int a5), (6, .int a6), (7, .int a7)] [] H (k368 a0 a1 a2 a3 a4 a5 a6 a7 H)) (a0 : Nat) (a1 : Nat) (a2 : Int32) (a3 : Int32) (a4 : Nat) (a5 : Int32) (a6 : Int32) (a7 : Int32) (H : jH) : JV l mi_12_wide jeV 368 [(0, .ref a0), (1, .ref a1), (2, .int a2), (3, .int a3), (4, .ref a4), (5, .int a5), (6, .int a6), (7, .int a7)] [] H (B_12_wide_368 k69 k368 a0 a1 a2 a3 a4 a5 a6 a7 H) := by
  unfold B_12_wide_368
  refine s_21 7 370 rfl rfl ?_
  refine s_16 8 372 8 jbp_8 rfl ?_
  refine s_162 0 23 395 375 rfl rfl ?_ ?_
  · refine s_3 396 rfl ?_
    refine s_54 7 398 rfl rfl ?_
    exact s_jmp (w_12_wide_398 l k69 hk69 jfuel _ _ _ _ _ _ _ _ _) ⟨rfl, rfl, rfl, rfl, rfl, rfl, rfl, rfl, trivial⟩
  · refine s_42 376 rfl rfl ?_
    refine s_180R 0 16 379 16 f_12_2 jw_1277 rfl rfl ?_
    refine s_21 7 381 rfl rfl ?_
    refine s_42 382 rfl rfl ?_
    refine s_180R 0 13 385 13 f_12_1 jw_1276 rfl rfl ?_
    refine s_21 7 387 rfl rfl ?_
    refine s_46 388 rfl ?_
    refine s_79 389 rfl (fun h37 => ?_)
    refine s_132L 7 1 392 1 ji_1 rfl rfl rfl (fun x38 => ?_)
    refine s_167 255 232 368 rfl rfl ?_
    exact s_jmp (hk368 _ _ _ _ _ _ _ _ _) ⟨rfl, rfl, rfl, rfl, rfl, rfl, rfl, rfl, trivial⟩
theorem w_12_wide_368 (l : Launch) (k69 : Nat → Nat → Int32 → Int32 → Nat → Int32 → Int32 → jH → Option (Unit × jH)) (hk69 : ∀ a0 a1 a2 a3 a4 a5 a6 H, JV l mi_12_wide jeV 69 [(0, .ref a0), (1, .ref a1), (2, .int a2), (3, .int a3), (4, .ref a4), (5, .int a5), (6, .int a6)] [] H (k69 a0 a1 a2 a3 a4 a5 a6 H)) (n : Nat) : ∀ a0 a1 a2 a3 a4 a5 a6 a7 H, JV l mi_12_wide jeV 368 [(0, .ref a0), (1, .ref a1), (2, .int a2), (3, .int a3), (4, .ref a4), (5, .int a5), (6, .int a6), (7, .int a7)] [] H (F_12_wide_368 k69 n a0 a1 a2 a3 a4 a5 a6 a7 H) := by
  induction n with
  | zero => intro _ _ _ _ _ _ _ _ _; exact s_none
  | succ n ih => intro a0 a1 a2 a3 a4 a5 a6 a7 H; exact v_12_wide_368 l k69 hk69 (F_12_wide_368 k69 n) ih a0 a1 a2 a3 a4 a5 a6 a7 H
theorem v_12_wide_84 (l : Launch) (k69 : Nat → Nat → Int32 → Int32 → Nat → Int32 → Int32 → jH → Option (Unit × jH)) (hk69 : ∀ a0 a1 a2 a3 a4 a5 a6 H, JV l mi_12_wide jeV 69 [(0, .ref a0), (1, .ref a1), (2, .int a2), (3, .int a3), (4, .ref a4), (5, .int a5), (6, .int a6)] [] H (k69 a0 a1 a2 a3 a4 a5 a6 H)) (k84 : Nat → Nat → Int32 → Int32 → Nat → Int32 → Int32 → Int32 → jH → Option (Unit × jH)) (hk84 : ∀ a0 a1 a2 a3 a4 a5 a6 a7 H, JV l mi_12_wide jeV 84 [(0, .ref a0), (1, .ref a1), (2, .int a2), (3, .int a3), (4, .ref a4), (5, .int a5), (6, .int a6), (7, .int a7)] [] H (k84 a0 a1 a2 a3 a4 a5 a6 a7 H)) (a0 : Nat) (a1 : Nat) (a2 : Int32) (a3 : Int32) (a4 : Nat) (a5 : Int32) (a6 : Int32) (a7 : Int32) (H : jH) : JV l mi_12_wide jeV 84 [(0, .ref a0), (1, .ref a1), (2, .int a2), (3, .int a3), (4, .ref a4), (5, .int a5), (6, .int a6), (7, .int a7)] [] H (B_12_wide_84 k69 k84 a0 a1 a2 a3 a4 a5 a6 a7 H) := by
  unfold B_12_wide_84
  refine s_21 7 86 rfl rfl ?_
  refine s_16 64 88 64 jbp_64 rfl ?_
  refine s_162 1 21 365 91 rfl rfl ?_ ?_
  · refine s_3 366 rfl ?_
    refine s_54 7 368 rfl rfl ?_
    exact s_jmp (w_12_wide_368 l k69 hk69 jfuel _ _ _ _ _ _ _ _ _) ⟨rfl, rfl, rfl, rfl, rfl, rfl, rfl, rfl, trivial⟩
  · refine s_3 92 rfl ?_
    refine s_54 8 94 rfl rfl ?_
    refine s_16 64 96 64 jbp_64 rfl ?_
    refine s_21 6 98 rfl rfl ?_
    refine s_104 99 rfl ?_
    refine s_7 100 rfl ?_
    refine s_21 7 102 rfl rfl ?_
    refine s_104 103 rfl ?_
    refine s_96 104 rfl ?_
    refine s_54L 9 106 rfl rfl (fun x39 => ?_)
    refine s_21 7 108 rfl rfl ?_
    refine s_16 16 110 16 jbp_16 rfl ?_
    refine s_162 0 71 181 113 rfl rfl ?_ ?_
    · exact s_jmp (v_12_wide_181 l k84 hk84 _ _ _ _ _ _ _ _ _ _ _) ⟨rfl, rfl, rfl, rfl, rfl, rfl, rfl, rfl, rfl, rfl, trivial⟩
    · refine s_21 9 115 rfl rfl ?_
      refine s_6 116 rfl ?_
      refine s_96 117 rfl ?_
      refine s_29 118 rfl rfl ?_
      refine s_162 0 63 181 121 rfl rfl ?_ ?_
      · exact s_jmp (v_12_wide_181 l k84 hk84 _ _ _ _ _ _ _ _ _ _ _) ⟨rfl, rfl, rfl, rfl, rfl, rfl, rfl, rfl, rfl, rfl, trivial⟩
      · refine s_43 122 rfl rfl ?_
        refine s_28 123 rfl rfl ?_
        refine s_21 9 125 rfl rfl ?_
        refine s_96 126 rfl ?_
        refine s_51B 127 rfl ?_
        refine s_17 0 255 130 255 jsp_0_255 rfl ?_
        refine s_126 131 rfl ?_
        refine s_16 24 133 24 jbp_24 rfl ?_
        refine s_120 134 rfl ?_
        refine s_43 135 rfl rfl ?_
        refine s_28 136 rfl rfl ?_
        refine s_21 9 138 rfl rfl ?_
        refine s_96 139 rfl ?_
        refine s_4 140 rfl ?_
        refine s_96 141 rfl ?_
        refine s_51B 142 rfl ?_
        refine s_17 0 255 145 255 jsp_0_255 rfl ?_
        refine s_126 146 rfl ?_
        refine s_16 16 148 16 jbp_16 rfl ?_
        refine s_120 149 rfl ?_
        refine s_128 150 rfl ?_
        refine s_43 151 rfl rfl ?_
        refine s_28 152 rfl rfl ?_
        refine s_21 9 154 rfl rfl ?_
        refine s_96 155 rfl ?_
        refine s_5 156 rfl ?_
        refine s_96 157 rfl ?_
        refine s_51B 158 rfl ?_
        refine s_17 0 255 161 255 jsp_0_255 rfl ?_
        refine s_126 162 rfl ?_
        refine s_16 8 164 8 jbp_8 rfl ?_
        refine s_120 165 rfl ?_
        refine s_128 166 rfl ?_
        refine s_43 167 rfl rfl ?_
        refine s_28 168 rfl rfl ?_
        refine s_21 9 170 rfl rfl ?_
        refine s_96 171 rfl ?_
        refine s_6 172 rfl ?_
        refine s_96 173 rfl ?_
        refine s_51B 174 rfl ?_
        refine s_17 0 255 177 255 jsp_0_255 rfl ?_
        refine s_126 178 rfl ?_
        refine s_128 179 rfl ?_
        refine s_54L 8 181 rfl rfl (fun x40 => ?_)
        exact s_jmp (v_12_wide_181 l k84 hk84 _ _ _ _ _ _ _ _ _ _ _) ⟨rfl, rfl, rfl, rfl, rfl, rfl, rfl, rfl, rfl, rfl, trivial⟩
theorem w_12_wide_84 (l : Launch) (k69 : Nat → Nat → Int32 → Int32 → Nat → Int32 → Int32 → jH → Option (Unit × jH)) (hk69 : ∀ a0 a1 a2 a3 a4 a5 a6 H, JV l mi_12_wide jeV 69 [(0, .ref a0), (1, .ref a1), (2, .int a2), (3, .int a3), (4, .ref a4), (5, .int a5), (6, .int a6)] [] H (k69 a0 a1 a2 a3 a4 a5 a6 H)) (n : Nat) : ∀ a0 a1 a2 a3 a4 a5 a6 a7 H, JV l mi_12_wide jeV 84 [(0, .ref a0), (1, .ref a1), (2, .int a2), (3, .int a3), (4, .ref a4), (5, .int a5), (6, .int a6), (7, .int a7)] [] H (F_12_wide_84 k69 n a0 a1 a2 a3 a4 a5 a6 a7 H) := by
  induction n with
  | zero => intro _ _ _ _ _ _ _ _ _; exact s_none
  | succ n ih => intro a0 a1 a2 a3 a4 a5 a6 a7 H; exact v_12_wide_84 l k69 hk69 (F_12_wide_84 k69 n) ih a0 a1 a2 a3 a4 a5 a6 a7 H
theorem v_12_wide_675 (l : Launch) (k675 : Nat → Nat → Int32 → Int32 → jH → Option (Unit × jH)) (hk675 : ∀ a0 a4 a5 a6 H, JV l mi_12_wide jeV 675 [(0, .ref a0), (4, .ref a4), (5, .int a5), (6, .int a6)] [] H (k675 a0 a4 a5 a6 H)) (a0 : Nat) (a4 : Nat) (a5 : Int32) (a6 : Int32) (H : jH) : JV l mi_12_wide jeV 675 [(0, .ref a0), (4, .ref a4), (5, .int a5), (6, .int a6)] [] H (B_12_wide_675 k675 a0 a4 a5 a6 H) := by
  unfold B_12_wide_675
  refine s_21 6 677 rfl rfl ?_
  refine s_16 32 679 32 jbp_32 rfl ?_
  refine s_162 0 38 717 682 rfl rfl ?_ ?_
  · exact s_177 rfl rfl
  · refine s_25 4 684 rfl rfl ?_
    refine s_21 5 686 rfl rfl ?_
    refine s_21 6 688 rfl rfl ?_
    refine s_96 689 rfl ?_
    refine s_42 690 rfl rfl ?_
    refine s_180R 0 13 693 13 f_12_1 jw_1276 rfl rfl ?_
    refine s_21 6 695 rfl rfl ?_
    refine s_7 696 rfl ?_
    refine s_108 697 rfl ?_
    refine s_46 698 rfl ?_
    refine s_16 24 700 24 jbp_24 rfl ?_
    refine s_16 8 702 8 jbp_8 rfl ?_
    refine s_21 6 704 rfl rfl ?_
    refine s_7 705 rfl ?_
    refine s_112 706 rfl ?_
    refine s_104 707 rfl ?_
    refine s_100 708 rfl ?_
    refine s_124 709 rfl ?_
    refine s_145 710 rfl ?_
    refine s_84B 711 rfl (fun h41 => ?_)
    refine s_132L 6 1 714 1 ji_1 rfl rfl rfl (fun x42 => ?_)
    refine s_167 255 217 675 rfl rfl ?_
    exact s_jmp (hk675 _ _ _ _ _) ⟨rfl, rfl, rfl, rfl, trivial⟩
theorem w_12_wide_675 (l : Launch)  (n : Nat) : ∀ a0 a4 a5 a6 H, JV l mi_12_wide jeV 675 [(0, .ref a0), (4, .ref a4), (5, .int a5), (6, .int a6)] [] H (F_12_wide_675  n a0 a4 a5 a6 H) := by
  induction n with
  | zero => intro _ _ _ _ _; exact s_none
  | succ n ih => intro a0 a4 a5 a6 H; exact v_12_wide_675 l (F_12_wide_675  n) ih a0 a4 a5 a6 H
theorem v_12_wide_69 (l : Launch) (k69 : Nat → Nat → Int32 → Int32 → Nat → Int32 → Int32 → jH → Option (Unit × jH)) (hk69 : ∀ a0 a1 a2 a3 a4 a5 a6 H, JV l mi_12_wide jeV 69 [(0, .ref a0), (1, .ref a1), (2, .int a2), (3, .int a3), (4, .ref a4), (5, .int a5), (6, .int a6)] [] H (k69 a0 a1 a2 a3 a4 a5 a6 H)) (a0 : Nat) (a1 : Nat) (a2 : Int32) (a3 : Int32) (a4 : Nat) (a5 : Int32) (a6 : Int32) (H : jH) : JV l mi_12_wide jeV 69 [(0, .ref a0), (1, .ref a1), (2, .int a2), (3, .int a3), (4, .ref a4), (5, .int a5), (6, .int a6)] [] H (B_12_wide_69 k69 a0 a1 a2 a3 a4 a5 a6 H) := by
  unfold B_12_wide_69
  refine s_21 6 71 rfl rfl ?_
  refine s_29 72 rfl rfl ?_
  refine s_16 72 74 72 jbp_72 rfl ?_
  refine s_96 75 rfl ?_
  refine s_16 64 77 64 jbp_64 rfl ?_
  refine s_108 78 rfl ?_
  refine s_162 2 82 672 81 rfl rfl ?_ ?_
  · refine s_3 673 rfl ?_
    refine s_54 6 675 rfl rfl ?_
    exact s_jmp (w_12_wide_675 l jfuel _ _ _ _ _) ⟨rfl, rfl, rfl, rfl, trivial⟩
  · refine s_3 82 rfl ?_
    refine s_54 7 84 rfl rfl ?_
    exact s_jmp (w_12_wide_84 l k69 hk69 jfuel _ _ _ _ _ _ _ _ _) ⟨rfl, rfl, rfl, rfl, rfl, rfl, rfl, rfl, trivial⟩
theorem w_12_wide_69 (l : Launch)  (n : Nat) : ∀ a0 a1 a2 a3 a4 a5 a6 H, JV l mi_12_wide jeV 69 [(0, .ref a0), (1, .ref a1), (2, .int a2), (3, .int a3), (4, .ref a4), (5, .int a5), (6, .int a6)] [] H (F_12_wide_69  n a0 a1 a2 a3 a4 a5 a6 H) := by
  induction n with
  | zero => intro _ _ _ _ _ _ _ _; exact s_none
  | succ n ih => intro a0 a1 a2 a3 a4 a5 a6 H; exact v_12_wide_69 l (F_12_wide_69  n) ih a0 a1 a2 a3 a4 a5 a6 H
theorem v_12_wide (l : Launch) (a0 : Nat) (a1 : Nat) (a2 : Int32) (a3 : Int32) (a4 : Nat) (a5 : Int32) (H : jH) : JV l mi_12_wide jeV 0 [(0, .ref a0), (1, .ref a1), (2, .int a2), (3, .int a3), (4, .ref a4), (5, .int a5)] [] H (F_12_wide a0 a1 a2 a3 a4 a5 H) := by
  unfold F_12_wide
  refine s_42 1 rfl rfl ?_
  refine s_180R 0 13 4 13 f_12_1 jw_1276 rfl rfl ?_
  refine s_3 5 rfl ?_
  refine s_18 23 7 1779033703 jw_1594 rfl ?_
  refine s_79 8 rfl (fun h43 => ?_)
  refine s_42 9 rfl rfl ?_
  refine s_180R 0 13 12 13 f_12_1 jw_1276 rfl rfl ?_
  refine s_4 13 rfl ?_
  refine s_18 24 15 (-1150833019) jw_1595 rfl ?_
  refine s_79 16 rfl (fun h44 => ?_)
  refine s_42 17 rfl rfl ?_
  refine s_180R 0 13 20 13 f_12_1 jw_1276 rfl rfl ?_
  refine s_5 21 rfl ?_
  refine s_18 25 23 1013904242 jw_1596 rfl ?_
  refine s_79 24 rfl (fun h45 => ?_)
  refine s_42 25 rfl rfl ?_
  refine s_180R 0 13 28 13 f_12_1 jw_1276 rfl rfl ?_
  refine s_6 29 rfl ?_
  refine s_18 26 31 (-1521486534) jw_1597 rfl ?_
  refine s_79 32 rfl (fun h46 => ?_)
  refine s_42 33 rfl rfl ?_
  refine s_180R 0 13 36 13 f_12_1 jw_1276 rfl rfl ?_
  refine s_7 37 rfl ?_
  refine s_18 27 39 1359893119 jw_1598 rfl ?_
  refine s_79 40 rfl (fun h47 => ?_)
  refine s_42 41 rfl rfl ?_
  refine s_180R 0 13 44 13 f_12_1 jw_1276 rfl rfl ?_
  refine s_8 45 rfl ?_
  refine s_18 28 47 (-1694144372) jw_1599 rfl ?_
  refine s_79 48 rfl (fun h48 => ?_)
  refine s_42 49 rfl rfl ?_
  refine s_180R 0 13 52 13 f_12_1 jw_1276 rfl rfl ?_
  refine s_16 6 54 6 jbp_6 rfl ?_
  refine s_18 29 56 528734635 jw_1600 rfl ?_
  refine s_79 57 rfl (fun h49 => ?_)
  refine s_42 58 rfl rfl ?_
  refine s_180R 0 13 61 13 f_12_1 jw_1276 rfl rfl ?_
  refine s_16 7 63 7 jbp_7 rfl ?_
  refine s_18 30 65 1541459225 jw_1601 rfl ?_
  refine s_79 66 rfl (fun h50 => ?_)
  refine s_3 67 rfl ?_
  refine s_54 6 69 rfl rfl ?_
  exact s_jmp (w_12_wide_69 l jfuel _ _ _ _ _ _ _ _) ⟨rfl, rfl, rfl, rfl, rfl, rfl, rfl, trivial⟩
theorem m_12_wide (l : Launch) (a0 : Nat) (a1 : Nat) (a2 : Int32) (a3 : Int32) (a4 : Nat) (a5 : Int32) (H : jH) : JMet l y_12_wide prog_16_method_4_code mi_12_wide jeV [.ref a0, .ref a1, .int a2, .int a3, .ref a4, .int a5] H (F_12_wide a0 a1 a2 a3 a4 a5 H) := jmet_of n_12_wide (by decide) ⟨rfl, rfl⟩ (Nat.le_of_ble_eq_true rfl) (v_12_wide l a0 a1 a2 a3 a4 a5 H)
def mi_12_name : jM := (18657554565743623126314937026845315603013204977128937690836294708010, 28, 6, "CoinNodeModel$Hashes", none, "name", 2, 56)
def y_12_name : MethodName := ⟨"CoinNodeModel$Hashes", "name", "([BII[BI)V"⟩
theorem n_12_name : jn_is prog_16_method_5_code mi_12_name.1 mi_12_name.2.1 := by unfold jn_is; decide +kernel
theorem k_12_name : jmok y_12_name prog_16_method_5_code mi_12_name 5 := ⟨jw_1589, jw_15, ⟨by decide, by decide⟩, by decide +kernel⟩
theorem v_12_name (l : Launch) (a0 : Nat) (a1 : Nat) (a2 : Int32) (a3 : Int32) (a4 : Nat) (a5 : Int32) (H : jH) : JV l mi_12_name jeV 0 [(0, .ref a0), (1, .ref a1), (2, .int a2), (3, .int a3), (4, .ref a4), (5, .int a5)] [] H (F_12_name a0 a1 a2 a3 a4 a5 H) := by
  unfold F_12_name
  refine s_42 1 rfl rfl ?_
  refine s_43 2 rfl rfl ?_
  refine s_28 3 rfl rfl ?_
  refine s_29 4 rfl rfl ?_
  refine s_42 5 rfl rfl ?_
  refine s_180R 0 19 8 19 f_12_3 jw_1278 rfl rfl ?_
  refine s_3 9 rfl ?_
  refine s_182V 0 42 12 42 (m_12_wide l _ _ _ _ _ _ _) rfl k_12_wide jc_12 jw_1590 jw_1591 jw_1592 rfl rfl rfl rfl rfl (fun x1 h2 => ?_)
  refine s_42 13 rfl rfl ?_
  refine s_42 14 rfl rfl ?_
  refine s_180R 0 19 17 19 f_12_3 jw_1278 rfl rfl ?_
  refine s_3 18 rfl ?_
  refine s_16 32 20 32 jbp_32 rfl ?_
  refine s_25 4 22 rfl rfl ?_
  refine s_21 5 24 rfl rfl ?_
  refine s_182V 0 42 27 42 (m_12_wide l _ _ _ _ _ _ _) rfl k_12_wide jc_12 jw_1590 jw_1591 jw_1592 rfl rfl rfl rfl rfl (fun x3 h4 => ?_)
  exact s_177 rfl rfl
theorem m_12_name (l : Launch) (a0 : Nat) (a1 : Nat) (a2 : Int32) (a3 : Int32) (a4 : Nat) (a5 : Int32) (H : jH) : JMet l y_12_name prog_16_method_5_code mi_12_name jeV [.ref a0, .ref a1, .int a2, .int a3, .ref a4, .int a5] H (F_12_name a0 a1 a2 a3 a4 a5 H) := jmet_of n_12_name (by decide) ⟨rfl, rfl⟩ (Nat.le_of_ble_eq_true rfl) (v_12_name l a0 a1 a2 a3 a4 a5 H)
def mi_14_init : jM := (2871280570813598440955063326710105703798828253419129181856957511450323231407994645742393263186462811067765684120698388073261240153567656879356114152823478923551817092822207033292586, 75, 3, "CoinNodeModel$Scripts", none, "<init>", 1, 12)
def y_14_init : MethodName := ⟨"CoinNodeModel$Scripts", "<init>", "(LCoinNodeModel$Hashes;LCoinNodeModel$Asker;)V"⟩
theorem n_14_init : jn_is prog_18_method_1_code mi_14_init.1 mi_14_init.2.1 := by unfold jn_is; decide +kernel
theorem k_14_init : jmok y_14_init prog_18_method_1_code mi_14_init 2 := ⟨jw_1388, jw_18, ⟨by decide, by decide⟩, by decide +kernel⟩
theorem v_14_init (l : Launch) (a0 : Nat) (a1 : Nat) (a2 : Nat) (H : jH) : JV l mi_14_init jeV 0 [(0, .ref a0), (1, .ref a1), (2, .ref a2)] [] H (F_14_init a0 a1 a2 H) := by
  unfold F_14_init
  refine s_42 1 rfl rfl ?_
  refine s_oinit 0 1 4 1 jw_1389 jw_29 jw_30 rfl rfl rfl ?_
  refine s_42 5 rfl rfl ?_
  refine s_17 65 160 8 16800 jsp_65_160 rfl ?_
  refine s_188_10 10 jw_59 rfl (fun r1 h2 => ?_)
  refine s_181RF 0 7 13 7 f_14_0 rfl ⟨rfl, rfl, rfl⟩ jw_1390 rfl rfl (fun h3 => ?_)
  refine s_42 14 rfl rfl ?_
  refine s_17 0 140 17 140 jsp_0_140 rfl ?_
  refine s_188_10 19 jw_59 rfl (fun r4 h5 => ?_)
  refine s_181RF 0 13 22 13 f_14_1 rfl ⟨rfl, rfl, rfl⟩ jw_1391 rfl rfl (fun h6 => ?_)
  refine s_42 23 rfl rfl ?_
  refine s_17 0 200 26 200 jsp_0_200 rfl ?_
  refine s_188_10 28 jw_59 rfl (fun r7 h8 => ?_)
  refine s_181RF 0 16 31 16 f_14_4 rfl ⟨rfl, rfl, rfl⟩ jw_1394 rfl rfl (fun h9 => ?_)
  refine s_42 32 rfl rfl ?_
  refine s_17 0 201 35 201 jsp_0_201 rfl ?_
  refine s_188_10 37 jw_59 rfl (fun r10 h11 => ?_)
  refine s_181RF 0 19 40 19 f_14_10 rfl ⟨rfl, rfl, rfl⟩ jw_1401 rfl rfl (fun h12 => ?_)
  refine s_42 41 rfl rfl ?_
  refine s_16 120 43 120 jbp_120 rfl ?_
  refine s_188_8 45 jw_58 rfl (fun r13 h14 => ?_)
  refine s_181RF 0 22 48 22 f_14_12 rfl ⟨rfl, rfl, rfl⟩ jw_1403 rfl rfl (fun h15 => ?_)
  refine s_42 49 rfl rfl ?_
  refine s_16 120 51 120 jbp_120 rfl ?_
  refine s_188_8 53 jw_58 rfl (fun r16 h17 => ?_)
  refine s_181RF 0 26 56 26 f_14_13 rfl ⟨rfl, rfl, rfl⟩ jw_1404 rfl rfl (fun h18 => ?_)
  refine s_42 57 rfl rfl ?_
  refine s_16 32 59 32 jbp_32 rfl ?_
  refine s_188_8 61 jw_58 rfl (fun r19 h20 => ?_)
  refine s_181RF 0 29 64 29 f_14_14 rfl ⟨rfl, rfl, rfl⟩ jw_1405 rfl rfl (fun h21 => ?_)
  refine s_42 65 rfl rfl ?_
  refine s_43 66 rfl rfl ?_
  refine s_181RF 0 32 69 32 f_14_15 rfl ⟨rfl, rfl, rfl⟩ jw_1406 rfl rfl (fun h22 => ?_)
  refine s_42 70 rfl rfl ?_
  refine s_44 71 rfl rfl ?_
  refine s_181RF 0 36 74 36 f_14_16 rfl ⟨rfl, rfl, rfl⟩ jw_1407 rfl rfl (fun h23 => ?_)
  exact s_177 rfl rfl
theorem m_14_init (l : Launch) (a0 : Nat) (a1 : Nat) (a2 : Nat) (H : jH) : JMet l y_14_init prog_18_method_1_code mi_14_init jeV [.ref a0, .ref a1, .ref a2] H (F_14_init a0 a1 a2 H) := jmet_of n_14_init (by decide) ⟨rfl, rfl⟩ (Nat.le_of_ble_eq_true rfl) (v_14_init l a0 a1 a2 H)
def mi_13_nothing : jM := (73192811857731561506803659811210572144393788211567496486266354947, 27, 3, "CoinNodeModel$Points", none, "nothing", 0, 0)
def y_13_nothing : MethodName := ⟨"CoinNodeModel$Points", "nothing", "(I)V"⟩
theorem n_13_nothing : jn_is prog_17_method_5_code mi_13_nothing.1 mi_13_nothing.2.1 := by unfold jn_is; decide +kernel
theorem k_13_nothing : jmok y_13_nothing prog_17_method_5_code mi_13_nothing 1 := ⟨jw_1309, jw_17, ⟨by decide, by decide⟩, by decide +kernel⟩
theorem v_13_nothing_2 (l : Launch) (k2 : Nat → Int32 → Int32 → jH → Option (Unit × jH)) (hk2 : ∀ a0 a1 a2 H, JV l mi_13_nothing jeV 2 [(0, .ref a0), (1, .int a1), (2, .int a2)] [] H (k2 a0 a1 a2 H)) (a0 : Nat) (a1 : Int32) (a2 : Int32) (H : jH) : JV l mi_13_nothing jeV 2 [(0, .ref a0), (1, .int a1), (2, .int a2)] [] H (B_13_nothing_2 k2 a0 a1 a2 H) := by
  unfold B_13_nothing_2
  refine s_28 3 rfl rfl ?_
  refine s_16 10 5 10 jbp_10 rfl ?_
  refine s_162 0 21 26 8 rfl rfl ?_ ?_
  · exact s_177 rfl rfl
  · refine s_42 9 rfl rfl ?_
    refine s_180R 0 7 12 7 f_13_0 jw_1326 rfl rfl ?_
    refine s_16 10 14 10 jbp_10 rfl ?_
    refine s_27 15 rfl rfl ?_
    refine s_104 16 rfl ?_
    refine s_28 17 rfl rfl ?_
    refine s_96 18 rfl ?_
    refine s_3 19 rfl ?_
    refine s_79 20 rfl (fun h1 => ?_)
    refine s_132L 2 1 23 1 ji_1 rfl rfl rfl (fun x2 => ?_)
    refine s_167 255 235 2 rfl rfl ?_
    exact s_jmp (hk2 _ _ _ _) ⟨rfl, rfl, rfl, trivial⟩
theorem w_13_nothing_2 (l : Launch)  (n : Nat) : ∀ a0 a1 a2 H, JV l mi_13_nothing jeV 2 [(0, .ref a0), (1, .int a1), (2, .int a2)] [] H (F_13_nothing_2  n a0 a1 a2 H) := by
  induction n with
  | zero => intro _ _ _ _; exact s_none
  | succ n ih => intro a0 a1 a2 H; exact v_13_nothing_2 l (F_13_nothing_2  n) ih a0 a1 a2 H
theorem v_13_nothing (l : Launch) (a0 : Nat) (a1 : Int32) (H : jH) : JV l mi_13_nothing jeV 0 [(0, .ref a0), (1, .int a1)] [] H (F_13_nothing a0 a1 H) := by
  unfold F_13_nothing
  refine s_3 1 rfl ?_
  refine s_61 2 rfl rfl ?_
  exact s_jmp (w_13_nothing_2 l jfuel _ _ _ _) ⟨rfl, rfl, rfl, trivial⟩
theorem m_13_nothing (l : Launch) (a0 : Nat) (a1 : Int32) (H : jH) : JMet l y_13_nothing prog_17_method_5_code mi_13_nothing jeV [.ref a0, .int a1] H (F_13_nothing a0 a1 H) := jmet_of n_13_nothing (by decide) ⟨rfl, rfl⟩ (Nat.le_of_ble_eq_true rfl) (v_13_nothing l a0 a1 H)
def mi_13_wordOf : jM := (1194838297859181848736484510070987134074209223099586420982670316103834138, 30, 9, "CoinNodeModel$Points", some FieldType.long, "wordOf", 0, 0)
def y_13_wordOf : MethodName := ⟨"CoinNodeModel$Points", "wordOf", "(IJJJJ)J"⟩
theorem n_13_wordOf : jn_is prog_17_method_2_code mi_13_wordOf.1 mi_13_wordOf.2.1 := by unfold jn_is; decide +kernel
theorem k_13_wordOf : jmok y_13_wordOf prog_17_method_2_code mi_13_wordOf 5 := ⟨jw_1312, jw_17, ⟨by decide, by decide⟩, by decide +kernel⟩
theorem v_13_wordOf_29 (l : Launch)  (s0 : Int64) (H : jH) : JV l mi_13_wordOf jeL 29 [] [.long s0] H (B_13_wordOf_29  s0 H) := by
  unfold B_13_wordOf_29
  exact s_173 rfl rfl
theorem v_13_wordOf (l : Launch) (a0 : Int32) (a1 : Int64) (a3 : Int64) (a5 : Int64) (a7 : Int64) (H : jH) : JV l mi_13_wordOf jeL 0 [(0, .int a0), (1, .long a1), (3, .long a3), (5, .long a5), (7, .long a7)] [] H (F_13_wordOf a0 a1 a3 a5 a7 H) := by
  unfold F_13_wordOf
  refine s_26 1 rfl rfl ?_
  refine s_154 0 8 9 4 rfl rfl ?_ ?_
  · refine s_26 10 rfl rfl ?_
    refine s_4 11 rfl ?_
    refine s_160 0 8 19 14 rfl rfl ?_ ?_
    · refine s_26 20 rfl rfl ?_
      refine s_5 21 rfl ?_
      refine s_160 0 7 28 24 rfl rfl ?_ ?_
      · refine s_31 29 rfl rfl ?_
        exact s_jmp (v_13_wordOf_29 l _ _) trivial
      · refine s_33 25 rfl rfl ?_
        refine s_167 0 4 29 rfl rfl ?_
        exact s_jmp (v_13_wordOf_29 l _ _) trivial
    · refine s_22 5 16 rfl rfl ?_
      refine s_167 0 13 29 rfl rfl ?_
      exact s_jmp (v_13_wordOf_29 l _ _) trivial
  · refine s_22 7 6 rfl rfl ?_
    refine s_167 0 23 29 rfl rfl ?_
    exact s_jmp (v_13_wordOf_29 l _ _) trivial
theorem m_13_wordOf (l : Launch) (a0 : Int32) (a1 : Int64) (a3 : Int64) (a5 : Int64) (a7 : Int64) (H : jH) : JMet l y_13_wordOf prog_17_method_2_code mi_13_wordOf jeL [.int a0, .long a1, .long a3, .long a5, .long a7] H (F_13_wordOf a0 a1 a3 a5 a7 H) := jmet_of n_13_wordOf (by decide) ⟨rfl, rfl⟩ (Nat.le_of_ble_eq_true rfl) (v_13_wordOf l a0 a1 a3 a5 a7 H)
def mi_13_write : jM := (2881284329873353416247436244441792515579377394310305151766527153336172273659368474809132800310374488635728923228736921520216340316024539975061240409531162404046988482509048521300778, 75, 13, "CoinNodeModel$Points", none, "write", 1, 28)
def y_13_write : MethodName := ⟨"CoinNodeModel$Points", "write", "(IJJJJ)V"⟩
theorem n_13_write : jn_is prog_17_method_3_code mi_13_write.1 mi_13_write.2.1 := by unfold jn_is; decide +kernel
theorem k_13_write : jmok y_13_write prog_17_method_3_code mi_13_write 5 := ⟨jw_1305, jw_17, ⟨by decide, by decide⟩, by decide +kernel⟩
theorem v_13_write_8 (l : Launch) (k8 : Nat → Int32 → Int64 → Int64 → Int64 → Int64 → Int32 → jH → Option (Unit × jH)) (hk8 : ∀ a0 a1 a2 a4 a6 a8 a10 H, JV l mi_13_write jeV 8 [(0, .ref a0), (1, .int a1), (2, .long a2), (4, .long a4), (6, .long a6), (8, .long a8), (10, .int a10)] [] H (k8 a0 a1 a2 a4 a6 a8 a10 H)) (a0 : Nat) (a1 : Int32) (a2 : Int64) (a4 : Int64) (a6 : Int64) (a8 : Int64) (a10 : Int32) (H : jH) : JV l mi_13_write jeV 8 [(0, .ref a0), (1, .int a1), (2, .long a2), (4, .long a4), (6, .long a6), (8, .long a8), (10, .int a10)] [] H (B_13_write_8 k8 a0 a1 a2 a4 a6 a8 a10 H) := by
  unfold B_13_write_8
  refine s_21 10 10 rfl rfl ?_
  refine s_17 1 0 13 256 jsp_1_0 rfl ?_
  refine s_162 0 61 74 16 rfl rfl ?_ ?_
  · exact s_177 rfl rfl
  · refine s_21 10 18 rfl rfl ?_
    refine s_16 64 20 64 jbp_64 rfl ?_
    refine s_108 21 rfl ?_
    refine s_32 22 rfl rfl ?_
    refine s_22 4 24 rfl rfl ?_
    refine s_22 6 26 rfl rfl ?_
    refine s_22 8 28 rfl rfl ?_
    refine s_184L 0 66 31 66 (m_13_wordOf l _ _ _ _ _ _) rfl k_13_wordOf jw_1310 jw_1311 rfl rfl rfl rfl rfl (fun x1 h2 => ?_)
    refine s_21 10 33 rfl rfl ?_
    refine s_16 64 35 64 jbp_64 rfl ?_
    refine s_112 36 rfl ?_
    refine s_123 37 rfl ?_
    refine s_10 38 rfl ?_
    refine s_127 39 rfl ?_
    refine s_55L 11 41 rfl rfl (fun x3 => ?_)
    refine s_42 42 rfl rfl ?_
    refine s_180R 0 7 45 7 f_13_0 jw_1326 rfl rfl ?_
    refine s_16 10 47 10 jbp_10 rfl ?_
    refine s_27 48 rfl rfl ?_
    refine s_104 49 rfl ?_
    refine s_21 10 51 rfl rfl ?_
    refine s_16 26 53 26 jbp_26 rfl ?_
    refine s_108 54 rfl ?_
    refine s_96 55 rfl ?_
    refine s_92 56 rfl rfl rfl ?_
    refine s_46 57 rfl ?_
    refine s_22 11 59 rfl rfl ?_
    refine s_136 60 rfl ?_
    refine s_21 10 62 rfl rfl ?_
    refine s_16 26 64 26 jbp_26 rfl ?_
    refine s_112 65 rfl ?_
    refine s_120 66 rfl ?_
    refine s_128 67 rfl ?_
    refine s_79 68 rfl (fun h4 => ?_)
    refine s_132L 10 1 71 1 ji_1 rfl rfl rfl (fun x5 => ?_)
    refine s_167 255 193 8 rfl rfl ?_
    exact s_jmp (hk8 _ _ _ _ _ _ _ _) ⟨rfl, rfl, rfl, rfl, rfl, rfl, rfl, trivial⟩
theorem w_13_write_8 (l : Launch)  (n : Nat) : ∀ a0 a1 a2 a4 a6 a8 a10 H, JV l mi_13_write jeV 8 [(0, .ref a0), (1, .int a1), (2, .long a2), (4, .long a4), (6, .long a6), (8, .long a8), (10, .int a10)] [] H (F_13_write_8  n a0 a1 a2 a4 a6 a8 a10 H) := by
  induction n with
  | zero => intro _ _ _ _ _ _ _ _; exact s_none
  | succ n ih => intro a0 a1 a2 a4 a6 a8 a10 H; exact v_13_write_8 l (F_13_write_8  n) ih a0 a1 a2 a4 a6 a8 a10 H
theorem v_13_write (l : Launch) (a0 : Nat) (a1 : Int32) (a2 : Int64) (a4 : Int64) (a6 : Int64) (a8 : Int64) (H : jH) : JV l mi_13_write jeV 0 [(0, .ref a0), (1, .int a1), (2, .long a2), (4, .long a4), (6, .long a6), (8, .long a8)] [] H (F_13_write a0 a1 a2 a4 a6 a8 H) := by
  unfold F_13_write
  refine s_42 1 rfl rfl ?_
  refine s_27 2 rfl rfl ?_
  refine s_182V 0 62 5 62 (m_13_nothing l _ _ _) rfl k_13_nothing jc_13 jw_1306 jw_1308 jps_51 rfl rfl rfl rfl rfl (fun x6 h7 => ?_)
  refine s_3 6 rfl ?_
  refine s_54 10 8 rfl rfl ?_
  exact s_jmp (w_13_write_8 l jfuel _ _ _ _ _ _ _ _) ⟨rfl, rfl, rfl, rfl, rfl, rfl, rfl, trivial⟩
theorem m_13_write (l : Launch) (a0 : Nat) (a1 : Int32) (a2 : Int64) (a4 : Int64) (a6 : Int64) (a8 : Int64) (H : jH) : JMet l y_13_write prog_17_method_3_code mi_13_write jeV [.ref a0, .int a1, .long a2, .long a4, .long a6, .long a8] H (F_13_write a0 a1 a2 a4 a6 a8 H) := jmet_of n_13_write (by decide) ⟨rfl, rfl⟩ (Nat.le_of_ble_eq_true rfl) (v_13_write l a0 a1 a2 a4 a6 a8 H)
def mi_13_init : jM := (65927385709940181757751890061166239125097411387068097192119929646870811960140906582085908808464631906903166721939660717205827818765901363668707703829897968717615291255133510602648571707650993600297762015742788248212163507893412341118285683520164996893767767143224114826916972224408636575042150142564617464350076366432221977976193875320766683854093264179608493167792288809129201643279760755966148809768533736645991223062645296135298595261603960400775132957861626079603110909342617252344021891715607202103600184986297196237129339935825591135391709628145667655354474265059390437162, 240, 5, "CoinNodeModel$Points", none, "<init>", 2, 60)
def y_13_init : MethodName := ⟨"CoinNodeModel$Points", "<init>", "()V"⟩
theorem n_13_init : jn_is prog_17_method_1_code mi_13_init.1 mi_13_init.2.1 := by unfold jn_is; decide +kernel
theorem k_13_init : jmok y_13_init prog_17_method_1_code mi_13_init 0 := ⟨jw_1298, jw_17, ⟨by decide, by decide⟩, by decide +kernel⟩
theorem v_13_init_219 (l : Launch) (k170 : Nat → Int32 → Int32 → Int32 → jH → Option (Unit × jH)) (hk170 : ∀ a0 a1 a2 a3 H, JV l mi_13_init jeV 170 [(0, .ref a0), (1, .int a1), (2, .int a2), (3, .int a3)] [] H (k170 a0 a1 a2 a3 H)) (a0 : Nat) (a1 : Int32) (a3 : Int32) (a4 : Int32) (s0 : Nat) (s1 : Int32) (s2 : Int32) (s3 : Int32) (H : jH) : JV l mi_13_init jeV 219 [(0, .ref a0), (1, .int a1), (3, .int a3), (4, .int a4)] [.int s3, .int s2, .int s1, .ref s0] H (B_13_init_219 k170 a0 a1 a3 a4 s0 s1 s2 s3 H) := by
  unfold B_13_init_219
  refine s_126 220 rfl ?_
  refine s_79 221 rfl (fun h1 => ?_)
  refine s_21 4 223 rfl rfl ?_
  refine s_16 26 225 26 jbp_26 rfl ?_
  refine s_122 226 rfl ?_
  refine s_61L 227 rfl rfl (fun x2 => ?_)
  refine s_132L 3 1 230 1 ji_1 rfl rfl rfl (fun x3 => ?_)
  refine s_167 255 196 170 rfl rfl ?_
  exact s_jmp (hk170 _ _ _ _ _) ⟨rfl, rfl, rfl, rfl, trivial⟩
theorem v_13_init_170 (l : Launch) (k161 : Nat → Int32 → jH → Option (Unit × jH)) (hk161 : ∀ a0 a1 H, JV l mi_13_init jeV 161 [(0, .ref a0), (1, .int a1)] [] H (k161 a0 a1 H)) (k170 : Nat → Int32 → Int32 → Int32 → jH → Option (Unit × jH)) (hk170 : ∀ a0 a1 a2 a3 H, JV l mi_13_init jeV 170 [(0, .ref a0), (1, .int a1), (2, .int a2), (3, .int a3)] [] H (k170 a0 a1 a2 a3 H)) (a0 : Nat) (a1 : Int32) (a2 : Int32) (a3 : Int32) (H : jH) : JV l mi_13_init jeV 170 [(0, .ref a0), (1, .int a1), (2, .int a2), (3, .int a3)] [] H (B_13_init_170 k161 k170 a0 a1 a2 a3 H) := by
  unfold B_13_init_170
  refine s_29 171 rfl rfl ?_
  refine s_16 10 173 10 jbp_10 rfl ?_
  refine s_162 0 60 233 176 rfl rfl ?_ ?_
  · refine s_132L 1 1 236 1 ji_1 rfl rfl rfl (fun x4 => ?_)
    refine s_167 255 181 161 rfl rfl ?_
    exact s_jmp (hk161 _ _ _) ⟨rfl, rfl, trivial⟩
  · refine s_28 177 rfl rfl ?_
    refine s_42 178 rfl rfl ?_
    refine s_180R 0 7 181 7 f_13_0 jw_1326 rfl rfl ?_
    refine s_16 10 183 10 jbp_10 rfl ?_
    refine s_16 8 185 8 jbp_8 rfl ?_
    refine s_27 186 rfl rfl ?_
    refine s_96 187 rfl ?_
    refine s_104 188 rfl ?_
    refine s_29 189 rfl rfl ?_
    refine s_96 190 rfl ?_
    refine s_46 191 rfl ?_
    refine s_100 192 rfl ?_
    refine s_54L 4 194 rfl rfl (fun x5 => ?_)
    refine s_42 195 rfl rfl ?_
    refine s_180R 0 20 198 20 f_13_3 jw_1329 rfl rfl ?_
    refine s_16 10 200 10 jbp_10 rfl ?_
    refine s_27 201 rfl rfl ?_
    refine s_104 202 rfl ?_
    refine s_29 203 rfl rfl ?_
    refine s_96 204 rfl ?_
    refine s_21 4 206 rfl rfl ?_
    refine s_29 207 rfl rfl ?_
    refine s_16 9 209 9 jbp_9 rfl ?_
    refine s_162 0 8 217 212 rfl rfl ?_ ?_
    · refine s_18 61 219 4194303 jw_1325 rfl ?_
      exact s_jmp (v_13_init_219 l k170 hk170 _ _ _ _ _ _ _ _ _) ⟨rfl, rfl, rfl, rfl, trivial⟩
    · refine s_18 60 214 67108863 jw_1324 rfl ?_
      refine s_167 0 5 219 rfl rfl ?_
      exact s_jmp (v_13_init_219 l k170 hk170 _ _ _ _ _ _ _ _ _) ⟨rfl, rfl, rfl, rfl, trivial⟩
theorem w_13_init_170 (l : Launch) (k161 : Nat → Int32 → jH → Option (Unit × jH)) (hk161 : ∀ a0 a1 H, JV l mi_13_init jeV 161 [(0, .ref a0), (1, .int a1)] [] H (k161 a0 a1 H)) (n : Nat) : ∀ a0 a1 a2 a3 H, JV l mi_13_init jeV 170 [(0, .ref a0), (1, .int a1), (2, .int a2), (3, .int a3)] [] H (F_13_init_170 k161 n a0 a1 a2 a3 H) := by
  induction n with
  | zero => intro _ _ _ _ _; exact s_none
  | succ n ih => intro a0 a1 a2 a3 H; exact v_13_init_170 l k161 hk161 (F_13_init_170 k161 n) ih a0 a1 a2 a3 H
theorem v_13_init_161 (l : Launch) (k161 : Nat → Int32 → jH → Option (Unit × jH)) (hk161 : ∀ a0 a1 H, JV l mi_13_init jeV 161 [(0, .ref a0), (1, .int a1)] [] H (k161 a0 a1 H)) (a0 : Nat) (a1 : Int32) (H : jH) : JV l mi_13_init jeV 161 [(0, .ref a0), (1, .int a1)] [] H (B_13_init_161 k161 a0 a1 H) := by
  unfold B_13_init_161
  refine s_27 162 rfl rfl ?_
  refine s_5 163 rfl ?_
  refine s_162 0 76 239 166 rfl rfl ?_ ?_
  · exact s_177 rfl rfl
  · refine s_3 167 rfl ?_
    refine s_61 168 rfl rfl ?_
    refine s_3 169 rfl ?_
    refine s_62 170 rfl rfl ?_
    exact s_jmp (w_13_init_170 l k161 hk161 jfuel _ _ _ _ _) ⟨rfl, rfl, rfl, rfl, trivial⟩
theorem w_13_init_161 (l : Launch)  (n : Nat) : ∀ a0 a1 H, JV l mi_13_init jeV 161 [(0, .ref a0), (1, .int a1)] [] H (F_13_init_161  n a0 a1 H) := by
  induction n with
  | zero => intro _ _ _; exact s_none
  | succ n ih => intro a0 a1 H; exact v_13_init_161 l (F_13_init_161  n) ih a0 a1 H
theorem v_13_init (l : Launch) (a0 : Nat) (H : jH) : JV l mi_13_init jeV 0 [(0, .ref a0)] [] H (F_13_init a0 H) := by
  unfold F_13_init
  refine s_42 1 rfl rfl ?_
  refine s_oinit 0 1 4 1 jw_1299 jw_29 jw_30 rfl rfl rfl ?_
  refine s_42 5 rfl rfl ?_
  refine s_17 1 224 8 480 jsp_1_224 rfl ?_
  refine s_188_10 10 jw_59 rfl (fun r6 h7 => ?_)
  refine s_181RF 0 7 13 7 f_13_0 rfl ⟨rfl, rfl, rfl⟩ jw_1326 rfl rfl (fun h8 => ?_)
  refine s_42 14 rfl rfl ?_
  refine s_16 22 16 22 jbp_22 rfl ?_
  refine s_188_11 18 jw_100 rfl (fun r9 h10 => ?_)
  refine s_181RF 0 13 21 13 f_13_1 rfl ⟨rfl, rfl, rfl⟩ jw_1327 rfl rfl (fun h11 => ?_)
  refine s_42 22 rfl rfl ?_
  refine s_16 22 24 22 jbp_22 rfl ?_
  refine s_188_11 26 jw_100 rfl (fun r12 h13 => ?_)
  refine s_181RF 0 17 29 17 f_13_2 rfl ⟨rfl, rfl, rfl⟩ jw_1328 rfl rfl (fun h14 => ?_)
  refine s_42 30 rfl rfl ?_
  refine s_16 20 32 20 jbp_20 rfl ?_
  refine s_188_10 34 jw_59 rfl (fun r15 h16 => ?_)
  refine s_181RF 0 20 37 20 f_13_3 rfl ⟨rfl, rfl, rfl⟩ jw_1329 rfl rfl (fun h17 => ?_)
  refine s_42 38 rfl rfl ?_
  refine s_7 39 rfl ?_
  refine s_188_4 41 jw_243 rfl (fun r18 h19 => ?_)
  refine s_89 42 rfl rfl ?_
  refine s_3 43 rfl ?_
  refine s_4 44 rfl ?_
  refine s_84Z 45 rfl (fun h20 => ?_)
  refine s_89 46 rfl rfl ?_
  refine s_4 47 rfl ?_
  refine s_4 48 rfl ?_
  refine s_84Z 49 rfl (fun h21 => ?_)
  refine s_89 50 rfl rfl ?_
  refine s_5 51 rfl ?_
  refine s_4 52 rfl ?_
  refine s_84Z 53 rfl (fun h22 => ?_)
  refine s_89 54 rfl rfl ?_
  refine s_6 55 rfl ?_
  refine s_4 56 rfl ?_
  refine s_84Z 57 rfl (fun h23 => ?_)
  refine s_181RF 0 23 60 23 f_13_4 rfl ⟨rfl, rfl, rfl⟩ jw_1330 rfl rfl (fun h24 => ?_)
  refine s_42 61 rfl rfl ?_
  refine s_16 100 63 100 jbp_100 rfl ?_
  refine s_188_10 65 jw_59 rfl (fun r25 h26 => ?_)
  refine s_181RF 0 27 68 27 f_13_5 rfl ⟨rfl, rfl, rfl⟩ jw_1331 rfl rfl (fun h27 => ?_)
  refine s_42 69 rfl rfl ?_
  refine s_16 8 71 8 jbp_8 rfl ?_
  refine s_20 0 30 74 30 (-1) rfl jw_1300 rfl ?_
  refine s_20 0 30 77 30 (-1) rfl jw_1300 rfl ?_
  refine s_20 0 30 80 30 (-1) rfl jw_1300 rfl ?_
  refine s_20 0 32 83 32 (-4294968273) rfl jw_1301 rfl ?_
  refine s_182V 0 34 86 34 (m_13_write l _ _ _ _ _ _ _) rfl k_13_write jc_13 jw_1302 jw_1304 jps_50 rfl rfl rfl rfl rfl (fun x28 h29 => ?_)
  refine s_42 87 rfl rfl ?_
  refine s_16 9 89 9 jbp_9 rfl ?_
  refine s_20 0 30 92 30 (-1) rfl jw_1300 rfl ?_
  refine s_20 0 38 95 38 (-2) rfl jw_1313 rfl ?_
  refine s_20 0 40 98 40 (-4994812053365940165) rfl jw_1314 rfl ?_
  refine s_20 0 42 101 42 (-4624529908474429119) rfl jw_1315 rfl ?_
  refine s_182V 0 34 104 34 (m_13_write l _ _ _ _ _ _ _) rfl k_13_write jc_13 jw_1302 jw_1304 jps_50 rfl rfl rfl rfl rfl (fun x30 h31 => ?_)
  refine s_42 105 rfl rfl ?_
  refine s_16 18 107 18 jbp_18 rfl ?_
  refine s_20 0 44 110 44 8772561819708210092 rfl jw_1316 rfl ?_
  refine s_20 0 46 113 46 6170039885052185351 rfl jw_1317 rfl ?_
  refine s_20 0 48 116 48 188021827762530521 rfl jw_1318 rfl ?_
  refine s_20 0 50 119 50 6481385041966929816 rfl jw_1319 rfl ?_
  refine s_182V 0 34 122 34 (m_13_write l _ _ _ _ _ _ _) rfl k_13_write jc_13 jw_1302 jw_1304 jps_50 rfl rfl rfl rfl rfl (fun x32 h33 => ?_)
  refine s_42 123 rfl rfl ?_
  refine s_16 19 125 19 jbp_19 rfl ?_
  refine s_20 0 52 128 52 5204712524664259685 rfl jw_1320 rfl ?_
  refine s_20 0 54 131 54 6747795201694173352 rfl jw_1321 rfl ?_
  refine s_20 0 56 134 56 (-209500633525038055) rfl jw_1322 rfl ?_
  refine s_20 0 58 137 58 (-7185545363635252040) rfl jw_1323 rfl ?_
  refine s_182V 0 34 140 34 (m_13_write l _ _ _ _ _ _ _) rfl k_13_write jc_13 jw_1302 jw_1304 jps_50 rfl rfl rfl rfl rfl (fun x34 h35 => ?_)
  refine s_42 141 rfl rfl ?_
  refine s_180R 0 7 144 7 f_13_0 jw_1326 rfl rfl ?_
  refine s_17 0 200 147 200 jsp_0_200 rfl ?_
  refine s_4 148 rfl ?_
  refine s_79 149 rfl (fun h36 => ?_)
  refine s_42 150 rfl rfl ?_
  refine s_180R 0 7 153 7 f_13_0 jw_1326 rfl rfl ?_
  refine s_17 0 210 156 210 jsp_0_210 rfl ?_
  refine s_16 7 158 7 jbp_7 rfl ?_
  refine s_79 159 rfl (fun h37 => ?_)
  refine s_3 160 rfl ?_
  refine s_60 161 rfl rfl ?_
  exact s_jmp (w_13_init_161 l jfuel _ _ _) ⟨rfl, rfl, trivial⟩
theorem m_13_init (l : Launch) (a0 : Nat) (H : jH) : JMet l y_13_init prog_17_method_1_code mi_13_init jeV [.ref a0] H (F_13_init a0 H) := jmet_of n_13_init (by decide) ⟨rfl, rfl⟩ (Nat.le_of_ble_eq_true rfl) (v_13_init l a0 H)
def mi_15_init : jM := (22546150297444804262165528598263425382931903892363659588285216623347182128357777030139393834, 38, 2, "CoinNodeModel$Signing", none, "<init>", 3, 84)
def y_15_init : MethodName := ⟨"CoinNodeModel$Signing", "<init>", "(LCoinNodeModel$Hashes;)V"⟩
theorem n_15_init : jn_is prog_19_method_1_code mi_15_init.1 mi_15_init.2.1 := by unfold jn_is; decide +kernel
theorem k_15_init : jmok y_15_init prog_19_method_1_code mi_15_init 1 := ⟨jw_1292, jw_16, ⟨by decide, by decide⟩, by decide +kernel⟩
theorem v_15_init (l : Launch) (a0 : Nat) (a1 : Nat) (H : jH) : JV l mi_15_init jeV 0 [(0, .ref a0), (1, .ref a1)] [] H (F_15_init a0 a1 H) := by
  unfold F_15_init
  refine s_42 1 rfl rfl ?_
  refine s_oinit 0 1 4 1 jw_1293 jw_29 jw_30 rfl rfl rfl ?_
  refine s_42 5 rfl rfl ?_
  refine s_187 0 7 8 7 jc_13 jw_1294 jw_1295 jw_17 rfl rfl (fun r1 h2 => ?_)
  refine s_89 9 rfl rfl ?_
  refine s_183V 0 9 12 9 (m_13_init l _ _) rfl k_13_init rfl rfl jw_1296 jw_1297 rfl rfl rfl rfl rfl (fun x3 h4 => ?_)
  refine s_181RF 0 10 15 10 f_15_1 rfl ⟨rfl, rfl, rfl⟩ jw_1349 rfl rfl (fun h5 => ?_)
  refine s_42 16 rfl rfl ?_
  refine s_17 15 160 19 4000 jsp_15_160 rfl ?_
  refine s_188_8 21 jw_58 rfl (fun r6 h7 => ?_)
  refine s_181RF 0 16 24 16 f_15_7 rfl ⟨rfl, rfl, rfl⟩ jw_1360 rfl rfl (fun h8 => ?_)
  refine s_42 25 rfl rfl ?_
  refine s_16 32 27 32 jbp_32 rfl ?_
  refine s_188_8 29 jw_58 rfl (fun r9 h10 => ?_)
  refine s_181RF 0 20 32 20 f_15_9 rfl ⟨rfl, rfl, rfl⟩ jw_1362 rfl rfl (fun h11 => ?_)
  refine s_42 33 rfl rfl ?_
  refine s_43 34 rfl rfl ?_
  refine s_181RF 0 23 37 23 f_15_0 rfl ⟨rfl, rfl, rfl⟩ jw_1348 rfl rfl (fun h12 => ?_)
  exact s_177 rfl rfl
theorem m_15_init (l : Launch) (a0 : Nat) (a1 : Nat) (H : jH) : JMet l y_15_init prog_19_method_1_code mi_15_init jeV [.ref a0, .ref a1] H (F_15_init a0 a1 H) := jmet_of n_15_init (by decide) ⟨rfl, rfl⟩ (Nat.le_of_ble_eq_true rfl) (v_15_init l a0 a1 H)
def mi_16_nothing : jM := (3968487179611201233214746872430386290999639043, 19, 2, "CoinNodeModel$Tree", none, "nothing", 0, 0)
def y_16_nothing : MethodName := ⟨"CoinNodeModel$Tree", "nothing", "([I)V"⟩
theorem n_16_nothing : jn_is prog_20_method_3_code mi_16_nothing.1 mi_16_nothing.2.1 := by unfold jn_is; decide +kernel
theorem k_16_nothing : jmok y_16_nothing prog_20_method_3_code mi_16_nothing 1 := ⟨jw_1461, jw_19, ⟨by decide, by decide⟩, by decide +kernel⟩
theorem v_16_nothing_2 (l : Launch) (k2 : Nat → Int32 → jH → Option (Unit × jH)) (hk2 : ∀ a0 a1 H, JV l mi_16_nothing jeV 2 [(0, .ref a0), (1, .int a1)] [] H (k2 a0 a1 H)) (a0 : Nat) (a1 : Int32) (H : jH) : JV l mi_16_nothing jeV 2 [(0, .ref a0), (1, .int a1)] [] H (B_16_nothing_2 k2 a0 a1 H) := by
  unfold B_16_nothing_2
  refine s_27 3 rfl rfl ?_
  refine s_16 40 5 40 jbp_40 rfl ?_
  refine s_162 0 13 18 8 rfl rfl ?_ ?_
  · exact s_177 rfl rfl
  · refine s_42 9 rfl rfl ?_
    refine s_27 10 rfl rfl ?_
    refine s_3 11 rfl ?_
    refine s_79 12 rfl (fun h1 => ?_)
    refine s_132L 1 1 15 1 ji_1 rfl rfl rfl (fun x2 => ?_)
    refine s_167 255 243 2 rfl rfl ?_
    exact s_jmp (hk2 _ _ _) ⟨rfl, rfl, trivial⟩
theorem w_16_nothing_2 (l : Launch)  (n : Nat) : ∀ a0 a1 H, JV l mi_16_nothing jeV 2 [(0, .ref a0), (1, .int a1)] [] H (F_16_nothing_2  n a0 a1 H) := by
  induction n with
  | zero => intro _ _ _; exact s_none
  | succ n ih => intro a0 a1 H; exact v_16_nothing_2 l (F_16_nothing_2  n) ih a0 a1 H
theorem v_16_nothing (l : Launch) (a0 : Nat) (H : jH) : JV l mi_16_nothing jeV 0 [(0, .ref a0)] [] H (F_16_nothing a0 H) := by
  unfold F_16_nothing
  refine s_3 1 rfl ?_
  refine s_60 2 rfl rfl ?_
  exact s_jmp (w_16_nothing_2 l jfuel _ _ _) ⟨rfl, rfl, trivial⟩
theorem m_16_nothing (l : Launch) (a0 : Nat) (H : jH) : JMet l y_16_nothing prog_20_method_3_code mi_16_nothing jeV [.ref a0] H (F_16_nothing a0 H) := jmet_of n_16_nothing (by decide) ⟨rfl, rfl⟩ (Nat.le_of_ble_eq_true rfl) (v_16_nothing l a0 H)
def mi_16_open : jM := (2621491795962815921506110253118705084473486820814295526545810220037054220301115512248450634505721395535744978804311663148548054834599991708155611649225380051210704304172, 70, 8, "CoinNodeModel$Tree", none, "open", 1, 21)
def y_16_open : MethodName := ⟨"CoinNodeModel$Tree", "open", "(J[I)V"⟩
theorem n_16_open : jn_is prog_20_method_6_code mi_16_open.1 mi_16_open.2.1 := by unfold jn_is; decide +kernel
theorem k_16_open : jmok y_16_open prog_20_method_6_code mi_16_open 2 := ⟨jw_1458, jw_19, ⟨by decide, by decide⟩, by decide +kernel⟩
theorem v_16_open_63 (l : Launch) (k20 : Nat → Int32 → Int64 → Int32 → jH → Option (Unit × jH)) (hk20 : ∀ a2 a3 a4 a6 H, JV l mi_16_open jeV 20 [(2, .ref a2), (3, .int a3), (4, .long a4), (6, .int a6)] [] H (k20 a2 a3 a4 a6 H)) (a2 : Nat) (a3 : Int32) (a4 : Int64) (a6 : Int32) (H : jH) : JV l mi_16_open jeV 63 [(2, .ref a2), (3, .int a3), (4, .long a4), (6, .int a6)] [] H (B_16_open_63 k20 a2 a3 a4 a6 H) := by
  unfold B_16_open_63
  refine s_132L 6 1 66 1 ji_1 rfl rfl rfl (fun x1 => ?_)
  refine s_167 255 210 20 rfl rfl ?_
  exact s_jmp (hk20 _ _ _ _ _) ⟨rfl, rfl, rfl, rfl, trivial⟩
theorem v_16_open_20 (l : Launch) (k20 : Nat → Int32 → Int64 → Int32 → jH → Option (Unit × jH)) (hk20 : ∀ a2 a3 a4 a6 H, JV l mi_16_open jeV 20 [(2, .ref a2), (3, .int a3), (4, .long a4), (6, .int a6)] [] H (k20 a2 a3 a4 a6 H)) (a2 : Nat) (a3 : Int32) (a4 : Int64) (a6 : Int32) (H : jH) : JV l mi_16_open jeV 20 [(2, .ref a2), (3, .int a3), (4, .long a4), (6, .int a6)] [] H (B_16_open_20 k20 a2 a3 a4 a6 H) := by
  unfold B_16_open_20
  refine s_21 6 22 rfl rfl ?_
  refine s_6 23 rfl ?_
  refine s_162 0 46 69 26 rfl rfl ?_ ?_
  · exact s_177 rfl rfl
  · refine s_29 27 rfl rfl ?_
    refine s_6 28 rfl ?_
    refine s_100 29 rfl ?_
    refine s_21 6 31 rfl rfl ?_
    refine s_96 32 rfl ?_
    refine s_54L 7 34 rfl rfl (fun x2 => ?_)
    refine s_21 7 36 rfl rfl ?_
    refine s_155 0 27 63 39 rfl rfl ?_ ?_
    · exact s_jmp (v_16_open_63 l k20 hk20 _ _ _ _ _) ⟨rfl, rfl, rfl, rfl, trivial⟩
    · refine s_21 7 41 rfl rfl ?_
      refine s_16 40 43 40 jbp_40 rfl ?_
      refine s_162 0 20 63 46 rfl rfl ?_ ?_
      · exact s_jmp (v_16_open_63 l k20 hk20 _ _ _ _ _) ⟨rfl, rfl, rfl, rfl, trivial⟩
      · refine s_44 47 rfl rfl ?_
        refine s_21 7 49 rfl rfl ?_
        refine s_22 4 51 rfl rfl ?_
        refine s_16 8 53 8 jbp_8 rfl ?_
        refine s_21 6 55 rfl rfl ?_
        refine s_104 56 rfl ?_
        refine s_123 57 rfl ?_
        refine s_20 0 70 60 70 255 rfl jw_1463 rfl ?_
        refine s_127 61 rfl ?_
        refine s_136 62 rfl ?_
        refine s_79 63 rfl (fun h3 => ?_)
        exact s_jmp (v_16_open_63 l k20 hk20 _ _ _ _ _) ⟨rfl, rfl, rfl, rfl, trivial⟩
theorem w_16_open_20 (l : Launch)  (n : Nat) : ∀ a2 a3 a4 a6 H, JV l mi_16_open jeV 20 [(2, .ref a2), (3, .int a3), (4, .long a4), (6, .int a6)] [] H (F_16_open_20  n a2 a3 a4 a6 H) := by
  induction n with
  | zero => intro _ _ _ _ _; exact s_none
  | succ n ih => intro a2 a3 a4 a6 H; exact v_16_open_20 l (F_16_open_20  n) ih a2 a3 a4 a6 H
theorem v_16_open (l : Launch) (a0 : Int64) (a2 : Nat) (H : jH) : JV l mi_16_open jeV 0 [(0, .long a0), (2, .ref a2)] [] H (F_16_open a0 a2 H) := by
  unfold F_16_open
  refine s_44 1 rfl rfl ?_
  refine s_184V 0 64 4 64 (m_16_nothing l _ _) rfl k_16_nothing jw_1459 jw_1460 rfl rfl rfl rfl rfl (fun x4 h5 => ?_)
  refine s_30 5 rfl rfl ?_
  refine s_16 24 7 24 jbp_24 rfl ?_
  refine s_123 8 rfl ?_
  refine s_136 9 rfl ?_
  refine s_62L 10 rfl rfl (fun x6 => ?_)
  refine s_30 11 rfl rfl ?_
  refine s_20 0 68 14 68 8388607 rfl jw_1462 rfl ?_
  refine s_127 15 rfl ?_
  refine s_55L 4 17 rfl rfl (fun x7 => ?_)
  refine s_3 18 rfl ?_
  refine s_54 6 20 rfl rfl ?_
  exact s_jmp (w_16_open_20 l jfuel _ _ _ _ _) ⟨rfl, rfl, rfl, rfl, trivial⟩
theorem m_16_open (l : Launch) (a0 : Int64) (a2 : Nat) (H : jH) : JMet l y_16_open prog_20_method_6_code mi_16_open jeV [.long a0, .ref a2] H (F_16_open a0 a2 H) := jmet_of n_16_open (by decide) ⟨rfl, rfl⟩ (Nat.le_of_ble_eq_true rfl) (v_16_open l a0 a2 H)
def mi_16_compareRows : jM := (404214079934918505778824334080282346971351453683711721374459495518858830211008981700356531821430392157810932995, 46, 4, "CoinNodeModel$Tree", some FieldType.int, "compareRows", 0, 0)
def y_16_compareRows : MethodName := ⟨"CoinNodeModel$Tree", "compareRows", "([I[I)I"⟩
theorem n_16_compareRows : jn_is prog_20_method_4_code mi_16_compareRows.1 mi_16_compareRows.2.1 := by unfold jn_is; decide +kernel
theorem k_16_compareRows : jmok y_16_compareRows prog_20_method_4_code mi_16_compareRows 2 := ⟨jw_1470, jw_19, ⟨by decide, by decide⟩, by decide +kernel⟩
theorem v_16_compareRows_37 (l : Launch) (k4 : Nat → Nat → Int32 → Int32 → jH → Option (Int32 × jH)) (hk4 : ∀ a0 a1 a2 a3 H, JV l mi_16_compareRows jeI 4 [(0, .ref a0), (1, .ref a1), (2, .int a2), (3, .int a3)] [] H (k4 a0 a1 a2 a3 H)) (a0 : Nat) (a1 : Nat) (a3 : Int32) (s0 : Int32) (H : jH) : JV l mi_16_compareRows jeI 37 [(0, .ref a0), (1, .ref a1), (3, .int a3)] [.int s0] H (B_16_compareRows_37 k4 a0 a1 a3 s0 H) := by
  unfold B_16_compareRows_37
  refine s_61 38 rfl rfl ?_
  refine s_132L 3 1 41 1 ji_1 rfl rfl rfl (fun x1 => ?_)
  refine s_167 255 219 4 rfl rfl ?_
  exact s_jmp (hk4 _ _ _ _ _) ⟨rfl, rfl, rfl, rfl, trivial⟩
theorem v_16_compareRows_4 (l : Launch) (k4 : Nat → Nat → Int32 → Int32 → jH → Option (Int32 × jH)) (hk4 : ∀ a0 a1 a2 a3 H, JV l mi_16_compareRows jeI 4 [(0, .ref a0), (1, .ref a1), (2, .int a2), (3, .int a3)] [] H (k4 a0 a1 a2 a3 H)) (a0 : Nat) (a1 : Nat) (a2 : Int32) (a3 : Int32) (H : jH) : JV l mi_16_compareRows jeI 4 [(0, .ref a0), (1, .ref a1), (2, .int a2), (3, .int a3)] [] H (B_16_compareRows_4 k4 a0 a1 a2 a3 H) := by
  unfold B_16_compareRows_4
  refine s_29 5 rfl rfl ?_
  refine s_16 40 7 40 jbp_40 rfl ?_
  refine s_162 0 37 44 10 rfl rfl ?_ ?_
  · refine s_28 45 rfl rfl ?_
    exact s_172 rfl rfl
  · refine s_42 11 rfl rfl ?_
    refine s_29 12 rfl rfl ?_
    refine s_46 13 rfl ?_
    refine s_43 14 rfl rfl ?_
    refine s_29 15 rfl rfl ?_
    refine s_46 16 rfl ?_
    refine s_162 0 7 23 19 rfl rfl ?_ ?_
    · refine s_42 24 rfl rfl ?_
      refine s_29 25 rfl rfl ?_
      refine s_46 26 rfl ?_
      refine s_43 27 rfl rfl ?_
      refine s_29 28 rfl rfl ?_
      refine s_46 29 rfl ?_
      refine s_164 0 7 36 32 rfl rfl ?_ ?_
      · refine s_28 37 rfl rfl ?_
        exact s_jmp (v_16_compareRows_37 l k4 hk4 _ _ _ _ _) ⟨rfl, rfl, rfl, trivial⟩
      · refine s_4 33 rfl ?_
        refine s_167 0 4 37 rfl rfl ?_
        exact s_jmp (v_16_compareRows_37 l k4 hk4 _ _ _ _ _) ⟨rfl, rfl, rfl, trivial⟩
    · refine s_2 20 rfl ?_
      refine s_167 0 17 37 rfl rfl ?_
      exact s_jmp (v_16_compareRows_37 l k4 hk4 _ _ _ _ _) ⟨rfl, rfl, rfl, trivial⟩
theorem w_16_compareRows_4 (l : Launch)  (n : Nat) : ∀ a0 a1 a2 a3 H, JV l mi_16_compareRows jeI 4 [(0, .ref a0), (1, .ref a1), (2, .int a2), (3, .int a3)] [] H (F_16_compareRows_4  n a0 a1 a2 a3 H) := by
  induction n with
  | zero => intro _ _ _ _ _; exact s_none
  | succ n ih => intro a0 a1 a2 a3 H; exact v_16_compareRows_4 l (F_16_compareRows_4  n) ih a0 a1 a2 a3 H
theorem v_16_compareRows (l : Launch) (a0 : Nat) (a1 : Nat) (H : jH) : JV l mi_16_compareRows jeI 0 [(0, .ref a0), (1, .ref a1)] [] H (F_16_compareRows a0 a1 H) := by
  unfold F_16_compareRows
  refine s_3 1 rfl ?_
  refine s_61 2 rfl rfl ?_
  refine s_3 3 rfl ?_
  refine s_62 4 rfl rfl ?_
  exact s_jmp (w_16_compareRows_4 l jfuel _ _ _ _ _) ⟨rfl, rfl, rfl, rfl, trivial⟩
theorem m_16_compareRows (l : Launch) (a0 : Nat) (a1 : Nat) (H : jH) : JMet l y_16_compareRows prog_20_method_4_code mi_16_compareRows jeI [.ref a0, .ref a1] H (F_16_compareRows a0 a1 H) := jmet_of n_16_compareRows (by decide) ⟨rfl, rfl⟩ (Nat.le_of_ble_eq_true rfl) (v_16_compareRows l a0 a1 H)
def mi_16_quotient : jM := (18513264281475524547142403725710300228208893292820161604839513038760006133412300865046613534957188348905197986167907362859379361516617304178146258270194407150577164832490834717451018049622963847264523194159557268359229783025425993619474607823209056486341144209006380697251130863142812623367069709029333273553089570161174230449926103414379489441621406098865384011680999604145127738677590953989940295688685766607715968678709417005810477594980552625863587841166732114130161962434034828691984542898536076607109242046962641559810436224313530040227527831144126866108825275153510376085257618454690820, 246, 7, "CoinNodeModel$Tree", none, "quotient", 1, 23)
def y_16_quotient : MethodName := ⟨"CoinNodeModel$Tree", "quotient", "()V"⟩
theorem n_16_quotient : jn_is prog_20_method_7_code mi_16_quotient.1 mi_16_quotient.2.1 := by unfold jn_is; decide +kernel
theorem k_16_quotient : jmok y_16_quotient prog_20_method_7_code mi_16_quotient 0 := ⟨jw_1467, jw_19, ⟨by decide, by decide⟩, by decide +kernel⟩
theorem v_16_quotient_206 (l : Launch) (k146 : Nat → Int32 → Int32 → Int32 → jH → Option (Unit × jH)) (hk146 : ∀ a0 a2 a4 a5 H, JV l mi_16_quotient jeV 146 [(0, .ref a0), (2, .int a2), (4, .int a4), (5, .int a5)] [] H (k146 a0 a2 a4 a5 H)) (a0 : Nat) (a2 : Int32) (a5 : Int32) (s0 : Int32) (H : jH) : JV l mi_16_quotient jeV 206 [(0, .ref a0), (2, .int a2), (5, .int a5)] [.int s0] H (B_16_quotient_206 k146 a0 a2 a5 s0 H) := by
  unfold B_16_quotient_206
  refine s_54 4 208 rfl rfl ?_
  refine s_132L 5 1 211 1 ji_1 rfl rfl rfl (fun x1 => ?_)
  refine s_167 255 191 146 rfl rfl ?_
  exact s_jmp (hk146 _ _ _ _ _) ⟨rfl, rfl, rfl, rfl, trivial⟩
theorem v_16_quotient_195 (l : Launch) (k146 : Nat → Int32 → Int32 → Int32 → jH → Option (Unit × jH)) (hk146 : ∀ a0 a2 a4 a5 H, JV l mi_16_quotient jeV 146 [(0, .ref a0), (2, .int a2), (4, .int a4), (5, .int a5)] [] H (k146 a0 a2 a4 a5 H)) (a0 : Nat) (a2 : Int32) (a5 : Int32) (a6 : Int32) (s0 : Nat) (s1 : Int32) (s2 : Int32) (H : jH) : JV l mi_16_quotient jeV 195 [(0, .ref a0), (2, .int a2), (5, .int a5), (6, .int a6)] [.int s2, .int s1, .ref s0] H (B_16_quotient_195 k146 a0 a2 a5 a6 s0 s1 s2 H) := by
  unfold B_16_quotient_195
  refine s_79 196 rfl (fun h2 => ?_)
  refine s_21 6 198 rfl rfl ?_
  refine s_156 0 7 205 201 rfl rfl ?_ ?_
  · refine s_3 206 rfl ?_
    exact s_jmp (v_16_quotient_206 l k146 hk146 _ _ _ _ _) ⟨rfl, rfl, rfl, trivial⟩
  · refine s_4 202 rfl ?_
    refine s_167 0 4 206 rfl rfl ?_
    exact s_jmp (v_16_quotient_206 l k146 hk146 _ _ _ _ _) ⟨rfl, rfl, rfl, trivial⟩
theorem v_16_quotient_239 (l : Launch) (k60 : Nat → Int32 → jH → Option (Unit × jH)) (hk60 : ∀ a0 a2 H, JV l mi_16_quotient jeV 60 [(0, .ref a0), (2, .int a2)] [] H (k60 a0 a2 H)) (a0 : Nat) (a2 : Int32) (H : jH) : JV l mi_16_quotient jeV 239 [(0, .ref a0), (2, .int a2)] [] H (B_16_quotient_239 k60 a0 a2 H) := by
  unfold B_16_quotient_239
  refine s_132L 2 255 242 (-1) ji_255 rfl rfl rfl (fun x3 => ?_)
  refine s_167 255 74 60 rfl rfl ?_
  exact s_jmp (hk60 _ _ _) ⟨rfl, rfl, trivial⟩
theorem v_16_quotient_146 (l : Launch) (k60 : Nat → Int32 → jH → Option (Unit × jH)) (hk60 : ∀ a0 a2 H, JV l mi_16_quotient jeV 60 [(0, .ref a0), (2, .int a2)] [] H (k60 a0 a2 H)) (k146 : Nat → Int32 → Int32 → Int32 → jH → Option (Unit × jH)) (hk146 : ∀ a0 a2 a4 a5 H, JV l mi_16_quotient jeV 146 [(0, .ref a0), (2, .int a2), (4, .int a4), (5, .int a5)] [] H (k146 a0 a2 a4 a5 H)) (a0 : Nat) (a2 : Int32) (a4 : Int32) (a5 : Int32) (H : jH) : JV l mi_16_quotient jeV 146 [(0, .ref a0), (2, .int a2), (4, .int a4), (5, .int a5)] [] H (B_16_quotient_146 k60 k146 a0 a2 a4 a5 H) := by
  unfold B_16_quotient_146
  refine s_21 5 148 rfl rfl ?_
  refine s_16 40 150 40 jbp_40 rfl ?_
  refine s_162 0 64 214 153 rfl rfl ?_ ?_
  · refine s_42 215 rfl rfl ?_
    refine s_180R 0 30 218 30 f_16_8 jw_1479 rfl rfl ?_
    refine s_28 219 rfl rfl ?_
    refine s_16 8 221 8 jbp_8 rfl ?_
    refine s_108 222 rfl ?_
    refine s_42 223 rfl rfl ?_
    refine s_180R 0 30 226 30 f_16_8 jw_1479 rfl rfl ?_
    refine s_28 227 rfl rfl ?_
    refine s_16 8 229 8 jbp_8 rfl ?_
    refine s_108 230 rfl ?_
    refine s_46 231 rfl ?_
    refine s_4 232 rfl ?_
    refine s_28 233 rfl rfl ?_
    refine s_16 8 235 8 jbp_8 rfl ?_
    refine s_112 236 rfl ?_
    refine s_120 237 rfl ?_
    refine s_96 238 rfl ?_
    refine s_79 239 rfl (fun h4 => ?_)
    exact s_jmp (v_16_quotient_239 l k60 hk60 _ _ _) ⟨rfl, rfl, trivial⟩
  · refine s_42 154 rfl rfl ?_
    refine s_180R 0 36 157 36 f_16_10 jw_1481 rfl rfl ?_
    refine s_21 5 159 rfl rfl ?_
    refine s_46 160 rfl ?_
    refine s_42 161 rfl rfl ?_
    refine s_180R 0 33 164 33 f_16_9 jw_1480 rfl rfl ?_
    refine s_21 5 166 rfl rfl ?_
    refine s_46 167 rfl ?_
    refine s_100 168 rfl ?_
    refine s_21 4 170 rfl rfl ?_
    refine s_100 171 rfl ?_
    refine s_54L 6 173 rfl rfl (fun x5 => ?_)
    refine s_42 174 rfl rfl ?_
    refine s_180R 0 36 177 36 f_16_10 jw_1481 rfl rfl ?_
    refine s_21 5 179 rfl rfl ?_
    refine s_21 6 181 rfl rfl ?_
    refine s_156 0 12 193 184 rfl rfl ?_ ?_
    · refine s_21 6 195 rfl rfl ?_
      exact s_jmp (v_16_quotient_195 l k146 hk146 _ _ _ _ _ _ _ _) ⟨rfl, rfl, rfl, rfl, trivial⟩
    · refine s_21 6 186 rfl rfl ?_
      refine s_17 1 0 189 256 jsp_1_0 rfl ?_
      refine s_96 190 rfl ?_
      refine s_167 0 5 195 rfl rfl ?_
      exact s_jmp (v_16_quotient_195 l k146 hk146 _ _ _ _ _ _ _ _) ⟨rfl, rfl, rfl, rfl, trivial⟩
theorem w_16_quotient_146 (l : Launch) (k60 : Nat → Int32 → jH → Option (Unit × jH)) (hk60 : ∀ a0 a2 H, JV l mi_16_quotient jeV 60 [(0, .ref a0), (2, .int a2)] [] H (k60 a0 a2 H)) (n : Nat) : ∀ a0 a2 a4 a5 H, JV l mi_16_quotient jeV 146 [(0, .ref a0), (2, .int a2), (4, .int a4), (5, .int a5)] [] H (F_16_quotient_146 k60 n a0 a2 a4 a5 H) := by
  induction n with
  | zero => intro _ _ _ _ _; exact s_none
  | succ n ih => intro a0 a2 a4 a5 H; exact v_16_quotient_146 l k60 hk60 (F_16_quotient_146 k60 n) ih a0 a2 a4 a5 H
theorem v_16_quotient_80 (l : Launch) (k60 : Nat → Int32 → jH → Option (Unit × jH)) (hk60 : ∀ a0 a2 H, JV l mi_16_quotient jeV 60 [(0, .ref a0), (2, .int a2)] [] H (k60 a0 a2 H)) (k80 : Nat → Int32 → Int32 → Int32 → jH → Option (Unit × jH)) (hk80 : ∀ a0 a2 a3 a4 H, JV l mi_16_quotient jeV 80 [(0, .ref a0), (2, .int a2), (3, .int a3), (4, .int a4)] [] H (k80 a0 a2 a3 a4 H)) (a0 : Nat) (a2 : Int32) (a3 : Int32) (a4 : Int32) (H : jH) : JV l mi_16_quotient jeV 80 [(0, .ref a0), (2, .int a2), (3, .int a3), (4, .int a4)] [] H (B_16_quotient_80 k60 k80 a0 a2 a3 a4 H) := by
  unfold B_16_quotient_80
  refine s_21 4 82 rfl rfl ?_
  refine s_16 40 84 40 jbp_40 rfl ?_
  refine s_162 0 42 126 87 rfl rfl ?_ ?_
  · refine s_42 127 rfl rfl ?_
    refine s_180R 0 36 130 36 f_16_10 jw_1481 rfl rfl ?_
    refine s_42 131 rfl rfl ?_
    refine s_180R 0 33 134 33 f_16_9 jw_1480 rfl rfl ?_
    refine s_184I 0 72 137 72 (m_16_compareRows l _ _ _) rfl k_16_compareRows jw_1468 jw_1469 rfl rfl rfl rfl rfl (fun x6 h7 => ?_)
    refine s_155 0 102 239 140 rfl rfl ?_ ?_
    · exact s_jmp (v_16_quotient_239 l k60 hk60 _ _ _) ⟨rfl, rfl, trivial⟩
    · refine s_3 141 rfl ?_
      refine s_54 4 143 rfl rfl ?_
      refine s_3 144 rfl ?_
      refine s_54 5 146 rfl rfl ?_
      exact s_jmp (w_16_quotient_146 l k60 hk60 jfuel _ _ _ _ _) ⟨rfl, rfl, rfl, rfl, trivial⟩
  · refine s_5 88 rfl ?_
    refine s_42 89 rfl rfl ?_
    refine s_180R 0 36 92 36 f_16_10 jw_1481 rfl rfl ?_
    refine s_21 4 94 rfl rfl ?_
    refine s_46 95 rfl ?_
    refine s_104 96 rfl ?_
    refine s_29 97 rfl rfl ?_
    refine s_96 98 rfl ?_
    refine s_54L 5 100 rfl rfl (fun x8 => ?_)
    refine s_42 101 rfl rfl ?_
    refine s_180R 0 36 104 36 f_16_10 jw_1481 rfl rfl ?_
    refine s_21 4 106 rfl rfl ?_
    refine s_21 5 108 rfl rfl ?_
    refine s_17 1 0 111 256 jsp_1_0 rfl ?_
    refine s_112 112 rfl ?_
    refine s_79 113 rfl (fun h9 => ?_)
    refine s_21 5 115 rfl rfl ?_
    refine s_17 1 0 118 256 jsp_1_0 rfl ?_
    refine s_108 119 rfl ?_
    refine s_62L 120 rfl rfl (fun x10 => ?_)
    refine s_132L 4 1 123 1 ji_1 rfl rfl rfl (fun x11 => ?_)
    refine s_167 255 213 80 rfl rfl ?_
    exact s_jmp (hk80 _ _ _ _ _) ⟨rfl, rfl, rfl, rfl, trivial⟩
theorem w_16_quotient_80 (l : Launch) (k60 : Nat → Int32 → jH → Option (Unit × jH)) (hk60 : ∀ a0 a2 H, JV l mi_16_quotient jeV 60 [(0, .ref a0), (2, .int a2)] [] H (k60 a0 a2 H)) (n : Nat) : ∀ a0 a2 a3 a4 H, JV l mi_16_quotient jeV 80 [(0, .ref a0), (2, .int a2), (3, .int a3), (4, .int a4)] [] H (F_16_quotient_80 k60 n a0 a2 a3 a4 H) := by
  induction n with
  | zero => intro _ _ _ _ _; exact s_none
  | succ n ih => intro a0 a2 a3 a4 H; exact v_16_quotient_80 l k60 hk60 (F_16_quotient_80 k60 n) ih a0 a2 a3 a4 H
theorem v_16_quotient_76 (l : Launch) (k60 : Nat → Int32 → jH → Option (Unit × jH)) (hk60 : ∀ a0 a2 H, JV l mi_16_quotient jeV 60 [(0, .ref a0), (2, .int a2)] [] H (k60 a0 a2 H)) (a0 : Nat) (a2 : Int32) (s0 : Int32) (H : jH) : JV l mi_16_quotient jeV 76 [(0, .ref a0), (2, .int a2)] [.int s0] H (B_16_quotient_76 k60 a0 a2 s0 H) := by
  unfold B_16_quotient_76
  refine s_62 77 rfl rfl ?_
  refine s_3 78 rfl ?_
  refine s_54 4 80 rfl rfl ?_
  exact s_jmp (w_16_quotient_80 l k60 hk60 jfuel _ _ _ _ _) ⟨rfl, rfl, rfl, rfl, trivial⟩
theorem v_16_quotient_60 (l : Launch) (k60 : Nat → Int32 → jH → Option (Unit × jH)) (hk60 : ∀ a0 a2 H, JV l mi_16_quotient jeV 60 [(0, .ref a0), (2, .int a2)] [] H (k60 a0 a2 H)) (a0 : Nat) (a2 : Int32) (H : jH) : JV l mi_16_quotient jeV 60 [(0, .ref a0), (2, .int a2)] [] H (B_16_quotient_60 k60 a0 a2 H) := by
  unfold B_16_quotient_60
  refine s_28 61 rfl rfl ?_
  refine s_155 0 184 245 64 rfl rfl ?_ ?_
  · exact s_177 rfl rfl
  · refine s_28 65 rfl rfl ?_
    refine s_17 1 0 68 256 jsp_1_0 rfl ?_
    refine s_160 0 7 75 71 rfl rfl ?_ ?_
    · refine s_3 76 rfl ?_
      exact s_jmp (v_16_quotient_76 l k60 hk60 _ _ _ _) ⟨rfl, rfl, trivial⟩
    · refine s_4 72 rfl ?_
      refine s_167 0 4 76 rfl rfl ?_
      exact s_jmp (v_16_quotient_76 l k60 hk60 _ _ _ _) ⟨rfl, rfl, trivial⟩
theorem w_16_quotient_60 (l : Launch)  (n : Nat) : ∀ a0 a2 H, JV l mi_16_quotient jeV 60 [(0, .ref a0), (2, .int a2)] [] H (F_16_quotient_60  n a0 a2 H) := by
  induction n with
  | zero => intro _ _ _; exact s_none
  | succ n ih => intro a0 a2 H; exact v_16_quotient_60 l (F_16_quotient_60  n) ih a0 a2 H
theorem v_16_quotient_4 (l : Launch) (k4 : Nat → Int32 → Int32 → jH → Option (Unit × jH)) (hk4 : ∀ a0 a1 a2 H, JV l mi_16_quotient jeV 4 [(0, .ref a0), (1, .int a1), (2, .int a2)] [] H (k4 a0 a1 a2 H)) (a0 : Nat) (a1 : Int32) (a2 : Int32) (H : jH) : JV l mi_16_quotient jeV 4 [(0, .ref a0), (1, .int a1), (2, .int a2)] [] H (B_16_quotient_4 k4 a0 a1 a2 H) := by
  unfold B_16_quotient_4
  refine s_28 5 rfl rfl ?_
  refine s_16 40 7 40 jbp_40 rfl ?_
  refine s_162 0 35 42 10 rfl rfl ?_ ?_
  · refine s_42 43 rfl rfl ?_
    refine s_180R 0 30 46 30 f_16_8 jw_1479 rfl rfl ?_
    refine s_184V 0 64 49 64 (m_16_nothing l _ _) rfl k_16_nothing jw_1459 jw_1460 rfl rfl rfl rfl rfl (fun x12 h13 => ?_)
    refine s_42 50 rfl rfl ?_
    refine s_180R 0 36 53 36 f_16_10 jw_1481 rfl rfl ?_
    refine s_184V 0 64 56 64 (m_16_nothing l _ _) rfl k_16_nothing jw_1459 jw_1460 rfl rfl rfl rfl rfl (fun x14 h15 => ?_)
    refine s_17 1 0 59 256 jsp_1_0 rfl ?_
    refine s_61 60 rfl rfl ?_
    exact s_jmp (w_16_quotient_60 l jfuel _ _ _) ⟨rfl, rfl, trivial⟩
  · refine s_42 11 rfl rfl ?_
    refine s_180R 0 30 14 30 f_16_8 jw_1479 rfl rfl ?_
    refine s_28 15 rfl rfl ?_
    refine s_46 16 rfl ?_
    refine s_27 17 rfl rfl ?_
    refine s_96 18 rfl ?_
    refine s_62L 19 rfl rfl (fun x16 => ?_)
    refine s_42 20 rfl rfl ?_
    refine s_180R 0 33 23 33 f_16_9 jw_1480 rfl rfl ?_
    refine s_28 24 rfl rfl ?_
    refine s_29 25 rfl rfl ?_
    refine s_17 1 0 28 256 jsp_1_0 rfl ?_
    refine s_112 29 rfl ?_
    refine s_79 30 rfl (fun h17 => ?_)
    refine s_29 31 rfl rfl ?_
    refine s_17 1 0 34 256 jsp_1_0 rfl ?_
    refine s_108 35 rfl ?_
    refine s_60L 36 rfl rfl (fun x18 => ?_)
    refine s_132L 2 1 39 1 ji_1 rfl rfl rfl (fun x19 => ?_)
    refine s_167 255 221 4 rfl rfl ?_
    exact s_jmp (hk4 _ _ _ _) ⟨rfl, rfl, rfl, trivial⟩
theorem w_16_quotient_4 (l : Launch)  (n : Nat) : ∀ a0 a1 a2 H, JV l mi_16_quotient jeV 4 [(0, .ref a0), (1, .int a1), (2, .int a2)] [] H (F_16_quotient_4  n a0 a1 a2 H) := by
  induction n with
  | zero => intro _ _ _ _; exact s_none
  | succ n ih => intro a0 a1 a2 H; exact v_16_quotient_4 l (F_16_quotient_4  n) ih a0 a1 a2 H
theorem v_16_quotient (l : Launch) (a0 : Nat) (H : jH) : JV l mi_16_quotient jeV 0 [(0, .ref a0)] [] H (F_16_quotient a0 H) := by
  unfold F_16_quotient
  refine s_4 1 rfl ?_
  refine s_60 2 rfl rfl ?_
  refine s_3 3 rfl ?_
  refine s_61 4 rfl rfl ?_
  exact s_jmp (w_16_quotient_4 l jfuel _ _ _ _) ⟨rfl, rfl, rfl, trivial⟩
theorem m_16_quotient (l : Launch) (a0 : Nat) (H : jH) : JMet l y_16_quotient prog_20_method_7_code mi_16_quotient jeV [.ref a0] H (F_16_quotient a0 H) := jmet_of n_16_quotient (by decide) ⟨rfl, rfl⟩ (Nat.le_of_ble_eq_true rfl) (v_16_quotient l a0 H)
def mi_16_join : jM := (15889717808934486624373020636765318323721045521707773238429209416496414066696090811356759814700630994772091413505463156658168841434599707358491360513696629781112030502654854864632835156267122028122965161159218492987555293218417733109341257331619144153679704767080104003796865069433516243043034772529431213966095101592666977493310451469442445540032056529654868546436269739386157986346468750724740138, 165, 10, "CoinNodeModel$Tree", none, "join", 2, 49)
def y_16_join : MethodName := ⟨"CoinNodeModel$Tree", "join", "(IJJ)V"⟩
theorem n_16_join : jn_is prog_20_method_2_code mi_16_join.1 mi_16_join.2.1 := by unfold jn_is; decide +kernel
theorem k_16_join : jmok y_16_join prog_20_method_2_code mi_16_join 3 := ⟨jw_1455, jw_19, ⟨by decide, by decide⟩, by decide +kernel⟩
theorem v_16_join_125 (l : Launch) (k91 : Nat → Int32 → Int32 → Int32 → Int32 → jH → Option (Unit × jH)) (hk91 : ∀ a0 a1 a6 a7 a8 H, JV l mi_16_join jeV 91 [(0, .ref a0), (1, .int a1), (6, .int a6), (7, .int a7), (8, .int a8)] [] H (k91 a0 a1 a6 a7 a8 H)) (a0 : Nat) (a1 : Int32) (a6 : Int32) (a7 : Int32) (a8 : Int32) (s0 : Int32) (s1 : Int32) (H : jH) : JV l mi_16_join jeV 125 [(0, .ref a0), (1, .int a1), (6, .int a6), (7, .int a7), (8, .int a8)] [.int s1, .int s0] H (B_16_join_125 k91 a0 a1 a6 a7 a8 s0 s1 H) := by
  unfold B_16_join_125
  refine s_96 126 rfl ?_
  refine s_21 7 128 rfl rfl ?_
  refine s_96 129 rfl ?_
  refine s_54L 9 131 rfl rfl (fun x1 => ?_)
  refine s_42 132 rfl rfl ?_
  refine s_180R 0 27 135 27 f_16_7 jw_1478 rfl rfl ?_
  refine s_16 40 137 40 jbp_40 rfl ?_
  refine s_21 6 139 rfl rfl ?_
  refine s_104 140 rfl ?_
  refine s_21 8 142 rfl rfl ?_
  refine s_96 143 rfl ?_
  refine s_21 9 145 rfl rfl ?_
  refine s_17 1 0 148 256 jsp_1_0 rfl ?_
  refine s_112 149 rfl ?_
  refine s_79 150 rfl (fun h2 => ?_)
  refine s_21 9 152 rfl rfl ?_
  refine s_17 1 0 155 256 jsp_1_0 rfl ?_
  refine s_108 156 rfl ?_
  refine s_54L 7 158 rfl rfl (fun x3 => ?_)
  refine s_132L 8 1 161 1 ji_1 rfl rfl rfl (fun x4 => ?_)
  refine s_167 255 186 91 rfl rfl ?_
  exact s_jmp (hk91 _ _ _ _ _ _) ⟨rfl, rfl, rfl, rfl, rfl, trivial⟩
theorem v_16_join_91 (l : Launch) (k91 : Nat → Int32 → Int32 → Int32 → Int32 → jH → Option (Unit × jH)) (hk91 : ∀ a0 a1 a6 a7 a8 H, JV l mi_16_join jeV 91 [(0, .ref a0), (1, .int a1), (6, .int a6), (7, .int a7), (8, .int a8)] [] H (k91 a0 a1 a6 a7 a8 H)) (a0 : Nat) (a1 : Int32) (a6 : Int32) (a7 : Int32) (a8 : Int32) (H : jH) : JV l mi_16_join jeV 91 [(0, .ref a0), (1, .int a1), (6, .int a6), (7, .int a7), (8, .int a8)] [] H (B_16_join_91 k91 a0 a1 a6 a7 a8 H) := by
  unfold B_16_join_91
  refine s_21 8 93 rfl rfl ?_
  refine s_16 40 95 40 jbp_40 rfl ?_
  refine s_162 0 69 164 98 rfl rfl ?_ ?_
  · exact s_177 rfl rfl
  · refine s_42 99 rfl rfl ?_
    refine s_180R 0 30 102 30 f_16_8 jw_1479 rfl rfl ?_
    refine s_21 8 104 rfl rfl ?_
    refine s_46 105 rfl ?_
    refine s_27 106 rfl rfl ?_
    refine s_156 0 7 113 109 rfl rfl ?_ ?_
    · refine s_42 114 rfl rfl ?_
      refine s_180R 0 27 117 27 f_16_7 jw_1478 rfl rfl ?_
      refine s_16 40 119 40 jbp_40 rfl ?_
      refine s_27 120 rfl rfl ?_
      refine s_104 121 rfl ?_
      refine s_21 8 123 rfl rfl ?_
      refine s_96 124 rfl ?_
      refine s_46 125 rfl ?_
      exact s_jmp (v_16_join_125 l k91 hk91 _ _ _ _ _ _ _ _) ⟨rfl, rfl, rfl, rfl, rfl, trivial⟩
    · refine s_3 110 rfl ?_
      refine s_167 0 15 125 rfl rfl ?_
      exact s_jmp (v_16_join_125 l k91 hk91 _ _ _ _ _ _ _ _) ⟨rfl, rfl, rfl, rfl, rfl, trivial⟩
theorem w_16_join_91 (l : Launch)  (n : Nat) : ∀ a0 a1 a6 a7 a8 H, JV l mi_16_join jeV 91 [(0, .ref a0), (1, .int a1), (6, .int a6), (7, .int a7), (8, .int a8)] [] H (F_16_join_91  n a0 a1 a6 a7 a8 H) := by
  induction n with
  | zero => intro _ _ _ _ _ _; exact s_none
  | succ n ih => intro a0 a1 a6 a7 a8 H; exact v_16_join_91 l (F_16_join_91  n) ih a0 a1 a6 a7 a8 H
theorem v_16_join_36 (l : Launch)  (a0 : Nat) (a1 : Int32) (a2 : Int64) (a4 : Int64) (a6 : Int32) (s0 : Nat) (s1 : Int32) (s2 : Int32) (H : jH) : JV l mi_16_join jeV 36 [(0, .ref a0), (1, .int a1), (2, .long a2), (4, .long a4), (6, .int a6)] [.int s2, .int s1, .ref s0] H (B_16_join_36  a0 a1 a2 a4 a6 s0 s1 s2 H) := by
  unfold B_16_join_36
  refine s_79 37 rfl (fun h5 => ?_)
  refine s_42 38 rfl rfl ?_
  refine s_180R 0 16 41 16 f_16_4 jw_1475 rfl rfl ?_
  refine s_21 6 43 rfl rfl ?_
  refine s_32 44 rfl rfl ?_
  refine s_80 45 rfl (fun h6 => ?_)
  refine s_42 46 rfl rfl ?_
  refine s_180R 0 20 49 20 f_16_5 jw_1476 rfl rfl ?_
  refine s_21 6 51 rfl rfl ?_
  refine s_22 4 53 rfl rfl ?_
  refine s_80 54 rfl (fun h7 => ?_)
  refine s_42 55 rfl rfl ?_
  refine s_180R 0 23 58 23 f_16_6 jw_1477 rfl rfl ?_
  refine s_21 6 60 rfl rfl ?_
  refine s_3 61 rfl ?_
  refine s_84Z 62 rfl (fun h8 => ?_)
  refine s_42 63 rfl rfl ?_
  refine s_89 64 rfl rfl ?_
  refine s_180I 0 54 67 54 f_16_1 jw_1472 rfl rfl ?_
  refine s_4 68 rfl ?_
  refine s_96 69 rfl ?_
  refine s_181I 0 54 72 54 f_16_1 rfl rfl jw_1472 rfl rfl (fun h9 => ?_)
  refine s_22 4 74 rfl rfl ?_
  refine s_42 75 rfl rfl ?_
  refine s_180R 0 30 78 30 f_16_8 jw_1479 rfl rfl ?_
  refine s_184V 0 57 81 57 (m_16_open l _ _ _) rfl k_16_open jw_1456 jw_1457 rfl rfl rfl rfl rfl (fun x10 h11 => ?_)
  refine s_42 82 rfl rfl ?_
  refine s_182V 0 61 85 61 (m_16_quotient l _ _) rfl k_16_quotient jc_16 jw_1464 jw_1466 jps_53 rfl rfl rfl rfl rfl (fun x12 h13 => ?_)
  refine s_3 86 rfl ?_
  refine s_54 7 88 rfl rfl ?_
  refine s_3 89 rfl ?_
  refine s_54 8 91 rfl rfl ?_
  exact s_jmp (w_16_join_91 l jfuel _ _ _ _ _ _) ⟨rfl, rfl, rfl, rfl, rfl, trivial⟩
theorem v_16_join (l : Launch) (a0 : Nat) (a1 : Int32) (a2 : Int64) (a4 : Int64) (H : jH) : JV l mi_16_join jeV 0 [(0, .ref a0), (1, .int a1), (2, .long a2), (4, .long a4)] [] H (F_16_join a0 a1 a2 a4 H) := by
  unfold F_16_join
  refine s_42 1 rfl rfl ?_
  refine s_180I 0 54 4 54 f_16_1 jw_1472 rfl rfl ?_
  refine s_54L 6 6 rfl rfl (fun x14 => ?_)
  refine s_42 7 rfl rfl ?_
  refine s_180R 0 7 10 7 f_16_2 jw_1473 rfl rfl ?_
  refine s_21 6 12 rfl rfl ?_
  refine s_27 13 rfl rfl ?_
  refine s_79 14 rfl (fun h15 => ?_)
  refine s_42 15 rfl rfl ?_
  refine s_180R 0 13 18 13 f_16_3 jw_1474 rfl rfl ?_
  refine s_21 6 20 rfl rfl ?_
  refine s_27 21 rfl rfl ?_
  refine s_156 0 7 28 24 rfl rfl ?_ ?_
  · refine s_42 29 rfl rfl ?_
    refine s_180R 0 13 32 13 f_16_3 jw_1474 rfl rfl ?_
    refine s_27 33 rfl rfl ?_
    refine s_46 34 rfl ?_
    refine s_4 35 rfl ?_
    refine s_96 36 rfl ?_
    exact s_jmp (v_16_join_36 l _ _ _ _ _ _ _ _ _) ⟨rfl, rfl, rfl, rfl, rfl, trivial⟩
  · refine s_3 25 rfl ?_
    refine s_167 0 11 36 rfl rfl ?_
    exact s_jmp (v_16_join_36 l _ _ _ _ _ _ _ _ _) ⟨rfl, rfl, rfl, rfl, rfl, trivial⟩
theorem m_16_join (l : Launch) (a0 : Nat) (a1 : Int32) (a2 : Int64) (a4 : Int64) (H : jH) : JMet l y_16_join prog_20_method_2_code mi_16_join jeV [.ref a0, .int a1, .long a2, .long a4] H (F_16_join a0 a1 a2 a4 H) := jmet_of n_16_join (by decide) ⟨rfl, rfl⟩ (Nat.le_of_ble_eq_true rfl) (v_16_join l a0 a1 a2 a4 H)
def mi_16_init : jM := (486057764179352233620120740945522011128288135371106310878044627163998906084379370434508674387316181727295424646373030699452009048771133260863331930220375497217785930409790713722450660425232346883852581771451273591051787558825427127706845227100454977866028360327739377436228082190124002103642224016983373610, 127, 3, "CoinNodeModel$Tree", none, "<init>", 3, 78)
def y_16_init : MethodName := ⟨"CoinNodeModel$Tree", "<init>", "(II)V"⟩
theorem n_16_init : jn_is prog_20_method_1_code mi_16_init.1 mi_16_init.2.1 := by unfold jn_is; decide +kernel
theorem k_16_init : jmok y_16_init prog_20_method_1_code mi_16_init 2 := ⟨jw_1448, jw_19, ⟨by decide, by decide⟩, by decide +kernel⟩
theorem v_16_init_109 (l : Launch)  (a0 : Nat) (a2 : Int32) (s0 : Nat) (s1 : Int32) (H : jH) : JV l mi_16_init jeV 109 [(0, .ref a0), (2, .int a2)] [.int s1, .ref s0] H (B_16_init_109  a0 a2 s0 s1 H) := by
  unfold B_16_init_109
  refine s_181IF 0 42 112 42 f_16_0 rfl ⟨rfl, rfl, rfl⟩ jw_1471 rfl rfl (fun h1 => ?_)
  refine s_42 113 rfl rfl ?_
  refine s_2 114 rfl ?_
  refine s_28 115 rfl rfl ?_
  refine s_133 116 rfl ?_
  refine s_20 0 46 119 46 4294967295 rfl jw_1450 rfl ?_
  refine s_127 120 rfl ?_
  refine s_20 0 48 123 48 545259519 rfl jw_1451 rfl ?_
  refine s_182V 0 50 126 50 (m_16_join l _ _ _ _ _) rfl k_16_join jc_16 jw_1452 jw_1454 jps_52 rfl rfl rfl rfl rfl (fun x2 h3 => ?_)
  exact s_177 rfl rfl
theorem v_16_init_107 (l : Launch)  (a0 : Nat) (a2 : Int32) (s0 : Nat) (H : jH) : JV l mi_16_init jeV 107 [(0, .ref a0), (2, .int a2)] [.ref s0] H (B_16_init_107  a0 a2 s0 H) := by
  unfold B_16_init_107
  refine s_16 100 109 100 jbp_100 rfl ?_
  exact s_jmp (v_16_init_109 l _ _ _ _ _) ⟨rfl, rfl, trivial⟩
theorem v_16_init (l : Launch) (a0 : Nat) (a1 : Int32) (a2 : Int32) (H : jH) : JV l mi_16_init jeV 0 [(0, .ref a0), (1, .int a1), (2, .int a2)] [] H (F_16_init a0 a1 a2 H) := by
  unfold F_16_init
  refine s_42 1 rfl rfl ?_
  refine s_oinit 0 1 4 1 jw_1449 jw_29 jw_30 rfl rfl rfl ?_
  refine s_42 5 rfl rfl ?_
  refine s_17 1 44 8 300 jsp_1_44 rfl ?_
  refine s_188_10 10 jw_59 rfl (fun r4 h5 => ?_)
  refine s_181RF 0 7 13 7 f_16_2 rfl ⟨rfl, rfl, rfl⟩ jw_1473 rfl rfl (fun h6 => ?_)
  refine s_42 14 rfl rfl ?_
  refine s_17 1 44 17 300 jsp_1_44 rfl ?_
  refine s_188_10 19 jw_59 rfl (fun r7 h8 => ?_)
  refine s_181RF 0 13 22 13 f_16_3 rfl ⟨rfl, rfl, rfl⟩ jw_1474 rfl rfl (fun h9 => ?_)
  refine s_42 23 rfl rfl ?_
  refine s_17 1 44 26 300 jsp_1_44 rfl ?_
  refine s_188_11 28 jw_100 rfl (fun r10 h11 => ?_)
  refine s_181RF 0 16 31 16 f_16_4 rfl ⟨rfl, rfl, rfl⟩ jw_1475 rfl rfl (fun h12 => ?_)
  refine s_42 32 rfl rfl ?_
  refine s_17 1 44 35 300 jsp_1_44 rfl ?_
  refine s_188_11 37 jw_100 rfl (fun r13 h14 => ?_)
  refine s_181RF 0 20 40 20 f_16_5 rfl ⟨rfl, rfl, rfl⟩ jw_1476 rfl rfl (fun h15 => ?_)
  refine s_42 41 rfl rfl ?_
  refine s_17 1 44 44 300 jsp_1_44 rfl ?_
  refine s_188_4 46 jw_243 rfl (fun r16 h17 => ?_)
  refine s_181RF 0 23 49 23 f_16_6 rfl ⟨rfl, rfl, rfl⟩ jw_1477 rfl rfl (fun h18 => ?_)
  refine s_42 50 rfl rfl ?_
  refine s_17 46 224 53 12000 jsp_46_224 rfl ?_
  refine s_188_10 55 jw_59 rfl (fun r19 h20 => ?_)
  refine s_181RF 0 27 58 27 f_16_7 rfl ⟨rfl, rfl, rfl⟩ jw_1478 rfl rfl (fun h21 => ?_)
  refine s_42 59 rfl rfl ?_
  refine s_16 40 61 40 jbp_40 rfl ?_
  refine s_188_10 63 jw_59 rfl (fun r22 h23 => ?_)
  refine s_181RF 0 30 66 30 f_16_8 rfl ⟨rfl, rfl, rfl⟩ jw_1479 rfl rfl (fun h24 => ?_)
  refine s_42 67 rfl rfl ?_
  refine s_16 40 69 40 jbp_40 rfl ?_
  refine s_188_10 71 jw_59 rfl (fun r25 h26 => ?_)
  refine s_181RF 0 33 74 33 f_16_9 rfl ⟨rfl, rfl, rfl⟩ jw_1480 rfl rfl (fun h27 => ?_)
  refine s_42 75 rfl rfl ?_
  refine s_16 40 77 40 jbp_40 rfl ?_
  refine s_188_10 79 jw_59 rfl (fun r28 h29 => ?_)
  refine s_181RF 0 36 82 36 f_16_10 rfl ⟨rfl, rfl, rfl⟩ jw_1481 rfl rfl (fun h30 => ?_)
  refine s_42 83 rfl rfl ?_
  refine s_16 11 85 11 jbp_11 rfl ?_
  refine s_188_11 87 jw_100 rfl (fun r31 h32 => ?_)
  refine s_181RF 0 39 90 39 f_16_11 rfl ⟨rfl, rfl, rfl⟩ jw_1482 rfl rfl (fun h33 => ?_)
  refine s_42 91 rfl rfl ?_
  refine s_27 92 rfl rfl ?_
  refine s_5 93 rfl ?_
  refine s_161 0 14 107 96 rfl rfl ?_ ?_
  · exact s_jmp (v_16_init_107 l _ _ _ _) ⟨rfl, rfl, trivial⟩
  · refine s_27 97 rfl rfl ?_
    refine s_17 1 44 100 300 jsp_1_44 rfl ?_
    refine s_163 0 7 107 103 rfl rfl ?_ ?_
    · exact s_jmp (v_16_init_107 l _ _ _ _) ⟨rfl, rfl, trivial⟩
    · refine s_27 104 rfl rfl ?_
      refine s_167 0 5 109 rfl rfl ?_
      exact s_jmp (v_16_init_109 l _ _ _ _ _) ⟨rfl, rfl, trivial⟩
theorem m_16_init (l : Launch) (a0 : Nat) (a1 : Int32) (a2 : Int32) (H : jH) : JMet l y_16_init prog_20_method_1_code mi_16_init jeV [.ref a0, .int a1, .int a2] H (F_16_init a0 a1 a2 H) := jmet_of n_16_init (by decide) ⟨rfl, rfl⟩ (Nat.le_of_ble_eq_true rfl) (v_16_init l a0 a1 a2 H)
def mi_17_init : jM := (10200387867775903488427968237282815975125708290982975293649771500807707821980912688031338928417015137884810978684866787847477559378237287582122865079103965894837057322, 69, 1, "CoinNodeModel$Tx", none, "<init>", 1, 12)
def y_17_init : MethodName := ⟨"CoinNodeModel$Tx", "<init>", "()V"⟩
theorem n_17_init : jn_is prog_21_method_1_code mi_17_init.1 mi_17_init.2.1 := by unfold jn_is; decide +kernel
theorem k_17_init : jmok y_17_init prog_21_method_1_code mi_17_init 0 := ⟨jw_1512, jw_20, ⟨by decide, by decide⟩, by decide +kernel⟩
theorem v_17_init (l : Launch) (a0 : Nat) (H : jH) : JV l mi_17_init jeV 0 [(0, .ref a0)] [] H (F_17_init a0 H) := by
  unfold F_17_init
  refine s_42 1 rfl rfl ?_
  refine s_oinit 0 3 4 3 jw_1513 jw_29 jw_30 rfl rfl rfl ?_
  refine s_42 5 rfl rfl ?_
  refine s_16 8 7 8 jbp_8 rfl ?_
  refine s_188_10 9 jw_59 rfl (fun r1 h2 => ?_)
  refine s_181RF 0 11 12 11 f_17_7 rfl ⟨rfl, rfl, rfl⟩ jw_1530 rfl rfl (fun h3 => ?_)
  refine s_42 13 rfl rfl ?_
  refine s_16 8 15 8 jbp_8 rfl ?_
  refine s_188_11 17 jw_100 rfl (fun r4 h5 => ?_)
  refine s_181RF 0 15 20 15 f_17_8 rfl ⟨rfl, rfl, rfl⟩ jw_1533 rfl rfl (fun h6 => ?_)
  refine s_42 21 rfl rfl ?_
  refine s_16 8 23 8 jbp_8 rfl ?_
  refine s_188_10 25 jw_59 rfl (fun r7 h8 => ?_)
  refine s_181RF 0 19 28 19 f_17_9 rfl ⟨rfl, rfl, rfl⟩ jw_1535 rfl rfl (fun h9 => ?_)
  refine s_42 29 rfl rfl ?_
  refine s_16 8 31 8 jbp_8 rfl ?_
  refine s_188_10 33 jw_59 rfl (fun r10 h11 => ?_)
  refine s_181RF 0 22 36 22 f_17_10 rfl ⟨rfl, rfl, rfl⟩ jw_1537 rfl rfl (fun h12 => ?_)
  refine s_42 37 rfl rfl ?_
  refine s_16 8 39 8 jbp_8 rfl ?_
  refine s_188_10 41 jw_59 rfl (fun r13 h14 => ?_)
  refine s_181RF 0 25 44 25 f_17_11 rfl ⟨rfl, rfl, rfl⟩ jw_1539 rfl rfl (fun h15 => ?_)
  refine s_42 45 rfl rfl ?_
  refine s_16 8 47 8 jbp_8 rfl ?_
  refine s_188_11 49 jw_100 rfl (fun r16 h17 => ?_)
  refine s_181RF 0 28 52 28 f_17_12 rfl ⟨rfl, rfl, rfl⟩ jw_1541 rfl rfl (fun h18 => ?_)
  refine s_42 53 rfl rfl ?_
  refine s_16 8 55 8 jbp_8 rfl ?_
  refine s_188_10 57 jw_59 rfl (fun r19 h20 => ?_)
  refine s_181RF 0 31 60 31 f_17_13 rfl ⟨rfl, rfl, rfl⟩ jw_1544 rfl rfl (fun h21 => ?_)
  refine s_42 61 rfl rfl ?_
  refine s_16 8 63 8 jbp_8 rfl ?_
  refine s_188_10 65 jw_59 rfl (fun r22 h23 => ?_)
  refine s_181RF 0 34 68 34 f_17_14 rfl ⟨rfl, rfl, rfl⟩ jw_1547 rfl rfl (fun h24 => ?_)
  exact s_177 rfl rfl
theorem m_17_init (l : Launch) (a0 : Nat) (H : jH) : JMet l y_17_init prog_21_method_1_code mi_17_init jeV [.ref a0] H (F_17_init a0 H) := jmet_of n_17_init (by decide) ⟨rfl, rfl⟩ (Nat.le_of_ble_eq_true rfl) (v_17_init l a0 H)
def mi_18_init : jM := (2825610165996414770779736853997077944475621211463584394694604226699632767250675897422022425940038368979380273627387931838411109130463780237812797330474859573975411531953227348315546021867030740842525346243273865043982705762726308194201347658104135527887652489076065184239988496306224320531832530254849532644797216817483155267678887960871247736444864930798525741771682713726487083815143234310873542185345759802751236102942206226701664786303736294769852896477913355383349349202576418128809526975078028699767212948695227535927399001363963152287232281189653204197369808859868573431143321599494819534342297881006054706874429535228253834369838917594638391912352008993411919199479815655728572884523266627256868844618513476222369722093437382324807742555863810329799457047274884739638081005553577727800516814967056133209618398428541158878112065342252451712072376471262593558899226174620134129366797525129631450277019146645316545233744216290814544879150215929190515246916120673903986788946707109130939693504894361343699080210678334296469614644494388763456807409883690395385165802332633846504417448653869112877932347300702410346800458330775140157779698411954403625512429980855070865755871926582618456859073534337623490658259776262323514160938, 511, 2, "CoinNodeModel", none, "<init>", 4, 105)
def y_18_init : MethodName := ⟨"CoinNodeModel", "<init>", "()V"⟩
theorem n_18_init : jn_is prog_14_method_2_code mi_18_init.1 mi_18_init.2.1 := by unfold jn_is; decide +kernel
theorem k_18_init : jmok y_18_init prog_14_method_2_code mi_18_init 0 := ⟨jw_1267, jw_14, ⟨by decide, by decide⟩, by decide +kernel⟩
theorem v_18_init_431 (l : Launch) (k431 : Nat → Int32 → jH → Option (Unit × jH)) (hk431 : ∀ a0 a1 H, JV l mi_18_init jeV 431 [(0, .ref a0), (1, .int a1)] [] H (k431 a0 a1 H)) (a0 : Nat) (a1 : Int32) (H : jH) : JV l mi_18_init jeV 431 [(0, .ref a0), (1, .int a1)] [] H (B_18_init_431 k431 a0 a1 H) := by
  unfold B_18_init_431
  refine s_27 432 rfl rfl ?_
  refine s_7 433 rfl ?_
  refine s_162 0 43 476 436 rfl rfl ?_ ?_
  · refine s_42 477 rfl rfl ?_
    refine s_180R 0 59 480 59 f_18_7 jw_1617 rfl rfl ?_
    refine s_3 481 rfl ?_
    refine s_16 80 483 80 jbp_80 rfl ?_
    refine s_79 484 rfl (fun h1 => ?_)
    refine s_42 485 rfl rfl ?_
    refine s_180R 0 10 488 10 f_18_0 jw_1610 rfl rfl ?_
    refine s_42 489 rfl rfl ?_
    refine s_180R 0 55 492 55 f_18_6 jw_1616 rfl rfl ?_
    refine s_3 493 rfl ?_
    refine s_16 80 495 80 jbp_80 rfl ?_
    refine s_42 496 rfl rfl ?_
    refine s_180R 0 63 499 63 f_18_8 jw_1618 rfl rfl ?_
    refine s_3 500 rfl ?_
    refine s_182V 0 180 503 180 (m_12_name l _ _ _ _ _ _ _) rfl k_12_name jc_12 jw_1586 jw_1587 jw_1588 rfl rfl rfl rfl rfl (fun x2 h3 => ?_)
    refine s_42 504 rfl rfl ?_
    refine s_180R 0 66 507 66 f_18_9 jw_1619 rfl rfl ?_
    refine s_3 508 rfl ?_
    refine s_4 509 rfl ?_
    refine s_79 510 rfl (fun h4 => ?_)
    exact s_177 rfl rfl
  · refine s_42 437 rfl rfl ?_
    refine s_180R 0 55 440 55 f_18_6 jw_1616 rfl rfl ?_
    refine s_16 68 442 68 jbp_68 rfl ?_
    refine s_27 443 rfl rfl ?_
    refine s_96 444 rfl ?_
    refine s_18 36 446 1000000 jw_1445 rfl ?_
    refine s_16 8 448 8 jbp_8 rfl ?_
    refine s_27 449 rfl rfl ?_
    refine s_104 450 rfl ?_
    refine s_122 451 rfl ?_
    refine s_145 452 rfl ?_
    refine s_84B 453 rfl (fun h5 => ?_)
    refine s_42 454 rfl rfl ?_
    refine s_180R 0 55 457 55 f_18_6 jw_1616 rfl rfl ?_
    refine s_16 72 459 72 jbp_72 rfl ?_
    refine s_27 460 rfl rfl ?_
    refine s_96 461 rfl ?_
    refine s_18 179 463 545259519 jw_1585 rfl ?_
    refine s_16 8 465 8 jbp_8 rfl ?_
    refine s_27 466 rfl rfl ?_
    refine s_104 467 rfl ?_
    refine s_122 468 rfl ?_
    refine s_145 469 rfl ?_
    refine s_84B 470 rfl (fun h6 => ?_)
    refine s_132L 1 1 473 1 ji_1 rfl rfl rfl (fun x7 => ?_)
    refine s_167 255 214 431 rfl rfl ?_
    exact s_jmp (hk431 _ _ _) ⟨rfl, rfl, trivial⟩
theorem w_18_init_431 (l : Launch)  (n : Nat) : ∀ a0 a1 H, JV l mi_18_init jeV 431 [(0, .ref a0), (1, .int a1)] [] H (F_18_init_431  n a0 a1 H) := by
  induction n with
  | zero => intro _ _ _; exact s_none
  | succ n ih => intro a0 a1 H; exact v_18_init_431 l (F_18_init_431  n) ih a0 a1 H
theorem v_18_init (l : Launch) (a0 : Nat) (H : jH) : JV l mi_18_init jeV 0 [(0, .ref a0)] [] H (F_18_init a0 H) := by
  unfold F_18_init
  refine s_42 1 rfl rfl ?_
  refine s_oinit 0 1 4 1 jw_1268 jw_29 jw_30 rfl rfl rfl ?_
  refine s_42 5 rfl rfl ?_
  refine s_187 0 7 8 7 jc_12 jw_1269 jw_1270 jw_15 rfl rfl (fun r8 h9 => ?_)
  refine s_89 9 rfl rfl ?_
  refine s_183VN 0 9 12 9 (m_12_init l _ _) rfl k_12_init rfl rfl jnm_4 jw_1272 rfl rfl rfl rfl rfl (fun x10 h11 => ?_)
  refine s_181RF 0 10 15 10 f_18_0 rfl ⟨rfl, rfl, rfl⟩ jw_1610 rfl rfl (fun h12 => ?_)
  refine s_42 16 rfl rfl ?_
  refine s_187 0 16 19 16 jc_15 jw_1288 jw_1289 jw_16 rfl rfl (fun r13 h14 => ?_)
  refine s_89 20 rfl rfl ?_
  refine s_42 21 rfl rfl ?_
  refine s_180R 0 10 24 10 f_18_0 jw_1610 rfl rfl ?_
  refine s_183V 0 18 27 18 (m_15_init l _ _ _) rfl k_15_init rfl rfl jw_1290 jw_1291 rfl rfl rfl rfl rfl (fun x15 h16 => ?_)
  refine s_181RF 0 21 30 21 f_18_1 rfl ⟨rfl, rfl, rfl⟩ jw_1611 rfl rfl (fun h17 => ?_)
  refine s_42 31 rfl rfl ?_
  refine s_187 0 25 34 25 jc_14 jw_1384 jw_1385 jw_18 rfl rfl (fun r18 h19 => ?_)
  refine s_89 35 rfl rfl ?_
  refine s_42 36 rfl rfl ?_
  refine s_180R 0 10 39 10 f_18_0 jw_1610 rfl rfl ?_
  refine s_42 40 rfl rfl ?_
  refine s_180R 0 21 43 21 f_18_1 jw_1611 rfl rfl ?_
  refine s_183V 0 27 46 27 (m_14_init l _ _ _ _) rfl k_14_init rfl rfl jw_1386 jw_1387 rfl rfl rfl rfl rfl (fun x20 h21 => ?_)
  refine s_181RF 0 30 49 30 f_18_2 rfl ⟨rfl, rfl, rfl⟩ jw_1612 rfl rfl (fun h22 => ?_)
  refine s_42 50 rfl rfl ?_
  refine s_187 0 34 53 34 jc_16 jw_1443 jw_1444 jw_19 rfl rfl (fun r23 h24 => ?_)
  refine s_89 54 rfl rfl ?_
  refine s_17 1 44 57 300 jsp_1_44 rfl ?_
  refine s_18 36 59 1000000 jw_1445 rfl ?_
  refine s_183V 0 37 62 37 (m_16_init l _ _ _ _) rfl k_16_init rfl rfl jw_1446 jw_1447 rfl rfl rfl rfl rfl (fun x25 h26 => ?_)
  refine s_181RF 0 40 65 40 f_18_3 rfl ⟨rfl, rfl, rfl⟩ jw_1613 rfl rfl (fun h27 => ?_)
  refine s_42 66 rfl rfl ?_
  refine s_187 0 44 69 44 jc_17 jw_1508 jw_1509 jw_20 rfl rfl (fun r28 h29 => ?_)
  refine s_89 70 rfl rfl ?_
  refine s_183VN 0 46 73 46 (m_17_init l _ _) rfl k_17_init rfl rfl jnm_5 jw_1511 rfl rfl rfl rfl rfl (fun x30 h31 => ?_)
  refine s_181RF 0 47 76 47 f_18_4 rfl ⟨rfl, rfl, rfl⟩ jw_1614 rfl rfl (fun h32 => ?_)
  refine s_42 77 rfl rfl ?_
  refine s_187 0 44 80 44 jc_17 jw_1508 jw_1509 jw_20 rfl rfl (fun r33 h34 => ?_)
  refine s_89 81 rfl rfl ?_
  refine s_183VN 0 46 84 46 (m_17_init l _ _) rfl k_17_init rfl rfl jnm_5 jw_1511 rfl rfl rfl rfl rfl (fun x35 h36 => ?_)
  refine s_181RF 0 51 87 51 f_18_5 rfl ⟨rfl, rfl, rfl⟩ jw_1615 rfl rfl (fun h37 => ?_)
  refine s_42 88 rfl rfl ?_
  refine s_18 54 90 600000 jw_1581 rfl ?_
  refine s_188_8 92 jw_58 rfl (fun r38 h39 => ?_)
  refine s_181RF 0 55 95 55 f_18_6 rfl ⟨rfl, rfl, rfl⟩ jw_1616 rfl rfl (fun h40 => ?_)
  refine s_42 96 rfl rfl ?_
  refine s_17 1 44 99 300 jsp_1_44 rfl ?_
  refine s_188_10 101 jw_59 rfl (fun r41 h42 => ?_)
  refine s_181RF 0 59 104 59 f_18_7 rfl ⟨rfl, rfl, rfl⟩ jw_1617 rfl rfl (fun h43 => ?_)
  refine s_42 105 rfl rfl ?_
  refine s_17 37 128 108 9600 jsp_37_128 rfl ?_
  refine s_188_8 110 jw_58 rfl (fun r44 h45 => ?_)
  refine s_181RF 0 63 113 63 f_18_8 rfl ⟨rfl, rfl, rfl⟩ jw_1618 rfl rfl (fun h46 => ?_)
  refine s_42 114 rfl rfl ?_
  refine s_17 1 44 117 300 jsp_1_44 rfl ?_
  refine s_188_10 119 jw_59 rfl (fun r47 h48 => ?_)
  refine s_181RF 0 66 122 66 f_18_9 rfl ⟨rfl, rfl, rfl⟩ jw_1619 rfl rfl (fun h49 => ?_)
  refine s_42 123 rfl rfl ?_
  refine s_17 1 44 126 300 jsp_1_44 rfl ?_
  refine s_188_10 128 jw_59 rfl (fun r50 h51 => ?_)
  refine s_181RF 0 69 131 69 f_18_10 rfl ⟨rfl, rfl, rfl⟩ jw_1620 rfl rfl (fun h52 => ?_)
  refine s_42 132 rfl rfl ?_
  refine s_18 72 134 115200 jw_1582 rfl ?_
  refine s_188_8 136 jw_58 rfl (fun r53 h54 => ?_)
  refine s_181RF 0 73 139 73 f_18_11 rfl ⟨rfl, rfl, rfl⟩ jw_1621 rfl rfl (fun h55 => ?_)
  refine s_42 140 rfl rfl ?_
  refine s_17 1 128 143 384 jsp_1_128 rfl ?_
  refine s_188_8 145 jw_58 rfl (fun r56 h57 => ?_)
  refine s_181RF 0 76 148 76 f_18_12 rfl ⟨rfl, rfl, rfl⟩ jw_1622 rfl rfl (fun h58 => ?_)
  refine s_42 149 rfl rfl ?_
  refine s_16 13 151 13 jbp_13 rfl ?_
  refine s_188_10 153 jw_59 rfl (fun r59 h60 => ?_)
  refine s_181RF 0 79 156 79 f_18_15 rfl ⟨rfl, rfl, rfl⟩ jw_1625 rfl rfl (fun h61 => ?_)
  refine s_42 157 rfl rfl ?_
  refine s_18 82 159 54400 jw_1583 rfl ?_
  refine s_188_8 161 jw_58 rfl (fun r62 h63 => ?_)
  refine s_181RF 0 83 164 83 f_18_20 rfl ⟨rfl, rfl, rfl⟩ jw_1630 rfl rfl (fun h64 => ?_)
  refine s_42 165 rfl rfl ?_
  refine s_17 6 164 168 1700 jsp_6_164 rfl ?_
  refine s_188_11 170 jw_100 rfl (fun r65 h66 => ?_)
  refine s_181RF 0 86 173 86 f_18_21 rfl ⟨rfl, rfl, rfl⟩ jw_1631 rfl rfl (fun h67 => ?_)
  refine s_42 174 rfl rfl ?_
  refine s_17 6 164 177 1700 jsp_6_164 rfl ?_
  refine s_188_11 179 jw_100 rfl (fun r68 h69 => ?_)
  refine s_181RF 0 90 182 90 f_18_22 rfl ⟨rfl, rfl, rfl⟩ jw_1632 rfl rfl (fun h70 => ?_)
  refine s_42 183 rfl rfl ?_
  refine s_17 6 164 186 1700 jsp_6_164 rfl ?_
  refine s_188_10 188 jw_59 rfl (fun r71 h72 => ?_)
  refine s_181RF 0 93 191 93 f_18_23 rfl ⟨rfl, rfl, rfl⟩ jw_1633 rfl rfl (fun h73 => ?_)
  refine s_42 192 rfl rfl ?_
  refine s_17 6 164 195 1700 jsp_6_164 rfl ?_
  refine s_188_4 197 jw_243 rfl (fun r74 h75 => ?_)
  refine s_181RF 0 96 200 96 f_18_24 rfl ⟨rfl, rfl, rfl⟩ jw_1634 rfl rfl (fun h76 => ?_)
  refine s_42 201 rfl rfl ?_
  refine s_17 6 164 204 1700 jsp_6_164 rfl ?_
  refine s_188_10 206 jw_59 rfl (fun r77 h78 => ?_)
  refine s_181RF 0 100 209 100 f_18_25 rfl ⟨rfl, rfl, rfl⟩ jw_1635 rfl rfl (fun h79 => ?_)
  refine s_42 210 rfl rfl ?_
  refine s_17 6 164 213 1700 jsp_6_164 rfl ?_
  refine s_188_10 215 jw_59 rfl (fun r80 h81 => ?_)
  refine s_181RF 0 103 218 103 f_18_26 rfl ⟨rfl, rfl, rfl⟩ jw_1636 rfl rfl (fun h82 => ?_)
  refine s_42 219 rfl rfl ?_
  refine s_18 82 221 54400 jw_1583 rfl ?_
  refine s_188_8 223 jw_58 rfl (fun r83 h84 => ?_)
  refine s_181RF 0 106 226 106 f_18_29 rfl ⟨rfl, rfl, rfl⟩ jw_1639 rfl rfl (fun h85 => ?_)
  refine s_42 227 rfl rfl ?_
  refine s_17 6 164 230 1700 jsp_6_164 rfl ?_
  refine s_188_11 232 jw_100 rfl (fun r86 h87 => ?_)
  refine s_181RF 0 109 235 109 f_18_30 rfl ⟨rfl, rfl, rfl⟩ jw_1640 rfl rfl (fun h88 => ?_)
  refine s_42 236 rfl rfl ?_
  refine s_17 6 164 239 1700 jsp_6_164 rfl ?_
  refine s_188_11 241 jw_100 rfl (fun r89 h90 => ?_)
  refine s_181RF 0 112 244 112 f_18_31 rfl ⟨rfl, rfl, rfl⟩ jw_1641 rfl rfl (fun h91 => ?_)
  refine s_42 245 rfl rfl ?_
  refine s_17 6 164 248 1700 jsp_6_164 rfl ?_
  refine s_188_10 250 jw_59 rfl (fun r92 h93 => ?_)
  refine s_181RF 0 115 253 115 f_18_32 rfl ⟨rfl, rfl, rfl⟩ jw_1642 rfl rfl (fun h94 => ?_)
  refine s_42 254 rfl rfl ?_
  refine s_17 6 164 257 1700 jsp_6_164 rfl ?_
  refine s_188_4 259 jw_243 rfl (fun r95 h96 => ?_)
  refine s_181RF 0 118 262 118 f_18_33 rfl ⟨rfl, rfl, rfl⟩ jw_1643 rfl rfl (fun h97 => ?_)
  refine s_42 263 rfl rfl ?_
  refine s_17 6 164 266 1700 jsp_6_164 rfl ?_
  refine s_188_10 268 jw_59 rfl (fun r98 h99 => ?_)
  refine s_181RF 0 121 271 121 f_18_34 rfl ⟨rfl, rfl, rfl⟩ jw_1644 rfl rfl (fun h100 => ?_)
  refine s_42 272 rfl rfl ?_
  refine s_17 6 164 275 1700 jsp_6_164 rfl ?_
  refine s_188_10 277 jw_59 rfl (fun r101 h102 => ?_)
  refine s_181RF 0 124 280 124 f_18_35 rfl ⟨rfl, rfl, rfl⟩ jw_1645 rfl rfl (fun h103 => ?_)
  refine s_42 281 rfl rfl ?_
  refine s_18 127 283 84000 jw_1584 rfl ?_
  refine s_188_8 285 jw_58 rfl (fun r104 h105 => ?_)
  refine s_181RF 0 128 288 128 f_18_37 rfl ⟨rfl, rfl, rfl⟩ jw_1647 rfl rfl (fun h106 => ?_)
  refine s_42 289 rfl rfl ?_
  refine s_16 42 291 42 jbp_42 rfl ?_
  refine s_188_10 293 jw_59 rfl (fun r107 h108 => ?_)
  refine s_181RF 0 131 296 131 f_18_38 rfl ⟨rfl, rfl, rfl⟩ jw_1648 rfl rfl (fun h109 => ?_)
  refine s_42 297 rfl rfl ?_
  refine s_17 5 64 300 1344 jsp_5_64 rfl ?_
  refine s_188_8 302 jw_58 rfl (fun r110 h111 => ?_)
  refine s_181RF 0 134 305 134 f_18_39 rfl ⟨rfl, rfl, rfl⟩ jw_1649 rfl rfl (fun h112 => ?_)
  refine s_42 306 rfl rfl ?_
  refine s_16 42 308 42 jbp_42 rfl ?_
  refine s_188_11 310 jw_100 rfl (fun r113 h114 => ?_)
  refine s_181RF 0 137 313 137 f_18_40 rfl ⟨rfl, rfl, rfl⟩ jw_1650 rfl rfl (fun h115 => ?_)
  refine s_42 314 rfl rfl ?_
  refine s_16 42 316 42 jbp_42 rfl ?_
  refine s_188_10 318 jw_59 rfl (fun r116 h117 => ?_)
  refine s_181RF 0 140 321 140 f_18_41 rfl ⟨rfl, rfl, rfl⟩ jw_1651 rfl rfl (fun h118 => ?_)
  refine s_42 322 rfl rfl ?_
  refine s_17 1 80 325 336 jsp_1_80 rfl ?_
  refine s_188_10 327 jw_59 rfl (fun r119 h120 => ?_)
  refine s_181RF 0 143 330 143 f_18_42 rfl ⟨rfl, rfl, rfl⟩ jw_1652 rfl rfl (fun h121 => ?_)
  refine s_42 331 rfl rfl ?_
  refine s_17 1 80 334 336 jsp_1_80 rfl ?_
  refine s_188_11 336 jw_100 rfl (fun r122 h123 => ?_)
  refine s_181RF 0 146 339 146 f_18_43 rfl ⟨rfl, rfl, rfl⟩ jw_1653 rfl rfl (fun h124 => ?_)
  refine s_42 340 rfl rfl ?_
  refine s_16 42 342 42 jbp_42 rfl ?_
  refine s_188_4 344 jw_243 rfl (fun r125 h126 => ?_)
  refine s_181RF 0 149 347 149 f_18_44 rfl ⟨rfl, rfl, rfl⟩ jw_1654 rfl rfl (fun h127 => ?_)
  refine s_42 348 rfl rfl ?_
  refine s_18 127 350 84000 jw_1584 rfl ?_
  refine s_188_8 352 jw_58 rfl (fun r128 h129 => ?_)
  refine s_181RF 0 152 355 152 f_18_45 rfl ⟨rfl, rfl, rfl⟩ jw_1655 rfl rfl (fun h130 => ?_)
  refine s_42 356 rfl rfl ?_
  refine s_16 42 358 42 jbp_42 rfl ?_
  refine s_188_10 360 jw_59 rfl (fun r131 h132 => ?_)
  refine s_181RF 0 155 363 155 f_18_46 rfl ⟨rfl, rfl, rfl⟩ jw_1656 rfl rfl (fun h133 => ?_)
  refine s_42 364 rfl rfl ?_
  refine s_17 7 208 367 2000 jsp_7_208 rfl ?_
  refine s_188_8 369 jw_58 rfl (fun r134 h135 => ?_)
  refine s_181RF 0 158 372 158 f_18_47 rfl ⟨rfl, rfl, rfl⟩ jw_1657 rfl rfl (fun h136 => ?_)
  refine s_42 373 rfl rfl ?_
  refine s_16 32 375 32 jbp_32 rfl ?_
  refine s_188_8 377 jw_58 rfl (fun r137 h138 => ?_)
  refine s_181RF 0 161 380 161 f_18_49 rfl ⟨rfl, rfl, rfl⟩ jw_1659 rfl rfl (fun h139 => ?_)
  refine s_42 381 rfl rfl ?_
  refine s_17 1 192 384 448 jsp_1_192 rfl ?_
  refine s_188_8 386 jw_58 rfl (fun r140 h141 => ?_)
  refine s_181RF 0 164 389 164 f_18_50 rfl ⟨rfl, rfl, rfl⟩ jw_1660 rfl rfl (fun h142 => ?_)
  refine s_42 390 rfl rfl ?_
  refine s_16 32 392 32 jbp_32 rfl ?_
  refine s_188_8 394 jw_58 rfl (fun r143 h144 => ?_)
  refine s_181RF 0 167 397 167 f_18_51 rfl ⟨rfl, rfl, rfl⟩ jw_1661 rfl rfl (fun h145 => ?_)
  refine s_42 398 rfl rfl ?_
  refine s_17 125 0 401 32000 jsp_125_0 rfl ?_
  refine s_188_8 403 jw_58 rfl (fun r146 h147 => ?_)
  refine s_181RF 0 170 406 170 f_18_53 rfl ⟨rfl, rfl, rfl⟩ jw_1663 rfl rfl (fun h148 => ?_)
  refine s_42 407 rfl rfl ?_
  refine s_7 408 rfl ?_
  refine s_188_10 410 jw_59 rfl (fun r149 h150 => ?_)
  refine s_181RF 0 173 413 173 f_18_54 rfl ⟨rfl, rfl, rfl⟩ jw_1664 rfl rfl (fun h151 => ?_)
  refine s_42 414 rfl rfl ?_
  refine s_17 8 152 417 2200 jsp_8_152 rfl ?_
  refine s_188_8 419 jw_58 rfl (fun r152 h153 => ?_)
  refine s_181RF 0 176 422 176 f_18_55 rfl ⟨rfl, rfl, rfl⟩ jw_1665 rfl rfl (fun h154 => ?_)
  refine s_42 423 rfl rfl ?_
  refine s_180R 0 55 426 55 f_18_6 jw_1616 rfl rfl ?_
  refine s_3 427 rfl ?_
  refine s_4 428 rfl ?_
  refine s_84B 429 rfl (fun h155 => ?_)
  refine s_3 430 rfl ?_
  refine s_60 431 rfl rfl ?_
  exact s_jmp (w_18_init_431 l jfuel _ _ _) ⟨rfl, rfl, trivial⟩
theorem m_18_init (l : Launch) (a0 : Nat) (H : jH) : JMet l y_18_init prog_14_method_2_code mi_18_init jeV [.ref a0] H (F_18_init a0 H) := jmet_of n_18_init (by decide) ⟨rfl, rfl⟩ (Nat.le_of_ble_eq_true rfl) (v_18_init l a0 H)
def mi_18_coin : jM := (7452027745517430227017955362785821460509811015260484878161332708742720068935603486213691521459485906336938895964541618279023982083, 54, 6, "CoinNodeModel", some FieldType.int, "coin", 1, 26)
def y_18_coin : MethodName := ⟨"CoinNodeModel", "coin", "([BIJ)I"⟩
theorem n_18_coin : jn_is prog_14_method_3_code mi_18_coin.1 mi_18_coin.2.1 := by unfold jn_is; decide +kernel
theorem k_18_coin : jmok y_18_coin prog_14_method_3_code mi_18_coin 3 := ⟨jw_1875, jw_14, ⟨by decide, by decide⟩, by decide +kernel⟩
theorem v_18_coin_46 (l : Launch) (k3 : Nat → Nat → Int32 → Int64 → Int32 → jH → Option (Int32 × jH)) (hk3 : ∀ a0 a1 a2 a3 a5 H, JV l mi_18_coin jeI 3 [(0, .ref a0), (1, .ref a1), (2, .int a2), (3, .long a3), (5, .int a5)] [] H (k3 a0 a1 a2 a3 a5 H)) (a0 : Nat) (a1 : Nat) (a2 : Int32) (a3 : Int64) (a5 : Int32) (H : jH) : JV l mi_18_coin jeI 46 [(0, .ref a0), (1, .ref a1), (2, .int a2), (3, .long a3), (5, .int a5)] [] H (B_18_coin_46 k3 a0 a1 a2 a3 a5 H) := by
  unfold B_18_coin_46
  refine s_132L 5 1 49 1 ji_1 rfl rfl rfl (fun x1 => ?_)
  refine s_167 255 210 3 rfl rfl ?_
  exact s_jmp (hk3 _ _ _ _ _ _) ⟨rfl, rfl, rfl, rfl, rfl, trivial⟩
theorem v_18_coin_3 (l : Launch) (k3 : Nat → Nat → Int32 → Int64 → Int32 → jH → Option (Int32 × jH)) (hk3 : ∀ a0 a1 a2 a3 a5 H, JV l mi_18_coin jeI 3 [(0, .ref a0), (1, .ref a1), (2, .int a2), (3, .long a3), (5, .int a5)] [] H (k3 a0 a1 a2 a3 a5 H)) (a0 : Nat) (a1 : Nat) (a2 : Int32) (a3 : Int64) (a5 : Int32) (H : jH) : JV l mi_18_coin jeI 3 [(0, .ref a0), (1, .ref a1), (2, .int a2), (3, .long a3), (5, .int a5)] [] H (B_18_coin_3 k3 a0 a1 a2 a3 a5 H) := by
  unfold B_18_coin_3
  refine s_21 5 5 rfl rfl ?_
  refine s_42 6 rfl rfl ?_
  refine s_180I 0 183 9 183 f_18_17 jw_1627 rfl rfl ?_
  refine s_162 0 43 52 12 rfl rfl ?_ ?_
  · refine s_2 53 rfl ?_
    exact s_172 rfl rfl
  · refine s_42 13 rfl rfl ?_
    refine s_180R 0 86 16 86 f_18_21 jw_1631 rfl rfl ?_
    refine s_21 5 18 rfl rfl ?_
    refine s_47 19 rfl ?_
    refine s_33 20 rfl rfl ?_
    refine s_148_154 0 25 46 21 24 rfl rfl rfl ?_ ?_
    · exact s_jmp (v_18_coin_46 l k3 hk3 _ _ _ _ _ _) ⟨rfl, rfl, rfl, rfl, rfl, trivial⟩
    · refine s_42 25 rfl rfl ?_
      refine s_180R 0 83 28 83 f_18_20 jw_1630 rfl rfl ?_
      refine s_16 32 30 32 jbp_32 rfl ?_
      refine s_21 5 32 rfl rfl ?_
      refine s_104 33 rfl ?_
      refine s_43 34 rfl rfl ?_
      refine s_28 35 rfl rfl ?_
      refine s_16 32 37 32 jbp_32 rfl ?_
      refine s_184I 0 187 40 187 (m_18_like l _ _ _ _ _ _) rfl k_18_like jw_1876 jw_1877 rfl rfl rfl rfl rfl (fun x2 h3 => ?_)
      refine s_153 0 6 46 43 rfl rfl ?_ ?_
      · exact s_jmp (v_18_coin_46 l k3 hk3 _ _ _ _ _ _) ⟨rfl, rfl, rfl, rfl, rfl, trivial⟩
      · refine s_21 5 45 rfl rfl ?_
        exact s_172 rfl rfl
theorem w_18_coin_3 (l : Launch)  (n : Nat) : ∀ a0 a1 a2 a3 a5 H, JV l mi_18_coin jeI 3 [(0, .ref a0), (1, .ref a1), (2, .int a2), (3, .long a3), (5, .int a5)] [] H (F_18_coin_3  n a0 a1 a2 a3 a5 H) := by
  induction n with
  | zero => intro _ _ _ _ _ _; exact s_none
  | succ n ih => intro a0 a1 a2 a3 a5 H; exact v_18_coin_3 l (F_18_coin_3  n) ih a0 a1 a2 a3 a5 H
theorem v_18_coin (l : Launch) (a0 : Nat) (a1 : Nat) (a2 : Int32) (a3 : Int64) (H : jH) : JV l mi_18_coin jeI 0 [(0, .ref a0), (1, .ref a1), (2, .int a2), (3, .long a3)] [] H (F_18_coin a0 a1 a2 a3 H) := by
  unfold F_18_coin
  refine s_3 1 rfl ?_
  refine s_54 5 3 rfl rfl ?_
  exact s_jmp (w_18_coin_3 l jfuel _ _ _ _ _ _) ⟨rfl, rfl, rfl, rfl, rfl, trivial⟩
theorem m_18_coin (l : Launch) (a0 : Nat) (a1 : Nat) (a2 : Int32) (a3 : Int64) (H : jH) : JMet l y_18_coin prog_14_method_3_code mi_18_coin jeI [.ref a0, .ref a1, .int a2, .long a3] H (F_18_coin a0 a1 a2 a3 H) := jmet_of n_18_coin (by decide) ⟨rfl, rfl⟩ (Nat.le_of_ble_eq_true rfl) (v_18_coin l a0 a1 a2 a3 H)
def mi_18_dropCoin : jM := (11925768173694166963885142163752279410402307640785348664185055264355002861773368120767126622244394741816093452378899649334365121167097636839305754498590600544381929087068230898495930152878818995677506629483153764104159413073171040448546859773095726660750757859332665110349607709876881087388546215754796428539275353108106671197488911190684603446982477470711961898, 150, 3, "CoinNodeModel", none, "dropCoin", 0, 0)
def y_18_dropCoin : MethodName := ⟨"CoinNodeModel", "dropCoin", "(I)V"⟩
theorem n_18_dropCoin : jn_is prog_14_method_4_code mi_18_dropCoin.1 mi_18_dropCoin.2.1 := by unfold jn_is; decide +kernel
theorem k_18_dropCoin : jmok y_18_dropCoin prog_14_method_4_code mi_18_dropCoin 1 := ⟨jw_1882, jw_14, ⟨by decide, by decide⟩, by decide +kernel⟩
theorem v_18_dropCoin_22 (l : Launch) (k22 : Nat → Int32 → Int32 → jH → Option (Unit × jH)) (hk22 : ∀ a0 a1 a2 H, JV l mi_18_dropCoin jeV 22 [(0, .ref a0), (1, .int a1), (2, .int a2)] [] H (k22 a0 a1 a2 H)) (a0 : Nat) (a1 : Int32) (a2 : Int32) (H : jH) : JV l mi_18_dropCoin jeV 22 [(0, .ref a0), (1, .int a1), (2, .int a2)] [] H (B_18_dropCoin_22 k22 a0 a1 a2 H) := by
  unfold B_18_dropCoin_22
  refine s_28 23 rfl rfl ?_
  refine s_16 32 25 32 jbp_32 rfl ?_
  refine s_162 0 34 59 28 rfl rfl ?_ ?_
  · refine s_42 60 rfl rfl ?_
    refine s_180R 0 86 63 86 f_18_21 jw_1631 rfl rfl ?_
    refine s_27 64 rfl rfl ?_
    refine s_42 65 rfl rfl ?_
    refine s_180R 0 86 68 86 f_18_21 jw_1631 rfl rfl ?_
    refine s_42 69 rfl rfl ?_
    refine s_180I 0 183 72 183 f_18_17 jw_1627 rfl rfl ?_
    refine s_47 73 rfl ?_
    refine s_80 74 rfl (fun h1 => ?_)
    refine s_42 75 rfl rfl ?_
    refine s_180R 0 90 78 90 f_18_22 jw_1632 rfl rfl ?_
    refine s_27 79 rfl rfl ?_
    refine s_42 80 rfl rfl ?_
    refine s_180R 0 90 83 90 f_18_22 jw_1632 rfl rfl ?_
    refine s_42 84 rfl rfl ?_
    refine s_180I 0 183 87 183 f_18_17 jw_1627 rfl rfl ?_
    refine s_47 88 rfl ?_
    refine s_80 89 rfl (fun h2 => ?_)
    refine s_42 90 rfl rfl ?_
    refine s_180R 0 93 93 93 f_18_23 jw_1633 rfl rfl ?_
    refine s_27 94 rfl rfl ?_
    refine s_42 95 rfl rfl ?_
    refine s_180R 0 93 98 93 f_18_23 jw_1633 rfl rfl ?_
    refine s_42 99 rfl rfl ?_
    refine s_180I 0 183 102 183 f_18_17 jw_1627 rfl rfl ?_
    refine s_46 103 rfl ?_
    refine s_79 104 rfl (fun h3 => ?_)
    refine s_42 105 rfl rfl ?_
    refine s_180R 0 96 108 96 f_18_24 jw_1634 rfl rfl ?_
    refine s_27 109 rfl rfl ?_
    refine s_42 110 rfl rfl ?_
    refine s_180R 0 96 113 96 f_18_24 jw_1634 rfl rfl ?_
    refine s_42 114 rfl rfl ?_
    refine s_180I 0 183 117 183 f_18_17 jw_1627 rfl rfl ?_
    refine s_51Z 118 rfl ?_
    refine s_84Z 119 rfl (fun h4 => ?_)
    refine s_42 120 rfl rfl ?_
    refine s_180R 0 100 123 100 f_18_25 jw_1635 rfl rfl ?_
    refine s_27 124 rfl rfl ?_
    refine s_42 125 rfl rfl ?_
    refine s_180R 0 100 128 100 f_18_25 jw_1635 rfl rfl ?_
    refine s_42 129 rfl rfl ?_
    refine s_180I 0 183 132 183 f_18_17 jw_1627 rfl rfl ?_
    refine s_46 133 rfl ?_
    refine s_79 134 rfl (fun h5 => ?_)
    refine s_42 135 rfl rfl ?_
    refine s_180R 0 103 138 103 f_18_26 jw_1636 rfl rfl ?_
    refine s_27 139 rfl rfl ?_
    refine s_42 140 rfl rfl ?_
    refine s_180R 0 103 143 103 f_18_26 jw_1636 rfl rfl ?_
    refine s_42 144 rfl rfl ?_
    refine s_180I 0 183 147 183 f_18_17 jw_1627 rfl rfl ?_
    refine s_46 148 rfl ?_
    refine s_79 149 rfl (fun h6 => ?_)
    exact s_177 rfl rfl
  · refine s_42 29 rfl rfl ?_
    refine s_180R 0 83 32 83 f_18_20 jw_1630 rfl rfl ?_
    refine s_16 32 34 32 jbp_32 rfl ?_
    refine s_27 35 rfl rfl ?_
    refine s_104 36 rfl ?_
    refine s_28 37 rfl rfl ?_
    refine s_96 38 rfl ?_
    refine s_42 39 rfl rfl ?_
    refine s_180R 0 83 42 83 f_18_20 jw_1630 rfl rfl ?_
    refine s_16 32 44 32 jbp_32 rfl ?_
    refine s_42 45 rfl rfl ?_
    refine s_180I 0 183 48 183 f_18_17 jw_1627 rfl rfl ?_
    refine s_104 49 rfl ?_
    refine s_28 50 rfl rfl ?_
    refine s_96 51 rfl ?_
    refine s_51B 52 rfl ?_
    refine s_84B 53 rfl (fun h7 => ?_)
    refine s_132L 2 1 56 1 ji_1 rfl rfl rfl (fun x8 => ?_)
    refine s_167 255 222 22 rfl rfl ?_
    exact s_jmp (hk22 _ _ _ _) ⟨rfl, rfl, rfl, trivial⟩
theorem w_18_dropCoin_22 (l : Launch)  (n : Nat) : ∀ a0 a1 a2 H, JV l mi_18_dropCoin jeV 22 [(0, .ref a0), (1, .int a1), (2, .int a2)] [] H (F_18_dropCoin_22  n a0 a1 a2 H) := by
  induction n with
  | zero => intro _ _ _ _; exact s_none
  | succ n ih => intro a0 a1 a2 H; exact v_18_dropCoin_22 l (F_18_dropCoin_22  n) ih a0 a1 a2 H
theorem v_18_dropCoin (l : Launch) (a0 : Nat) (a1 : Int32) (H : jH) : JV l mi_18_dropCoin jeV 0 [(0, .ref a0), (1, .int a1)] [] H (F_18_dropCoin a0 a1 H) := by
  unfold F_18_dropCoin
  refine s_42 1 rfl rfl ?_
  refine s_89 2 rfl rfl ?_
  refine s_180I 0 183 5 183 f_18_17 jw_1627 rfl rfl ?_
  refine s_4 6 rfl ?_
  refine s_100 7 rfl ?_
  refine s_181I 0 183 10 183 f_18_17 rfl rfl jw_1627 rfl rfl (fun h9 => ?_)
  refine s_42 11 rfl rfl ?_
  refine s_89 12 rfl rfl ?_
  refine s_180I 0 191 15 191 f_18_18 jw_1628 rfl rfl ?_
  refine s_4 16 rfl ?_
  refine s_96 17 rfl ?_
  refine s_181I 0 191 20 191 f_18_18 rfl rfl jw_1628 rfl rfl (fun h10 => ?_)
  refine s_3 21 rfl ?_
  refine s_61 22 rfl rfl ?_
  exact s_jmp (w_18_dropCoin_22 l jfuel _ _ _ _) ⟨rfl, rfl, rfl, trivial⟩
theorem m_18_dropCoin (l : Launch) (a0 : Nat) (a1 : Int32) (H : jH) : JMet l y_18_dropCoin prog_14_method_4_code mi_18_dropCoin jeV [.ref a0, .int a1] H (F_18_dropCoin a0 a1 H) := jmet_of n_18_dropCoin (by decide) ⟨rfl, rfl⟩ (Nat.le_of_ble_eq_true rfl) (v_18_dropCoin l a0 a1 H)
def mi_18_apply : jM := (145525486396805636248344741098304551017109019890097999309039697762899290771787960127696321196907334524114986895751583195201199420383724203650692629012026975004877062106463390691430721891729419833768724878150441313341061079075570305860835037656802995257037059205715951551253937253922320607342709039167303826390766437839542751338755104271726038771085374354168269668685348364113903476354188264852051257382036978912596174151192648690840102238299596632199056170033091652151955764275517931727678674388962328067, 209, 5, "CoinNodeModel", none, "apply", 2, 51)
def y_18_apply : MethodName := ⟨"CoinNodeModel", "apply", "(IZ)V"⟩
theorem n_18_apply : jn_is prog_14_method_5_code mi_18_apply.1 mi_18_apply.2.1 := by unfold jn_is; decide +kernel
theorem k_18_apply : jmok y_18_apply prog_14_method_5_code mi_18_apply 2 := ⟨jw_1871, jw_14, ⟨by decide, by decide⟩, by decide +kernel⟩
theorem v_18_apply_72 (l : Launch) (k58 : Nat → Int32 → Int32 → Int32 → jH → Option (Unit × jH)) (hk58 : ∀ a0 a1 a2 a3 H, JV l mi_18_apply jeV 58 [(0, .ref a0), (1, .int a1), (2, .int a2), (3, .int a3)] [] H (k58 a0 a1 a2 a3 H)) (k72 : Nat → Int32 → Int32 → Int32 → Int32 → jH → Option (Unit × jH)) (hk72 : ∀ a0 a1 a2 a3 a4 H, JV l mi_18_apply jeV 72 [(0, .ref a0), (1, .int a1), (2, .int a2), (3, .int a3), (4, .int a4)] [] H (k72 a0 a1 a2 a3 a4 H)) (a0 : Nat) (a1 : Int32) (a2 : Int32) (a3 : Int32) (a4 : Int32) (H : jH) : JV l mi_18_apply jeV 72 [(0, .ref a0), (1, .int a1), (2, .int a2), (3, .int a3), (4, .int a4)] [] H (B_18_apply_72 k58 k72 a0 a1 a2 a3 a4 H) := by
  unfold B_18_apply_72
  refine s_21 4 74 rfl rfl ?_
  refine s_16 32 76 32 jbp_32 rfl ?_
  refine s_162 0 31 107 79 rfl rfl ?_ ?_
  · refine s_42 108 rfl rfl ?_
    refine s_180R 0 86 111 86 f_18_21 jw_1631 rfl rfl ?_
    refine s_42 112 rfl rfl ?_
    refine s_180I 0 183 115 183 f_18_17 jw_1627 rfl rfl ?_
    refine s_29 116 rfl rfl ?_
    refine s_133 117 rfl ?_
    refine s_80 118 rfl (fun h1 => ?_)
    refine s_42 119 rfl rfl ?_
    refine s_180R 0 90 122 90 f_18_22 jw_1632 rfl rfl ?_
    refine s_42 123 rfl rfl ?_
    refine s_180I 0 183 126 183 f_18_17 jw_1627 rfl rfl ?_
    refine s_42 127 rfl rfl ?_
    refine s_180R 0 47 130 47 f_18_4 jw_1614 rfl rfl ?_
    refine s_180RN 0 216 133 216 f_17_12 jnf_22 rfl rfl ?_
    refine s_29 134 rfl rfl ?_
    refine s_47 135 rfl ?_
    refine s_80 136 rfl (fun h2 => ?_)
    refine s_42 137 rfl rfl ?_
    refine s_180R 0 93 140 93 f_18_23 jw_1633 rfl rfl ?_
    refine s_42 141 rfl rfl ?_
    refine s_180I 0 183 144 183 f_18_17 jw_1627 rfl rfl ?_
    refine s_27 145 rfl rfl ?_
    refine s_79 146 rfl (fun h3 => ?_)
    refine s_42 147 rfl rfl ?_
    refine s_180R 0 96 150 96 f_18_24 jw_1634 rfl rfl ?_
    refine s_42 151 rfl rfl ?_
    refine s_180I 0 183 154 183 f_18_17 jw_1627 rfl rfl ?_
    refine s_28 155 rfl rfl ?_
    refine s_84Z 156 rfl (fun h4 => ?_)
    refine s_42 157 rfl rfl ?_
    refine s_180R 0 100 160 100 f_18_25 jw_1635 rfl rfl ?_
    refine s_42 161 rfl rfl ?_
    refine s_180I 0 183 164 183 f_18_17 jw_1627 rfl rfl ?_
    refine s_42 165 rfl rfl ?_
    refine s_180R 0 47 168 47 f_18_4 jw_1614 rfl rfl ?_
    refine s_180RN 0 219 171 219 f_17_13 jnf_24 rfl rfl ?_
    refine s_29 172 rfl rfl ?_
    refine s_46 173 rfl ?_
    refine s_79 174 rfl (fun h5 => ?_)
    refine s_42 175 rfl rfl ?_
    refine s_180R 0 103 178 103 f_18_26 jw_1636 rfl rfl ?_
    refine s_42 179 rfl rfl ?_
    refine s_180I 0 183 182 183 f_18_17 jw_1627 rfl rfl ?_
    refine s_42 183 rfl rfl ?_
    refine s_180R 0 47 186 47 f_18_4 jw_1614 rfl rfl ?_
    refine s_180RN 0 222 189 222 f_17_14 jnf_26 rfl rfl ?_
    refine s_29 190 rfl rfl ?_
    refine s_46 191 rfl ?_
    refine s_79 192 rfl (fun h6 => ?_)
    refine s_42 193 rfl rfl ?_
    refine s_89 194 rfl rfl ?_
    refine s_180I 0 183 197 183 f_18_17 jw_1627 rfl rfl ?_
    refine s_4 198 rfl ?_
    refine s_96 199 rfl ?_
    refine s_181I 0 183 202 183 f_18_17 rfl rfl jw_1627 rfl rfl (fun h7 => ?_)
    refine s_132L 3 1 205 1 ji_1 rfl rfl rfl (fun x8 => ?_)
    refine s_167 255 109 58 rfl rfl ?_
    exact s_jmp (hk58 _ _ _ _ _) ⟨rfl, rfl, rfl, rfl, trivial⟩
  · refine s_42 80 rfl rfl ?_
    refine s_180R 0 83 83 83 f_18_20 jw_1630 rfl rfl ?_
    refine s_16 32 85 32 jbp_32 rfl ?_
    refine s_42 86 rfl rfl ?_
    refine s_180I 0 183 89 183 f_18_17 jw_1627 rfl rfl ?_
    refine s_104 90 rfl ?_
    refine s_21 4 92 rfl rfl ?_
    refine s_96 93 rfl ?_
    refine s_42 94 rfl rfl ?_
    refine s_180R 0 161 97 161 f_18_49 jw_1659 rfl rfl ?_
    refine s_21 4 99 rfl rfl ?_
    refine s_51B 100 rfl ?_
    refine s_84B 101 rfl (fun h9 => ?_)
    refine s_132L 4 1 104 1 ji_1 rfl rfl rfl (fun x10 => ?_)
    refine s_167 255 224 72 rfl rfl ?_
    exact s_jmp (hk72 _ _ _ _ _ _) ⟨rfl, rfl, rfl, rfl, rfl, trivial⟩
theorem w_18_apply_72 (l : Launch) (k58 : Nat → Int32 → Int32 → Int32 → jH → Option (Unit × jH)) (hk58 : ∀ a0 a1 a2 a3 H, JV l mi_18_apply jeV 58 [(0, .ref a0), (1, .int a1), (2, .int a2), (3, .int a3)] [] H (k58 a0 a1 a2 a3 H)) (n : Nat) : ∀ a0 a1 a2 a3 a4 H, JV l mi_18_apply jeV 72 [(0, .ref a0), (1, .int a1), (2, .int a2), (3, .int a3), (4, .int a4)] [] H (F_18_apply_72 k58 n a0 a1 a2 a3 a4 H) := by
  induction n with
  | zero => intro _ _ _ _ _ _; exact s_none
  | succ n ih => intro a0 a1 a2 a3 a4 H; exact v_18_apply_72 l k58 hk58 (F_18_apply_72 k58 n) ih a0 a1 a2 a3 a4 H
theorem v_18_apply_58 (l : Launch) (k58 : Nat → Int32 → Int32 → Int32 → jH → Option (Unit × jH)) (hk58 : ∀ a0 a1 a2 a3 H, JV l mi_18_apply jeV 58 [(0, .ref a0), (1, .int a1), (2, .int a2), (3, .int a3)] [] H (k58 a0 a1 a2 a3 H)) (a0 : Nat) (a1 : Int32) (a2 : Int32) (a3 : Int32) (H : jH) : JV l mi_18_apply jeV 58 [(0, .ref a0), (1, .int a1), (2, .int a2), (3, .int a3)] [] H (B_18_apply_58 k58 a0 a1 a2 a3 H) := by
  unfold B_18_apply_58
  refine s_29 59 rfl rfl ?_
  refine s_42 60 rfl rfl ?_
  refine s_180R 0 47 63 47 f_18_4 jw_1614 rfl rfl ?_
  refine s_180IN 0 213 66 213 f_17_5 jnf_14 rfl rfl ?_
  refine s_162 0 142 208 69 rfl rfl ?_ ?_
  · exact s_177 rfl rfl
  · refine s_3 70 rfl ?_
    refine s_54 4 72 rfl rfl ?_
    exact s_jmp (w_18_apply_72 l k58 hk58 jfuel _ _ _ _ _ _) ⟨rfl, rfl, rfl, rfl, rfl, trivial⟩
theorem w_18_apply_58 (l : Launch)  (n : Nat) : ∀ a0 a1 a2 a3 H, JV l mi_18_apply jeV 58 [(0, .ref a0), (1, .int a1), (2, .int a2), (3, .int a3)] [] H (F_18_apply_58  n a0 a1 a2 a3 H) := by
  induction n with
  | zero => intro _ _ _ _ _; exact s_none
  | succ n ih => intro a0 a1 a2 a3 H; exact v_18_apply_58 l (F_18_apply_58  n) ih a0 a1 a2 a3 H
theorem v_18_apply_56 (l : Launch)  (a0 : Nat) (a1 : Int32) (a2 : Int32) (H : jH) : JV l mi_18_apply jeV 56 [(0, .ref a0), (1, .int a1), (2, .int a2)] [] H (B_18_apply_56  a0 a1 a2 H) := by
  unfold B_18_apply_56
  refine s_3 57 rfl ?_
  refine s_62 58 rfl rfl ?_
  exact s_jmp (w_18_apply_58 l jfuel _ _ _ _ _) ⟨rfl, rfl, rfl, rfl, trivial⟩
theorem v_18_apply_2 (l : Launch) (k2 : Nat → Int32 → Int32 → Int32 → jH → Option (Unit × jH)) (hk2 : ∀ a0 a1 a2 a3 H, JV l mi_18_apply jeV 2 [(0, .ref a0), (1, .int a1), (2, .int a2), (3, .int a3)] [] H (k2 a0 a1 a2 a3 H)) (a0 : Nat) (a1 : Int32) (a2 : Int32) (a3 : Int32) (H : jH) : JV l mi_18_apply jeV 2 [(0, .ref a0), (1, .int a1), (2, .int a2), (3, .int a3)] [] H (B_18_apply_2 k2 a0 a1 a2 a3 H) := by
  unfold B_18_apply_2
  refine s_29 3 rfl rfl ?_
  refine s_42 4 rfl rfl ?_
  refine s_180R 0 47 7 47 f_18_4 jw_1614 rfl rfl ?_
  refine s_180IN 0 194 10 194 f_17_4 jnf_12 rfl rfl ?_
  refine s_162 0 46 56 13 rfl rfl ?_ ?_
  · exact s_jmp (v_18_apply_56 l _ _ _ _) ⟨rfl, rfl, rfl, trivial⟩
  · refine s_28 14 rfl rfl ?_
    refine s_154 0 42 56 17 rfl rfl ?_ ?_
    · exact s_jmp (v_18_apply_56 l _ _ _ _) ⟨rfl, rfl, rfl, trivial⟩
    · refine s_42 18 rfl rfl ?_
      refine s_42 19 rfl rfl ?_
      refine s_42 20 rfl rfl ?_
      refine s_180R 0 47 23 47 f_18_4 jw_1614 rfl rfl ?_
      refine s_180RN 0 197 26 197 f_17_0 jnf_7 rfl rfl ?_
      refine s_42 27 rfl rfl ?_
      refine s_180R 0 47 30 47 f_18_4 jw_1614 rfl rfl ?_
      refine s_180RN 0 200 33 200 f_17_7 jnf_16 rfl rfl ?_
      refine s_29 34 rfl rfl ?_
      refine s_46 35 rfl ?_
      refine s_42 36 rfl rfl ?_
      refine s_180R 0 47 39 47 f_18_4 jw_1614 rfl rfl ?_
      refine s_180RN 0 202 42 202 f_17_8 jnf_17 rfl rfl ?_
      refine s_29 43 rfl rfl ?_
      refine s_47 44 rfl ?_
      refine s_182I 0 205 47 205 (m_18_coin l _ _ _ _ _) rfl k_18_coin jc_18 jw_1872 jw_1874 jps_66 rfl rfl rfl rfl rfl (fun x11 h12 => ?_)
      refine s_182V 0 209 50 209 (m_18_dropCoin l _ _ _) rfl k_18_dropCoin jc_18 jw_1879 jw_1881 jps_67 rfl rfl rfl rfl rfl (fun x13 h14 => ?_)
      refine s_132L 3 1 53 1 ji_1 rfl rfl rfl (fun x15 => ?_)
      refine s_167 255 205 2 rfl rfl ?_
      exact s_jmp (hk2 _ _ _ _ _) ⟨rfl, rfl, rfl, rfl, trivial⟩
theorem w_18_apply_2 (l : Launch)  (n : Nat) : ∀ a0 a1 a2 a3 H, JV l mi_18_apply jeV 2 [(0, .ref a0), (1, .int a1), (2, .int a2), (3, .int a3)] [] H (F_18_apply_2  n a0 a1 a2 a3 H) := by
  induction n with
  | zero => intro _ _ _ _ _; exact s_none
  | succ n ih => intro a0 a1 a2 a3 H; exact v_18_apply_2 l (F_18_apply_2  n) ih a0 a1 a2 a3 H
theorem v_18_apply (l : Launch) (a0 : Nat) (a1 : Int32) (a2 : Int32) (H : jH) : JV l mi_18_apply jeV 0 [(0, .ref a0), (1, .int a1), (2, .int a2)] [] H (F_18_apply a0 a1 a2 H) := by
  unfold F_18_apply
  refine s_3 1 rfl ?_
  refine s_62 2 rfl rfl ?_
  exact s_jmp (w_18_apply_2 l jfuel _ _ _ _ _) ⟨rfl, rfl, rfl, rfl, trivial⟩
theorem m_18_apply (l : Launch) (a0 : Nat) (a1 : Int32) (a2 : Int32) (H : jH) : JMet l y_18_apply prog_14_method_5_code mi_18_apply jeV [.ref a0, .int a1, .int a2] H (F_18_apply a0 a1 a2 H) := jmet_of n_18_apply (by decide) ⟨rfl, rfl⟩ (Nat.le_of_ble_eq_true rfl) (v_18_apply l a0 a1 a2 H)
def mi_17_bytes : jM := (814096897805813832266794, 10, 1, "CoinNodeModel$Tx", some FieldType.int, "bytes", 0, 0)
def y_17_bytes : MethodName := ⟨"CoinNodeModel$Tx", "bytes", "()I"⟩
theorem n_17_bytes : jn_is prog_21_method_6_code mi_17_bytes.1 mi_17_bytes.2.1 := by unfold jn_is; decide +kernel
theorem k_17_bytes : jmok y_17_bytes prog_21_method_6_code mi_17_bytes 0 := ⟨jw_1890, jw_20, ⟨by decide, by decide⟩, by decide +kernel⟩
theorem v_17_bytes (l : Launch) (a0 : Nat) (H : jH) : JV l mi_17_bytes jeI 0 [(0, .ref a0)] [] H (F_17_bytes a0 H) := by
  unfold F_17_bytes
  refine s_42 1 rfl rfl ?_
  refine s_180I 0 41 4 41 f_17_3 jw_1521 rfl rfl ?_
  refine s_42 5 rfl rfl ?_
  refine s_180I 0 72 8 72 f_17_1 jw_1518 rfl rfl ?_
  refine s_100 9 rfl ?_
  exact s_172 rfl rfl
theorem m_17_bytes (l : Launch) (a0 : Nat) (H : jH) : JMet l y_17_bytes prog_21_method_6_code mi_17_bytes jeI [.ref a0] H (F_17_bytes a0 H) := jmet_of n_17_bytes (by decide) ⟨rfl, rfl⟩ (Nat.le_of_ble_eq_true rfl) (v_17_bytes l a0 H)
