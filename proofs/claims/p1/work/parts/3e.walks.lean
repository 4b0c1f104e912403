def mi_18_want : jM := (93962148919146586278587368528678422363022369897225767742632339254831290881597613431563297362646304555669207314617767194009080658626637290178640107151854931416925552685310367094455039288051419532064856372532098157632150744724895604247347553290038106650648462758177995622186, 113, 6, "CoinNodeModel", none, "want", 2, 49)
def y_18_want : MethodName := ⟨"CoinNodeModel", "want", "(II)V"⟩
theorem n_18_want : jn_is prog_14_method_47_code mi_18_want.1 mi_18_want.2.1 := by unfold jn_is; decide +kernel
theorem k_18_want : jmok y_18_want prog_14_method_47_code mi_18_want 2 := ⟨jw_2463, jw_14, ⟨by decide, by decide⟩, by decide +kernel⟩
theorem v_18_want_89 (l : Launch) (k15 : Nat → Int32 → Int32 → Int32 → Int32 → jH → Option (Unit × jH)) (hk15 : ∀ a0 a1 a2 a3 a4 H, JV l mi_18_want jeV 15 [(0, .ref a0), (1, .int a1), (2, .int a2), (3, .int a3), (4, .int a4)] [] H (k15 a0 a1 a2 a3 a4 H)) (a0 : Nat) (a1 : Int32) (a2 : Int32) (a3 : Int32) (a4 : Int32) (H : jH) : JV l mi_18_want jeV 89 [(0, .ref a0), (1, .int a1), (2, .int a2), (3, .int a3), (4, .int a4)] [] H (B_18_want_89 k15 a0 a1 a2 a3 a4 H) := by
  unfold B_18_want_89
  refine s_132L 4 1 92 1 ji_1 rfl rfl rfl (fun x1 => ?_)
  refine s_167 255 179 15 rfl rfl ?_
  exact s_jmp (hk15 _ _ _ _ _ _) ⟨rfl, rfl, rfl, rfl, rfl, trivial⟩
theorem v_18_want_68 (l : Launch) (k15 : Nat → Int32 → Int32 → Int32 → Int32 → jH → Option (Unit × jH)) (hk15 : ∀ a0 a1 a2 a3 a4 H, JV l mi_18_want jeV 15 [(0, .ref a0), (1, .int a1), (2, .int a2), (3, .int a3), (4, .int a4)] [] H (k15 a0 a1 a2 a3 a4 H)) (a0 : Nat) (a1 : Int32) (a2 : Int32) (a3 : Int32) (a4 : Int32) (a5 : Int32) (s0 : Int32) (H : jH) : JV l mi_18_want jeV 68 [(0, .ref a0), (1, .int a1), (2, .int a2), (3, .int a3), (4, .int a4), (5, .int a5)] [.int s0] H (B_18_want_68 k15 a0 a1 a2 a3 a4 a5 s0 H) := by
  unfold B_18_want_68
  refine s_155 0 6 74 71 rfl rfl ?_ ?_
  · refine s_42 75 rfl rfl ?_
    refine s_42 76 rfl rfl ?_
    refine s_180R 0 158 79 158 f_18_47 jw_1657 rfl rfl ?_
    refine s_21 5 81 rfl rfl ?_
    refine s_16 33 83 33 jbp_33 rfl ?_
    refine s_182V 1 223 86 479 (m_18_copy l _ _ _ _ _) rfl k_18_copy jc_18 jw_2307 jw_2309 jps_143 rfl rfl rfl rfl rfl (fun x2 h3 => ?_)
    refine s_132L 3 1 89 1 ji_1 rfl rfl rfl (fun x4 => ?_)
    exact s_jmp (v_18_want_89 l k15 hk15 _ _ _ _ _ _) ⟨rfl, rfl, rfl, rfl, rfl, trivial⟩
  · refine s_167 0 18 89 rfl rfl ?_
    exact s_jmp (v_18_want_89 l k15 hk15 _ _ _ _ _ _) ⟨rfl, rfl, rfl, rfl, rfl, trivial⟩
theorem v_18_want_112 (l : Launch)   (H : jH) : JV l mi_18_want jeV 112 [] [] H (B_18_want_112   H) := by
  unfold B_18_want_112
  exact s_177 rfl rfl
theorem v_18_want_15 (l : Launch) (k15 : Nat → Int32 → Int32 → Int32 → Int32 → jH → Option (Unit × jH)) (hk15 : ∀ a0 a1 a2 a3 a4 H, JV l mi_18_want jeV 15 [(0, .ref a0), (1, .int a1), (2, .int a2), (3, .int a3), (4, .int a4)] [] H (k15 a0 a1 a2 a3 a4 H)) (a0 : Nat) (a1 : Int32) (a2 : Int32) (a3 : Int32) (a4 : Int32) (H : jH) : JV l mi_18_want jeV 15 [(0, .ref a0), (1, .int a1), (2, .int a2), (3, .int a3), (4, .int a4)] [] H (B_18_want_15 k15 a0 a1 a2 a3 a4 H) := by
  unfold B_18_want_15
  refine s_21 4 17 rfl rfl ?_
  refine s_28 18 rfl rfl ?_
  refine s_162 0 77 95 21 rfl rfl ?_ ?_
  · refine s_42 96 rfl rfl ?_
    refine s_180R 0 176 99 176 f_18_55 jw_1665 rfl rfl ?_
    refine s_4 100 rfl ?_
    refine s_29 101 rfl rfl ?_
    refine s_145 102 rfl ?_
    refine s_84B 103 rfl (fun h5 => ?_)
    refine s_29 104 rfl rfl ?_
    refine s_158 0 8 112 107 rfl rfl ?_ ?_
    · exact s_jmp (v_18_want_112 l _) trivial
    · refine s_42 108 rfl rfl ?_
      refine s_27 109 rfl rfl ?_
      refine s_182V 1 220 112 476 (m_18_tell l _ _ _) rfl k_18_tell jc_18 jw_2299 jw_2301 jps_141 rfl rfl rfl rfl rfl (fun x6 h7 => ?_)
      exact s_jmp (v_18_want_112 l _) trivial
  · refine s_5 22 rfl ?_
    refine s_16 33 24 33 jbp_33 rfl ?_
    refine s_21 4 26 rfl rfl ?_
    refine s_104 27 rfl ?_
    refine s_96 28 rfl ?_
    refine s_54L 5 30 rfl rfl (fun x8 => ?_)
    refine s_42 31 rfl rfl ?_
    refine s_180R 0 158 34 158 f_18_47 jw_1657 rfl rfl ?_
    refine s_21 5 36 rfl rfl ?_
    refine s_51B 37 rfl ?_
    refine s_4 38 rfl ?_
    refine s_160 0 18 56 41 rfl rfl ?_ ?_
    · refine s_42 57 rfl rfl ?_
      refine s_42 58 rfl rfl ?_
      refine s_180R 0 158 61 158 f_18_47 jw_1657 rfl rfl ?_
      refine s_21 5 63 rfl rfl ?_
      refine s_4 64 rfl ?_
      refine s_96 65 rfl ?_
      refine s_182I 1 175 68 431 (m_18_known l _ _ _ _) rfl k_18_known jc_18 jw_2315 jw_2317 jps_145 rfl rfl rfl rfl rfl (fun x9 h10 => ?_)
      exact s_jmp (v_18_want_68 l k15 hk15 _ _ _ _ _ _ _ _) ⟨rfl, rfl, rfl, rfl, rfl, rfl, trivial⟩
    · refine s_42 42 rfl rfl ?_
      refine s_42 43 rfl rfl ?_
      refine s_180R 0 158 46 158 f_18_47 jw_1657 rfl rfl ?_
      refine s_21 5 48 rfl rfl ?_
      refine s_4 49 rfl ?_
      refine s_96 50 rfl ?_
      refine s_182I 1 119 53 375 (m_18_inPool l _ _ _ _) rfl k_18_inPool jc_18 jw_1913 jw_1915 jps_69 rfl rfl rfl rfl rfl (fun x11 h12 => ?_)
      refine s_167 0 15 68 rfl rfl ?_
      exact s_jmp (v_18_want_68 l k15 hk15 _ _ _ _ _ _ _ _) ⟨rfl, rfl, rfl, rfl, rfl, rfl, trivial⟩
theorem w_18_want_15 (l : Launch)  (n : Nat) : ∀ a0 a1 a2 a3 a4 H, JV l mi_18_want jeV 15 [(0, .ref a0), (1, .int a1), (2, .int a2), (3, .int a3), (4, .int a4)] [] H (F_18_want_15  n a0 a1 a2 a3 a4 H) := by
  induction n with
  | zero => intro _ _ _ _ _ _; exact s_none
  | succ n ih => intro a0 a1 a2 a3 a4 H; exact v_18_want_15 l (F_18_want_15  n) ih a0 a1 a2 a3 a4 H
theorem v_18_want (l : Launch) (a0 : Nat) (a1 : Int32) (a2 : Int32) (H : jH) : JV l mi_18_want jeV 0 [(0, .ref a0), (1, .int a1), (2, .int a2)] [] H (F_18_want a0 a1 a2 H) := by
  unfold F_18_want
  refine s_42 1 rfl rfl ?_
  refine s_7 2 rfl ?_
  refine s_182V 1 217 5 473 (m_18_begin l _ _ _) rfl k_18_begin jc_18 jw_2291 jw_2293 jps_139 rfl rfl rfl rfl rfl (fun x13 h14 => ?_)
  refine s_42 6 rfl rfl ?_
  refine s_3 7 rfl ?_
  refine s_182V 1 214 10 470 (m_18_put l _ _ _) rfl k_18_put jc_18 jw_2295 jw_2297 jps_140 rfl rfl rfl rfl rfl (fun x15 h16 => ?_)
  refine s_3 11 rfl ?_
  refine s_62 12 rfl rfl ?_
  refine s_3 13 rfl ?_
  refine s_54 4 15 rfl rfl ?_
  exact s_jmp (w_18_want_15 l jfuel _ _ _ _ _ _) ⟨rfl, rfl, rfl, rfl, rfl, trivial⟩
theorem m_18_want (l : Launch) (a0 : Nat) (a1 : Int32) (a2 : Int32) (H : jH) : JMet l y_18_want prog_14_method_47_code mi_18_want jeV [.ref a0, .int a1, .int a2] H (F_18_want a0 a1 a2 H) := jmet_of n_18_want (by decide) ⟨rfl, rfl⟩ (Nat.le_of_ble_eq_true rfl) (v_18_want l a0 a1 a2 H)
def mi_18_isList : jM := (25579644506623415191871872773264476900658056390752637773498322061238490473463614606524085102788880863331038239470962303745088617025330566771672445132217163895822324076088755162281611218359570123259847657636428971335610279298463604761739512978955111343644747361967869705586186595185263899, 119, 7, "CoinNodeModel", some FieldType.boolean, "isList", 0, 0)
def y_18_isList : MethodName := ⟨"CoinNodeModel", "isList", "(IIII)Z"⟩
theorem n_18_isList : jn_is prog_14_method_48_code mi_18_isList.1 mi_18_isList.2.1 := by unfold jn_is; decide +kernel
theorem k_18_isList : jmok y_18_isList prog_14_method_48_code mi_18_isList 4 := ⟨jw_2451, jw_14, ⟨by decide, by decide⟩, by decide +kernel⟩
theorem v_18_isList_40 (l : Launch)   (H : jH) : JV l mi_18_isList jeI 40 [] [] H (B_18_isList_40   H) := by
  unfold B_18_isList_40
  refine s_3 41 rfl ?_
  exact s_172Z rfl rfl
theorem v_18_isList_108 (l : Launch) (k48 : Nat → Int32 → Int32 → Int32 → jH → Option (Int32 × jH)) (hk48 : ∀ a0 a4 a5 a6 H, JV l mi_18_isList jeI 48 [(0, .ref a0), (4, .int a4), (5, .int a5), (6, .int a6)] [] H (k48 a0 a4 a5 a6 H)) (a0 : Nat) (a4 : Int32) (a6 : Int32) (s0 : Int32) (H : jH) : JV l mi_18_isList jeI 108 [(0, .ref a0), (4, .int a4), (6, .int a6)] [.int s0] H (B_18_isList_108 k48 a0 a4 a6 s0 H) := by
  unfold B_18_isList_108
  refine s_54 5 110 rfl rfl ?_
  refine s_132L 6 1 113 1 ji_1 rfl rfl rfl (fun x1 => ?_)
  refine s_167 255 191 48 rfl rfl ?_
  exact s_jmp (hk48 _ _ _ _ _) ⟨rfl, rfl, rfl, rfl, trivial⟩
theorem v_18_isList_103 (l : Launch) (k48 : Nat → Int32 → Int32 → Int32 → jH → Option (Int32 × jH)) (hk48 : ∀ a0 a4 a5 a6 H, JV l mi_18_isList jeI 48 [(0, .ref a0), (4, .int a4), (5, .int a5), (6, .int a6)] [] H (k48 a0 a4 a5 a6 H)) (a0 : Nat) (a4 : Int32) (a6 : Int32) (H : jH) : JV l mi_18_isList jeI 103 [(0, .ref a0), (4, .int a4), (6, .int a6)] [] H (B_18_isList_103 k48 a0 a4 a6 H) := by
  unfold B_18_isList_103
  refine s_4 104 rfl ?_
  refine s_167 0 4 108 rfl rfl ?_
  exact s_jmp (v_18_isList_108 l k48 hk48 _ _ _ _ _) ⟨rfl, rfl, rfl, trivial⟩
theorem v_18_isList_107 (l : Launch) (k48 : Nat → Int32 → Int32 → Int32 → jH → Option (Int32 × jH)) (hk48 : ∀ a0 a4 a5 a6 H, JV l mi_18_isList jeI 48 [(0, .ref a0), (4, .int a4), (5, .int a5), (6, .int a6)] [] H (k48 a0 a4 a5 a6 H)) (a0 : Nat) (a4 : Int32) (a6 : Int32) (H : jH) : JV l mi_18_isList jeI 107 [(0, .ref a0), (4, .int a4), (6, .int a6)] [] H (B_18_isList_107 k48 a0 a4 a6 H) := by
  unfold B_18_isList_107
  refine s_3 108 rfl ?_
  exact s_jmp (v_18_isList_108 l k48 hk48 _ _ _ _ _) ⟨rfl, rfl, rfl, trivial⟩
theorem v_18_isList_116 (l : Launch)  (a5 : Int32) (H : jH) : JV l mi_18_isList jeI 116 [(5, .int a5)] [] H (B_18_isList_116  a5 H) := by
  unfold B_18_isList_116
  refine s_21 5 118 rfl rfl ?_
  exact s_172Z rfl rfl
theorem v_18_isList_48 (l : Launch) (k48 : Nat → Int32 → Int32 → Int32 → jH → Option (Int32 × jH)) (hk48 : ∀ a0 a4 a5 a6 H, JV l mi_18_isList jeI 48 [(0, .ref a0), (4, .int a4), (5, .int a5), (6, .int a6)] [] H (k48 a0 a4 a5 a6 H)) (a0 : Nat) (a4 : Int32) (a5 : Int32) (a6 : Int32) (H : jH) : JV l mi_18_isList jeI 48 [(0, .ref a0), (4, .int a4), (5, .int a5), (6, .int a6)] [] H (B_18_isList_48 k48 a0 a4 a5 a6 H) := by
  unfold B_18_isList_48
  refine s_21 6 50 rfl rfl ?_
  refine s_42 51 rfl rfl ?_
  refine s_180R 0 158 54 158 f_18_47 jw_1657 rfl rfl ?_
  refine s_4 55 rfl ?_
  refine s_51B 56 rfl ?_
  refine s_162 0 60 116 59 rfl rfl ?_ ?_
  · exact s_jmp (v_18_isList_116 l _ _) ⟨rfl, trivial⟩
  · refine s_21 4 61 rfl rfl ?_
    refine s_16 33 63 33 jbp_33 rfl ?_
    refine s_160 0 53 116 66 rfl rfl ?_ ?_
    · exact s_jmp (v_18_isList_116 l _ _) ⟨rfl, trivial⟩
    · refine s_21 5 68 rfl rfl ?_
      refine s_153 0 39 107 71 rfl rfl ?_ ?_
      · exact s_jmp (v_18_isList_107 l k48 hk48 _ _ _ _) ⟨rfl, rfl, rfl, trivial⟩
      · refine s_42 72 rfl rfl ?_
        refine s_180R 0 158 75 158 f_18_47 jw_1657 rfl rfl ?_
        refine s_5 76 rfl ?_
        refine s_16 33 78 33 jbp_33 rfl ?_
        refine s_21 6 80 rfl rfl ?_
        refine s_104 81 rfl ?_
        refine s_96 82 rfl ?_
        refine s_51B 83 rfl ?_
        refine s_4 84 rfl ?_
        refine s_159 0 19 103 87 rfl rfl ?_ ?_
        · exact s_jmp (v_18_isList_103 l k48 hk48 _ _ _ _) ⟨rfl, rfl, rfl, trivial⟩
        · refine s_42 88 rfl rfl ?_
          refine s_180R 0 158 91 158 f_18_47 jw_1657 rfl rfl ?_
          refine s_5 92 rfl ?_
          refine s_16 33 94 33 jbp_33 rfl ?_
          refine s_21 6 96 rfl rfl ?_
          refine s_104 97 rfl ?_
          refine s_96 98 rfl ?_
          refine s_51B 99 rfl ?_
          refine s_5 100 rfl ?_
          refine s_160 0 7 107 103 rfl rfl ?_ ?_
          · exact s_jmp (v_18_isList_107 l k48 hk48 _ _ _ _) ⟨rfl, rfl, rfl, trivial⟩
          · exact s_jmp (v_18_isList_103 l k48 hk48 _ _ _ _) ⟨rfl, rfl, rfl, trivial⟩
theorem w_18_isList_48 (l : Launch)  (n : Nat) : ∀ a0 a4 a5 a6 H, JV l mi_18_isList jeI 48 [(0, .ref a0), (4, .int a4), (5, .int a5), (6, .int a6)] [] H (F_18_isList_48  n a0 a4 a5 a6 H) := by
  induction n with
  | zero => intro _ _ _ _ _; exact s_none
  | succ n ih => intro a0 a4 a5 a6 H; exact v_18_isList_48 l (F_18_isList_48  n) ih a0 a4 a5 a6 H
theorem v_18_isList (l : Launch) (a0 : Nat) (a1 : Int32) (a2 : Int32) (a3 : Int32) (a4 : Int32) (H : jH) : JV l mi_18_isList jeI 0 [(0, .ref a0), (1, .int a1), (2, .int a2), (3, .int a3), (4, .int a4)] [] H (F_18_isList a0 a1 a2 a3 a4 H) := by
  unfold F_18_isList
  refine s_27 1 rfl rfl ?_
  refine s_5 2 rfl ?_
  refine s_161 0 38 40 5 rfl rfl ?_ ?_
  · exact s_jmp (v_18_isList_40 l _) trivial
  · refine s_42 6 rfl rfl ?_
    refine s_180R 0 158 9 158 f_18_47 jw_1657 rfl rfl ?_
    refine s_4 10 rfl ?_
    refine s_51B 11 rfl ?_
    refine s_28 12 rfl rfl ?_
    refine s_161 0 28 40 15 rfl rfl ?_ ?_
    · exact s_jmp (v_18_isList_40 l _) trivial
    · refine s_42 16 rfl rfl ?_
      refine s_180R 0 158 19 158 f_18_47 jw_1657 rfl rfl ?_
      refine s_4 20 rfl ?_
      refine s_51B 21 rfl ?_
      refine s_29 22 rfl rfl ?_
      refine s_163 0 18 40 25 rfl rfl ?_ ?_
      · exact s_jmp (v_18_isList_40 l _) trivial
      · refine s_27 26 rfl rfl ?_
        refine s_5 27 rfl ?_
        refine s_21 4 29 rfl rfl ?_
        refine s_42 30 rfl rfl ?_
        refine s_180R 0 158 33 158 f_18_47 jw_1657 rfl rfl ?_
        refine s_4 34 rfl ?_
        refine s_51B 35 rfl ?_
        refine s_104 36 rfl ?_
        refine s_96 37 rfl ?_
        refine s_159 0 5 42 40 rfl rfl ?_ ?_
        · refine s_4 43 rfl ?_
          refine s_54 5 45 rfl rfl ?_
          refine s_3 46 rfl ?_
          refine s_54 6 48 rfl rfl ?_
          exact s_jmp (w_18_isList_48 l jfuel _ _ _ _ _) ⟨rfl, rfl, rfl, rfl, trivial⟩
        · exact s_jmp (v_18_isList_40 l _) trivial
theorem m_18_isList (l : Launch) (a0 : Nat) (a1 : Int32) (a2 : Int32) (a3 : Int32) (a4 : Int32) (H : jH) : JMet l y_18_isList prog_14_method_48_code mi_18_isList jeI [.ref a0, .int a1, .int a2, .int a3, .int a4] H (F_18_isList a0 a1 a2 a3 a4 H) := jmet_of n_18_isList (by decide) ⟨rfl, rfl⟩ (Nat.le_of_ble_eq_true rfl) (v_18_isList l a0 a1 a2 a3 a4 H)
def mi_18_message : jM := (1956247002924292249608097733190233257593383264245819881871260974826869810617700529379192785641843196063630103481048751851169610795363663601988813228065794984411330678591359839985023833759759061671092687078360393321671949003738539526225263895897434835840824465121619012985226753107094919121458877313305233904401891374404281862901256373284398861095532389077889243019687678307908355611072054658183542570465495338749620132804545771978675927746767453191685646043371122252615011566064160475682114870104896305122459698459454885249414109993644291272493499405867192321550765825240706108007748685564262465265427843402892514892514493554547887087135834032744141672199210, 273, 6, "CoinNodeModel", none, "message", 19, 457)
def y_18_message : MethodName := ⟨"CoinNodeModel", "message", "(II)V"⟩
theorem n_18_message : jn_is prog_14_method_49_code mi_18_message.1 mi_18_message.2.1 := by unfold jn_is; decide +kernel
theorem k_18_message : jmok y_18_message prog_14_method_49_code mi_18_message 2 := ⟨jw_1812, jw_14, ⟨by decide, by decide⟩, by decide +kernel⟩
theorem v_18_message_272 (l : Launch)   (H : jH) : JV l mi_18_message jeV 272 [] [] H (B_18_message_272   H) := by
  unfold B_18_message_272
  exact s_177 rfl rfl
theorem v_18_message_55 (l : Launch)   (H : jH) : JV l mi_18_message jeV 55 [] [] H (B_18_message_55   H) := by
  unfold B_18_message_55
  refine s_167 0 217 272 rfl rfl ?_
  exact s_jmp (v_18_message_272 l _) trivial
theorem v_18_message_161 (l : Launch)   (H : jH) : JV l mi_18_message jeV 161 [] [] H (B_18_message_161   H) := by
  unfold B_18_message_161
  refine s_167 0 111 272 rfl rfl ?_
  exact s_jmp (v_18_message_272 l _) trivial
theorem v_18_message_135 (l : Launch)  (a0 : Nat) (a1 : Int32) (a4 : Int32) (H : jH) : JV l mi_18_message jeV 135 [(0, .ref a0), (1, .int a1), (4, .int a4)] [] H (B_18_message_135  a0 a1 a4 H) := by
  unfold B_18_message_135
  refine s_42 136 rfl rfl ?_
  refine s_180I 1 84 139 340 f_18_13 jw_1623 rfl rfl ?_
  refine s_21 4 141 rfl rfl ?_
  refine s_159 0 20 161 144 rfl rfl ?_ ?_
  · exact s_jmp (v_18_message_161 l _) trivial
  · refine s_42 145 rfl rfl ?_
    refine s_27 146 rfl rfl ?_
    refine s_5 147 rfl ?_
    refine s_42 148 rfl rfl ?_
    refine s_180R 0 63 151 63 f_18_8 jw_1618 rfl rfl ?_
    refine s_16 32 153 32 jbp_32 rfl ?_
    refine s_42 154 rfl rfl ?_
    refine s_180I 1 84 157 340 f_18_13 jw_1623 rfl rfl ?_
    refine s_104 158 rfl ?_
    refine s_182V 1 232 161 488 (m_18_tellOthers l _ _ _ _ _ _) rfl k_18_tellOthers jc_18 jw_2303 jw_2305 jps_142 rfl rfl rfl rfl rfl (fun x1 h2 => ?_)
    exact s_jmp (v_18_message_161 l _) trivial
theorem v_18_message_108 (l : Launch)  (a0 : Nat) (a1 : Int32) (a4 : Int32) (a5 : Int32) (H : jH) : JV l mi_18_message jeV 108 [(0, .ref a0), (1, .int a1), (4, .int a4), (5, .int a5)] [] H (B_18_message_108  a0 a1 a4 a5 H) := by
  unfold B_18_message_108
  refine s_21 5 110 rfl rfl ?_
  refine s_16 21 112 21 jbp_21 rfl ?_
  refine s_160 0 11 123 115 rfl rfl ?_ ?_
  · refine s_42 124 rfl rfl ?_
    refine s_27 125 rfl rfl ?_
    refine s_21 5 127 rfl rfl ?_
    refine s_42 128 rfl rfl ?_
    refine s_180R 0 161 131 161 f_18_49 jw_1659 rfl rfl ?_
    refine s_3 132 rfl ?_
    refine s_182V 1 228 135 484 (m_18_verdict l _ _ _ _ _ _) rfl k_18_verdict jc_18 jw_2287 jw_2289 jps_138 rfl rfl rfl rfl rfl (fun x3 h4 => ?_)
    exact s_jmp (v_18_message_135 l _ _ _ _) ⟨rfl, rfl, rfl, trivial⟩
  · refine s_42 116 rfl rfl ?_
    refine s_27 117 rfl rfl ?_
    refine s_182V 1 238 120 494 (m_18_askBehind l _ _ _) rfl k_18_askBehind jc_18 jw_2440 jw_2442 jps_160 rfl rfl rfl rfl rfl (fun x5 h6 => ?_)
    refine s_167 0 15 135 rfl rfl ?_
    exact s_jmp (v_18_message_135 l _ _ _ _) ⟨rfl, rfl, rfl, trivial⟩
theorem v_18_message_89 (l : Launch)  (a0 : Nat) (a1 : Int32) (a4 : Int32) (a5 : Int32) (H : jH) : JV l mi_18_message jeV 89 [(0, .ref a0), (1, .int a1), (4, .int a4), (5, .int a5)] [] H (B_18_message_89  a0 a1 a4 a5 H) := by
  unfold B_18_message_89
  refine s_42 90 rfl rfl ?_
  refine s_180R 0 10 93 10 f_18_0 jw_1610 rfl rfl ?_
  refine s_42 94 rfl rfl ?_
  refine s_180R 0 158 97 158 f_18_47 jw_1657 rfl rfl ?_
  refine s_4 98 rfl ?_
  refine s_16 80 100 80 jbp_80 rfl ?_
  refine s_42 101 rfl rfl ?_
  refine s_180R 0 161 104 161 f_18_49 jw_1659 rfl rfl ?_
  refine s_3 105 rfl ?_
  refine s_182V 0 180 108 180 (m_12_name l _ _ _ _ _ _ _) rfl k_12_name jc_12 jw_1586 jw_1587 jw_1588 rfl rfl rfl rfl rfl (fun x7 h8 => ?_)
  exact s_jmp (v_18_message_108 l _ _ _ _ _) ⟨rfl, rfl, rfl, rfl, trivial⟩
theorem v_18_message_261 (l : Launch)  (a0 : Nat) (a1 : Int32) (H : jH) : JV l mi_18_message jeV 261 [(0, .ref a0), (1, .int a1)] [] H (B_18_message_261  a0 a1 H) := by
  unfold B_18_message_261
  refine s_42 262 rfl rfl ?_
  refine s_27 263 rfl rfl ?_
  refine s_4 264 rfl ?_
  refine s_42 265 rfl rfl ?_
  refine s_180R 0 161 268 161 f_18_49 jw_1659 rfl rfl ?_
  refine s_3 269 rfl ?_
  refine s_182V 1 228 272 484 (m_18_verdict l _ _ _ _ _ _) rfl k_18_verdict jc_18 jw_2287 jw_2289 jps_138 rfl rfl rfl rfl rfl (fun x9 h10 => ?_)
  exact s_jmp (v_18_message_272 l _) trivial
theorem v_18_message_228 (l : Launch)  (a0 : Nat) (a1 : Int32) (a2 : Int32) (a3 : Int32) (H : jH) : JV l mi_18_message jeV 228 [(0, .ref a0), (1, .int a1), (2, .int a2), (3, .int a3)] [] H (B_18_message_228  a0 a1 a2 a3 H) := by
  unfold B_18_message_228
  refine s_29 229 rfl rfl ?_
  refine s_16 6 231 6 jbp_6 rfl ?_
  refine s_160 0 30 261 234 rfl rfl ?_ ?_
  · exact s_jmp (v_18_message_261 l _ _ _) ⟨rfl, rfl, trivial⟩
  · refine s_42 235 rfl rfl ?_
    refine s_28 236 rfl rfl ?_
    refine s_4 237 rfl ?_
    refine s_16 8 239 8 jbp_8 rfl ?_
    refine s_16 33 241 33 jbp_33 rfl ?_
    refine s_182I 1 241 244 497 (m_18_isList l _ _ _ _ _ _) rfl k_18_isList jc_18 jw_2448 jw_2450 jps_161 rfl rfl rfl rfl rfl (fun x11 h12 => ?_)
    refine s_153 0 17 261 247 rfl rfl ?_ ?_
    · exact s_jmp (v_18_message_261 l _ _ _) ⟨rfl, rfl, trivial⟩
    · refine s_42 248 rfl rfl ?_
      refine s_27 249 rfl rfl ?_
      refine s_42 250 rfl rfl ?_
      refine s_180R 0 158 253 158 f_18_47 jw_1657 rfl rfl ?_
      refine s_4 254 rfl ?_
      refine s_51B 255 rfl ?_
      refine s_182V 1 251 258 507 (m_18_want l _ _ _ _) rfl k_18_want jc_18 jw_2460 jw_2462 jps_164 rfl rfl rfl rfl rfl (fun x13 h14 => ?_)
      refine s_167 0 14 272 rfl rfl ?_
      exact s_jmp (v_18_message_272 l _) trivial
theorem v_18_message_196 (l : Launch)  (a0 : Nat) (a1 : Int32) (a2 : Int32) (a3 : Int32) (H : jH) : JV l mi_18_message jeV 196 [(0, .ref a0), (1, .int a1), (2, .int a2), (3, .int a3)] [] H (B_18_message_196  a0 a1 a2 a3 H) := by
  unfold B_18_message_196
  refine s_29 197 rfl rfl ?_
  refine s_7 198 rfl ?_
  refine s_160 0 30 228 201 rfl rfl ?_ ?_
  · exact s_jmp (v_18_message_228 l _ _ _ _ _) ⟨rfl, rfl, rfl, rfl, trivial⟩
  · refine s_42 202 rfl rfl ?_
    refine s_28 203 rfl rfl ?_
    refine s_4 204 rfl ?_
    refine s_16 8 206 8 jbp_8 rfl ?_
    refine s_16 33 208 33 jbp_33 rfl ?_
    refine s_182I 1 241 211 497 (m_18_isList l _ _ _ _ _ _) rfl k_18_isList jc_18 jw_2448 jw_2450 jps_161 rfl rfl rfl rfl rfl (fun x15 h16 => ?_)
    refine s_153 0 17 228 214 rfl rfl ?_ ?_
    · exact s_jmp (v_18_message_228 l _ _ _ _ _) ⟨rfl, rfl, rfl, rfl, trivial⟩
    · refine s_42 215 rfl rfl ?_
      refine s_27 216 rfl rfl ?_
      refine s_42 217 rfl rfl ?_
      refine s_180R 0 158 220 158 f_18_47 jw_1657 rfl rfl ?_
      refine s_4 221 rfl ?_
      refine s_51B 222 rfl ?_
      refine s_182V 1 248 225 504 (m_18_give l _ _ _ _) rfl k_18_give jc_18 jw_2456 jw_2458 jps_163 rfl rfl rfl rfl rfl (fun x17 h18 => ?_)
      refine s_167 0 47 272 rfl rfl ?_
      exact s_jmp (v_18_message_272 l _) trivial
theorem v_18_message (l : Launch) (a0 : Nat) (a1 : Int32) (a2 : Int32) (H : jH) : JV l mi_18_message jeV 0 [(0, .ref a0), (1, .int a1), (2, .int a2)] [] H (F_18_message a0 a1 a2 H) := by
  unfold F_18_message
  refine s_42 1 rfl rfl ?_
  refine s_180R 0 158 4 158 f_18_47 jw_1657 rfl rfl ?_
  refine s_3 5 rfl ?_
  refine s_51B 6 rfl ?_
  refine s_62L 7 rfl rfl (fun x19 => ?_)
  refine s_29 8 rfl rfl ?_
  refine s_4 9 rfl ?_
  refine s_160 0 49 58 12 rfl rfl ?_ ?_
  · refine s_29 59 rfl rfl ?_
    refine s_5 60 rfl ?_
    refine s_160 0 104 164 63 rfl rfl ?_ ?_
    · refine s_29 165 rfl rfl ?_
      refine s_6 166 rfl ?_
      refine s_160 0 30 196 169 rfl rfl ?_ ?_
      · exact s_jmp (v_18_message_196 l _ _ _ _ _) ⟨rfl, rfl, rfl, rfl, trivial⟩
      · refine s_42 170 rfl rfl ?_
        refine s_28 171 rfl rfl ?_
        refine s_3 172 rfl ?_
        refine s_16 20 174 20 jbp_20 rfl ?_
        refine s_16 32 176 32 jbp_32 rfl ?_
        refine s_182I 1 241 179 497 (m_18_isList l _ _ _ _ _ _) rfl k_18_isList jc_18 jw_2448 jw_2450 jps_161 rfl rfl rfl rfl rfl (fun x20 h21 => ?_)
        refine s_153 0 17 196 182 rfl rfl ?_ ?_
        · exact s_jmp (v_18_message_196 l _ _ _ _ _) ⟨rfl, rfl, rfl, rfl, trivial⟩
        · refine s_42 183 rfl rfl ?_
          refine s_27 184 rfl rfl ?_
          refine s_42 185 rfl rfl ?_
          refine s_180R 0 158 188 158 f_18_47 jw_1657 rfl rfl ?_
          refine s_4 189 rfl ?_
          refine s_51B 190 rfl ?_
          refine s_182V 1 245 193 501 (m_18_heads l _ _ _ _) rfl k_18_heads jc_18 jw_2452 jw_2454 jps_162 rfl rfl rfl rfl rfl (fun x22 h23 => ?_)
          refine s_167 0 79 272 rfl rfl ?_
          exact s_jmp (v_18_message_272 l _) trivial
    · refine s_42 64 rfl rfl ?_
      refine s_180I 1 84 67 340 f_18_13 jw_1623 rfl rfl ?_
      refine s_54L 4 69 rfl rfl (fun x24 => ?_)
      refine s_42 70 rfl rfl ?_
      refine s_28 71 rfl rfl ?_
      refine s_4 72 rfl ?_
      refine s_100 73 rfl ?_
      refine s_182I 1 235 76 491 (m_18_arrives l _ _ _) rfl k_18_arrives jc_18 jw_2311 jw_2313 jps_144 rfl rfl rfl rfl rfl (fun x25 h26 => ?_)
      refine s_54 5 78 rfl rfl ?_
      refine s_21 5 80 rfl rfl ?_
      refine s_4 81 rfl ?_
      refine s_163 0 8 89 84 rfl rfl ?_ ?_
      · exact s_jmp (v_18_message_89 l _ _ _ _ _) ⟨rfl, rfl, rfl, rfl, trivial⟩
      · refine s_21 5 86 rfl rfl ?_
        refine s_154 0 22 108 89 rfl rfl ?_ ?_
        · exact s_jmp (v_18_message_108 l _ _ _ _ _) ⟨rfl, rfl, rfl, rfl, trivial⟩
        · exact s_jmp (v_18_message_89 l _ _ _ _ _) ⟨rfl, rfl, rfl, rfl, trivial⟩
  · refine s_42 13 rfl rfl ?_
    refine s_42 14 rfl rfl ?_
    refine s_180R 0 158 17 158 f_18_47 jw_1657 rfl rfl ?_
    refine s_4 18 rfl ?_
    refine s_28 19 rfl rfl ?_
    refine s_4 20 rfl ?_
    refine s_100 21 rfl ?_
    refine s_4 22 rfl ?_
    refine s_182I 1 157 25 413 (m_18_comes l _ _ _ _ _ _) rfl k_18_comes jc_18 jw_1813 jw_1815 jps_56 rfl rfl rfl rfl rfl (fun x27 h28 => ?_)
    refine s_54 4 27 rfl rfl ?_
    refine s_42 28 rfl rfl ?_
    refine s_27 29 rfl rfl ?_
    refine s_21 4 31 rfl rfl ?_
    refine s_42 32 rfl rfl ?_
    refine s_180R 0 161 35 161 f_18_49 jw_1659 rfl rfl ?_
    refine s_3 36 rfl ?_
    refine s_182V 1 228 39 484 (m_18_verdict l _ _ _ _ _ _) rfl k_18_verdict jc_18 jw_2287 jw_2289 jps_138 rfl rfl rfl rfl rfl (fun x29 h30 => ?_)
    refine s_21 4 41 rfl rfl ?_
    refine s_154 0 14 55 44 rfl rfl ?_ ?_
    · exact s_jmp (v_18_message_55 l _) trivial
    · refine s_42 45 rfl rfl ?_
      refine s_27 46 rfl rfl ?_
      refine s_4 47 rfl ?_
      refine s_42 48 rfl rfl ?_
      refine s_180R 0 161 51 161 f_18_49 jw_1659 rfl rfl ?_
      refine s_3 52 rfl ?_
      refine s_182V 1 232 55 488 (m_18_tellOthers l _ _ _ _ _ _) rfl k_18_tellOthers jc_18 jw_2303 jw_2305 jps_142 rfl rfl rfl rfl rfl (fun x31 h32 => ?_)
      exact s_jmp (v_18_message_55 l _) trivial
theorem m_18_message (l : Launch) (a0 : Nat) (a1 : Int32) (a2 : Int32) (H : jH) : JMet l y_18_message prog_14_method_49_code mi_18_message jeV [.ref a0, .int a1, .int a2] H (F_18_message a0 a1 a2 H) := jmet_of n_18_message (by decide) ⟨rfl, rfl⟩ (Nat.le_of_ble_eq_true rfl) (v_18_message l a0 a1 a2 H)
def mi_18_write : jM := (1632899581915444349151354184728120799055821467182117493891042470904315307113782303079866042369059567678799107, 45, 3, "CoinNodeModel", none, "write", 0, 0)
def y_18_write : MethodName := ⟨"CoinNodeModel", "write", "(I)V"⟩
theorem n_18_write : jn_is prog_14_method_50_code mi_18_write.1 mi_18_write.2.1 := by unfold jn_is; decide +kernel
theorem k_18_write : jmok y_18_write prog_14_method_50_code mi_18_write 1 := ⟨jw_1801, jw_14, ⟨by decide, by decide⟩, by decide +kernel⟩
theorem v_18_write_2 (l : Launch) (k2 : Nat → Int32 → Int32 → jH → Option (Unit × jH)) (hk2 : ∀ a0 a1 a2 H, JV l mi_18_write jeV 2 [(0, .ref a0), (1, .int a1), (2, .int a2)] [] H (k2 a0 a1 a2 H)) (a0 : Nat) (a1 : Int32) (a2 : Int32) (H : jH) : JV l mi_18_write jeV 2 [(0, .ref a0), (1, .int a1), (2, .int a2)] [] H (B_18_write_2 k2 a0 a1 a2 H) := by
  unfold B_18_write_2
  refine s_28 3 rfl rfl ?_
  refine s_7 4 rfl ?_
  refine s_162 0 30 34 7 rfl rfl ?_ ?_
  · refine s_42 35 rfl rfl ?_
    refine s_89 36 rfl rfl ?_
    refine s_180I 1 254 39 510 f_18_48 jw_1658 rfl rfl ?_
    refine s_7 40 rfl ?_
    refine s_96 41 rfl ?_
    refine s_181I 1 254 44 510 f_18_48 rfl rfl jw_1658 rfl rfl (fun h1 => ?_)
    exact s_177 rfl rfl
  · refine s_42 8 rfl rfl ?_
    refine s_180R 0 158 11 158 f_18_47 jw_1657 rfl rfl ?_
    refine s_42 12 rfl rfl ?_
    refine s_180I 1 254 15 510 f_18_48 jw_1658 rfl rfl ?_
    refine s_28 16 rfl rfl ?_
    refine s_96 17 rfl ?_
    refine s_27 18 rfl rfl ?_
    refine s_16 24 20 24 jbp_24 rfl ?_
    refine s_16 8 22 8 jbp_8 rfl ?_
    refine s_28 23 rfl rfl ?_
    refine s_104 24 rfl ?_
    refine s_100 25 rfl ?_
    refine s_122 26 rfl ?_
    refine s_145 27 rfl ?_
    refine s_84B 28 rfl (fun h2 => ?_)
    refine s_132L 2 1 31 1 ji_1 rfl rfl rfl (fun x3 => ?_)
    refine s_167 255 227 2 rfl rfl ?_
    exact s_jmp (hk2 _ _ _ _) ⟨rfl, rfl, rfl, trivial⟩
theorem w_18_write_2 (l : Launch)  (n : Nat) : ∀ a0 a1 a2 H, JV l mi_18_write jeV 2 [(0, .ref a0), (1, .int a1), (2, .int a2)] [] H (F_18_write_2  n a0 a1 a2 H) := by
  induction n with
  | zero => intro _ _ _ _; exact s_none
  | succ n ih => intro a0 a1 a2 H; exact v_18_write_2 l (F_18_write_2  n) ih a0 a1 a2 H
theorem v_18_write (l : Launch) (a0 : Nat) (a1 : Int32) (H : jH) : JV l mi_18_write jeV 0 [(0, .ref a0), (1, .int a1)] [] H (F_18_write a0 a1 H) := by
  unfold F_18_write
  refine s_3 1 rfl ?_
  refine s_61 2 rfl rfl ?_
  exact s_jmp (w_18_write_2 l jfuel _ _ _ _) ⟨rfl, rfl, rfl, trivial⟩
theorem m_18_write (l : Launch) (a0 : Nat) (a1 : Int32) (H : jH) : JMet l y_18_write prog_14_method_50_code mi_18_write jeV [.ref a0, .int a1] H (F_18_write a0 a1 H) := jmet_of n_18_write (by decide) ⟨rfl, rfl⟩ (Nat.le_of_ble_eq_true rfl) (v_18_write l a0 a1 H)
def mi_18_feed : jM := (6164338019262235846828908654874449502887295891293981823771053270241273774296044887392363495634411421021226, 44, 6, "CoinNodeModel", some FieldType.boolean, "feed", 1, 22)
def y_18_feed : MethodName := ⟨"CoinNodeModel", "feed", "(IIIII)Z"⟩
theorem n_18_feed : jn_is prog_14_method_51_code mi_18_feed.1 mi_18_feed.2.1 := by unfold jn_is; decide +kernel
theorem k_18_feed : jmok y_18_feed prog_14_method_51_code mi_18_feed 5 := ⟨jw_1797, jw_14, ⟨by decide, by decide⟩, by decide +kernel⟩
theorem v_18_feed (l : Launch) (a0 : Nat) (a1 : Int32) (a2 : Int32) (a3 : Int32) (a4 : Int32) (a5 : Int32) (H : jH) : JV l mi_18_feed jeI 0 [(0, .ref a0), (1, .int a1), (2, .int a2), (3, .int a3), (4, .int a4), (5, .int a5)] [] H (F_18_feed a0 a1 a2 a3 a4 a5 H) := by
  unfold F_18_feed
  refine s_42 1 rfl rfl ?_
  refine s_180I 1 254 4 510 f_18_48 jw_1658 rfl rfl ?_
  refine s_16 20 6 20 jbp_20 rfl ?_
  refine s_96 7 rfl ?_
  refine s_17 7 208 10 2000 jsp_7_208 rfl ?_
  refine s_164 0 5 15 13 rfl rfl ?_ ?_
  · refine s_42 16 rfl rfl ?_
    refine s_27 17 rfl rfl ?_
    refine s_182V 2 1 20 513 (m_18_write l _ _ _) rfl k_18_write jc_18 jw_1798 jw_1800 jps_54 rfl rfl rfl rfl rfl (fun x1 h2 => ?_)
    refine s_42 21 rfl rfl ?_
    refine s_28 22 rfl rfl ?_
    refine s_182V 2 1 25 513 (m_18_write l _ _ _) rfl k_18_write jc_18 jw_1798 jw_1800 jps_54 rfl rfl rfl rfl rfl (fun x3 h4 => ?_)
    refine s_42 26 rfl rfl ?_
    refine s_29 27 rfl rfl ?_
    refine s_182V 2 1 30 513 (m_18_write l _ _ _) rfl k_18_write jc_18 jw_1798 jw_1800 jps_54 rfl rfl rfl rfl rfl (fun x5 h6 => ?_)
    refine s_42 31 rfl rfl ?_
    refine s_21 4 33 rfl rfl ?_
    refine s_182V 2 1 36 513 (m_18_write l _ _ _) rfl k_18_write jc_18 jw_1798 jw_1800 jps_54 rfl rfl rfl rfl rfl (fun x7 h8 => ?_)
    refine s_42 37 rfl rfl ?_
    refine s_21 5 39 rfl rfl ?_
    refine s_182V 2 1 42 513 (m_18_write l _ _ _) rfl k_18_write jc_18 jw_1798 jw_1800 jps_54 rfl rfl rfl rfl rfl (fun x9 h10 => ?_)
    refine s_4 43 rfl ?_
    exact s_172Z rfl rfl
  · refine s_3 14 rfl ?_
    exact s_172Z rfl rfl
theorem m_18_feed (l : Launch) (a0 : Nat) (a1 : Int32) (a2 : Int32) (a3 : Int32) (a4 : Int32) (a5 : Int32) (H : jH) : JMet l y_18_feed prog_14_method_51_code mi_18_feed jeI [.ref a0, .int a1, .int a2, .int a3, .int a4, .int a5] H (F_18_feed a0 a1 a2 a3 a4 a5 H) := jmet_of n_18_feed (by decide) ⟨rfl, rfl⟩ (Nat.le_of_ble_eq_true rfl) (v_18_feed l a0 a1 a2 a3 a4 a5 H)
def mi_18_isPeer : jM := (893136224011360994690257405958200090, 15, 1, "CoinNodeModel", some FieldType.boolean, "isPeer", 0, 0)
def y_18_isPeer : MethodName := ⟨"CoinNodeModel", "isPeer", "(I)Z"⟩
theorem n_18_isPeer : jn_is prog_14_method_52_code mi_18_isPeer.1 mi_18_isPeer.2.1 := by unfold jn_is; decide +kernel
theorem k_18_isPeer : jmok y_18_isPeer prog_14_method_52_code mi_18_isPeer 1 := ⟨jw_1808, jw_14, ⟨by decide, by decide⟩, by decide +kernel⟩
theorem v_18_isPeer_14 (l : Launch)  (s0 : Int32) (H : jH) : JV l mi_18_isPeer jeI 14 [] [.int s0] H (B_18_isPeer_14  s0 H) := by
  unfold B_18_isPeer_14
  exact s_172Z rfl rfl
theorem v_18_isPeer_13 (l : Launch)   (H : jH) : JV l mi_18_isPeer jeI 13 [] [] H (B_18_isPeer_13   H) := by
  unfold B_18_isPeer_13
  refine s_3 14 rfl ?_
  exact s_jmp (v_18_isPeer_14 l _ _) trivial
theorem v_18_isPeer (l : Launch) (a0 : Int32) (H : jH) : JV l mi_18_isPeer jeI 0 [(0, .int a0)] [] H (F_18_isPeer a0 H) := by
  unfold F_18_isPeer
  refine s_26 1 rfl rfl ?_
  refine s_155 0 12 13 4 rfl rfl ?_ ?_
  · exact s_jmp (v_18_isPeer_13 l _) trivial
  · refine s_26 5 rfl rfl ?_
    refine s_7 6 rfl ?_
    refine s_162 0 7 13 9 rfl rfl ?_ ?_
    · exact s_jmp (v_18_isPeer_13 l _) trivial
    · refine s_4 10 rfl ?_
      refine s_167 0 4 14 rfl rfl ?_
      exact s_jmp (v_18_isPeer_14 l _ _) trivial
theorem m_18_isPeer (l : Launch) (a0 : Int32) (H : jH) : JMet l y_18_isPeer prog_14_method_52_code mi_18_isPeer jeI [.int a0] H (F_18_isPeer a0 H) := jmet_of n_18_isPeer (by decide) ⟨rfl, rfl⟩ (Nat.le_of_ble_eq_true rfl) (v_18_isPeer l a0 H)
def mi_18_send : jM := (1305350044834551236821572576557130550300886691083237333403004184387532952578855974939, 35, 3, "CoinNodeModel", some FieldType.boolean, "send", 20, 482)
def y_18_send : MethodName := ⟨"CoinNodeModel", "send", "(II)Z"⟩
theorem n_18_send : jn_is prog_14_method_53_code mi_18_send.1 mi_18_send.2.1 := by unfold jn_is; decide +kernel
theorem k_18_send : jmok y_18_send prog_14_method_53_code mi_18_send 2 := ⟨jw_1805, jw_14, ⟨by decide, by decide⟩, by decide +kernel⟩
theorem v_18_send_20 (l : Launch)   (H : jH) : JV l mi_18_send jeI 20 [] [] H (B_18_send_20   H) := by
  unfold B_18_send_20
  refine s_3 21 rfl ?_
  exact s_172Z rfl rfl
theorem v_18_send (l : Launch) (a0 : Nat) (a1 : Int32) (a2 : Int32) (H : jH) : JV l mi_18_send jeI 0 [(0, .ref a0), (1, .int a1), (2, .int a2)] [] H (F_18_send a0 a1 a2 H) := by
  unfold F_18_send
  refine s_27 1 rfl rfl ?_
  refine s_184I 2 4 4 516 (m_18_isPeer l _ _) rfl k_18_isPeer jw_1806 jw_1807 rfl rfl rfl rfl rfl (fun x1 h2 => ?_)
  refine s_153 0 16 20 7 rfl rfl ?_ ?_
  · exact s_jmp (v_18_send_20 l _) trivial
  · refine s_28 8 rfl rfl ?_
    refine s_4 9 rfl ?_
    refine s_161 0 11 20 12 rfl rfl ?_ ?_
    · exact s_jmp (v_18_send_20 l _) trivial
    · refine s_28 13 rfl rfl ?_
      refine s_42 14 rfl rfl ?_
      refine s_180I 1 254 17 510 f_18_48 jw_1658 rfl rfl ?_
      refine s_164 0 5 22 20 rfl rfl ?_ ?_
      · refine s_42 23 rfl rfl ?_
        refine s_3 24 rfl ?_
        refine s_181I 1 254 27 510 f_18_48 rfl rfl jw_1658 rfl rfl (fun h3 => ?_)
        refine s_42 28 rfl rfl ?_
        refine s_27 29 rfl rfl ?_
        refine s_28 30 rfl rfl ?_
        refine s_182V 2 7 33 519 (m_18_message l _ _ _ _) rfl k_18_message jc_18 jw_1809 jw_1811 jps_55 rfl rfl rfl rfl rfl (fun x4 h5 => ?_)
        refine s_4 34 rfl ?_
        exact s_172Z rfl rfl
      · exact s_jmp (v_18_send_20 l _) trivial
theorem m_18_send (l : Launch) (a0 : Nat) (a1 : Int32) (a2 : Int32) (H : jH) : JMet l y_18_send prog_14_method_53_code mi_18_send jeI [.ref a0, .int a1, .int a2] H (F_18_send a0 a1 a2 H) := jmet_of n_18_send (by decide) ⟨rfl, rfl⟩ (Nat.le_of_ble_eq_true rfl) (v_18_send l a0 a1 a2 H)
def mi_18_fetch : jM := (50013507931593407933533671657121489159077663043923044680941101775198072915502968166797270510818046455036490425562253045760039597726005979207799534069608884521871277359267741745089130850765111795158039868653668547960201319156328105866173539221001875309460430154554189906198061093094828314731091368477488780227872062263772109152271647248923508238745498171875079996810901531, 154, 6, "CoinNodeModel", some FieldType.long, "fetch", 1, 20)
def y_18_fetch : MethodName := ⟨"CoinNodeModel", "fetch", "(I)J"⟩
theorem n_18_fetch : jn_is prog_14_method_54_code mi_18_fetch.1 mi_18_fetch.2.1 := by unfold jn_is; decide +kernel
theorem k_18_fetch : jmok y_18_fetch prog_14_method_54_code mi_18_fetch 1 := ⟨jw_2467, jw_14, ⟨by decide, by decide⟩, by decide +kernel⟩
theorem v_18_fetch_16 (l : Launch)   (H : jH) : JV l mi_18_fetch jeL 16 [] [] H (B_18_fetch_16   H) := by
  unfold B_18_fetch_16
  refine s_9 17 rfl ?_
  exact s_173 rfl rfl
theorem v_18_fetch_85 (l : Launch) (k47 : Nat → Int32 → Int32 → Int64 → Int32 → jH → Option (Int64 × jH)) (hk47 : ∀ a0 a1 a2 a3 a5 H, JV l mi_18_fetch jeL 47 [(0, .ref a0), (1, .int a1), (2, .int a2), (3, .long a3), (5, .int a5)] [] H (k47 a0 a1 a2 a3 a5 H)) (a0 : Nat) (a1 : Int32) (a2 : Int32) (a5 : Int32) (s0 : Int64) (s1 : Int32) (H : jH) : JV l mi_18_fetch jeL 85 [(0, .ref a0), (1, .int a1), (2, .int a2), (5, .int a5)] [.int s1, .long s0] H (B_18_fetch_85 k47 a0 a1 a2 a5 s0 s1 H) := by
  unfold B_18_fetch_85
  refine s_133 86 rfl ?_
  refine s_129 87 rfl ?_
  refine s_66L 88 rfl rfl (fun x1 => ?_)
  refine s_132L 5 1 91 1 ji_1 rfl rfl rfl (fun x2 => ?_)
  refine s_167 255 212 47 rfl rfl ?_
  exact s_jmp (hk47 _ _ _ _ _ _) ⟨rfl, rfl, rfl, rfl, rfl, trivial⟩
theorem v_18_fetch_97 (l : Launch) (k97 : Nat → Int32 → Int32 → Int64 → Int32 → jH → Option (Int64 × jH)) (hk97 : ∀ a0 a1 a2 a3 a5 H, JV l mi_18_fetch jeL 97 [(0, .ref a0), (1, .int a1), (2, .int a2), (3, .long a3), (5, .int a5)] [] H (k97 a0 a1 a2 a3 a5 H)) (a0 : Nat) (a1 : Int32) (a2 : Int32) (a3 : Int64) (a5 : Int32) (H : jH) : JV l mi_18_fetch jeL 97 [(0, .ref a0), (1, .int a1), (2, .int a2), (3, .long a3), (5, .int a5)] [] H (B_18_fetch_97 k97 a0 a1 a2 a3 a5 H) := by
  unfold B_18_fetch_97
  refine s_21 5 99 rfl rfl ?_
  refine s_42 100 rfl rfl ?_
  refine s_180R 0 173 103 173 f_18_54 jw_1664 rfl rfl ?_
  refine s_27 104 rfl rfl ?_
  refine s_46 105 rfl ?_
  refine s_162 0 37 142 108 rfl rfl ?_ ?_
  · refine s_42 143 rfl rfl ?_
    refine s_180R 0 173 146 173 f_18_54 jw_1664 rfl rfl ?_
    refine s_27 147 rfl rfl ?_
    refine s_92 148 rfl rfl rfl ?_
    refine s_46 149 rfl ?_
    refine s_28 150 rfl rfl ?_
    refine s_100 151 rfl ?_
    refine s_79 152 rfl (fun h3 => ?_)
    refine s_33 153 rfl rfl ?_
    exact s_173 rfl rfl
  · refine s_42 109 rfl rfl ?_
    refine s_180R 0 170 112 170 f_18_53 jw_1663 rfl rfl ?_
    refine s_17 31 64 115 8000 jsp_31_64 rfl ?_
    refine s_27 116 rfl rfl ?_
    refine s_104 117 rfl ?_
    refine s_21 5 119 rfl rfl ?_
    refine s_96 120 rfl ?_
    refine s_28 121 rfl rfl ?_
    refine s_100 122 rfl ?_
    refine s_42 123 rfl rfl ?_
    refine s_180R 0 170 126 170 f_18_53 jw_1663 rfl rfl ?_
    refine s_17 31 64 129 8000 jsp_31_64 rfl ?_
    refine s_27 130 rfl rfl ?_
    refine s_104 131 rfl ?_
    refine s_21 5 133 rfl rfl ?_
    refine s_96 134 rfl ?_
    refine s_51B 135 rfl ?_
    refine s_84B 136 rfl (fun h4 => ?_)
    refine s_132L 5 1 139 1 ji_1 rfl rfl rfl (fun x5 => ?_)
    refine s_167 255 214 97 rfl rfl ?_
    exact s_jmp (hk97 _ _ _ _ _ _) ⟨rfl, rfl, rfl, rfl, rfl, trivial⟩
theorem w_18_fetch_97 (l : Launch)  (n : Nat) : ∀ a0 a1 a2 a3 a5 H, JV l mi_18_fetch jeL 97 [(0, .ref a0), (1, .int a1), (2, .int a2), (3, .long a3), (5, .int a5)] [] H (F_18_fetch_97  n a0 a1 a2 a3 a5 H) := by
  induction n with
  | zero => intro _ _ _ _ _ _; exact s_none
  | succ n ih => intro a0 a1 a2 a3 a5 H; exact v_18_fetch_97 l (F_18_fetch_97  n) ih a0 a1 a2 a3 a5 H
theorem v_18_fetch_47 (l : Launch) (k47 : Nat → Int32 → Int32 → Int64 → Int32 → jH → Option (Int64 × jH)) (hk47 : ∀ a0 a1 a2 a3 a5 H, JV l mi_18_fetch jeL 47 [(0, .ref a0), (1, .int a1), (2, .int a2), (3, .long a3), (5, .int a5)] [] H (k47 a0 a1 a2 a3 a5 H)) (a0 : Nat) (a1 : Int32) (a2 : Int32) (a3 : Int64) (a5 : Int32) (H : jH) : JV l mi_18_fetch jeL 47 [(0, .ref a0), (1, .int a1), (2, .int a2), (3, .long a3), (5, .int a5)] [] H (B_18_fetch_47 k47 a0 a1 a2 a3 a5 H) := by
  unfold B_18_fetch_47
  refine s_21 5 49 rfl rfl ?_
  refine s_16 7 51 7 jbp_7 rfl ?_
  refine s_162 0 43 94 54 rfl rfl ?_ ?_
  · refine s_28 95 rfl rfl ?_
    refine s_54 5 97 rfl rfl ?_
    exact s_jmp (w_18_fetch_97 l jfuel _ _ _ _ _ _) ⟨rfl, rfl, rfl, rfl, rfl, trivial⟩
  · refine s_33 55 rfl rfl ?_
    refine s_16 8 57 8 jbp_8 rfl ?_
    refine s_121 58 rfl ?_
    refine s_21 5 60 rfl rfl ?_
    refine s_28 61 rfl rfl ?_
    refine s_162 0 23 84 64 rfl rfl ?_ ?_
    · refine s_3 85 rfl ?_
      exact s_jmp (v_18_fetch_85 l k47 hk47 _ _ _ _ _ _ _) ⟨rfl, rfl, rfl, rfl, trivial⟩
    · refine s_42 65 rfl rfl ?_
      refine s_180R 0 170 68 170 f_18_53 jw_1663 rfl rfl ?_
      refine s_17 31 64 71 8000 jsp_31_64 rfl ?_
      refine s_27 72 rfl rfl ?_
      refine s_104 73 rfl ?_
      refine s_21 5 75 rfl rfl ?_
      refine s_96 76 rfl ?_
      refine s_51B 77 rfl ?_
      refine s_17 0 255 80 255 jsp_0_255 rfl ?_
      refine s_126 81 rfl ?_
      refine s_167 0 4 85 rfl rfl ?_
      exact s_jmp (v_18_fetch_85 l k47 hk47 _ _ _ _ _ _ _) ⟨rfl, rfl, rfl, rfl, trivial⟩
theorem w_18_fetch_47 (l : Launch)  (n : Nat) : ∀ a0 a1 a2 a3 a5 H, JV l mi_18_fetch jeL 47 [(0, .ref a0), (1, .int a1), (2, .int a2), (3, .long a3), (5, .int a5)] [] H (F_18_fetch_47  n a0 a1 a2 a3 a5 H) := by
  induction n with
  | zero => intro _ _ _ _ _ _; exact s_none
  | succ n ih => intro a0 a1 a2 a3 a5 H; exact v_18_fetch_47 l (F_18_fetch_47  n) ih a0 a1 a2 a3 a5 H
theorem v_18_fetch_40 (l : Launch)  (a0 : Nat) (a1 : Int32) (s0 : Int32) (H : jH) : JV l mi_18_fetch jeL 40 [(0, .ref a0), (1, .int a1)] [.int s0] H (B_18_fetch_40  a0 a1 s0 H) := by
  unfold B_18_fetch_40
  refine s_61 41 rfl rfl ?_
  refine s_28 42 rfl rfl ?_
  refine s_133 43 rfl ?_
  refine s_66L 44 rfl rfl (fun x6 => ?_)
  refine s_3 45 rfl ?_
  refine s_54 5 47 rfl rfl ?_
  exact s_jmp (w_18_fetch_47 l jfuel _ _ _ _ _ _) ⟨rfl, rfl, rfl, rfl, rfl, trivial⟩
theorem v_18_fetch (l : Launch) (a0 : Nat) (a1 : Int32) (H : jH) : JV l mi_18_fetch jeL 0 [(0, .ref a0), (1, .int a1)] [] H (F_18_fetch a0 a1 H) := by
  unfold F_18_fetch
  refine s_27 1 rfl rfl ?_
  refine s_184I 2 4 4 516 (m_18_isPeer l _ _) rfl k_18_isPeer jw_1806 jw_1807 rfl rfl rfl rfl rfl (fun x7 h8 => ?_)
  refine s_153 0 12 16 7 rfl rfl ?_ ?_
  · exact s_jmp (v_18_fetch_16 l _) trivial
  · refine s_42 8 rfl rfl ?_
    refine s_180R 0 173 11 173 f_18_54 jw_1664 rfl rfl ?_
    refine s_27 12 rfl rfl ?_
    refine s_46 13 rfl ?_
    refine s_154 0 5 18 16 rfl rfl ?_ ?_
    · refine s_42 19 rfl rfl ?_
      refine s_180R 0 173 22 173 f_18_54 jw_1664 rfl rfl ?_
      refine s_27 23 rfl rfl ?_
      refine s_46 24 rfl ?_
      refine s_16 7 26 7 jbp_7 rfl ?_
      refine s_164 0 8 34 29 rfl rfl ?_ ?_
      · refine s_42 35 rfl rfl ?_
        refine s_180R 0 173 38 173 f_18_54 jw_1664 rfl rfl ?_
        refine s_27 39 rfl rfl ?_
        refine s_46 40 rfl ?_
        exact s_jmp (v_18_fetch_40 l _ _ _ _) ⟨rfl, rfl, trivial⟩
      · refine s_16 7 31 7 jbp_7 rfl ?_
        refine s_167 0 9 40 rfl rfl ?_
        exact s_jmp (v_18_fetch_40 l _ _ _ _) ⟨rfl, rfl, trivial⟩
    · exact s_jmp (v_18_fetch_16 l _) trivial
theorem m_18_fetch (l : Launch) (a0 : Nat) (a1 : Int32) (H : jH) : JMet l y_18_fetch prog_14_method_54_code mi_18_fetch jeL [.ref a0, .int a1] H (F_18_fetch a0 a1 H) := jmet_of n_18_fetch (by decide) ⟨rfl, rfl⟩ (Nat.le_of_ble_eq_true rfl) (v_18_fetch l a0 a1 H)
def mi_18_block : jM := (244299762975054537535479440279385332447213895514947123709852760276264811077874448574277314066295393874553282563226288044361180277662109145380303259498605721241482429361864890605984152161936606075724659954691557880410184475, 92, 7, "CoinNodeModel", some FieldType.long, "block", 3, 66)
def y_18_block : MethodName := ⟨"CoinNodeModel", "block", "(II)J"⟩
theorem n_18_block : jn_is prog_14_method_55_code mi_18_block.1 mi_18_block.2.1 := by unfold jn_is; decide +kernel
theorem k_18_block : jmok y_18_block prog_14_method_55_code mi_18_block 2 := ⟨jw_2471, jw_14, ⟨by decide, by decide⟩, by decide +kernel⟩
theorem v_18_block_25 (l : Launch)   (H : jH) : JV l mi_18_block jeL 25 [] [] H (B_18_block_25   H) := by
  unfold B_18_block_25
  refine s_9 26 rfl ?_
  exact s_173 rfl rfl
theorem v_18_block_54 (l : Launch) (k54 : Nat → Int32 → Int64 → Int32 → jH → Option (Int64 × jH)) (hk54 : ∀ a0 a3 a4 a6 H, JV l mi_18_block jeL 54 [(0, .ref a0), (3, .int a3), (4, .long a4), (6, .int a6)] [] H (k54 a0 a3 a4 a6 H)) (a0 : Nat) (a3 : Int32) (a4 : Int64) (a6 : Int32) (H : jH) : JV l mi_18_block jeL 54 [(0, .ref a0), (3, .int a3), (4, .long a4), (6, .int a6)] [] H (B_18_block_54 k54 a0 a3 a4 a6 H) := by
  unfold B_18_block_54
  refine s_21 6 56 rfl rfl ?_
  refine s_16 8 58 8 jbp_8 rfl ?_
  refine s_162 0 31 89 61 rfl rfl ?_ ?_
  · refine s_22 4 91 rfl rfl ?_
    exact s_173 rfl rfl
  · refine s_22 4 63 rfl rfl ?_
    refine s_16 8 65 8 jbp_8 rfl ?_
    refine s_121 66 rfl ?_
    refine s_42 67 rfl rfl ?_
    refine s_180R 0 63 70 63 f_18_8 jw_1618 rfl rfl ?_
    refine s_29 71 rfl rfl ?_
    refine s_21 6 73 rfl rfl ?_
    refine s_96 74 rfl ?_
    refine s_51B 75 rfl ?_
    refine s_17 0 255 78 255 jsp_0_255 rfl ?_
    refine s_126 79 rfl ?_
    refine s_133 80 rfl ?_
    refine s_129 81 rfl ?_
    refine s_55L 4 83 rfl rfl (fun x1 => ?_)
    refine s_132L 6 1 86 1 ji_1 rfl rfl rfl (fun x2 => ?_)
    refine s_167 255 224 54 rfl rfl ?_
    exact s_jmp (hk54 _ _ _ _ _) ⟨rfl, rfl, rfl, rfl, trivial⟩
theorem w_18_block_54 (l : Launch)  (n : Nat) : ∀ a0 a3 a4 a6 H, JV l mi_18_block jeL 54 [(0, .ref a0), (3, .int a3), (4, .long a4), (6, .int a6)] [] H (F_18_block_54  n a0 a3 a4 a6 H) := by
  induction n with
  | zero => intro _ _ _ _ _; exact s_none
  | succ n ih => intro a0 a3 a4 a6 H; exact v_18_block_54 l (F_18_block_54  n) ih a0 a3 a4 a6 H
theorem v_18_block (l : Launch) (a0 : Nat) (a1 : Int32) (a2 : Int32) (H : jH) : JV l mi_18_block jeL 0 [(0, .ref a0), (1, .int a1), (2, .int a2)] [] H (F_18_block a0 a1 a2 H) := by
  unfold F_18_block
  refine s_27 1 rfl rfl ?_
  refine s_155 0 24 25 4 rfl rfl ?_ ?_
  · exact s_jmp (v_18_block_25 l _) trivial
  · refine s_27 5 rfl rfl ?_
    refine s_42 6 rfl rfl ?_
    refine s_42 7 rfl rfl ?_
    refine s_180I 1 84 10 340 f_18_13 jw_1623 rfl rfl ?_
    refine s_182I 0 250 13 250 (m_18_height l _ _ _) rfl k_18_height jc_18 jw_1821 jw_1823 jps_58 rfl rfl rfl rfl rfl (fun x3 h4 => ?_)
    refine s_163 0 12 25 16 rfl rfl ?_ ?_
    · exact s_jmp (v_18_block_25 l _) trivial
    · refine s_28 17 rfl rfl ?_
      refine s_155 0 8 25 20 rfl rfl ?_ ?_
      · exact s_jmp (v_18_block_25 l _) trivial
      · refine s_28 21 rfl rfl ?_
        refine s_6 22 rfl ?_
        refine s_164 0 5 27 25 rfl rfl ?_ ?_
        · refine s_16 32 29 32 jbp_32 rfl ?_
          refine s_42 30 rfl rfl ?_
          refine s_180R 0 40 33 40 f_18_3 jw_1613 rfl rfl ?_
          refine s_42 34 rfl rfl ?_
          refine s_180I 1 84 37 340 f_18_13 jw_1623 rfl rfl ?_
          refine s_27 38 rfl rfl ?_
          refine s_182I 0 254 41 254 (m_16_below l _ _ _ _) rfl k_16_below jc_16 jw_1834 jw_1835 jw_1836 rfl rfl rfl rfl rfl (fun x5 h6 => ?_)
          refine s_104 42 rfl ?_
          refine s_16 8 44 8 jbp_8 rfl ?_
          refine s_28 45 rfl rfl ?_
          refine s_104 46 rfl ?_
          refine s_96 47 rfl ?_
          refine s_62L 48 rfl rfl (fun x7 => ?_)
          refine s_9 49 rfl ?_
          refine s_55 4 51 rfl rfl ?_
          refine s_3 52 rfl ?_
          refine s_54 6 54 rfl rfl ?_
          exact s_jmp (w_18_block_54 l jfuel _ _ _ _ _) ⟨rfl, rfl, rfl, rfl, trivial⟩
        · exact s_jmp (v_18_block_25 l _) trivial
theorem m_18_block (l : Launch) (a0 : Nat) (a1 : Int32) (a2 : Int32) (H : jH) : JMet l y_18_block prog_14_method_55_code mi_18_block jeL [.ref a0, .int a1, .int a2] H (F_18_block a0 a1 a2 H) := jmet_of n_18_block (by decide) ⟨rfl, rfl⟩ (Nat.le_of_ble_eq_true rfl) (v_18_block l a0 a1 a2 H)
def mi_18_key : jM := (13551467359053097457059126649320338828685667139257143588605039672714516169545871471868557746069921403165902841595001782392587285596439525900043221405305489908321548882821692793048259580709599733812442627, 84, 13, "CoinNodeModel", none, "key", 0, 0)
def y_18_key : MethodName := ⟨"CoinNodeModel", "key", "(JJJJI)V"⟩
theorem n_18_key : jn_is prog_14_method_56_code mi_18_key.1 mi_18_key.2.1 := by unfold jn_is; decide +kernel
theorem k_18_key : jmok y_18_key prog_14_method_56_code mi_18_key 5 := ⟨jw_2475, jw_14, ⟨by decide, by decide⟩, by decide +kernel⟩
theorem v_18_key_46 (l : Launch) (k3 : Nat → Int64 → Int64 → Int64 → Int64 → Int32 → Int32 → jH → Option (Unit × jH)) (hk3 : ∀ a0 a1 a3 a5 a7 a9 a10 H, JV l mi_18_key jeV 3 [(0, .ref a0), (1, .long a1), (3, .long a3), (5, .long a5), (7, .long a7), (9, .int a9), (10, .int a10)] [] H (k3 a0 a1 a3 a5 a7 a9 a10 H)) (a0 : Nat) (a1 : Int64) (a3 : Int64) (a5 : Int64) (a7 : Int64) (a9 : Int32) (a10 : Int32) (s0 : Int64) (H : jH) : JV l mi_18_key jeV 46 [(0, .ref a0), (1, .long a1), (3, .long a3), (5, .long a5), (7, .long a7), (9, .int a9), (10, .int a10)] [.long s0] H (B_18_key_46 k3 a0 a1 a3 a5 a7 a9 a10 s0 H) := by
  unfold B_18_key_46
  refine s_55 11 48 rfl rfl ?_
  refine s_42 49 rfl rfl ?_
  refine s_180R 0 167 52 167 f_18_51 jw_1661 rfl rfl ?_
  refine s_21 10 54 rfl rfl ?_
  refine s_22 11 56 rfl rfl ?_
  refine s_16 56 58 56 jbp_56 rfl ?_
  refine s_16 8 60 8 jbp_8 rfl ?_
  refine s_21 10 62 rfl rfl ?_
  refine s_16 8 64 8 jbp_8 rfl ?_
  refine s_112 65 rfl ?_
  refine s_104 66 rfl ?_
  refine s_100 67 rfl ?_
  refine s_123 68 rfl ?_
  refine s_136 69 rfl ?_
  refine s_145 70 rfl ?_
  refine s_84B 71 rfl (fun h1 => ?_)
  refine s_132L 10 1 74 1 ji_1 rfl rfl rfl (fun x2 => ?_)
  refine s_167 255 185 3 rfl rfl ?_
  exact s_jmp (hk3 _ _ _ _ _ _ _ _) ⟨rfl, rfl, rfl, rfl, rfl, rfl, rfl, trivial⟩
theorem v_18_key_3 (l : Launch) (k3 : Nat → Int64 → Int64 → Int64 → Int64 → Int32 → Int32 → jH → Option (Unit × jH)) (hk3 : ∀ a0 a1 a3 a5 a7 a9 a10 H, JV l mi_18_key jeV 3 [(0, .ref a0), (1, .long a1), (3, .long a3), (5, .long a5), (7, .long a7), (9, .int a9), (10, .int a10)] [] H (k3 a0 a1 a3 a5 a7 a9 a10 H)) (a0 : Nat) (a1 : Int64) (a3 : Int64) (a5 : Int64) (a7 : Int64) (a9 : Int32) (a10 : Int32) (H : jH) : JV l mi_18_key jeV 3 [(0, .ref a0), (1, .long a1), (3, .long a3), (5, .long a5), (7, .long a7), (9, .int a9), (10, .int a10)] [] H (B_18_key_3 k3 a0 a1 a3 a5 a7 a9 a10 H) := by
  unfold B_18_key_3
  refine s_21 10 5 rfl rfl ?_
  refine s_16 32 7 32 jbp_32 rfl ?_
  refine s_162 0 70 77 10 rfl rfl ?_ ?_
  · refine s_42 78 rfl rfl ?_
    refine s_21 9 80 rfl rfl ?_
    refine s_181I 2 10 83 522 f_18_52 rfl rfl jw_1662 rfl rfl (fun h3 => ?_)
    exact s_177 rfl rfl
  · refine s_21 10 12 rfl rfl ?_
    refine s_16 8 14 8 jbp_8 rfl ?_
    refine s_162 0 7 21 17 rfl rfl ?_ ?_
    · refine s_21 10 23 rfl rfl ?_
      refine s_16 16 25 16 jbp_16 rfl ?_
      refine s_162 0 7 32 28 rfl rfl ?_ ?_
      · refine s_21 10 34 rfl rfl ?_
        refine s_16 24 36 24 jbp_24 rfl ?_
        refine s_162 0 8 44 39 rfl rfl ?_ ?_
        · refine s_22 7 46 rfl rfl ?_
          exact s_jmp (v_18_key_46 l k3 hk3 _ _ _ _ _ _ _ _ _) ⟨rfl, rfl, rfl, rfl, rfl, rfl, rfl, trivial⟩
        · refine s_22 5 41 rfl rfl ?_
          refine s_167 0 5 46 rfl rfl ?_
          exact s_jmp (v_18_key_46 l k3 hk3 _ _ _ _ _ _ _ _ _) ⟨rfl, rfl, rfl, rfl, rfl, rfl, rfl, trivial⟩
      · refine s_33 29 rfl rfl ?_
        refine s_167 0 17 46 rfl rfl ?_
        exact s_jmp (v_18_key_46 l k3 hk3 _ _ _ _ _ _ _ _ _) ⟨rfl, rfl, rfl, rfl, rfl, rfl, rfl, trivial⟩
    · refine s_31 18 rfl rfl ?_
      refine s_167 0 28 46 rfl rfl ?_
      exact s_jmp (v_18_key_46 l k3 hk3 _ _ _ _ _ _ _ _ _) ⟨rfl, rfl, rfl, rfl, rfl, rfl, rfl, trivial⟩
theorem w_18_key_3 (l : Launch)  (n : Nat) : ∀ a0 a1 a3 a5 a7 a9 a10 H, JV l mi_18_key jeV 3 [(0, .ref a0), (1, .long a1), (3, .long a3), (5, .long a5), (7, .long a7), (9, .int a9), (10, .int a10)] [] H (F_18_key_3  n a0 a1 a3 a5 a7 a9 a10 H) := by
  induction n with
  | zero => intro _ _ _ _ _ _ _ _; exact s_none
  | succ n ih => intro a0 a1 a3 a5 a7 a9 a10 H; exact v_18_key_3 l (F_18_key_3  n) ih a0 a1 a3 a5 a7 a9 a10 H
theorem v_18_key (l : Launch) (a0 : Nat) (a1 : Int64) (a3 : Int64) (a5 : Int64) (a7 : Int64) (a9 : Int32) (H : jH) : JV l mi_18_key jeV 0 [(0, .ref a0), (1, .long a1), (3, .long a3), (5, .long a5), (7, .long a7), (9, .int a9)] [] H (F_18_key a0 a1 a3 a5 a7 a9 H) := by
  unfold F_18_key
  refine s_3 1 rfl ?_
  refine s_54 10 3 rfl rfl ?_
  exact s_jmp (w_18_key_3 l jfuel _ _ _ _ _ _ _ _) ⟨rfl, rfl, rfl, rfl, rfl, rfl, rfl, trivial⟩
theorem m_18_key (l : Launch) (a0 : Nat) (a1 : Int64) (a3 : Int64) (a5 : Int64) (a7 : Int64) (a9 : Int32) (H : jH) : JMet l y_18_key prog_14_method_56_code mi_18_key jeV [.ref a0, .long a1, .long a3, .long a5, .long a7, .int a9] H (F_18_key a0 a1 a3 a5 a7 a9 H) := jmet_of n_18_key (by decide) ⟨rfl, rfl⟩ (Nat.le_of_ble_eq_true rfl) (v_18_key l a0 a1 a3 a5 a7 a9 H)
def mi_18_value : jM := (1444995322431299576585267416432835757351654722099363565460253458171990218711582993830174061242922, 40, 2, "CoinNodeModel", some FieldType.long, "value", 7, 164)
def y_18_value : MethodName := ⟨"CoinNodeModel", "value", "()J"⟩
theorem n_18_value : jn_is prog_14_method_57_code mi_18_value.1 mi_18_value.2.1 := by unfold jn_is; decide +kernel
theorem k_18_value : jmok y_18_value prog_14_method_57_code mi_18_value 0 := ⟨jw_2479, jw_14, ⟨by decide, by decide⟩, by decide +kernel⟩
theorem v_18_value_39 (l : Launch)  (s0 : Int64) (H : jH) : JV l mi_18_value jeL 39 [] [.long s0] H (B_18_value_39  s0 H) := by
  unfold B_18_value_39
  exact s_173 rfl rfl
theorem v_18_value (l : Launch) (a0 : Nat) (H : jH) : JV l mi_18_value jeL 0 [(0, .ref a0)] [] H (F_18_value a0 H) := by
  unfold F_18_value
  refine s_42 1 rfl rfl ?_
  refine s_42 2 rfl rfl ?_
  refine s_180I 1 84 5 340 f_18_13 jw_1623 rfl rfl ?_
  refine s_182V 1 56 8 312 (m_18_need l _ _ _) rfl k_18_need jc_18 jw_1817 jw_1819 jps_57 rfl rfl rfl rfl rfl (fun x1 h2 => ?_)
  refine s_42 9 rfl rfl ?_
  refine s_42 10 rfl rfl ?_
  refine s_180R 0 167 13 167 f_18_51 jw_1661 rfl rfl ?_
  refine s_3 14 rfl ?_
  refine s_42 15 rfl rfl ?_
  refine s_180I 2 10 18 522 f_18_52 jw_1662 rfl rfl ?_
  refine s_133 19 rfl ?_
  refine s_182I 0 205 22 205 (m_18_coin l _ _ _ _ _) rfl k_18_coin jc_18 jw_1872 jw_1874 jps_66 rfl rfl rfl rfl rfl (fun x3 h4 => ?_)
  refine s_60 23 rfl rfl ?_
  refine s_27 24 rfl rfl ?_
  refine s_156 0 9 33 27 rfl rfl ?_ ?_
  · refine s_42 34 rfl rfl ?_
    refine s_180R 0 90 37 90 f_18_22 jw_1632 rfl rfl ?_
    refine s_27 38 rfl rfl ?_
    refine s_47 39 rfl ?_
    exact s_jmp (v_18_value_39 l _ _) trivial
  · refine s_20 1 123 30 379 (-1) rfl jw_1925 rfl ?_
    refine s_167 0 9 39 rfl rfl ?_
    exact s_jmp (v_18_value_39 l _ _) trivial
theorem m_18_value (l : Launch) (a0 : Nat) (H : jH) : JMet l y_18_value prog_14_method_57_code mi_18_value jeL [.ref a0] H (F_18_value a0 H) := jmet_of n_18_value (by decide) ⟨rfl, rfl⟩ (Nat.le_of_ble_eq_true rfl) (v_18_value l a0 H)
def mi_18_total : jM := (86098941110682430128855894652637124448184072445381877714497576501651086319212124087527978, 37, 4, "CoinNodeModel", some FieldType.long, "total", 7, 164)
def y_18_total : MethodName := ⟨"CoinNodeModel", "total", "()J"⟩
theorem n_18_total : jn_is prog_14_method_58_code mi_18_total.1 mi_18_total.2.1 := by unfold jn_is; decide +kernel
theorem k_18_total : jmok y_18_total prog_14_method_58_code mi_18_total 0 := ⟨jw_2483, jw_14, ⟨by decide, by decide⟩, by decide +kernel⟩
theorem v_18_total_12 (l : Launch) (k12 : Nat → Int64 → Int32 → jH → Option (Int64 × jH)) (hk12 : ∀ a0 a1 a3 H, JV l mi_18_total jeL 12 [(0, .ref a0), (1, .long a1), (3, .int a3)] [] H (k12 a0 a1 a3 H)) (a0 : Nat) (a1 : Int64) (a3 : Int32) (H : jH) : JV l mi_18_total jeL 12 [(0, .ref a0), (1, .long a1), (3, .int a3)] [] H (B_18_total_12 k12 a0 a1 a3 H) := by
  unfold B_18_total_12
  refine s_29 13 rfl rfl ?_
  refine s_42 14 rfl rfl ?_
  refine s_180I 0 183 17 183 f_18_17 jw_1627 rfl rfl ?_
  refine s_162 0 18 35 20 rfl rfl ?_ ?_
  · refine s_31 36 rfl rfl ?_
    exact s_173 rfl rfl
  · refine s_31 21 rfl rfl ?_
    refine s_42 22 rfl rfl ?_
    refine s_180R 0 90 25 90 f_18_22 jw_1632 rfl rfl ?_
    refine s_29 26 rfl rfl ?_
    refine s_47 27 rfl ?_
    refine s_97 28 rfl ?_
    refine s_64L 29 rfl rfl (fun x1 => ?_)
    refine s_132L 3 1 32 1 ji_1 rfl rfl rfl (fun x2 => ?_)
    refine s_167 255 236 12 rfl rfl ?_
    exact s_jmp (hk12 _ _ _ _) ⟨rfl, rfl, rfl, trivial⟩
theorem w_18_total_12 (l : Launch)  (n : Nat) : ∀ a0 a1 a3 H, JV l mi_18_total jeL 12 [(0, .ref a0), (1, .long a1), (3, .int a3)] [] H (F_18_total_12  n a0 a1 a3 H) := by
  induction n with
  | zero => intro _ _ _ _; exact s_none
  | succ n ih => intro a0 a1 a3 H; exact v_18_total_12 l (F_18_total_12  n) ih a0 a1 a3 H
theorem v_18_total (l : Launch) (a0 : Nat) (H : jH) : JV l mi_18_total jeL 0 [(0, .ref a0)] [] H (F_18_total a0 H) := by
  unfold F_18_total
  refine s_42 1 rfl rfl ?_
  refine s_42 2 rfl rfl ?_
  refine s_180I 1 84 5 340 f_18_13 jw_1623 rfl rfl ?_
  refine s_182V 1 56 8 312 (m_18_need l _ _ _) rfl k_18_need jc_18 jw_1817 jw_1819 jps_57 rfl rfl rfl rfl rfl (fun x3 h4 => ?_)
  refine s_9 9 rfl ?_
  refine s_64 10 rfl rfl ?_
  refine s_3 11 rfl ?_
  refine s_62 12 rfl rfl ?_
  exact s_jmp (w_18_total_12 l jfuel _ _ _ _) ⟨rfl, rfl, rfl, trivial⟩
theorem m_18_total (l : Launch) (a0 : Nat) (H : jH) : JMet l y_18_total prog_14_method_58_code mi_18_total jeL [.ref a0] H (F_18_total a0 H) := jmet_of n_18_total (by decide) ⟨rfl, rfl⟩ (Nat.le_of_ble_eq_true rfl) (v_18_total l a0 H)
def mi_18_count : jM := (120789837817681638342976717115184244477199743859860799768379365673856125455482498345316313541920202202406494680859833374720025586135496741884749974991808334129734429114037366463996273820681804020742534601353067317519065262608679234872492854650259242900323403380796139935859624547063739489248219801244481568003, 128, 4, "CoinNodeModel", some FieldType.int, "count", 7, 164)
def y_18_count : MethodName := ⟨"CoinNodeModel", "count", "(I)I"⟩
theorem n_18_count : jn_is prog_14_method_59_code mi_18_count.1 mi_18_count.2.1 := by unfold jn_is; decide +kernel
theorem k_18_count : jmok y_18_count prog_14_method_59_code mi_18_count 1 := ⟨jw_2487, jw_14, ⟨by decide, by decide⟩, by decide +kernel⟩
theorem v_18_count_35 (l : Launch) (k4 : Nat → Int32 → Int32 → Int32 → jH → Option (Int32 × jH)) (hk4 : ∀ a0 a1 a2 a3 H, JV l mi_18_count jeI 4 [(0, .ref a0), (1, .int a1), (2, .int a2), (3, .int a3)] [] H (k4 a0 a1 a2 a3 H)) (a0 : Nat) (a1 : Int32) (a3 : Int32) (s0 : Int32) (s1 : Int32) (H : jH) : JV l mi_18_count jeI 35 [(0, .ref a0), (1, .int a1), (3, .int a3)] [.int s1, .int s0] H (B_18_count_35 k4 a0 a1 a3 s0 s1 H) := by
  unfold B_18_count_35
  refine s_96 36 rfl ?_
  refine s_61L 37 rfl rfl (fun x1 => ?_)
  refine s_132L 3 1 40 1 ji_1 rfl rfl rfl (fun x2 => ?_)
  refine s_167 255 220 4 rfl rfl ?_
  exact s_jmp (hk4 _ _ _ _ _) ⟨rfl, rfl, rfl, rfl, trivial⟩
theorem v_18_count_4 (l : Launch) (k4 : Nat → Int32 → Int32 → Int32 → jH → Option (Int32 × jH)) (hk4 : ∀ a0 a1 a2 a3 H, JV l mi_18_count jeI 4 [(0, .ref a0), (1, .int a1), (2, .int a2), (3, .int a3)] [] H (k4 a0 a1 a2 a3 H)) (a0 : Nat) (a1 : Int32) (a2 : Int32) (a3 : Int32) (H : jH) : JV l mi_18_count jeI 4 [(0, .ref a0), (1, .int a1), (2, .int a2), (3, .int a3)] [] H (B_18_count_4 k4 a0 a1 a2 a3 H) := by
  unfold B_18_count_4
  refine s_29 5 rfl rfl ?_
  refine s_42 6 rfl rfl ?_
  refine s_180R 0 40 9 40 f_18_3 jw_1613 rfl rfl ?_
  refine s_182I 1 161 12 417 (m_16_size l _ _) rfl k_16_size jc_16 jw_2319 jw_2320 jw_2321 rfl rfl rfl rfl rfl (fun x3 h4 => ?_)
  refine s_162 0 31 43 15 rfl rfl ?_ ?_
  · refine s_42 44 rfl rfl ?_
    refine s_42 45 rfl rfl ?_
    refine s_180I 1 84 48 340 f_18_13 jw_1623 rfl rfl ?_
    refine s_182V 1 56 51 312 (m_18_need l _ _ _) rfl k_18_need jc_18 jw_1817 jw_1819 jps_57 rfl rfl rfl rfl rfl (fun x5 h6 => ?_)
    refine s_27 52 rfl rfl ?_
    refine s_sw1 40 92 74 0 5 40 #[40, 48, 57, 62, 67, 72] 0 n_18_count (by decide +kernel) (by decide) ?_ (fun q0 => ?_)
    · refine s_42 93 rfl rfl ?_
      refine s_180R 0 40 96 40 f_18_3 jw_1613 rfl rfl ?_
      refine s_182I 1 161 99 417 (m_16_size l _ _) rfl k_16_size jc_16 jw_2319 jw_2320 jw_2321 rfl rfl rfl rfl rfl (fun x7 h8 => ?_)
      exact s_172 rfl rfl
    refine s_sw1 40 100 74 0 5 48 #[40, 48, 57, 62, 67, 72] 1 n_18_count (by decide +kernel) (by decide) ?_ (fun q1 => ?_)
    · refine s_42 101 rfl rfl ?_
      refine s_42 102 rfl rfl ?_
      refine s_180I 1 84 105 340 f_18_13 jw_1623 rfl rfl ?_
      refine s_182I 0 250 108 250 (m_18_height l _ _ _) rfl k_18_height jc_18 jw_1821 jw_1823 jps_58 rfl rfl rfl rfl rfl (fun x9 h10 => ?_)
      exact s_172 rfl rfl
    refine s_sw1 40 109 74 0 5 57 #[40, 48, 57, 62, 67, 72] 2 n_18_count (by decide +kernel) (by decide) ?_ (fun q2 => ?_)
    · refine s_42 110 rfl rfl ?_
      refine s_180I 0 183 113 183 f_18_17 jw_1627 rfl rfl ?_
      exact s_172 rfl rfl
    refine s_sw1 40 114 74 0 5 62 #[40, 48, 57, 62, 67, 72] 3 n_18_count (by decide +kernel) (by decide) ?_ (fun q3 => ?_)
    · refine s_42 115 rfl rfl ?_
      refine s_180I 1 97 118 353 f_18_36 jw_1646 rfl rfl ?_
      exact s_172 rfl rfl
    refine s_sw1 40 119 74 0 5 67 #[40, 48, 57, 62, 67, 72] 4 n_18_count (by decide +kernel) (by decide) ?_ (fun q4 => ?_)
    · refine s_42 120 rfl rfl ?_
      refine s_180I 1 254 123 510 f_18_48 jw_1658 rfl rfl ?_
      exact s_172 rfl rfl
    refine s_sw1 40 124 74 0 5 72 #[40, 48, 57, 62, 67, 72] 5 n_18_count (by decide +kernel) (by decide) ?_ (fun q5 => ?_)
    · refine s_28 125 rfl rfl ?_
      exact s_172 rfl rfl
    refine s_sw0 40 126 74 0 5 #[40, 48, 57, 62, 67, 72] n_18_count (by decide +kernel) (by have r0 := jne_int q0 (z := 0) rfl; have r1 := jne_int q1 (z := 1) rfl; have r2 := jne_int q2 (z := 2) rfl; have r3 := jne_int q3 (z := 3) rfl; have r4 := jne_int q4 (z := 4) rfl; have r5 := jne_int q5 (z := 5) rfl; omega) (by decide) ?_
    refine s_2 127 rfl ?_
    exact s_172 rfl rfl
  · refine s_28 16 rfl rfl ?_
    refine s_42 17 rfl rfl ?_
    refine s_180R 0 40 20 40 f_18_3 jw_1613 rfl rfl ?_
    refine s_29 21 rfl rfl ?_
    refine s_7 22 rfl ?_
    refine s_182L 0 243 25 243 (m_16_look l _ _ _ _) rfl k_16_look jc_16 jw_1825 jw_1826 jw_1827 rfl rfl rfl rfl rfl (fun x11 h12 => ?_)
    refine s_10 26 rfl ?_
    refine s_148_154 0 7 34 27 30 rfl rfl rfl ?_ ?_
    · refine s_3 35 rfl ?_
      exact s_jmp (v_18_count_35 l k4 hk4 _ _ _ _ _ _) ⟨rfl, rfl, rfl, trivial⟩
    · refine s_4 31 rfl ?_
      refine s_167 0 4 35 rfl rfl ?_
      exact s_jmp (v_18_count_35 l k4 hk4 _ _ _ _ _ _) ⟨rfl, rfl, rfl, trivial⟩
theorem w_18_count_4 (l : Launch)  (n : Nat) : ∀ a0 a1 a2 a3 H, JV l mi_18_count jeI 4 [(0, .ref a0), (1, .int a1), (2, .int a2), (3, .int a3)] [] H (F_18_count_4  n a0 a1 a2 a3 H) := by
  induction n with
  | zero => intro _ _ _ _ _; exact s_none
  | succ n ih => intro a0 a1 a2 a3 H; exact v_18_count_4 l (F_18_count_4  n) ih a0 a1 a2 a3 H
theorem v_18_count (l : Launch) (a0 : Nat) (a1 : Int32) (H : jH) : JV l mi_18_count jeI 0 [(0, .ref a0), (1, .int a1)] [] H (F_18_count a0 a1 H) := by
  unfold F_18_count
  refine s_3 1 rfl ?_
  refine s_61 2 rfl rfl ?_
  refine s_3 3 rfl ?_
  refine s_62 4 rfl rfl ?_
  exact s_jmp (w_18_count_4 l jfuel _ _ _ _ _) ⟨rfl, rfl, rfl, rfl, trivial⟩
theorem m_18_count (l : Launch) (a0 : Nat) (a1 : Int32) (H : jH) : JMet l y_18_count prog_14_method_59_code mi_18_count jeI [.ref a0, .int a1] H (F_18_count a0 a1 H) := jmet_of n_18_count (by decide) ⟨rfl, rfl⟩ (Nat.le_of_ble_eq_true rfl) (v_18_count l a0 a1 H)
def mi_18_fees : jM := (4667432950045170041026334185718885183869616714735008683058899804438537, 29, 4, "CoinNodeModel", some FieldType.long, "fees", 0, 0)
def y_18_fees : MethodName := ⟨"CoinNodeModel", "fees", "()J"⟩
theorem n_18_fees : jn_is prog_14_method_60_code mi_18_fees.1 mi_18_fees.2.1 := by unfold jn_is; decide +kernel
theorem k_18_fees : jmok y_18_fees prog_14_method_60_code mi_18_fees 0 := ⟨jw_2491, jw_14, ⟨by decide, by decide⟩, by decide +kernel⟩
theorem v_18_fees_4 (l : Launch) (k4 : Nat → Int64 → Int32 → jH → Option (Int64 × jH)) (hk4 : ∀ a0 a1 a3 H, JV l mi_18_fees jeL 4 [(0, .ref a0), (1, .long a1), (3, .int a3)] [] H (k4 a0 a1 a3 H)) (a0 : Nat) (a1 : Int64) (a3 : Int32) (H : jH) : JV l mi_18_fees jeL 4 [(0, .ref a0), (1, .long a1), (3, .int a3)] [] H (B_18_fees_4 k4 a0 a1 a3 H) := by
  unfold B_18_fees_4
  refine s_29 5 rfl rfl ?_
  refine s_42 6 rfl rfl ?_
  refine s_180I 1 97 9 353 f_18_36 jw_1646 rfl rfl ?_
  refine s_162 0 18 27 12 rfl rfl ?_ ?_
  · refine s_31 28 rfl rfl ?_
    exact s_173 rfl rfl
  · refine s_31 13 rfl rfl ?_
    refine s_42 14 rfl rfl ?_
    refine s_180R 0 137 17 137 f_18_40 jw_1650 rfl rfl ?_
    refine s_29 18 rfl rfl ?_
    refine s_47 19 rfl ?_
    refine s_97 20 rfl ?_
    refine s_64L 21 rfl rfl (fun x1 => ?_)
    refine s_132L 3 1 24 1 ji_1 rfl rfl rfl (fun x2 => ?_)
    refine s_167 255 236 4 rfl rfl ?_
    exact s_jmp (hk4 _ _ _ _) ⟨rfl, rfl, rfl, trivial⟩
theorem w_18_fees_4 (l : Launch)  (n : Nat) : ∀ a0 a1 a3 H, JV l mi_18_fees jeL 4 [(0, .ref a0), (1, .long a1), (3, .int a3)] [] H (F_18_fees_4  n a0 a1 a3 H) := by
  induction n with
  | zero => intro _ _ _ _; exact s_none
  | succ n ih => intro a0 a1 a3 H; exact v_18_fees_4 l (F_18_fees_4  n) ih a0 a1 a3 H
theorem v_18_fees (l : Launch) (a0 : Nat) (H : jH) : JV l mi_18_fees jeL 0 [(0, .ref a0)] [] H (F_18_fees a0 H) := by
  unfold F_18_fees
  refine s_9 1 rfl ?_
  refine s_64 2 rfl rfl ?_
  refine s_3 3 rfl ?_
  refine s_62 4 rfl rfl ?_
  exact s_jmp (w_18_fees_4 l jfuel _ _ _ _) ⟨rfl, rfl, rfl, trivial⟩
theorem m_18_fees (l : Launch) (a0 : Nat) (H : jH) : JMet l y_18_fees prog_14_method_60_code mi_18_fees jeL [.ref a0] H (F_18_fees a0 H) := jmet_of n_18_fees (by decide) ⟨rfl, rfl⟩ (Nat.le_of_ble_eq_true rfl) (v_18_fees l a0 H)
def mi_L_law : jM := (8857516602122756585946365571683926373241708860473516988996223773226346580117795612313098178822021692097419208087224303492392439776377280420349861070110138854271831960049977841572335688001877825042274824138132221477852290509380481724074283610333831586282626517722435012037152599368545011328544881460826908027394593206635925317566006519787179678532526212427063965587903452667847936595731240210705143142971576370800138768210066185968409033876553164183092547309764902804158491185341016212709263417127219607868979437587781412643675486664983704116342207666885028216510245476594658980743487292393561222656030406003969149385797821861980117274281642410062234847496616670473487348302601814868770138676604513961326910735088581079389258205239888585225990334637520228905831877927767816407728312760195178721232841301564779433454347349061142637843071780040205379225775552513260219126567104356333586798408816826437078103839774790014391782108105339777050991537674015302364359342741655947139086277705477361447755416938233099021572670584257412995983876525018170845463173584918774392461594127971459153037926299160677782724643288775173999801550604919251755515978684079073273852538926153153943393084539002520992386687657509051, 500, 4, "CoinNodeLaw", some FieldType.boolean, "law", 21, 504)
def y_L_law : MethodName := ⟨"CoinNodeLaw", "law", "([I)Z"⟩
theorem n_L_law : jn_is code mi_L_law.1 mi_L_law.2.1 := by unfold jn_is; decide +kernel
theorem v_L_law_492 (l : Launch) (k18 : Nat → Nat → Nat → Int32 → jH → Option (Int32 × jH)) (hk18 : ∀ a0 a1 a2 a3 H, JV l mi_L_law jeI 18 [(0, .ref a0), (1, .ref a1), (2, .ref a2), (3, .int a3)] [] H (k18 a0 a1 a2 a3 H)) (a0 : Nat) (a1 : Nat) (a2 : Nat) (a3 : Int32) (H : jH) : JV l mi_L_law jeI 492 [(0, .ref a0), (1, .ref a1), (2, .ref a2), (3, .int a3)] [] H (B_L_law_492 k18 a0 a1 a2 a3 H) := by
  unfold B_L_law_492
  refine s_132L 3 10 495 10 ji_10 rfl rfl rfl (fun x1 => ?_)
  refine s_167 254 35 18 rfl rfl ?_
  exact s_jmp (hk18 _ _ _ _ _) ⟨rfl, rfl, rfl, rfl, trivial⟩
theorem v_L_law_18 (l : Launch) (k18 : Nat → Nat → Nat → Int32 → jH → Option (Int32 × jH)) (hk18 : ∀ a0 a1 a2 a3 H, JV l mi_L_law jeI 18 [(0, .ref a0), (1, .ref a1), (2, .ref a2), (3, .int a3)] [] H (k18 a0 a1 a2 a3 H)) (a0 : Nat) (a1 : Nat) (a2 : Nat) (a3 : Int32) (H : jH) : JV l mi_L_law jeI 18 [(0, .ref a0), (1, .ref a1), (2, .ref a2), (3, .int a3)] [] H (B_L_law_18 k18 a0 a1 a2 a3 H) := by
  unfold B_L_law_18
  refine s_29 19 rfl rfl ?_
  refine s_42 20 rfl rfl ?_
  refine s_190 21 100 jm_100 rfl ?_
  refine s_16 10 23 10 jbp_10 rfl ?_
  refine s_100 24 rfl ?_
  refine s_163 1 218 498 27 rfl rfl ?_ ?_
  · refine s_4 499 rfl ?_
    exact s_172Z rfl rfl
  · refine s_42 28 rfl rfl ?_
    refine s_29 29 rfl rfl ?_
    refine s_46 30 rfl ?_
    refine s_16 15 32 15 jbp_15 rfl ?_
    refine s_126 33 rfl ?_
    refine s_sw1 51 84 459 0 8 51 #[51, 114, 147, 171, 205, 394, 408, 422, 445] 0 n_L_law (by decide +kernel) (by decide) ?_ (fun q0 => ?_)
    · refine s_43 85 rfl rfl ?_
      refine s_42 86 rfl rfl ?_
      refine s_29 87 rfl rfl ?_
      refine s_4 88 rfl ?_
      refine s_96 89 rfl ?_
      refine s_46 90 rfl ?_
      refine s_42 91 rfl rfl ?_
      refine s_29 92 rfl rfl ?_
      refine s_5 93 rfl ?_
      refine s_96 94 rfl ?_
      refine s_46 95 rfl ?_
      refine s_42 96 rfl rfl ?_
      refine s_29 97 rfl rfl ?_
      refine s_6 98 rfl ?_
      refine s_96 99 rfl ?_
      refine s_46 100 rfl ?_
      refine s_42 101 rfl rfl ?_
      refine s_29 102 rfl rfl ?_
      refine s_7 103 rfl ?_
      refine s_96 104 rfl ?_
      refine s_46 105 rfl ?_
      refine s_42 106 rfl rfl ?_
      refine s_29 107 rfl rfl ?_
      refine s_8 108 rfl ?_
      refine s_96 109 rfl ?_
      refine s_46 110 rfl ?_
      refine s_182I 0 13 113 13 (m_11_feed l _ _ _ _ _ _ _) rfl k_11_feed jc_11 jw_524 jw_525 jw_526 rfl rfl rfl rfl rfl (fun x2 h3 => ?_)
      refine s_44 114 rfl rfl ?_
      refine s_42 115 rfl rfl ?_
      refine s_29 116 rfl rfl ?_
      refine s_4 117 rfl ?_
      refine s_96 118 rfl ?_
      refine s_46 119 rfl ?_
      refine s_42 120 rfl rfl ?_
      refine s_29 121 rfl rfl ?_
      refine s_5 122 rfl ?_
      refine s_96 123 rfl ?_
      refine s_46 124 rfl ?_
      refine s_42 125 rfl rfl ?_
      refine s_29 126 rfl rfl ?_
      refine s_6 127 rfl ?_
      refine s_96 128 rfl ?_
      refine s_46 129 rfl ?_
      refine s_42 130 rfl rfl ?_
      refine s_29 131 rfl rfl ?_
      refine s_7 132 rfl ?_
      refine s_96 133 rfl ?_
      refine s_46 134 rfl ?_
      refine s_42 135 rfl rfl ?_
      refine s_29 136 rfl rfl ?_
      refine s_8 137 rfl ?_
      refine s_96 138 rfl ?_
      refine s_46 139 rfl ?_
      refine s_182I 0 17 142 17 (m_18_feed l _ _ _ _ _ _ _) rfl k_18_feed jc_18 jw_1794 jw_1795 jw_1796 rfl rfl rfl rfl rfl (fun x4 h5 => ?_)
      refine s_159 1 94 492 145 rfl rfl ?_ ?_
      · exact s_jmp (v_L_law_492 l k18 hk18 _ _ _ _ _) ⟨rfl, rfl, rfl, rfl, trivial⟩
      · refine s_3 146 rfl ?_
        exact s_172Z rfl rfl
    refine s_sw1 51 147 459 0 8 114 #[51, 114, 147, 171, 205, 394, 408, 422, 445] 1 n_L_law (by decide +kernel) (by decide) ?_ (fun q1 => ?_)
    · refine s_43 148 rfl rfl ?_
      refine s_42 149 rfl rfl ?_
      refine s_29 150 rfl rfl ?_
      refine s_4 151 rfl ?_
      refine s_96 152 rfl ?_
      refine s_46 153 rfl ?_
      refine s_42 154 rfl rfl ?_
      refine s_29 155 rfl rfl ?_
      refine s_5 156 rfl ?_
      refine s_96 157 rfl ?_
      refine s_46 158 rfl ?_
      refine s_182I 0 18 161 18 (m_11_send l _ _ _ _) rfl k_11_send jc_11 jw_532 jw_533 jw_534 rfl rfl rfl rfl rfl (fun x6 h7 => ?_)
      refine s_44 162 rfl rfl ?_
      refine s_42 163 rfl rfl ?_
      refine s_29 164 rfl rfl ?_
      refine s_4 165 rfl ?_
      refine s_96 166 rfl ?_
      refine s_46 167 rfl ?_
      refine s_42 168 rfl rfl ?_
      refine s_29 169 rfl rfl ?_
      refine s_5 170 rfl ?_
      refine s_96 171 rfl ?_
      refine s_46 172 rfl ?_
      refine s_182I 0 22 175 22 (m_18_send l _ _ _ _) rfl k_18_send jc_18 jw_1802 jw_1803 jw_1804 rfl rfl rfl rfl rfl (fun x8 h9 => ?_)
      refine s_159 1 61 492 178 rfl rfl ?_ ?_
      · exact s_jmp (v_L_law_492 l k18 hk18 _ _ _ _ _) ⟨rfl, rfl, rfl, rfl, trivial⟩
      · refine s_3 179 rfl ?_
        exact s_172Z rfl rfl
    refine s_sw1 51 180 459 0 8 147 #[51, 114, 147, 171, 205, 394, 408, 422, 445] 2 n_L_law (by decide +kernel) (by decide) ?_ (fun q2 => ?_)
    · refine s_43 181 rfl rfl ?_
      refine s_42 182 rfl rfl ?_
      refine s_29 183 rfl rfl ?_
      refine s_4 184 rfl ?_
      refine s_96 185 rfl ?_
      refine s_46 186 rfl ?_
      refine s_182L 0 23 189 23 (m_11_fetch l _ _ _) rfl k_11_fetch jc_11 jw_1228 jw_1229 jw_1230 rfl rfl rfl rfl rfl (fun x10 h11 => ?_)
      refine s_44 190 rfl rfl ?_
      refine s_42 191 rfl rfl ?_
      refine s_29 192 rfl rfl ?_
      refine s_4 193 rfl ?_
      refine s_96 194 rfl ?_
      refine s_46 195 rfl ?_
      refine s_182L 0 27 198 27 (m_18_fetch l _ _ _) rfl k_18_fetch jc_18 jw_2464 jw_2465 jw_2466 rfl rfl rfl rfl rfl (fun x12 h13 => ?_)
      refine s_148_153 1 37 492 199 202 rfl rfl rfl ?_ ?_
      · exact s_jmp (v_L_law_492 l k18 hk18 _ _ _ _ _) ⟨rfl, rfl, rfl, rfl, trivial⟩
      · refine s_3 203 rfl ?_
        exact s_172Z rfl rfl
    refine s_sw1 51 204 459 0 8 171 #[51, 114, 147, 171, 205, 394, 408, 422, 445] 3 n_L_law (by decide +kernel) (by decide) ?_ (fun q3 => ?_)
    · refine s_43 205 rfl rfl ?_
      refine s_42 206 rfl rfl ?_
      refine s_29 207 rfl rfl ?_
      refine s_4 208 rfl ?_
      refine s_96 209 rfl ?_
      refine s_46 210 rfl ?_
      refine s_42 211 rfl rfl ?_
      refine s_29 212 rfl rfl ?_
      refine s_5 213 rfl ?_
      refine s_96 214 rfl ?_
      refine s_46 215 rfl ?_
      refine s_182L 0 28 218 28 (m_11_block l _ _ _ _) rfl k_11_block jc_11 jw_1232 jw_1233 jw_1234 rfl rfl rfl rfl rfl (fun x14 h15 => ?_)
      refine s_44 219 rfl rfl ?_
      refine s_42 220 rfl rfl ?_
      refine s_29 221 rfl rfl ?_
      refine s_4 222 rfl ?_
      refine s_96 223 rfl ?_
      refine s_46 224 rfl ?_
      refine s_42 225 rfl rfl ?_
      refine s_29 226 rfl rfl ?_
      refine s_5 227 rfl ?_
      refine s_96 228 rfl ?_
      refine s_46 229 rfl ?_
      refine s_182L 0 32 232 32 (m_18_block l _ _ _ _) rfl k_18_block jc_18 jw_2468 jw_2469 jw_2470 rfl rfl rfl rfl rfl (fun x16 h17 => ?_)
      refine s_148_153 1 3 492 233 236 rfl rfl rfl ?_ ?_
      · exact s_jmp (v_L_law_492 l k18 hk18 _ _ _ _ _) ⟨rfl, rfl, rfl, rfl, trivial⟩
      · refine s_3 237 rfl ?_
        exact s_172Z rfl rfl
    refine s_sw1 51 238 459 0 8 205 #[51, 114, 147, 171, 205, 394, 408, 422, 445] 4 n_L_law (by decide +kernel) (by decide) ?_ (fun q4 => ?_)
    · refine s_43 239 rfl rfl ?_
      refine s_42 240 rfl rfl ?_
      refine s_29 241 rfl rfl ?_
      refine s_4 242 rfl ?_
      refine s_96 243 rfl ?_
      refine s_46 244 rfl ?_
      refine s_133 245 rfl ?_
      refine s_16 32 247 32 jbp_32 rfl ?_
      refine s_121 248 rfl ?_
      refine s_42 249 rfl rfl ?_
      refine s_29 250 rfl rfl ?_
      refine s_5 251 rfl ?_
      refine s_96 252 rfl ?_
      refine s_46 253 rfl ?_
      refine s_133 254 rfl ?_
      refine s_20 0 33 257 33 4294967295 rfl jw_2492 rfl ?_
      refine s_127 258 rfl ?_
      refine s_129 259 rfl ?_
      refine s_42 260 rfl rfl ?_
      refine s_29 261 rfl rfl ?_
      refine s_6 262 rfl ?_
      refine s_96 263 rfl ?_
      refine s_46 264 rfl ?_
      refine s_133 265 rfl ?_
      refine s_16 32 267 32 jbp_32 rfl ?_
      refine s_121 268 rfl ?_
      refine s_42 269 rfl rfl ?_
      refine s_29 270 rfl rfl ?_
      refine s_7 271 rfl ?_
      refine s_96 272 rfl ?_
      refine s_46 273 rfl ?_
      refine s_133 274 rfl ?_
      refine s_20 0 33 277 33 4294967295 rfl jw_2492 rfl ?_
      refine s_127 278 rfl ?_
      refine s_129 279 rfl ?_
      refine s_42 280 rfl rfl ?_
      refine s_29 281 rfl rfl ?_
      refine s_8 282 rfl ?_
      refine s_96 283 rfl ?_
      refine s_46 284 rfl ?_
      refine s_133 285 rfl ?_
      refine s_16 32 287 32 jbp_32 rfl ?_
      refine s_121 288 rfl ?_
      refine s_42 289 rfl rfl ?_
      refine s_29 290 rfl rfl ?_
      refine s_16 6 292 6 jbp_6 rfl ?_
      refine s_96 293 rfl ?_
      refine s_46 294 rfl ?_
      refine s_133 295 rfl ?_
      refine s_20 0 33 298 33 4294967295 rfl jw_2492 rfl ?_
      refine s_127 299 rfl ?_
      refine s_129 300 rfl ?_
      refine s_42 301 rfl rfl ?_
      refine s_29 302 rfl rfl ?_
      refine s_16 7 304 7 jbp_7 rfl ?_
      refine s_96 305 rfl ?_
      refine s_46 306 rfl ?_
      refine s_133 307 rfl ?_
      refine s_16 32 309 32 jbp_32 rfl ?_
      refine s_121 310 rfl ?_
      refine s_42 311 rfl rfl ?_
      refine s_29 312 rfl rfl ?_
      refine s_16 8 314 8 jbp_8 rfl ?_
      refine s_96 315 rfl ?_
      refine s_46 316 rfl ?_
      refine s_133 317 rfl ?_
      refine s_20 0 33 320 33 4294967295 rfl jw_2492 rfl ?_
      refine s_127 321 rfl ?_
      refine s_129 322 rfl ?_
      refine s_42 323 rfl rfl ?_
      refine s_29 324 rfl rfl ?_
      refine s_16 9 326 9 jbp_9 rfl ?_
      refine s_96 327 rfl ?_
      refine s_46 328 rfl ?_
      refine s_182V 0 35 331 35 (m_11_key l _ _ _ _ _ _ _) rfl k_11_key jc_11 jw_1236 jw_1237 jw_1238 rfl rfl rfl rfl rfl (fun x18 h19 => ?_)
      refine s_44 332 rfl rfl ?_
      refine s_42 333 rfl rfl ?_
      refine s_29 334 rfl rfl ?_
      refine s_4 335 rfl ?_
      refine s_96 336 rfl ?_
      refine s_46 337 rfl ?_
      refine s_133 338 rfl ?_
      refine s_16 32 340 32 jbp_32 rfl ?_
      refine s_121 341 rfl ?_
      refine s_42 342 rfl rfl ?_
      refine s_29 343 rfl rfl ?_
      refine s_5 344 rfl ?_
      refine s_96 345 rfl ?_
      refine s_46 346 rfl ?_
      refine s_133 347 rfl ?_
      refine s_20 0 33 350 33 4294967295 rfl jw_2492 rfl ?_
      refine s_127 351 rfl ?_
      refine s_129 352 rfl ?_
      refine s_42 353 rfl rfl ?_
      refine s_29 354 rfl rfl ?_
      refine s_6 355 rfl ?_
      refine s_96 356 rfl ?_
      refine s_46 357 rfl ?_
      refine s_133 358 rfl ?_
      refine s_16 32 360 32 jbp_32 rfl ?_
      refine s_121 361 rfl ?_
      refine s_42 362 rfl rfl ?_
      refine s_29 363 rfl rfl ?_
      refine s_7 364 rfl ?_
      refine s_96 365 rfl ?_
      refine s_46 366 rfl ?_
      refine s_133 367 rfl ?_
      refine s_20 0 33 370 33 4294967295 rfl jw_2492 rfl ?_
      refine s_127 371 rfl ?_
      refine s_129 372 rfl ?_
      refine s_42 373 rfl rfl ?_
      refine s_29 374 rfl rfl ?_
      refine s_8 375 rfl ?_
      refine s_96 376 rfl ?_
      refine s_46 377 rfl ?_
      refine s_133 378 rfl ?_
      refine s_16 32 380 32 jbp_32 rfl ?_
      refine s_121 381 rfl ?_
      refine s_42 382 rfl rfl ?_
      refine s_29 383 rfl rfl ?_
      refine s_16 6 385 6 jbp_6 rfl ?_
      refine s_96 386 rfl ?_
      refine s_46 387 rfl ?_
      refine s_133 388 rfl ?_
      refine s_20 0 33 391 33 4294967295 rfl jw_2492 rfl ?_
      refine s_127 392 rfl ?_
      refine s_129 393 rfl ?_
      refine s_42 394 rfl rfl ?_
      refine s_29 395 rfl rfl ?_
      refine s_16 7 397 7 jbp_7 rfl ?_
      refine s_96 398 rfl ?_
      refine s_46 399 rfl ?_
      refine s_133 400 rfl ?_
      refine s_16 32 402 32 jbp_32 rfl ?_
      refine s_121 403 rfl ?_
      refine s_42 404 rfl rfl ?_
      refine s_29 405 rfl rfl ?_
      refine s_16 8 407 8 jbp_8 rfl ?_
      refine s_96 408 rfl ?_
      refine s_46 409 rfl ?_
      refine s_133 410 rfl ?_
      refine s_20 0 33 413 33 4294967295 rfl jw_2492 rfl ?_
      refine s_127 414 rfl ?_
      refine s_129 415 rfl ?_
      refine s_42 416 rfl rfl ?_
      refine s_29 417 rfl rfl ?_
      refine s_16 9 419 9 jbp_9 rfl ?_
      refine s_96 420 rfl ?_
      refine s_46 421 rfl ?_
      refine s_182V 0 39 424 39 (m_18_key l _ _ _ _ _ _ _) rfl k_18_key jc_18 jw_2472 jw_2473 jw_2474 rfl rfl rfl rfl rfl (fun x20 h21 => ?_)
      refine s_167 0 68 492 rfl rfl ?_
      exact s_jmp (v_L_law_492 l k18 hk18 _ _ _ _ _) ⟨rfl, rfl, rfl, rfl, trivial⟩
    refine s_sw1 51 427 459 0 8 394 #[51, 114, 147, 171, 205, 394, 408, 422, 445] 5 n_L_law (by decide +kernel) (by decide) ?_ (fun q5 => ?_)
    · refine s_43 428 rfl rfl ?_
      refine s_182L 0 40 431 40 (m_11_value l _ _) rfl k_11_value jc_11 jw_1240 jw_1241 jw_1242 rfl rfl rfl rfl rfl (fun x22 h23 => ?_)
      refine s_44 432 rfl rfl ?_
      refine s_182L 0 44 435 44 (m_18_value l _ _) rfl k_18_value jc_18 jw_2476 jw_2477 jw_2478 rfl rfl rfl rfl rfl (fun x24 h25 => ?_)
      refine s_148_153 0 56 492 436 439 rfl rfl rfl ?_ ?_
      · exact s_jmp (v_L_law_492 l k18 hk18 _ _ _ _ _) ⟨rfl, rfl, rfl, rfl, trivial⟩
      · refine s_3 440 rfl ?_
        exact s_172Z rfl rfl
    refine s_sw1 51 441 459 0 8 408 #[51, 114, 147, 171, 205, 394, 408, 422, 445] 6 n_L_law (by decide +kernel) (by decide) ?_ (fun q6 => ?_)
    · refine s_43 442 rfl rfl ?_
      refine s_182L 0 45 445 45 (m_11_total l _ _) rfl k_11_total jc_11 jw_1247 jw_1248 jw_1249 rfl rfl rfl rfl rfl (fun x26 h27 => ?_)
      refine s_44 446 rfl rfl ?_
      refine s_182L 0 48 449 48 (m_18_total l _ _) rfl k_18_total jc_18 jw_2480 jw_2481 jw_2482 rfl rfl rfl rfl rfl (fun x28 h29 => ?_)
      refine s_148_153 0 42 492 450 453 rfl rfl rfl ?_ ?_
      · exact s_jmp (v_L_law_492 l k18 hk18 _ _ _ _ _) ⟨rfl, rfl, rfl, rfl, trivial⟩
      · refine s_3 454 rfl ?_
        exact s_172Z rfl rfl
    refine s_sw1 51 455 459 0 8 422 #[51, 114, 147, 171, 205, 394, 408, 422, 445] 7 n_L_law (by decide +kernel) (by decide) ?_ (fun q7 => ?_)
    · refine s_43 456 rfl rfl ?_
      refine s_42 457 rfl rfl ?_
      refine s_29 458 rfl rfl ?_
      refine s_4 459 rfl ?_
      refine s_96 460 rfl ?_
      refine s_46 461 rfl ?_
      refine s_182I 0 49 464 49 (m_11_count l _ _ _) rfl k_11_count jc_11 jw_1251 jw_1252 jw_1253 rfl rfl rfl rfl rfl (fun x30 h31 => ?_)
      refine s_44 465 rfl rfl ?_
      refine s_42 466 rfl rfl ?_
      refine s_29 467 rfl rfl ?_
      refine s_4 468 rfl ?_
      refine s_96 469 rfl ?_
      refine s_46 470 rfl ?_
      refine s_182I 0 53 473 53 (m_18_count l _ _ _) rfl k_18_count jc_18 jw_2484 jw_2485 jw_2486 rfl rfl rfl rfl rfl (fun x32 h33 => ?_)
      refine s_159 0 19 492 476 rfl rfl ?_ ?_
      · exact s_jmp (v_L_law_492 l k18 hk18 _ _ _ _ _) ⟨rfl, rfl, rfl, rfl, trivial⟩
      · refine s_3 477 rfl ?_
        exact s_172Z rfl rfl
    refine s_sw1 51 478 459 0 8 445 #[51, 114, 147, 171, 205, 394, 408, 422, 445] 8 n_L_law (by decide +kernel) (by decide) ?_ (fun q8 => ?_)
    · refine s_43 479 rfl rfl ?_
      refine s_182L 0 54 482 54 (m_11_fees l _ _) rfl k_11_fees jc_11 jw_1255 jw_1256 jw_1257 rfl rfl rfl rfl rfl (fun x34 h35 => ?_)
      refine s_44 483 rfl rfl ?_
      refine s_182L 0 57 486 57 (m_18_fees l _ _) rfl k_18_fees jc_18 jw_2488 jw_2489 jw_2490 rfl rfl rfl rfl rfl (fun x36 h37 => ?_)
      refine s_148_153 0 5 492 487 490 rfl rfl rfl ?_ ?_
      · exact s_jmp (v_L_law_492 l k18 hk18 _ _ _ _ _) ⟨rfl, rfl, rfl, rfl, trivial⟩
      · refine s_3 491 rfl ?_
        exact s_172Z rfl rfl
    refine s_sw0 51 492 459 0 8 #[51, 114, 147, 171, 205, 394, 408, 422, 445] n_L_law (by decide +kernel) (by have r0 := jne_int q0 (z := 0) rfl; have r1 := jne_int q1 (z := 1) rfl; have r2 := jne_int q2 (z := 2) rfl; have r3 := jne_int q3 (z := 3) rfl; have r4 := jne_int q4 (z := 4) rfl; have r5 := jne_int q5 (z := 5) rfl; have r6 := jne_int q6 (z := 6) rfl; have r7 := jne_int q7 (z := 7) rfl; have r8 := jne_int q8 (z := 8) rfl; omega) (by decide) ?_
    exact s_jmp (v_L_law_492 l k18 hk18 _ _ _ _ _) ⟨rfl, rfl, rfl, rfl, trivial⟩
theorem w_L_law_18 (l : Launch)  (n : Nat) : ∀ a0 a1 a2 a3 H, JV l mi_L_law jeI 18 [(0, .ref a0), (1, .ref a1), (2, .ref a2), (3, .int a3)] [] H (F_L_law_18  n a0 a1 a2 a3 H) := by
  induction n with
  | zero => intro _ _ _ _ _; exact s_none
  | succ n ih => intro a0 a1 a2 a3 H; exact v_L_law_18 l (F_L_law_18  n) ih a0 a1 a2 a3 H
theorem v_L_law (l : Launch) (a0 : Nat) (H : jH) : JV l mi_L_law jeI 0 [(0, .ref a0)] [] H (F_L_law a0 H) := by
  unfold F_L_law
  refine s_187 0 7 3 7 jc_11 jw_23 jw_24 jw_1 rfl rfl (fun r38 h39 => ?_)
  refine s_89 4 rfl rfl ?_
  refine s_183V 0 9 7 9 (m_11_init l _ _) rfl k_11_init rfl rfl jw_25 jw_26 rfl rfl rfl rfl rfl (fun x40 h41 => ?_)
  refine s_76 8 rfl rfl ?_
  refine s_187 0 10 11 10 jc_18 jw_1263 jw_1264 jw_14 rfl rfl (fun r42 h43 => ?_)
  refine s_89 12 rfl rfl ?_
  refine s_183V 0 12 15 12 (m_18_init l _ _) rfl k_18_init rfl rfl jw_1265 jw_1266 rfl rfl rfl rfl rfl (fun x44 h45 => ?_)
  refine s_77 16 rfl rfl ?_
  refine s_3 17 rfl ?_
  refine s_62 18 rfl rfl ?_
  exact s_jmp (w_L_law_18 l jfuel _ _ _ _ _) ⟨rfl, rfl, rfl, rfl, trivial⟩
theorem m_L_law (l : Launch) (a0 : Nat) (H : jH) : JMet l y_L_law code mi_L_law jeI [.ref a0] H (F_L_law a0 H) := jmet_of n_L_law (by decide) ⟨rfl, rfl⟩ (Nat.le_of_ble_eq_true rfl) (v_L_law l a0 H)
