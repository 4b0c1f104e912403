def mi_5_twice : jM := (1517115973016875961096431550275424302028299167846632970651892325462099137707740484769932429852687170240154683336276281075171198383527644323947552108855861195710923720957293663262311210528628077827190863481713698811218238302337018426117295198773270439427309689646163720031636096838561779171900150363948901837832566162431622494699089947364335572847928901144878000974972271990672790591572344140519101351959370233863274898892217765048940861181693175837738, 187, 6, "CoinNode$Point", none, "twice", 1, 86)
def y_5_twice : MethodName := ⟨"CoinNode$Point", "twice", "([[J)V"⟩
theorem n_5_twice : jn_is prog_7_method_4_code mi_5_twice.1 mi_5_twice.2.1 := by unfold jn_is; decide +kernel
theorem k_5_twice : jmok y_5_twice prog_7_method_4_code mi_5_twice 1 := ⟨jw_1092, jw_5, ⟨by decide, by decide⟩, by decide +kernel⟩
theorem v_5_twice_14 (l : Launch)   (H : jH) : JV l mi_5_twice jeV 14 [] [] H (B_5_twice_14   H) := by
  unfold B_5_twice_14
  exact s_177 rfl rfl
theorem v_5_twice (l : Launch) (a0 : Nat) (a1 : Nat) (H : jH) : JV l mi_5_twice jeV 0 [(0, .ref a0), (1, .ref a1)] [] H (F_5_twice a0 a1 H) := by
  unfold F_5_twice
  refine s_42 1 rfl rfl ?_
  refine s_180I 0 19 4 19 f_5_3 jw_85 rfl rfl ?_
  refine s_154 0 10 14 7 rfl rfl ?_ ?_
  · exact s_jmp (v_5_twice_14 l _) trivial
  · refine s_43 8 rfl rfl ?_
    refine s_190 9 112 jm_112 rfl ?_
    refine s_16 6 11 6 jbp_6 rfl ?_
    refine s_162 0 4 15 14 rfl rfl ?_ ?_
    · refine s_43 16 rfl rfl ?_
      refine s_3 17 rfl ?_
      refine s_50 18 112 jt_112 rfl ?_
      refine s_77L 19 rfl rfl (fun x1 => ?_)
      refine s_43 20 rfl rfl ?_
      refine s_4 21 rfl ?_
      refine s_50 22 112 jt_112 rfl ?_
      refine s_78L 23 rfl rfl (fun x2 => ?_)
      refine s_43 24 rfl rfl ?_
      refine s_5 25 rfl ?_
      refine s_50 26 112 jt_112 rfl ?_
      refine s_58L 4 28 rfl rfl (fun x3 => ?_)
      refine s_43 29 rfl rfl ?_
      refine s_6 30 rfl ?_
      refine s_50 31 112 jt_112 rfl ?_
      refine s_58L 5 33 rfl rfl (fun x4 => ?_)
      refine s_44 34 rfl rfl ?_
      refine s_42 35 rfl rfl ?_
      refine s_180R 0 7 38 7 f_5_0 jw_79 rfl rfl ?_
      refine s_42 39 rfl rfl ?_
      refine s_180R 0 7 42 7 f_5_0 jw_79 rfl rfl ?_
      refine s_184V 0 29 45 29 (m_5_multiply l _ _ _ _) rfl k_5_multiply jw_1069 jw_1055 rfl rfl rfl rfl rfl (fun x5 h6 => ?_)
      refine s_45 46 rfl rfl ?_
      refine s_42 47 rfl rfl ?_
      refine s_180R 0 13 50 13 f_5_1 jw_81 rfl rfl ?_
      refine s_42 51 rfl rfl ?_
      refine s_180R 0 13 54 13 f_5_1 jw_81 rfl rfl ?_
      refine s_184V 0 29 57 29 (m_5_multiply l _ _ _ _) rfl k_5_multiply jw_1069 jw_1055 rfl rfl rfl rfl rfl (fun x7 h8 => ?_)
      refine s_25 4 59 rfl rfl ?_
      refine s_42 60 rfl rfl ?_
      refine s_180R 0 7 63 7 f_5_0 jw_79 rfl rfl ?_
      refine s_45 64 rfl rfl ?_
      refine s_184V 0 29 67 29 (m_5_multiply l _ _ _ _) rfl k_5_multiply jw_1069 jw_1055 rfl rfl rfl rfl rfl (fun x9 h10 => ?_)
      refine s_42 68 rfl rfl ?_
      refine s_180R 0 16 71 16 f_5_2 jw_83 rfl rfl ?_
      refine s_42 72 rfl rfl ?_
      refine s_180R 0 13 75 13 f_5_1 jw_81 rfl rfl ?_
      refine s_42 76 rfl rfl ?_
      refine s_180R 0 16 79 16 f_5_2 jw_83 rfl rfl ?_
      refine s_184V 0 29 82 29 (m_5_multiply l _ _ _ _) rfl k_5_multiply jw_1069 jw_1055 rfl rfl rfl rfl rfl (fun x11 h12 => ?_)
      refine s_42 83 rfl rfl ?_
      refine s_180R 0 16 86 16 f_5_2 jw_83 rfl rfl ?_
      refine s_42 87 rfl rfl ?_
      refine s_180R 0 16 90 16 f_5_2 jw_83 rfl rfl ?_
      refine s_20 0 33 93 33 2 rfl jw_1093 rfl ?_
      refine s_42 94 rfl rfl ?_
      refine s_180R 0 16 97 16 f_5_2 jw_83 rfl rfl ?_
      refine s_9 98 rfl ?_
      refine s_184V 0 35 101 35 (m_5_mix l _ _ _ _ _ _) rfl k_5_mix jw_1064 jw_1065 rfl rfl rfl rfl rfl (fun x13 h14 => ?_)
      refine s_25 5 103 rfl rfl ?_
      refine s_44 104 rfl rfl ?_
      refine s_44 105 rfl rfl ?_
      refine s_184V 0 29 108 29 (m_5_multiply l _ _ _ _) rfl k_5_multiply jw_1069 jw_1055 rfl rfl rfl rfl rfl (fun x15 h16 => ?_)
      refine s_42 109 rfl rfl ?_
      refine s_180R 0 7 112 7 f_5_0 jw_79 rfl rfl ?_
      refine s_25 5 114 rfl rfl ?_
      refine s_20 0 39 117 39 9 rfl jw_1094 rfl ?_
      refine s_25 4 119 rfl rfl ?_
      refine s_20 0 41 122 41 (-8) rfl jw_1095 rfl ?_
      refine s_184V 0 35 125 35 (m_5_mix l _ _ _ _ _ _) rfl k_5_mix jw_1064 jw_1065 rfl rfl rfl rfl rfl (fun x17 h18 => ?_)
      refine s_42 126 rfl rfl ?_
      refine s_180R 0 7 129 7 f_5_0 jw_79 rfl rfl ?_
      refine s_184V 0 43 132 43 (m_5_settle l _ _) rfl k_5_settle jw_1096 jw_1097 rfl rfl rfl rfl rfl (fun x19 h20 => ?_)
      refine s_25 5 134 rfl rfl ?_
      refine s_25 4 136 rfl rfl ?_
      refine s_20 0 47 139 47 4 rfl jw_1099 rfl ?_
      refine s_42 140 rfl rfl ?_
      refine s_180R 0 7 143 7 f_5_0 jw_79 rfl rfl ?_
      refine s_20 0 49 146 49 (-1) rfl jw_1100 rfl ?_
      refine s_184V 0 35 149 35 (m_5_mix l _ _ _ _ _ _) rfl k_5_mix jw_1064 jw_1065 rfl rfl rfl rfl rfl (fun x21 h22 => ?_)
      refine s_25 5 151 rfl rfl ?_
      refine s_25 5 153 rfl rfl ?_
      refine s_44 154 rfl rfl ?_
      refine s_184V 0 29 157 29 (m_5_multiply l _ _ _ _) rfl k_5_multiply jw_1069 jw_1055 rfl rfl rfl rfl rfl (fun x23 h24 => ?_)
      refine s_45 158 rfl rfl ?_
      refine s_45 159 rfl rfl ?_
      refine s_45 160 rfl rfl ?_
      refine s_184V 0 29 163 29 (m_5_multiply l _ _ _ _) rfl k_5_multiply jw_1069 jw_1055 rfl rfl rfl rfl rfl (fun x25 h26 => ?_)
      refine s_42 164 rfl rfl ?_
      refine s_180R 0 13 167 13 f_5_1 jw_81 rfl rfl ?_
      refine s_25 5 169 rfl rfl ?_
      refine s_20 0 51 172 51 3 rfl jw_1101 rfl ?_
      refine s_45 173 rfl rfl ?_
      refine s_20 0 41 176 41 (-8) rfl jw_1095 rfl ?_
      refine s_184V 0 35 179 35 (m_5_mix l _ _ _ _ _ _) rfl k_5_mix jw_1064 jw_1065 rfl rfl rfl rfl rfl (fun x27 h28 => ?_)
      refine s_42 180 rfl rfl ?_
      refine s_180R 0 13 183 13 f_5_1 jw_81 rfl rfl ?_
      refine s_184V 0 43 186 43 (m_5_settle l _ _) rfl k_5_settle jw_1096 jw_1097 rfl rfl rfl rfl rfl (fun x29 h30 => ?_)
      exact s_177 rfl rfl
    · exact s_jmp (v_5_twice_14 l _) trivial
theorem m_5_twice (l : Launch) (a0 : Nat) (a1 : Nat) (H : jH) : JMet l y_5_twice prog_7_method_4_code mi_5_twice jeV [.ref a0, .ref a1] H (F_5_twice a0 a1 H) := jmet_of n_5_twice (by decide) ⟨rfl, rfl⟩ (Nat.le_of_ble_eq_true rfl) (v_5_twice l a0 a1 H)
def mi_A_fill : jM := (260084484793771837089383454476700660118993838423299, 21, 4, "java/util/Arrays", none, "fill", 0, 0)
def y_A_fill : MethodName := ⟨"java/util/Arrays", "fill", "([II)V"⟩
theorem n_A_fill : jn_is prog_25_method_103_code mi_A_fill.1 mi_A_fill.2.1 := by unfold jn_is; decide +kernel
theorem k_A_fill : jmok y_A_fill prog_25_method_103_code mi_A_fill 2 := ⟨jw_1025, jw_14, ⟨by decide, by decide⟩, by decide +kernel⟩
theorem v_A_fill_5 (l : Launch) (k5 : Nat → Int32 → Int32 → Int32 → jH → Option (Unit × jH)) (hk5 : ∀ a0 a1 a2 a3 H, JV l mi_A_fill jeV 5 [(0, .ref a0), (1, .int a1), (2, .int a2), (3, .int a3)] [] H (k5 a0 a1 a2 a3 H)) (a0 : Nat) (a1 : Int32) (a2 : Int32) (a3 : Int32) (H : jH) : JV l mi_A_fill jeV 5 [(0, .ref a0), (1, .int a1), (2, .int a2), (3, .int a3)] [] H (B_A_fill_5 k5 a0 a1 a2 a3 H) := by
  unfold B_A_fill_5
  refine s_28 6 rfl rfl ?_
  refine s_29 7 rfl rfl ?_
  refine s_162 0 13 20 10 rfl rfl ?_ ?_
  · exact s_177 rfl rfl
  · refine s_42 11 rfl rfl ?_
    refine s_28 12 rfl rfl ?_
    refine s_27 13 rfl rfl ?_
    refine s_79 14 rfl (fun h1 => ?_)
    refine s_132L 2 1 17 1 ji_1 rfl rfl rfl (fun x2 => ?_)
    refine s_167 255 244 5 rfl rfl ?_
    exact s_jmp (hk5 _ _ _ _ _) ⟨rfl, rfl, rfl, rfl, trivial⟩
theorem w_A_fill_5 (l : Launch)  (n : Nat) : ∀ a0 a1 a2 a3 H, JV l mi_A_fill jeV 5 [(0, .ref a0), (1, .int a1), (2, .int a2), (3, .int a3)] [] H (F_A_fill_5  n a0 a1 a2 a3 H) := by
  induction n with
  | zero => intro _ _ _ _ _; exact s_none
  | succ n ih => intro a0 a1 a2 a3 H; exact v_A_fill_5 l (F_A_fill_5  n) ih a0 a1 a2 a3 H
theorem v_A_fill (l : Launch) (a0 : Nat) (a1 : Int32) (H : jH) : JV l mi_A_fill jeV 0 [(0, .ref a0), (1, .int a1)] [] H (F_A_fill a0 a1 H) := by
  unfold F_A_fill
  refine s_3 1 rfl ?_
  refine s_61 2 rfl rfl ?_
  refine s_42 3 rfl rfl ?_
  refine s_190 4 100 jm_100 rfl ?_
  refine s_62L 5 rfl rfl (fun x3 => ?_)
  exact s_jmp (w_A_fill_5 l jfuel _ _ _ _ _) ⟨rfl, rfl, rfl, rfl, trivial⟩
theorem m_A_fill (l : Launch) (a0 : Nat) (a1 : Int32) (H : jH) : JMet l y_A_fill prog_25_method_103_code mi_A_fill jeV [.ref a0, .int a1] H (F_A_fill a0 a1 H) := jmet_of n_A_fill (by decide) ⟨rfl, rfl⟩ (Nat.le_of_ble_eq_true rfl) (v_A_fill l a0 a1 H)
def mi_8_multiply : jM := (2931613311481139650092814646617830802138277387604836455914780241074986842561148765553572824151556475603028844619269180587408516317566427691259234884294639944529199803147910778629644805038044881109652673912644456849152214948871720822094731412216525724232263392094174406344744705332674461907378968140518612892863516190613914456343644969199534661295147785536590969771545695331592118898575891699661478500389344373153375012842608589170912842572611867150710750653555930045626929433785819147746526829794200868747165287996678308434714805550296227512374564214110923498613293817061596766760755618453157782176378876655973105193193555300764044968470261850572526363259606516533361769850391611798638331682668495575960339283722377282167069792998928432071579986312123416300022674976023238822892665914785046652876913354715767127973600015768784725532667386078260746573313007609490212769726969624288331659318243131031563517630617171720481862051868006874685154191648215749199518144297835564126419253821688700007025505578941833436565434388435026199289843483694244747109488375411754, 440, 12, "CoinNode$Signature", none, "multiply", 1, 60)
def y_8_multiply : MethodName := ⟨"CoinNode$Signature", "multiply", "([I[I[I)V"⟩
theorem n_8_multiply : jn_is prog_10_method_12_code mi_8_multiply.1 mi_8_multiply.2.1 := by unfold jn_is; decide +kernel
theorem k_8_multiply : jmok y_8_multiply prog_10_method_12_code mi_8_multiply 3 := ⟨jw_1142, jw_4, ⟨by decide, by decide⟩, by decide +kernel⟩
theorem v_8_multiply_24 (l : Launch) (k11 : Nat → Nat → Nat → Nat → Int32 → jH → Option (Unit × jH)) (hk11 : ∀ a0 a1 a2 a3 a4 H, JV l mi_8_multiply jeV 11 [(0, .ref a0), (1, .ref a1), (2, .ref a2), (3, .ref a3), (4, .int a4)] [] H (k11 a0 a1 a2 a3 a4 H)) (k24 : Nat → Nat → Nat → Nat → Int32 → Int64 → Int32 → jH → Option (Unit × jH)) (hk24 : ∀ a0 a1 a2 a3 a4 a5 a7 H, JV l mi_8_multiply jeV 24 [(0, .ref a0), (1, .ref a1), (2, .ref a2), (3, .ref a3), (4, .int a4), (5, .long a5), (7, .int a7)] [] H (k24 a0 a1 a2 a3 a4 a5 a7 H)) (a0 : Nat) (a1 : Nat) (a2 : Nat) (a3 : Nat) (a4 : Int32) (a5 : Int64) (a7 : Int32) (H : jH) : JV l mi_8_multiply jeV 24 [(0, .ref a0), (1, .ref a1), (2, .ref a2), (3, .ref a3), (4, .int a4), (5, .long a5), (7, .int a7)] [] H (B_8_multiply_24 k11 k24 a0 a1 a2 a3 a4 a5 a7 H) := by
  unfold B_8_multiply_24
  refine s_21 7 26 rfl rfl ?_
  refine s_16 8 28 8 jbp_8 rfl ?_
  refine s_162 0 69 97 31 rfl rfl ?_ ?_
  · refine s_42 98 rfl rfl ?_
    refine s_180R 0 27 101 27 f_8_6 jw_104 rfl rfl ?_
    refine s_21 4 103 rfl rfl ?_
    refine s_16 8 105 8 jbp_8 rfl ?_
    refine s_96 106 rfl ?_
    refine s_22 5 108 rfl rfl ?_
    refine s_136 109 rfl ?_
    refine s_79 110 rfl (fun h1 => ?_)
    refine s_132L 4 1 113 1 ji_1 rfl rfl rfl (fun x2 => ?_)
    refine s_167 255 154 11 rfl rfl ?_
    exact s_jmp (hk11 _ _ _ _ _ _) ⟨rfl, rfl, rfl, rfl, rfl, trivial⟩
  · refine s_22 5 33 rfl rfl ?_
    refine s_44 34 rfl rfl ?_
    refine s_21 4 36 rfl rfl ?_
    refine s_46 37 rfl ?_
    refine s_133 38 rfl ?_
    refine s_20 0 170 41 170 4294967295 rfl jw_1035 rfl ?_
    refine s_127 42 rfl ?_
    refine s_45 43 rfl rfl ?_
    refine s_21 7 45 rfl rfl ?_
    refine s_46 46 rfl ?_
    refine s_133 47 rfl ?_
    refine s_20 0 170 50 170 4294967295 rfl jw_1035 rfl ?_
    refine s_127 51 rfl ?_
    refine s_105 52 rfl ?_
    refine s_42 53 rfl rfl ?_
    refine s_180R 0 27 56 27 f_8_6 jw_104 rfl rfl ?_
    refine s_21 4 58 rfl rfl ?_
    refine s_21 7 60 rfl rfl ?_
    refine s_96 61 rfl ?_
    refine s_46 62 rfl ?_
    refine s_133 63 rfl ?_
    refine s_20 0 170 66 170 4294967295 rfl jw_1035 rfl ?_
    refine s_127 67 rfl ?_
    refine s_97 68 rfl ?_
    refine s_97 69 rfl ?_
    refine s_jmp (ls' := [(0, .ref a0), (1, .ref a1), (2, .ref a2), (3, .ref a3), (4, .int a4), (5, .long a5), (7, .int a7)]) ?_ ⟨rfl, rfl, rfl, rfl, rfl, rfl, rfl, trivial⟩
    refine s_55L 5 71 rfl rfl (fun x3 => ?_)
    refine s_42 72 rfl rfl ?_
    refine s_180R 0 27 75 27 f_8_6 jw_104 rfl rfl ?_
    refine s_21 4 77 rfl rfl ?_
    refine s_21 7 79 rfl rfl ?_
    refine s_96 80 rfl ?_
    refine s_22 5 82 rfl rfl ?_
    refine s_136 83 rfl ?_
    refine s_79 84 rfl (fun h4 => ?_)
    refine s_22 5 86 rfl rfl ?_
    refine s_16 32 88 32 jbp_32 rfl ?_
    refine s_125 89 rfl ?_
    refine s_jmp (ls' := [(0, .ref a0), (1, .ref a1), (2, .ref a2), (3, .ref a3), (4, .int a4), (5, .long x3), (7, .int a7)]) ?_ ⟨rfl, rfl, rfl, rfl, rfl, rfl, rfl, trivial⟩
    refine s_55L 5 91 rfl rfl (fun x5 => ?_)
    refine s_132L 7 1 94 1 ji_1 rfl rfl rfl (fun x6 => ?_)
    refine s_167 255 186 24 rfl rfl ?_
    exact s_jmp (hk24 _ _ _ _ _ _ _ _) ⟨rfl, rfl, rfl, rfl, rfl, rfl, rfl, trivial⟩
theorem w_8_multiply_24 (l : Launch) (k11 : Nat → Nat → Nat → Nat → Int32 → jH → Option (Unit × jH)) (hk11 : ∀ a0 a1 a2 a3 a4 H, JV l mi_8_multiply jeV 11 [(0, .ref a0), (1, .ref a1), (2, .ref a2), (3, .ref a3), (4, .int a4)] [] H (k11 a0 a1 a2 a3 a4 H)) (n : Nat) : ∀ a0 a1 a2 a3 a4 a5 a7 H, JV l mi_8_multiply jeV 24 [(0, .ref a0), (1, .ref a1), (2, .ref a2), (3, .ref a3), (4, .int a4), (5, .long a5), (7, .int a7)] [] H (F_8_multiply_24 k11 n a0 a1 a2 a3 a4 a5 a7 H) := by
  induction n with
  | zero => intro _ _ _ _ _ _ _ _; exact s_none
  | succ n ih => intro a0 a1 a2 a3 a4 a5 a7 H; exact v_8_multiply_24 l k11 hk11 (F_8_multiply_24 k11 n) ih a0 a1 a2 a3 a4 a5 a7 H
theorem v_8_multiply_192 (l : Launch) (k140 : Nat → Nat → Int32 → Int32 → Int32 → jH → Option (Unit × jH)) (hk140 : ∀ a0 a1 a4 a5 a6 H, JV l mi_8_multiply jeV 140 [(0, .ref a0), (1, .ref a1), (4, .int a4), (5, .int a5), (6, .int a6)] [] H (k140 a0 a1 a4 a5 a6 H)) (a0 : Nat) (a1 : Nat) (a5 : Int32) (a6 : Int32) (s0 : Int32) (s1 : Int32) (H : jH) : JV l mi_8_multiply jeV 192 [(0, .ref a0), (1, .ref a1), (5, .int a5), (6, .int a6)] [.int s1, .int s0] H (B_8_multiply_192 k140 a0 a1 a5 a6 s0 s1 H) := by
  unfold B_8_multiply_192
  refine s_128 193 rfl ?_
  refine s_54L 4 195 rfl rfl (fun x7 => ?_)
  refine s_132L 6 1 198 1 ji_1 rfl rfl rfl (fun x8 => ?_)
  refine s_167 255 198 140 rfl rfl ?_
  exact s_jmp (hk140 _ _ _ _ _ _) ⟨rfl, rfl, rfl, rfl, rfl, trivial⟩
theorem v_8_multiply_282 (l : Launch) (k222 : Nat → Nat → Int32 → Int32 → Int32 → Int64 → Int32 → jH → Option (Unit × jH)) (hk222 : ∀ a0 a1 a4 a5 a6 a7 a9 H, JV l mi_8_multiply jeV 222 [(0, .ref a0), (1, .ref a1), (4, .int a4), (5, .int a5), (6, .int a6), (7, .long a7), (9, .int a9)] [] H (k222 a0 a1 a4 a5 a6 a7 a9 H)) (a0 : Nat) (a1 : Nat) (a4 : Int32) (a5 : Int32) (a6 : Int32) (a7 : Int64) (a9 : Int32) (s0 : Int64) (H : jH) : JV l mi_8_multiply jeV 282 [(0, .ref a0), (1, .ref a1), (4, .int a4), (5, .int a5), (6, .int a6), (7, .long a7), (9, .int a9)] [.long s0] H (B_8_multiply_282 k222 a0 a1 a4 a5 a6 a7 a9 s0 H) := by
  unfold B_8_multiply_282
  refine s_55 10 284 rfl rfl ?_
  refine s_22 7 286 rfl rfl ?_
  refine s_42 287 rfl rfl ?_
  refine s_180R 0 30 290 30 f_8_7 jw_105 rfl rfl ?_
  refine s_21 6 292 rfl rfl ?_
  refine s_46 293 rfl ?_
  refine s_133 294 rfl ?_
  refine s_20 0 170 297 170 4294967295 rfl jw_1035 rfl ?_
  refine s_127 298 rfl ?_
  refine s_22 10 300 rfl rfl ?_
  refine s_105 301 rfl ?_
  refine s_42 302 rfl rfl ?_
  refine s_180R 0 27 305 27 f_8_6 jw_104 rfl rfl ?_
  refine s_21 6 307 rfl rfl ?_
  refine s_21 9 309 rfl rfl ?_
  refine s_96 310 rfl ?_
  refine s_46 311 rfl ?_
  refine s_133 312 rfl ?_
  refine s_20 0 170 315 170 4294967295 rfl jw_1035 rfl ?_
  refine s_127 316 rfl ?_
  refine s_97 317 rfl ?_
  refine s_97 318 rfl ?_
  refine s_55L 7 320 rfl rfl (fun x9 => ?_)
  refine s_42 321 rfl rfl ?_
  refine s_180R 0 27 324 27 f_8_6 jw_104 rfl rfl ?_
  refine s_21 6 326 rfl rfl ?_
  refine s_21 9 328 rfl rfl ?_
  refine s_96 329 rfl ?_
  refine s_22 7 331 rfl rfl ?_
  refine s_136 332 rfl ?_
  refine s_79 333 rfl (fun h10 => ?_)
  refine s_22 7 335 rfl rfl ?_
  refine s_16 32 337 32 jbp_32 rfl ?_
  refine s_125 338 rfl ?_
  refine s_55L 7 340 rfl rfl (fun x11 => ?_)
  refine s_132L 9 1 343 1 ji_1 rfl rfl rfl (fun x12 => ?_)
  refine s_167 255 135 222 rfl rfl ?_
  exact s_jmp (hk222 _ _ _ _ _ _ _ _) ⟨rfl, rfl, rfl, rfl, rfl, rfl, rfl, trivial⟩
theorem v_8_multiply_258 (l : Launch) (k222 : Nat → Nat → Int32 → Int32 → Int32 → Int64 → Int32 → jH → Option (Unit × jH)) (hk222 : ∀ a0 a1 a4 a5 a6 a7 a9 H, JV l mi_8_multiply jeV 222 [(0, .ref a0), (1, .ref a1), (4, .int a4), (5, .int a5), (6, .int a6), (7, .long a7), (9, .int a9)] [] H (k222 a0 a1 a4 a5 a6 a7 a9 H)) (a0 : Nat) (a1 : Nat) (a4 : Int32) (a5 : Int32) (a6 : Int32) (a7 : Int64) (a9 : Int32) (H : jH) : JV l mi_8_multiply jeV 258 [(0, .ref a0), (1, .ref a1), (4, .int a4), (5, .int a5), (6, .int a6), (7, .long a7), (9, .int a9)] [] H (B_8_multiply_258 k222 a0 a1 a4 a5 a6 a7 a9 H) := by
  unfold B_8_multiply_258
  refine s_21 9 260 rfl rfl ?_
  refine s_178 0 184 263 184 9 "CoinNode$Signature" "OVER" jst_9 ⟨by decide, by decide⟩ jw_1143 rfl rfl ?_
  refine s_190 264 100 jm_100 rfl ?_
  refine s_162 0 17 281 267 rfl rfl ?_ ?_
  · refine s_9 282 rfl ?_
    exact s_jmp (v_8_multiply_282 l k222 hk222 _ _ _ _ _ _ _ _ _) ⟨rfl, rfl, rfl, rfl, rfl, rfl, rfl, trivial⟩
  · refine s_178 0 184 270 184 9 "CoinNode$Signature" "OVER" jst_9 ⟨by decide, by decide⟩ jw_1143 rfl rfl ?_
    refine s_21 9 272 rfl rfl ?_
    refine s_46 273 rfl ?_
    refine s_133 274 rfl ?_
    refine s_20 0 170 277 170 4294967295 rfl jw_1035 rfl ?_
    refine s_127 278 rfl ?_
    refine s_167 0 4 282 rfl rfl ?_
    exact s_jmp (v_8_multiply_282 l k222 hk222 _ _ _ _ _ _ _ _ _) ⟨rfl, rfl, rfl, rfl, rfl, rfl, rfl, trivial⟩
theorem v_8_multiply_346 (l : Launch) (k204 : Nat → Nat → Int32 → Int32 → Int32 → jH → Option (Unit × jH)) (hk204 : ∀ a0 a1 a4 a5 a6 H, JV l mi_8_multiply jeV 204 [(0, .ref a0), (1, .ref a1), (4, .int a4), (5, .int a5), (6, .int a6)] [] H (k204 a0 a1 a4 a5 a6 H)) (a0 : Nat) (a1 : Nat) (a4 : Int32) (a5 : Int32) (a6 : Int32) (H : jH) : JV l mi_8_multiply jeV 346 [(0, .ref a0), (1, .ref a1), (4, .int a4), (5, .int a5), (6, .int a6)] [] H (B_8_multiply_346 k204 a0 a1 a4 a5 a6 H) := by
  unfold B_8_multiply_346
  refine s_132L 6 1 349 1 ji_1 rfl rfl rfl (fun x13 => ?_)
  refine s_167 255 111 204 rfl rfl ?_
  exact s_jmp (hk204 _ _ _ _ _ _) ⟨rfl, rfl, rfl, rfl, rfl, trivial⟩
theorem v_8_multiply_222 (l : Launch) (k204 : Nat → Nat → Int32 → Int32 → Int32 → jH → Option (Unit × jH)) (hk204 : ∀ a0 a1 a4 a5 a6 H, JV l mi_8_multiply jeV 204 [(0, .ref a0), (1, .ref a1), (4, .int a4), (5, .int a5), (6, .int a6)] [] H (k204 a0 a1 a4 a5 a6 H)) (k222 : Nat → Nat → Int32 → Int32 → Int32 → Int64 → Int32 → jH → Option (Unit × jH)) (hk222 : ∀ a0 a1 a4 a5 a6 a7 a9 H, JV l mi_8_multiply jeV 222 [(0, .ref a0), (1, .ref a1), (4, .int a4), (5, .int a5), (6, .int a6), (7, .long a7), (9, .int a9)] [] H (k222 a0 a1 a4 a5 a6 a7 a9 H)) (a0 : Nat) (a1 : Nat) (a4 : Int32) (a5 : Int32) (a6 : Int32) (a7 : Int64) (a9 : Int32) (H : jH) : JV l mi_8_multiply jeV 222 [(0, .ref a0), (1, .ref a1), (4, .int a4), (5, .int a5), (6, .int a6), (7, .long a7), (9, .int a9)] [] H (B_8_multiply_222 k204 k222 a0 a1 a4 a5 a6 a7 a9 H) := by
  unfold B_8_multiply_222
  refine s_21 6 224 rfl rfl ?_
  refine s_21 9 226 rfl rfl ?_
  refine s_96 227 rfl ?_
  refine s_16 16 229 16 jbp_16 rfl ?_
  refine s_162 0 117 346 232 rfl rfl ?_ ?_
  · exact s_jmp (v_8_multiply_346 l k204 hk204 _ _ _ _ _ _) ⟨rfl, rfl, rfl, rfl, rfl, trivial⟩
  · refine s_42 233 rfl rfl ?_
    refine s_180R 0 30 236 30 f_8_7 jw_105 rfl rfl ?_
    refine s_21 6 238 rfl rfl ?_
    refine s_46 239 rfl ?_
    refine s_153 0 107 346 242 rfl rfl ?_ ?_
    · exact s_jmp (v_8_multiply_346 l k204 hk204 _ _ _ _ _ _) ⟨rfl, rfl, rfl, rfl, rfl, trivial⟩
    · refine s_21 9 244 rfl rfl ?_
      refine s_178 0 184 247 184 9 "CoinNode$Signature" "OVER" jst_9 ⟨by decide, by decide⟩ jw_1143 rfl rfl ?_
      refine s_190 248 100 jm_100 rfl ?_
      refine s_161 0 10 258 251 rfl rfl ?_ ?_
      · exact s_jmp (v_8_multiply_258 l k222 hk222 _ _ _ _ _ _ _ _) ⟨rfl, rfl, rfl, rfl, rfl, rfl, rfl, trivial⟩
      · refine s_22 7 253 rfl rfl ?_
        refine s_9 254 rfl ?_
        refine s_148_153 0 91 346 255 258 rfl rfl rfl ?_ ?_
        · exact s_jmp (v_8_multiply_346 l k204 hk204 _ _ _ _ _ _) ⟨rfl, rfl, rfl, rfl, rfl, trivial⟩
        · exact s_jmp (v_8_multiply_258 l k222 hk222 _ _ _ _ _ _ _ _) ⟨rfl, rfl, rfl, rfl, rfl, rfl, rfl, trivial⟩
theorem w_8_multiply_222 (l : Launch) (k204 : Nat → Nat → Int32 → Int32 → Int32 → jH → Option (Unit × jH)) (hk204 : ∀ a0 a1 a4 a5 a6 H, JV l mi_8_multiply jeV 204 [(0, .ref a0), (1, .ref a1), (4, .int a4), (5, .int a5), (6, .int a6)] [] H (k204 a0 a1 a4 a5 a6 H)) (n : Nat) : ∀ a0 a1 a4 a5 a6 a7 a9 H, JV l mi_8_multiply jeV 222 [(0, .ref a0), (1, .ref a1), (4, .int a4), (5, .int a5), (6, .int a6), (7, .long a7), (9, .int a9)] [] H (F_8_multiply_222 k204 n a0 a1 a4 a5 a6 a7 a9 H) := by
  induction n with
  | zero => intro _ _ _ _ _ _ _ _; exact s_none
  | succ n ih => intro a0 a1 a4 a5 a6 a7 a9 H; exact v_8_multiply_222 l k204 hk204 (F_8_multiply_222 k204 n) ih a0 a1 a4 a5 a6 a7 a9 H
theorem v_8_multiply_352 (l : Launch) (k122 : Nat → Nat → Int32 → Int32 → jH → Option (Unit × jH)) (hk122 : ∀ a0 a1 a4 a5 H, JV l mi_8_multiply jeV 122 [(0, .ref a0), (1, .ref a1), (4, .int a4), (5, .int a5)] [] H (k122 a0 a1 a4 a5 H)) (a0 : Nat) (a1 : Nat) (a4 : Int32) (a5 : Int32) (H : jH) : JV l mi_8_multiply jeV 352 [(0, .ref a0), (1, .ref a1), (4, .int a4), (5, .int a5)] [] H (B_8_multiply_352 k122 a0 a1 a4 a5 H) := by
  unfold B_8_multiply_352
  refine s_132L 5 1 355 1 ji_1 rfl rfl rfl (fun x14 => ?_)
  refine s_167 255 23 122 rfl rfl ?_
  exact s_jmp (hk122 _ _ _ _ _) ⟨rfl, rfl, rfl, rfl, trivial⟩
theorem v_8_multiply_204 (l : Launch) (k122 : Nat → Nat → Int32 → Int32 → jH → Option (Unit × jH)) (hk122 : ∀ a0 a1 a4 a5 H, JV l mi_8_multiply jeV 122 [(0, .ref a0), (1, .ref a1), (4, .int a4), (5, .int a5)] [] H (k122 a0 a1 a4 a5 H)) (k204 : Nat → Nat → Int32 → Int32 → Int32 → jH → Option (Unit × jH)) (hk204 : ∀ a0 a1 a4 a5 a6 H, JV l mi_8_multiply jeV 204 [(0, .ref a0), (1, .ref a1), (4, .int a4), (5, .int a5), (6, .int a6)] [] H (k204 a0 a1 a4 a5 a6 H)) (a0 : Nat) (a1 : Nat) (a4 : Int32) (a5 : Int32) (a6 : Int32) (H : jH) : JV l mi_8_multiply jeV 204 [(0, .ref a0), (1, .ref a1), (4, .int a4), (5, .int a5), (6, .int a6)] [] H (B_8_multiply_204 k122 k204 a0 a1 a4 a5 a6 H) := by
  unfold B_8_multiply_204
  refine s_21 6 206 rfl rfl ?_
  refine s_16 8 208 8 jbp_8 rfl ?_
  refine s_162 0 144 352 211 rfl rfl ?_ ?_
  · exact s_jmp (v_8_multiply_352 l k122 hk122 _ _ _ _ _) ⟨rfl, rfl, rfl, rfl, trivial⟩
  · refine s_21 4 213 rfl rfl ?_
    refine s_153 0 139 352 216 rfl rfl ?_ ?_
    · exact s_jmp (v_8_multiply_352 l k122 hk122 _ _ _ _ _) ⟨rfl, rfl, rfl, rfl, trivial⟩
    · refine s_9 217 rfl ?_
      refine s_55 7 219 rfl rfl ?_
      refine s_3 220 rfl ?_
      refine s_54 9 222 rfl rfl ?_
      exact s_jmp (w_8_multiply_222 l k204 hk204 jfuel _ _ _ _ _ _ _ _) ⟨rfl, rfl, rfl, rfl, rfl, rfl, rfl, trivial⟩
theorem w_8_multiply_204 (l : Launch) (k122 : Nat → Nat → Int32 → Int32 → jH → Option (Unit × jH)) (hk122 : ∀ a0 a1 a4 a5 H, JV l mi_8_multiply jeV 122 [(0, .ref a0), (1, .ref a1), (4, .int a4), (5, .int a5)] [] H (k122 a0 a1 a4 a5 H)) (n : Nat) : ∀ a0 a1 a4 a5 a6 H, JV l mi_8_multiply jeV 204 [(0, .ref a0), (1, .ref a1), (4, .int a4), (5, .int a5), (6, .int a6)] [] H (F_8_multiply_204 k122 n a0 a1 a4 a5 a6 H) := by
  induction n with
  | zero => intro _ _ _ _ _ _; exact s_none
  | succ n ih => intro a0 a1 a4 a5 a6 H; exact v_8_multiply_204 l k122 hk122 (F_8_multiply_204 k122 n) ih a0 a1 a4 a5 a6 H
theorem v_8_multiply_140 (l : Launch) (k122 : Nat → Nat → Int32 → Int32 → jH → Option (Unit × jH)) (hk122 : ∀ a0 a1 a4 a5 H, JV l mi_8_multiply jeV 122 [(0, .ref a0), (1, .ref a1), (4, .int a4), (5, .int a5)] [] H (k122 a0 a1 a4 a5 H)) (k140 : Nat → Nat → Int32 → Int32 → Int32 → jH → Option (Unit × jH)) (hk140 : ∀ a0 a1 a4 a5 a6 H, JV l mi_8_multiply jeV 140 [(0, .ref a0), (1, .ref a1), (4, .int a4), (5, .int a5), (6, .int a6)] [] H (k140 a0 a1 a4 a5 a6 H)) (a0 : Nat) (a1 : Nat) (a4 : Int32) (a5 : Int32) (a6 : Int32) (H : jH) : JV l mi_8_multiply jeV 140 [(0, .ref a0), (1, .ref a1), (4, .int a4), (5, .int a5), (6, .int a6)] [] H (B_8_multiply_140 k122 k140 a0 a1 a4 a5 a6 H) := by
  unfold B_8_multiply_140
  refine s_21 6 142 rfl rfl ?_
  refine s_16 8 144 8 jbp_8 rfl ?_
  refine s_162 0 57 201 147 rfl rfl ?_ ?_
  · refine s_3 202 rfl ?_
    refine s_jmp (ls' := [(0, .ref a0), (1, .ref a1), (4, .int a4), (5, .int a5), (6, .int a6)]) ?_ ⟨rfl, rfl, rfl, rfl, rfl, trivial⟩
    refine s_54 6 204 rfl rfl ?_
    exact s_jmp (w_8_multiply_204 l k122 hk122 jfuel _ _ _ _ _ _) ⟨rfl, rfl, rfl, rfl, rfl, trivial⟩
  · refine s_42 148 rfl rfl ?_
    refine s_180R 0 30 151 30 f_8_7 jw_105 rfl rfl ?_
    refine s_21 6 153 rfl rfl ?_
    refine s_42 154 rfl rfl ?_
    refine s_180R 0 27 157 27 f_8_6 jw_104 rfl rfl ?_
    refine s_21 6 159 rfl rfl ?_
    refine s_16 8 161 8 jbp_8 rfl ?_
    refine s_96 162 rfl ?_
    refine s_46 163 rfl ?_
    refine s_79 164 rfl (fun h15 => ?_)
    refine s_42 165 rfl rfl ?_
    refine s_180R 0 27 168 27 f_8_6 jw_104 rfl rfl ?_
    refine s_21 6 170 rfl rfl ?_
    refine s_16 8 172 8 jbp_8 rfl ?_
    refine s_96 173 rfl ?_
    refine s_3 174 rfl ?_
    refine s_79 175 rfl (fun h16 => ?_)
    refine s_21 4 177 rfl rfl ?_
    refine s_42 178 rfl rfl ?_
    refine s_180R 0 30 181 30 f_8_7 jw_105 rfl rfl ?_
    refine s_21 6 183 rfl rfl ?_
    refine s_46 184 rfl ?_
    refine s_153 0 7 191 187 rfl rfl ?_ ?_
    · refine s_3 192 rfl ?_
      exact s_jmp (v_8_multiply_192 l k140 hk140 _ _ _ _ _ _ _) ⟨rfl, rfl, rfl, rfl, trivial⟩
    · refine s_4 188 rfl ?_
      refine s_167 0 4 192 rfl rfl ?_
      exact s_jmp (v_8_multiply_192 l k140 hk140 _ _ _ _ _ _ _) ⟨rfl, rfl, rfl, rfl, trivial⟩
theorem w_8_multiply_140 (l : Launch) (k122 : Nat → Nat → Int32 → Int32 → jH → Option (Unit × jH)) (hk122 : ∀ a0 a1 a4 a5 H, JV l mi_8_multiply jeV 122 [(0, .ref a0), (1, .ref a1), (4, .int a4), (5, .int a5)] [] H (k122 a0 a1 a4 a5 H)) (n : Nat) : ∀ a0 a1 a4 a5 a6 H, JV l mi_8_multiply jeV 140 [(0, .ref a0), (1, .ref a1), (4, .int a4), (5, .int a5), (6, .int a6)] [] H (F_8_multiply_140 k122 n a0 a1 a4 a5 a6 H) := by
  induction n with
  | zero => intro _ _ _ _ _ _; exact s_none
  | succ n ih => intro a0 a1 a4 a5 a6 H; exact v_8_multiply_140 l k122 hk122 (F_8_multiply_140 k122 n) ih a0 a1 a4 a5 a6 H
theorem v_8_multiply_439 (l : Launch)   (H : jH) : JV l mi_8_multiply jeV 439 [] [] H (B_8_multiply_439   H) := by
  unfold B_8_multiply_439
  exact s_177 rfl rfl
theorem v_8_multiply_364 (l : Launch) (k364 : Nat → Nat → Int64 → Int32 → jH → Option (Unit × jH)) (hk364 : ∀ a0 a1 a5 a7 H, JV l mi_8_multiply jeV 364 [(0, .ref a0), (1, .ref a1), (5, .long a5), (7, .int a7)] [] H (k364 a0 a1 a5 a7 H)) (a0 : Nat) (a1 : Nat) (a5 : Int64) (a7 : Int32) (H : jH) : JV l mi_8_multiply jeV 364 [(0, .ref a0), (1, .ref a1), (5, .long a5), (7, .int a7)] [] H (B_8_multiply_364 k364 a0 a1 a5 a7 H) := by
  unfold B_8_multiply_364
  refine s_21 7 366 rfl rfl ?_
  refine s_16 8 368 8 jbp_8 rfl ?_
  refine s_162 0 52 420 371 rfl rfl ?_ ?_
  · refine s_22 5 422 rfl rfl ?_
    refine s_9 423 rfl ?_
    refine s_148_153 0 15 439 424 427 rfl rfl rfl ?_ ?_
    · exact s_jmp (v_8_multiply_439 l _) trivial
    · refine s_42 428 rfl rfl ?_
      refine s_180R 0 27 431 27 f_8_6 jw_104 rfl rfl ?_
      refine s_3 432 rfl ?_
      refine s_43 433 rfl rfl ?_
      refine s_3 434 rfl ?_
      refine s_16 8 436 8 jbp_8 rfl ?_
      refine s_acI 0 187 439 187 jw_1145 jw_372 jw_371 jw_12 rfl rfl rfl rfl (fun h17 => ?_)
      exact s_jmp (v_8_multiply_439 l _) trivial
  · refine s_22 5 373 rfl rfl ?_
    refine s_42 374 rfl rfl ?_
    refine s_180R 0 27 377 27 f_8_6 jw_104 rfl rfl ?_
    refine s_21 7 379 rfl rfl ?_
    refine s_46 380 rfl ?_
    refine s_133 381 rfl ?_
    refine s_20 0 170 384 170 4294967295 rfl jw_1035 rfl ?_
    refine s_127 385 rfl ?_
    refine s_178 0 82 388 82 8 "CoinNode$Signature" "ORDER" jst_8 ⟨by decide, by decide⟩ jw_1029 rfl rfl ?_
    refine s_21 7 390 rfl rfl ?_
    refine s_46 391 rfl ?_
    refine s_133 392 rfl ?_
    refine s_20 0 170 395 170 4294967295 rfl jw_1035 rfl ?_
    refine s_127 396 rfl ?_
    refine s_101 397 rfl ?_
    refine s_97 398 rfl ?_
    refine s_jmp (ls' := [(0, .ref a0), (1, .ref a1), (5, .long a5), (7, .int a7)]) ?_ ⟨rfl, rfl, rfl, rfl, trivial⟩
    refine s_55L 5 400 rfl rfl (fun x18 => ?_)
    refine s_43 401 rfl rfl ?_
    refine s_21 7 403 rfl rfl ?_
    refine s_22 5 405 rfl rfl ?_
    refine s_136 406 rfl ?_
    refine s_79 407 rfl (fun h19 => ?_)
    refine s_22 5 409 rfl rfl ?_
    refine s_16 32 411 32 jbp_32 rfl ?_
    refine s_123 412 rfl ?_
    refine s_jmp (ls' := [(0, .ref a0), (1, .ref a1), (5, .long x18), (7, .int a7)]) ?_ ⟨rfl, rfl, rfl, rfl, trivial⟩
    refine s_55L 5 414 rfl rfl (fun x20 => ?_)
    refine s_132L 7 1 417 1 ji_1 rfl rfl rfl (fun x21 => ?_)
    refine s_167 255 203 364 rfl rfl ?_
    exact s_jmp (hk364 _ _ _ _ _) ⟨rfl, rfl, rfl, rfl, trivial⟩
theorem w_8_multiply_364 (l : Launch)  (n : Nat) : ∀ a0 a1 a5 a7 H, JV l mi_8_multiply jeV 364 [(0, .ref a0), (1, .ref a1), (5, .long a5), (7, .int a7)] [] H (F_8_multiply_364  n a0 a1 a5 a7 H) := by
  induction n with
  | zero => intro _ _ _ _ _; exact s_none
  | succ n ih => intro a0 a1 a5 a7 H; exact v_8_multiply_364 l (F_8_multiply_364  n) ih a0 a1 a5 a7 H
theorem v_8_multiply_358 (l : Launch)  (a0 : Nat) (a1 : Nat) (H : jH) : JV l mi_8_multiply jeV 358 [(0, .ref a0), (1, .ref a1)] [] H (B_8_multiply_358  a0 a1 H) := by
  unfold B_8_multiply_358
  refine s_9 359 rfl ?_
  refine s_jmp (ls' := [(0, .ref a0), (1, .ref a1)]) ?_ ⟨rfl, rfl, trivial⟩
  refine s_55 5 361 rfl rfl ?_
  refine s_3 362 rfl ?_
  refine s_54 7 364 rfl rfl ?_
  exact s_jmp (w_8_multiply_364 l jfuel _ _ _ _ _) ⟨rfl, rfl, rfl, rfl, trivial⟩
theorem v_8_multiply_122 (l : Launch) (k122 : Nat → Nat → Int32 → Int32 → jH → Option (Unit × jH)) (hk122 : ∀ a0 a1 a4 a5 H, JV l mi_8_multiply jeV 122 [(0, .ref a0), (1, .ref a1), (4, .int a4), (5, .int a5)] [] H (k122 a0 a1 a4 a5 H)) (a0 : Nat) (a1 : Nat) (a4 : Int32) (a5 : Int32) (H : jH) : JV l mi_8_multiply jeV 122 [(0, .ref a0), (1, .ref a1), (4, .int a4), (5, .int a5)] [] H (B_8_multiply_122 k122 a0 a1 a4 a5 H) := by
  unfold B_8_multiply_122
  refine s_21 5 124 rfl rfl ?_
  refine s_16 8 126 8 jbp_8 rfl ?_
  refine s_162 0 232 358 129 rfl rfl ?_ ?_
  · exact s_jmp (v_8_multiply_358 l _ _ _) ⟨rfl, rfl, trivial⟩
  · refine s_21 4 131 rfl rfl ?_
    refine s_153 0 227 358 134 rfl rfl ?_ ?_
    · exact s_jmp (v_8_multiply_358 l _ _ _) ⟨rfl, rfl, trivial⟩
    · refine s_3 135 rfl ?_
      refine s_54 4 137 rfl rfl ?_
      refine s_3 138 rfl ?_
      refine s_jmp (ls' := [(0, .ref a0), (1, .ref a1), (4, .int 0), (5, .int a5)]) ?_ ⟨rfl, rfl, rfl, rfl, trivial⟩
      refine s_54 6 140 rfl rfl ?_
      exact s_jmp (w_8_multiply_140 l k122 hk122 jfuel _ _ _ _ _ _) ⟨rfl, rfl, rfl, rfl, rfl, trivial⟩
theorem w_8_multiply_122 (l : Launch)  (n : Nat) : ∀ a0 a1 a4 a5 H, JV l mi_8_multiply jeV 122 [(0, .ref a0), (1, .ref a1), (4, .int a4), (5, .int a5)] [] H (F_8_multiply_122  n a0 a1 a4 a5 H) := by
  induction n with
  | zero => intro _ _ _ _ _; exact s_none
  | succ n ih => intro a0 a1 a4 a5 H; exact v_8_multiply_122 l (F_8_multiply_122  n) ih a0 a1 a4 a5 H
theorem v_8_multiply_11 (l : Launch) (k11 : Nat → Nat → Nat → Nat → Int32 → jH → Option (Unit × jH)) (hk11 : ∀ a0 a1 a2 a3 a4 H, JV l mi_8_multiply jeV 11 [(0, .ref a0), (1, .ref a1), (2, .ref a2), (3, .ref a3), (4, .int a4)] [] H (k11 a0 a1 a2 a3 a4 H)) (a0 : Nat) (a1 : Nat) (a2 : Nat) (a3 : Nat) (a4 : Int32) (H : jH) : JV l mi_8_multiply jeV 11 [(0, .ref a0), (1, .ref a1), (2, .ref a2), (3, .ref a3), (4, .int a4)] [] H (B_8_multiply_11 k11 a0 a1 a2 a3 a4 H) := by
  unfold B_8_multiply_11
  refine s_21 4 13 rfl rfl ?_
  refine s_16 8 15 8 jbp_8 rfl ?_
  refine s_162 0 101 116 18 rfl rfl ?_ ?_
  · refine s_4 117 rfl ?_
    refine s_54 4 119 rfl rfl ?_
    refine s_3 120 rfl ?_
    refine s_54 5 122 rfl rfl ?_
    exact s_jmp (w_8_multiply_122 l jfuel _ _ _ _ _) ⟨rfl, rfl, rfl, rfl, trivial⟩
  · refine s_9 19 rfl ?_
    refine s_jmp (ls' := [(0, .ref a0), (1, .ref a1), (2, .ref a2), (3, .ref a3), (4, .int a4)]) ?_ ⟨rfl, rfl, rfl, rfl, rfl, trivial⟩
    refine s_55 5 21 rfl rfl ?_
    refine s_3 22 rfl ?_
    refine s_54 7 24 rfl rfl ?_
    exact s_jmp (w_8_multiply_24 l k11 hk11 jfuel _ _ _ _ _ _ _ _) ⟨rfl, rfl, rfl, rfl, rfl, rfl, rfl, trivial⟩
theorem w_8_multiply_11 (l : Launch)  (n : Nat) : ∀ a0 a1 a2 a3 a4 H, JV l mi_8_multiply jeV 11 [(0, .ref a0), (1, .ref a1), (2, .ref a2), (3, .ref a3), (4, .int a4)] [] H (F_8_multiply_11  n a0 a1 a2 a3 a4 H) := by
  induction n with
  | zero => intro _ _ _ _ _ _; exact s_none
  | succ n ih => intro a0 a1 a2 a3 a4 H; exact v_8_multiply_11 l (F_8_multiply_11  n) ih a0 a1 a2 a3 a4 H
theorem v_8_multiply (l : Launch) (a0 : Nat) (a1 : Nat) (a2 : Nat) (a3 : Nat) (H : jH) : JV l mi_8_multiply jeV 0 [(0, .ref a0), (1, .ref a1), (2, .ref a2), (3, .ref a3)] [] H (F_8_multiply a0 a1 a2 a3 H) := by
  unfold F_8_multiply
  refine s_42 1 rfl rfl ?_
  refine s_180R 0 27 4 27 f_8_6 jw_104 rfl rfl ?_
  refine s_3 5 rfl ?_
  refine s_184V 0 172 8 172 (m_A_fill l _ _ _) rfl k_A_fill jw_1023 jw_1024 rfl rfl rfl rfl rfl (fun x22 h23 => ?_)
  refine s_3 9 rfl ?_
  refine s_54 4 11 rfl rfl ?_
  exact s_jmp (w_8_multiply_11 l jfuel _ _ _ _ _ _) ⟨rfl, rfl, rfl, rfl, rfl, trivial⟩
theorem m_8_multiply (l : Launch) (a0 : Nat) (a1 : Nat) (a2 : Nat) (a3 : Nat) (H : jH) : JMet l y_8_multiply prog_10_method_12_code mi_8_multiply jeV [.ref a0, .ref a1, .ref a2, .ref a3] H (F_8_multiply a0 a1 a2 a3 H) := jmet_of n_8_multiply (by decide) ⟨rfl, rfl⟩ (Nat.le_of_ble_eq_true rfl) (v_8_multiply l a0 a1 a2 a3 H)
def mi_8_invert : jM := (2783157301786937894611565909279037953726960300430889942958567296075635908563932488696548746488895709147828780033446128067518178646294706354393798310554020840793914503192639040364779978522469676600786538861229274608446116228059778298736985855500638305471063329901391443934085192983609643791585950857946368667442286854629636368049447138428734462507398186, 146, 4, "CoinNode$Signature", none, "invert", 2, 91)
def y_8_invert : MethodName := ⟨"CoinNode$Signature", "invert", "([I)V"⟩
theorem n_8_invert : jn_is prog_10_method_13_code mi_8_invert.1 mi_8_invert.2.1 := by unfold jn_is; decide +kernel
theorem k_8_invert : jmok y_8_invert prog_10_method_13_code mi_8_invert 1 := ⟨jw_1138, jw_4, ⟨by decide, by decide⟩, by decide +kernel⟩
theorem v_8_invert_118 (l : Launch) (k70 : Nat → Nat → Int32 → jH → Option (Unit × jH)) (hk70 : ∀ a0 a1 a2 H, JV l mi_8_invert jeV 70 [(0, .ref a0), (1, .ref a1), (2, .int a2)] [] H (k70 a0 a1 a2 H)) (a0 : Nat) (a1 : Nat) (a2 : Int32) (s0 : Int32) (H : jH) : JV l mi_8_invert jeV 118 [(0, .ref a0), (1, .ref a1), (2, .int a2)] [.int s0] H (B_8_invert_118 k70 a0 a1 a2 s0 H) := by
  unfold B_8_invert_118
  refine s_62 119 rfl rfl ?_
  refine s_42 120 rfl rfl ?_
  refine s_43 121 rfl rfl ?_
  refine s_43 122 rfl rfl ?_
  refine s_42 123 rfl rfl ?_
  refine s_180R 0 35 126 35 f_8_8 jw_106 rfl rfl ?_
  refine s_29 127 rfl rfl ?_
  refine s_28 128 rfl rfl ?_
  refine s_16 32 130 32 jbp_32 rfl ?_
  refine s_112 131 rfl ?_
  refine s_124 132 rfl ?_
  refine s_16 15 134 15 jbp_15 rfl ?_
  refine s_126 135 rfl ?_
  refine s_50 136 111 jt_111 rfl ?_
  refine s_182V 0 148 139 148 (m_8_multiply l _ _ _ _ _) rfl k_8_multiply jc_8 jw_1139 jw_1141 jps_27 rfl rfl rfl rfl rfl (fun x1 h2 => ?_)
  refine s_132L 2 252 142 (-4) ji_252 rfl rfl rfl (fun x3 => ?_)
  refine s_167 255 184 70 rfl rfl ?_
  exact s_jmp (hk70 _ _ _ _) ⟨rfl, rfl, rfl, trivial⟩
theorem v_8_invert_76 (l : Launch) (k70 : Nat → Nat → Int32 → jH → Option (Unit × jH)) (hk70 : ∀ a0 a1 a2 H, JV l mi_8_invert jeV 70 [(0, .ref a0), (1, .ref a1), (2, .int a2)] [] H (k70 a0 a1 a2 H)) (k76 : Nat → Nat → Int32 → Int32 → jH → Option (Unit × jH)) (hk76 : ∀ a0 a1 a2 a3 H, JV l mi_8_invert jeV 76 [(0, .ref a0), (1, .ref a1), (2, .int a2), (3, .int a3)] [] H (k76 a0 a1 a2 a3 H)) (a0 : Nat) (a1 : Nat) (a2 : Int32) (a3 : Int32) (H : jH) : JV l mi_8_invert jeV 76 [(0, .ref a0), (1, .ref a1), (2, .int a2), (3, .int a3)] [] H (B_8_invert_76 k70 k76 a0 a1 a2 a3 H) := by
  unfold B_8_invert_76
  refine s_29 77 rfl rfl ?_
  refine s_7 78 rfl ?_
  refine s_162 0 16 94 81 rfl rfl ?_ ?_
  · refine s_28 95 rfl rfl ?_
    refine s_16 32 97 32 jbp_32 rfl ?_
    refine s_162 0 13 110 100 rfl rfl ?_ ?_
    · refine s_178 0 82 113 82 8 "CoinNode$Signature" "ORDER" jst_8 ⟨by decide, by decide⟩ jw_1029 rfl rfl ?_
      refine s_28 114 rfl rfl ?_
      refine s_16 32 116 32 jbp_32 rfl ?_
      refine s_108 117 rfl ?_
      refine s_46 118 rfl ?_
      exact s_jmp (v_8_invert_118 l k70 hk70 _ _ _ _ _) ⟨rfl, rfl, rfl, trivial⟩
    · refine s_178 0 82 103 82 8 "CoinNode$Signature" "ORDER" jst_8 ⟨by decide, by decide⟩ jw_1029 rfl rfl ?_
      refine s_3 104 rfl ?_
      refine s_46 105 rfl ?_
      refine s_5 106 rfl ?_
      refine s_100 107 rfl ?_
      refine s_167 0 11 118 rfl rfl ?_
      exact s_jmp (v_8_invert_118 l k70 hk70 _ _ _ _ _) ⟨rfl, rfl, rfl, trivial⟩
  · refine s_42 82 rfl rfl ?_
    refine s_43 83 rfl rfl ?_
    refine s_43 84 rfl rfl ?_
    refine s_43 85 rfl rfl ?_
    refine s_182V 0 148 88 148 (m_8_multiply l _ _ _ _ _) rfl k_8_multiply jc_8 jw_1139 jw_1141 jps_27 rfl rfl rfl rfl rfl (fun x4 h5 => ?_)
    refine s_132L 3 1 91 1 ji_1 rfl rfl rfl (fun x6 => ?_)
    refine s_167 255 241 76 rfl rfl ?_
    exact s_jmp (hk76 _ _ _ _ _) ⟨rfl, rfl, rfl, rfl, trivial⟩
theorem w_8_invert_76 (l : Launch) (k70 : Nat → Nat → Int32 → jH → Option (Unit × jH)) (hk70 : ∀ a0 a1 a2 H, JV l mi_8_invert jeV 70 [(0, .ref a0), (1, .ref a1), (2, .int a2)] [] H (k70 a0 a1 a2 H)) (n : Nat) : ∀ a0 a1 a2 a3 H, JV l mi_8_invert jeV 76 [(0, .ref a0), (1, .ref a1), (2, .int a2), (3, .int a3)] [] H (F_8_invert_76 k70 n a0 a1 a2 a3 H) := by
  induction n with
  | zero => intro _ _ _ _ _; exact s_none
  | succ n ih => intro a0 a1 a2 a3 H; exact v_8_invert_76 l k70 hk70 (F_8_invert_76 k70 n) ih a0 a1 a2 a3 H
theorem v_8_invert_70 (l : Launch) (k70 : Nat → Nat → Int32 → jH → Option (Unit × jH)) (hk70 : ∀ a0 a1 a2 H, JV l mi_8_invert jeV 70 [(0, .ref a0), (1, .ref a1), (2, .int a2)] [] H (k70 a0 a1 a2 H)) (a0 : Nat) (a1 : Nat) (a2 : Int32) (H : jH) : JV l mi_8_invert jeV 70 [(0, .ref a0), (1, .ref a1), (2, .int a2)] [] H (B_8_invert_70 k70 a0 a1 a2 H) := by
  unfold B_8_invert_70
  refine s_28 71 rfl rfl ?_
  refine s_155 0 74 145 74 rfl rfl ?_ ?_
  · exact s_177 rfl rfl
  · refine s_3 75 rfl ?_
    refine s_62 76 rfl rfl ?_
    exact s_jmp (w_8_invert_76 l k70 hk70 jfuel _ _ _ _ _) ⟨rfl, rfl, rfl, rfl, trivial⟩
theorem w_8_invert_70 (l : Launch)  (n : Nat) : ∀ a0 a1 a2 H, JV l mi_8_invert jeV 70 [(0, .ref a0), (1, .ref a1), (2, .int a2)] [] H (F_8_invert_70  n a0 a1 a2 H) := by
  induction n with
  | zero => intro _ _ _ _; exact s_none
  | succ n ih => intro a0 a1 a2 H; exact v_8_invert_70 l (F_8_invert_70  n) ih a0 a1 a2 H
theorem v_8_invert_21 (l : Launch) (k21 : Nat → Nat → Int32 → jH → Option (Unit × jH)) (hk21 : ∀ a0 a1 a2 H, JV l mi_8_invert jeV 21 [(0, .ref a0), (1, .ref a1), (2, .int a2)] [] H (k21 a0 a1 a2 H)) (a0 : Nat) (a1 : Nat) (a2 : Int32) (H : jH) : JV l mi_8_invert jeV 21 [(0, .ref a0), (1, .ref a1), (2, .int a2)] [] H (B_8_invert_21 k21 a0 a1 a2 H) := by
  unfold B_8_invert_21
  refine s_28 22 rfl rfl ?_
  refine s_16 16 24 16 jbp_16 rfl ?_
  refine s_162 0 28 52 27 rfl rfl ?_ ?_
  · refine s_42 53 rfl rfl ?_
    refine s_180R 0 35 56 35 f_8_8 jw_106 rfl rfl ?_
    refine s_3 57 rfl ?_
    refine s_50 58 111 jt_111 rfl ?_
    refine s_3 59 rfl ?_
    refine s_43 60 rfl rfl ?_
    refine s_3 61 rfl ?_
    refine s_16 8 63 8 jbp_8 rfl ?_
    refine s_acI 0 187 66 187 jw_1145 jw_372 jw_371 jw_12 rfl rfl rfl rfl (fun h7 => ?_)
    refine s_17 0 252 69 252 jsp_0_252 rfl ?_
    refine s_61 70 rfl rfl ?_
    exact s_jmp (w_8_invert_70 l jfuel _ _ _ _) ⟨rfl, rfl, rfl, trivial⟩
  · refine s_42 28 rfl rfl ?_
    refine s_42 29 rfl rfl ?_
    refine s_180R 0 35 32 35 f_8_8 jw_106 rfl rfl ?_
    refine s_28 33 rfl rfl ?_
    refine s_50 34 111 jt_111 rfl ?_
    refine s_42 35 rfl rfl ?_
    refine s_180R 0 35 38 35 f_8_8 jw_106 rfl rfl ?_
    refine s_28 39 rfl rfl ?_
    refine s_4 40 rfl ?_
    refine s_100 41 rfl ?_
    refine s_50 42 111 jt_111 rfl ?_
    refine s_43 43 rfl rfl ?_
    refine s_182V 0 148 46 148 (m_8_multiply l _ _ _ _ _) rfl k_8_multiply jc_8 jw_1139 jw_1141 jps_27 rfl rfl rfl rfl rfl (fun x8 h9 => ?_)
    refine s_132L 2 1 49 1 ji_1 rfl rfl rfl (fun x10 => ?_)
    refine s_167 255 228 21 rfl rfl ?_
    exact s_jmp (hk21 _ _ _ _) ⟨rfl, rfl, rfl, trivial⟩
theorem w_8_invert_21 (l : Launch)  (n : Nat) : ∀ a0 a1 a2 H, JV l mi_8_invert jeV 21 [(0, .ref a0), (1, .ref a1), (2, .int a2)] [] H (F_8_invert_21  n a0 a1 a2 H) := by
  induction n with
  | zero => intro _ _ _ _; exact s_none
  | succ n ih => intro a0 a1 a2 H; exact v_8_invert_21 l (F_8_invert_21  n) ih a0 a1 a2 H
theorem v_8_invert (l : Launch) (a0 : Nat) (a1 : Nat) (H : jH) : JV l mi_8_invert jeV 0 [(0, .ref a0), (1, .ref a1)] [] H (F_8_invert a0 a1 H) := by
  unfold F_8_invert
  refine s_42 1 rfl rfl ?_
  refine s_180R 0 35 4 35 f_8_8 jw_106 rfl rfl ?_
  refine s_3 5 rfl ?_
  refine s_50 6 111 jt_111 rfl ?_
  refine s_3 7 rfl ?_
  refine s_184V 0 172 10 172 (m_A_fill l _ _ _) rfl k_A_fill jw_1023 jw_1024 rfl rfl rfl rfl rfl (fun x11 h12 => ?_)
  refine s_42 11 rfl rfl ?_
  refine s_180R 0 35 14 35 f_8_8 jw_106 rfl rfl ?_
  refine s_3 15 rfl ?_
  refine s_50 16 111 jt_111 rfl ?_
  refine s_3 17 rfl ?_
  refine s_4 18 rfl ?_
  refine s_79 19 rfl (fun h13 => ?_)
  refine s_4 20 rfl ?_
  refine s_61 21 rfl rfl ?_
  exact s_jmp (w_8_invert_21 l jfuel _ _ _ _) ⟨rfl, rfl, rfl, trivial⟩
theorem m_8_invert (l : Launch) (a0 : Nat) (a1 : Nat) (H : jH) : JMet l y_8_invert prog_10_method_13_code mi_8_invert jeV [.ref a0, .ref a1] H (F_8_invert a0 a1 H) := jmet_of n_8_invert (by decide) ⟨rfl, rfl⟩ (Nat.le_of_ble_eq_true rfl) (v_8_invert l a0 a1 H)
def mi_8_isBelow : jM := (125027162701188744800386005372380321974537728431660008508578107649798894727474890762181181732452607451555566309937892345440977394646892074, 57, 3, "CoinNode$Signature", some FieldType.boolean, "isBelow", 1, 15)
def y_8_isBelow : MethodName := ⟨"CoinNode$Signature", "isBelow", "([I[I)Z"⟩
theorem n_8_isBelow : jn_is prog_10_method_10_code mi_8_isBelow.1 mi_8_isBelow.2.1 := by unfold jn_is; decide +kernel
theorem k_8_isBelow : jmok y_8_isBelow prog_10_method_10_code mi_8_isBelow 2 := ⟨jw_1033, jw_4, ⟨by decide, by decide⟩, by decide +kernel⟩
theorem v_8_isBelow_48 (l : Launch)  (s0 : Int32) (H : jH) : JV l mi_8_isBelow jeI 48 [] [.int s0] H (B_8_isBelow_48  s0 H) := by
  unfold B_8_isBelow_48
  exact s_172Z rfl rfl
theorem v_8_isBelow_10 (l : Launch) (k10 : Nat → Nat → Int32 → jH → Option (Int32 × jH)) (hk10 : ∀ a0 a1 a2 H, JV l mi_8_isBelow jeI 10 [(0, .ref a0), (1, .ref a1), (2, .int a2)] [] H (k10 a0 a1 a2 H)) (a0 : Nat) (a1 : Nat) (a2 : Int32) (H : jH) : JV l mi_8_isBelow jeI 10 [(0, .ref a0), (1, .ref a1), (2, .int a2)] [] H (B_8_isBelow_10 k10 a0 a1 a2 H) := by
  unfold B_8_isBelow_10
  refine s_28 11 rfl rfl ?_
  refine s_155 0 44 55 14 rfl rfl ?_ ?_
  · refine s_3 56 rfl ?_
    exact s_172Z rfl rfl
  · refine s_42 15 rfl rfl ?_
    refine s_28 16 rfl rfl ?_
    refine s_46 17 rfl ?_
    refine s_43 18 rfl rfl ?_
    refine s_28 19 rfl rfl ?_
    refine s_46 20 rfl ?_
    refine s_159 0 29 49 23 rfl rfl ?_ ?_
    · refine s_132L 2 255 52 (-1) ji_255 rfl rfl rfl (fun x1 => ?_)
      refine s_167 255 214 10 rfl rfl ?_
      exact s_jmp (hk10 _ _ _ _) ⟨rfl, rfl, rfl, trivial⟩
    · refine s_42 24 rfl rfl ?_
      refine s_28 25 rfl rfl ?_
      refine s_46 26 rfl ?_
      refine s_133 27 rfl ?_
      refine s_20 0 170 30 170 4294967295 rfl jw_1035 rfl ?_
      refine s_127 31 rfl ?_
      refine s_43 32 rfl rfl ?_
      refine s_28 33 rfl rfl ?_
      refine s_46 34 rfl ?_
      refine s_133 35 rfl ?_
      refine s_20 0 170 38 170 4294967295 rfl jw_1035 rfl ?_
      refine s_127 39 rfl ?_
      refine s_148_156 0 7 47 40 43 rfl rfl rfl ?_ ?_
      · refine s_3 48 rfl ?_
        exact s_jmp (v_8_isBelow_48 l _ _) trivial
      · refine s_4 44 rfl ?_
        refine s_167 0 4 48 rfl rfl ?_
        exact s_jmp (v_8_isBelow_48 l _ _) trivial
theorem w_8_isBelow_10 (l : Launch)  (n : Nat) : ∀ a0 a1 a2 H, JV l mi_8_isBelow jeI 10 [(0, .ref a0), (1, .ref a1), (2, .int a2)] [] H (F_8_isBelow_10  n a0 a1 a2 H) := by
  induction n with
  | zero => intro _ _ _ _; exact s_none
  | succ n ih => intro a0 a1 a2 H; exact v_8_isBelow_10 l (F_8_isBelow_10  n) ih a0 a1 a2 H
theorem v_8_isBelow (l : Launch) (a0 : Nat) (a1 : Nat) (H : jH) : JV l mi_8_isBelow jeI 0 [(0, .ref a0), (1, .ref a1)] [] H (F_8_isBelow a0 a1 H) := by
  unfold F_8_isBelow
  refine s_42 1 rfl rfl ?_
  refine s_190 2 100 jm_100 rfl ?_
  refine s_43 3 rfl rfl ?_
  refine s_190 4 100 jm_100 rfl ?_
  refine s_minI 0 178 7 178 jw_1034 jw_690 jw_15 jw_691 rfl rfl rfl ?_
  refine s_4 8 rfl ?_
  refine s_100 9 rfl ?_
  refine s_61L 10 rfl rfl (fun x2 => ?_)
  exact s_jmp (w_8_isBelow_10 l jfuel _ _ _ _) ⟨rfl, rfl, rfl, trivial⟩
theorem m_8_isBelow (l : Launch) (a0 : Nat) (a1 : Nat) (H : jH) : JMet l y_8_isBelow prog_10_method_10_code mi_8_isBelow jeI [.ref a0, .ref a1] H (F_8_isBelow a0 a1 H) := jmet_of n_8_isBelow (by decide) ⟨rfl, rfl⟩ (Nat.le_of_ble_eq_true rfl) (v_8_isBelow l a0 a1 H)
def mi_8_spread : jM := (275802405052247993566039374221870188290801081527335438954213449583734528336951792208555167433218957515023001809592220765203551201812467565376547636848444793058125438421664095069342653392279466074717336809884599711567413707467868880131, 97, 9, "CoinNode$Signature", none, "spread", 0, 0)
def y_8_spread : MethodName := ⟨"CoinNode$Signature", "spread", "([I[J)V"⟩
theorem n_8_spread : jn_is prog_10_method_11_code mi_8_spread.1 mi_8_spread.2.1 := by unfold jn_is; decide +kernel
theorem k_8_spread : jmok y_8_spread prog_10_method_11_code mi_8_spread 2 := ⟨jw_1050, jw_4, ⟨by decide, by decide⟩, by decide +kernel⟩
theorem v_8_spread_76 (l : Launch) (k2 : Nat → Nat → Int32 → jH → Option (Unit × jH)) (hk2 : ∀ a0 a1 a2 H, JV l mi_8_spread jeV 2 [(0, .ref a0), (1, .ref a1), (2, .int a2)] [] H (k2 a0 a1 a2 H)) (a0 : Nat) (a1 : Nat) (a2 : Int32) (a5 : Int64) (s0 : Int64) (H : jH) : JV l mi_8_spread jeV 76 [(0, .ref a0), (1, .ref a1), (2, .int a2), (5, .long a5)] [.long s0] H (B_8_spread_76 k2 a0 a1 a2 a5 s0 H) := by
  unfold B_8_spread_76
  refine s_55 7 78 rfl rfl ?_
  refine s_43 79 rfl rfl ?_
  refine s_28 80 rfl rfl ?_
  refine s_22 5 82 rfl rfl ?_
  refine s_22 7 84 rfl rfl ?_
  refine s_129 85 rfl ?_
  refine s_20 0 182 88 182 67108863 rfl jw_1051 rfl ?_
  refine s_127 89 rfl ?_
  refine s_80 90 rfl (fun h1 => ?_)
  refine s_132L 2 1 93 1 ji_1 rfl rfl rfl (fun x2 => ?_)
  refine s_167 255 165 2 rfl rfl ?_
  exact s_jmp (hk2 _ _ _ _) ⟨rfl, rfl, rfl, trivial⟩
theorem v_8_spread_46 (l : Launch) (k2 : Nat → Nat → Int32 → jH → Option (Unit × jH)) (hk2 : ∀ a0 a1 a2 H, JV l mi_8_spread jeV 2 [(0, .ref a0), (1, .ref a1), (2, .int a2)] [] H (k2 a0 a1 a2 H)) (a0 : Nat) (a1 : Nat) (a2 : Int32) (a3 : Int32) (a4 : Int32) (s0 : Int64) (H : jH) : JV l mi_8_spread jeV 46 [(0, .ref a0), (1, .ref a1), (2, .int a2), (3, .int a3), (4, .int a4)] [.long s0] H (B_8_spread_46 k2 a0 a1 a2 a3 a4 s0 H) := by
  unfold B_8_spread_46
  refine s_55 5 48 rfl rfl ?_
  refine s_29 49 rfl rfl ?_
  refine s_4 50 rfl ?_
  refine s_96 51 rfl ?_
  refine s_42 52 rfl rfl ?_
  refine s_190 53 100 jm_100 rfl ?_
  refine s_162 0 22 75 56 rfl rfl ?_ ?_
  · refine s_9 76 rfl ?_
    exact s_jmp (v_8_spread_76 l k2 hk2 _ _ _ _ _ _) ⟨rfl, rfl, rfl, rfl, trivial⟩
  · refine s_42 57 rfl rfl ?_
    refine s_29 58 rfl rfl ?_
    refine s_4 59 rfl ?_
    refine s_96 60 rfl ?_
    refine s_46 61 rfl ?_
    refine s_133 62 rfl ?_
    refine s_20 0 170 65 170 4294967295 rfl jw_1035 rfl ?_
    refine s_127 66 rfl ?_
    refine s_16 32 68 32 jbp_32 rfl ?_
    refine s_21 4 70 rfl rfl ?_
    refine s_100 71 rfl ?_
    refine s_121 72 rfl ?_
    refine s_167 0 4 76 rfl rfl ?_
    exact s_jmp (v_8_spread_76 l k2 hk2 _ _ _ _ _ _) ⟨rfl, rfl, rfl, rfl, trivial⟩
theorem v_8_spread_2 (l : Launch) (k2 : Nat → Nat → Int32 → jH → Option (Unit × jH)) (hk2 : ∀ a0 a1 a2 H, JV l mi_8_spread jeV 2 [(0, .ref a0), (1, .ref a1), (2, .int a2)] [] H (k2 a0 a1 a2 H)) (a0 : Nat) (a1 : Nat) (a2 : Int32) (H : jH) : JV l mi_8_spread jeV 2 [(0, .ref a0), (1, .ref a1), (2, .int a2)] [] H (B_8_spread_2 k2 a0 a1 a2 H) := by
  unfold B_8_spread_2
  refine s_28 3 rfl rfl ?_
  refine s_43 4 rfl rfl ?_
  refine s_190 5 103 jm_103 rfl ?_
  refine s_162 0 91 96 8 rfl rfl ?_ ?_
  · exact s_177 rfl rfl
  · refine s_16 26 10 26 jbp_26 rfl ?_
    refine s_28 11 rfl rfl ?_
    refine s_104 12 rfl ?_
    refine s_16 32 14 32 jbp_32 rfl ?_
    refine s_108 15 rfl ?_
    refine s_62L 16 rfl rfl (fun x3 => ?_)
    refine s_16 26 18 26 jbp_26 rfl ?_
    refine s_28 19 rfl rfl ?_
    refine s_104 20 rfl ?_
    refine s_16 32 22 32 jbp_32 rfl ?_
    refine s_112 23 rfl ?_
    refine s_54L 4 25 rfl rfl (fun x4 => ?_)
    refine s_29 26 rfl rfl ?_
    refine s_42 27 rfl rfl ?_
    refine s_190 28 100 jm_100 rfl ?_
    refine s_162 0 17 45 31 rfl rfl ?_ ?_
    · refine s_9 46 rfl ?_
      exact s_jmp (v_8_spread_46 l k2 hk2 _ _ _ _ _ _ _) ⟨rfl, rfl, rfl, rfl, rfl, trivial⟩
    · refine s_42 32 rfl rfl ?_
      refine s_29 33 rfl rfl ?_
      refine s_46 34 rfl ?_
      refine s_133 35 rfl ?_
      refine s_20 0 170 38 170 4294967295 rfl jw_1035 rfl ?_
      refine s_127 39 rfl ?_
      refine s_21 4 41 rfl rfl ?_
      refine s_125 42 rfl ?_
      refine s_167 0 4 46 rfl rfl ?_
      exact s_jmp (v_8_spread_46 l k2 hk2 _ _ _ _ _ _ _) ⟨rfl, rfl, rfl, rfl, rfl, trivial⟩
theorem w_8_spread_2 (l : Launch)  (n : Nat) : ∀ a0 a1 a2 H, JV l mi_8_spread jeV 2 [(0, .ref a0), (1, .ref a1), (2, .int a2)] [] H (F_8_spread_2  n a0 a1 a2 H) := by
  induction n with
  | zero => intro _ _ _ _; exact s_none
  | succ n ih => intro a0 a1 a2 H; exact v_8_spread_2 l (F_8_spread_2  n) ih a0 a1 a2 H
theorem v_8_spread (l : Launch) (a0 : Nat) (a1 : Nat) (H : jH) : JV l mi_8_spread jeV 0 [(0, .ref a0), (1, .ref a1)] [] H (F_8_spread a0 a1 H) := by
  unfold F_8_spread
  refine s_3 1 rfl ?_
  refine s_61 2 rfl rfl ?_
  exact s_jmp (w_8_spread_2 l jfuel _ _ _ _) ⟨rfl, rfl, rfl, trivial⟩
theorem m_8_spread (l : Launch) (a0 : Nat) (a1 : Nat) (H : jH) : JMet l y_8_spread prog_10_method_11_code mi_8_spread jeV [.ref a0, .ref a1] H (F_8_spread a0 a1 H) := jmet_of n_8_spread (by decide) ⟨rfl, rfl⟩ (Nat.le_of_ble_eq_true rfl) (v_8_spread l a0 a1 H)
def mi_8_isAtX : jM := (1619552645241686319939060018078417041339359680555164784633307500719196003667547562974744378173307993180904385670181687644152206203137657639146790377292876930901794096216879984991013914048778288673481182132866284915991701977309078598971131779709213807995749816778884783100495992258681021663465490469853761848620819594957717702687606902706156744171561337747134936412403695233565429506664816885751592051031567140133431818601337180515802392448593147417160938625741866, 192, 5, "CoinNode$Signature", some FieldType.boolean, "isAtX", 2, 86)
def y_8_isAtX : MethodName := ⟨"CoinNode$Signature", "isAtX", "()Z"⟩
theorem n_8_isAtX : jn_is prog_10_method_7_code mi_8_isAtX.1 mi_8_isAtX.2.1 := by unfold jn_is; decide +kernel
theorem k_8_isAtX : jmok y_8_isAtX prog_10_method_7_code mi_8_isAtX 0 := ⟨jw_1155, jw_4, ⟨by decide, by decide⟩, by decide +kernel⟩
theorem v_8_isAtX_182 (l : Launch)   (H : jH) : JV l mi_8_isAtX jeI 182 [] [] H (B_8_isAtX_182   H) := by
  unfold B_8_isAtX_182
  refine s_3 183 rfl ?_
  exact s_172Z rfl rfl
theorem v_8_isAtX_109 (l : Launch) (k25 : Nat → Int32 → jH → Option (Int32 × jH)) (hk25 : ∀ a0 a1 H, JV l mi_8_isAtX jeI 25 [(0, .ref a0), (1, .int a1)] [] H (k25 a0 a1 H)) (k109 : Nat → Int32 → Int64 → Int32 → jH → Option (Int32 × jH)) (hk109 : ∀ a0 a1 a2 a4 H, JV l mi_8_isAtX jeI 109 [(0, .ref a0), (1, .int a1), (2, .long a2), (4, .int a4)] [] H (k109 a0 a1 a2 a4 H)) (a0 : Nat) (a1 : Int32) (a2 : Int64) (a4 : Int32) (H : jH) : JV l mi_8_isAtX jeI 109 [(0, .ref a0), (1, .int a1), (2, .long a2), (4, .int a4)] [] H (B_8_isAtX_109 k25 k109 a0 a1 a2 a4 H) := by
  unfold B_8_isAtX_109
  refine s_21 4 111 rfl rfl ?_
  refine s_16 8 113 8 jbp_8 rfl ?_
  refine s_162 0 50 163 116 rfl rfl ?_ ?_
  · refine s_32 164 rfl rfl ?_
    refine s_9 165 rfl ?_
    refine s_148_154 0 16 182 166 169 rfl rfl rfl ?_ ?_
    · exact s_jmp (v_8_isAtX_182 l _) trivial
    · refine s_42 170 rfl rfl ?_
      refine s_180R 0 9 173 9 f_8_1 jw_99 rfl rfl ?_
      refine s_178 0 96 176 96 7 "CoinNode$Signature" "PRIME" jst_7 ⟨by decide, by decide⟩ jw_1052 rfl rfl ?_
      refine s_184I 0 85 179 85 (m_8_isBelow l _ _ _) rfl k_8_isBelow jw_1031 jw_1032 rfl rfl rfl rfl rfl (fun x1 h2 => ?_)
      refine s_154 0 5 184 182 rfl rfl ?_ ?_
      · refine s_132L 1 1 187 1 ji_1 rfl rfl rfl (fun x3 => ?_)
        refine s_167 255 94 25 rfl rfl ?_
        exact s_jmp (hk25 _ _ _) ⟨rfl, rfl, trivial⟩
      · exact s_jmp (v_8_isAtX_182 l _) trivial
  · refine s_32 117 rfl rfl ?_
    refine s_42 118 rfl rfl ?_
    refine s_180R 0 9 121 9 f_8_1 jw_99 rfl rfl ?_
    refine s_21 4 123 rfl rfl ?_
    refine s_46 124 rfl ?_
    refine s_133 125 rfl ?_
    refine s_20 0 170 128 170 4294967295 rfl jw_1035 rfl ?_
    refine s_127 129 rfl ?_
    refine s_178 0 82 132 82 8 "CoinNode$Signature" "ORDER" jst_8 ⟨by decide, by decide⟩ jw_1029 rfl rfl ?_
    refine s_21 4 134 rfl rfl ?_
    refine s_46 135 rfl ?_
    refine s_133 136 rfl ?_
    refine s_20 0 170 139 170 4294967295 rfl jw_1035 rfl ?_
    refine s_127 140 rfl ?_
    refine s_97 141 rfl ?_
    refine s_97 142 rfl ?_
    refine s_65L 143 rfl rfl (fun x4 => ?_)
    refine s_42 144 rfl rfl ?_
    refine s_180R 0 9 147 9 f_8_1 jw_99 rfl rfl ?_
    refine s_21 4 149 rfl rfl ?_
    refine s_32 150 rfl rfl ?_
    refine s_136 151 rfl ?_
    refine s_79 152 rfl (fun h5 => ?_)
    refine s_32 153 rfl rfl ?_
    refine s_16 32 155 32 jbp_32 rfl ?_
    refine s_125 156 rfl ?_
    refine s_65L 157 rfl rfl (fun x6 => ?_)
    refine s_132L 4 1 160 1 ji_1 rfl rfl rfl (fun x7 => ?_)
    refine s_167 255 205 109 rfl rfl ?_
    exact s_jmp (hk109 _ _ _ _ _) ⟨rfl, rfl, rfl, rfl, trivial⟩
theorem w_8_isAtX_109 (l : Launch) (k25 : Nat → Int32 → jH → Option (Int32 × jH)) (hk25 : ∀ a0 a1 H, JV l mi_8_isAtX jeI 25 [(0, .ref a0), (1, .int a1)] [] H (k25 a0 a1 H)) (n : Nat) : ∀ a0 a1 a2 a4 H, JV l mi_8_isAtX jeI 109 [(0, .ref a0), (1, .int a1), (2, .long a2), (4, .int a4)] [] H (F_8_isAtX_109 k25 n a0 a1 a2 a4 H) := by
  induction n with
  | zero => intro _ _ _ _ _; exact s_none
  | succ n ih => intro a0 a1 a2 a4 H; exact v_8_isAtX_109 l k25 hk25 (F_8_isAtX_109 k25 n) ih a0 a1 a2 a4 H
theorem v_8_isAtX_25 (l : Launch) (k25 : Nat → Int32 → jH → Option (Int32 × jH)) (hk25 : ∀ a0 a1 H, JV l mi_8_isAtX jeI 25 [(0, .ref a0), (1, .int a1)] [] H (k25 a0 a1 H)) (a0 : Nat) (a1 : Int32) (H : jH) : JV l mi_8_isAtX jeI 25 [(0, .ref a0), (1, .int a1)] [] H (B_8_isAtX_25 k25 a0 a1 H) := by
  unfold B_8_isAtX_25
  refine s_27 26 rfl rfl ?_
  refine s_5 27 rfl ?_
  refine s_162 0 163 190 30 rfl rfl ?_ ?_
  · refine s_3 191 rfl ?_
    exact s_172Z rfl rfl
  · refine s_42 31 rfl rfl ?_
    refine s_180R 0 9 34 9 f_8_1 jw_99 rfl rfl ?_
    refine s_42 35 rfl rfl ?_
    refine s_180R 0 40 38 40 f_8_9 jw_107 rfl rfl ?_
    refine s_4 39 rfl ?_
    refine s_50 40 112 jt_112 rfl ?_
    refine s_184V 0 92 43 92 (m_8_spread l _ _ _) rfl k_8_spread jw_1048 jw_1049 rfl rfl rfl rfl rfl (fun x8 h9 => ?_)
    refine s_42 44 rfl rfl ?_
    refine s_180R 0 40 47 40 f_8_9 jw_107 rfl rfl ?_
    refine s_4 48 rfl ?_
    refine s_50 49 112 jt_112 rfl ?_
    refine s_42 50 rfl rfl ?_
    refine s_180R 0 40 53 40 f_8_9 jw_107 rfl rfl ?_
    refine s_4 54 rfl ?_
    refine s_50 55 112 jt_112 rfl ?_
    refine s_42 56 rfl rfl ?_
    refine s_180R 0 40 59 40 f_8_9 jw_107 rfl rfl ?_
    refine s_3 60 rfl ?_
    refine s_50 61 112 jt_112 rfl ?_
    refine s_184V 0 99 64 99 (m_5_multiply l _ _ _ _) rfl k_5_multiply jw_1054 jw_1055 rfl rfl rfl rfl rfl (fun x10 h11 => ?_)
    refine s_42 65 rfl rfl ?_
    refine s_180R 0 40 68 40 f_8_9 jw_107 rfl rfl ?_
    refine s_4 69 rfl ?_
    refine s_50 70 112 jt_112 rfl ?_
    refine s_42 71 rfl rfl ?_
    refine s_180R 0 40 74 40 f_8_9 jw_107 rfl rfl ?_
    refine s_4 75 rfl ?_
    refine s_50 76 112 jt_112 rfl ?_
    refine s_10 77 rfl ?_
    refine s_42 78 rfl rfl ?_
    refine s_180R 0 63 81 63 f_8_15 jw_113 rfl rfl ?_
    refine s_180R 0 89 84 89 f_5_0 jw_80 rfl rfl ?_
    refine s_20 0 111 87 111 (-1) rfl jw_1070 rfl ?_
    refine s_184V 0 113 90 113 (m_5_mix l _ _ _ _ _ _) rfl k_5_mix jw_1071 jw_1065 rfl rfl rfl rfl rfl (fun x12 h13 => ?_)
    refine s_42 91 rfl rfl ?_
    refine s_180R 0 40 94 40 f_8_9 jw_107 rfl rfl ?_
    refine s_4 95 rfl ?_
    refine s_50 96 112 jt_112 rfl ?_
    refine s_184I 0 117 99 117 (m_5_normalize l _ _) rfl k_5_normalize jw_1072 jw_1073 rfl rfl rfl rfl rfl (fun x14 h15 => ?_)
    refine s_153 0 5 104 102 rfl rfl ?_ ?_
    · refine s_9 105 rfl ?_
      refine s_65 106 rfl rfl ?_
      refine s_3 107 rfl ?_
      refine s_54 4 109 rfl rfl ?_
      exact s_jmp (w_8_isAtX_109 l k25 hk25 jfuel _ _ _ _ _) ⟨rfl, rfl, rfl, rfl, trivial⟩
    · refine s_4 103 rfl ?_
      exact s_172Z rfl rfl
theorem w_8_isAtX_25 (l : Launch)  (n : Nat) : ∀ a0 a1 H, JV l mi_8_isAtX jeI 25 [(0, .ref a0), (1, .int a1)] [] H (F_8_isAtX_25  n a0 a1 H) := by
  induction n with
  | zero => intro _ _ _; exact s_none
  | succ n ih => intro a0 a1 H; exact v_8_isAtX_25 l (F_8_isAtX_25  n) ih a0 a1 H
theorem v_8_isAtX (l : Launch) (a0 : Nat) (H : jH) : JV l mi_8_isAtX jeI 0 [(0, .ref a0)] [] H (F_8_isAtX a0 H) := by
  unfold F_8_isAtX
  refine s_42 1 rfl rfl ?_
  refine s_180R 0 40 4 40 f_8_9 jw_107 rfl rfl ?_
  refine s_3 5 rfl ?_
  refine s_50 6 112 jt_112 rfl ?_
  refine s_42 7 rfl rfl ?_
  refine s_180R 0 63 10 63 f_8_15 jw_113 rfl rfl ?_
  refine s_180R 0 168 13 168 f_5_2 jw_84 rfl rfl ?_
  refine s_42 14 rfl rfl ?_
  refine s_180R 0 63 17 63 f_8_15 jw_113 rfl rfl ?_
  refine s_180R 0 168 20 168 f_5_2 jw_84 rfl rfl ?_
  refine s_184V 0 99 23 99 (m_5_multiply l _ _ _ _) rfl k_5_multiply jw_1054 jw_1055 rfl rfl rfl rfl rfl (fun x16 h17 => ?_)
  refine s_3 24 rfl ?_
  refine s_60 25 rfl rfl ?_
  exact s_jmp (w_8_isAtX_25 l jfuel _ _ _) ⟨rfl, rfl, trivial⟩
theorem m_8_isAtX (l : Launch) (a0 : Nat) (H : jH) : JMet l y_8_isAtX prog_10_method_7_code mi_8_isAtX jeI [.ref a0] H (F_8_isAtX a0 H) := jmet_of n_8_isAtX (by decide) ⟨rfl, rfl⟩ (Nat.le_of_ble_eq_true rfl) (v_8_isAtX l a0 H)
def mi_8_set : jM := (2881284329873264964003104386806225312284868431494757291943942894785268353723222725673413961076029993904504094780883683859300959312769062896952522235936294691989953004761782095971114, 75, 6, "CoinNode$Signature", none, "set", 1, 23)
def y_8_set : MethodName := ⟨"CoinNode$Signature", "set", "([I[BII)V"⟩
theorem n_8_set : jn_is prog_10_method_8_code mi_8_set.1 mi_8_set.2.1 := by unfold jn_is; decide +kernel
theorem k_8_set : jmok y_8_set prog_10_method_8_code mi_8_set 4 := ⟨jw_1022, jw_4, ⟨by decide, by decide⟩, by decide +kernel⟩
theorem v_8_set_68 (l : Launch) (k8 : Nat → Nat → Int32 → Int32 → Int32 → jH → Option (Unit × jH)) (hk8 : ∀ a0 a1 a2 a3 a4 H, JV l mi_8_set jeV 8 [(0, .ref a0), (1, .ref a1), (2, .int a2), (3, .int a3), (4, .int a4)] [] H (k8 a0 a1 a2 a3 a4 H)) (a0 : Nat) (a1 : Nat) (a2 : Int32) (a3 : Int32) (a4 : Int32) (H : jH) : JV l mi_8_set jeV 68 [(0, .ref a0), (1, .ref a1), (2, .int a2), (3, .int a3), (4, .int a4)] [] H (B_8_set_68 k8 a0 a1 a2 a3 a4 H) := by
  unfold B_8_set_68
  refine s_132L 4 1 71 1 ji_1 rfl rfl rfl (fun x1 => ?_)
  refine s_167 255 193 8 rfl rfl ?_
  exact s_jmp (hk8 _ _ _ _ _ _) ⟨rfl, rfl, rfl, rfl, rfl, trivial⟩
theorem v_8_set_74 (l : Launch)   (H : jH) : JV l mi_8_set jeV 74 [] [] H (B_8_set_74   H) := by
  unfold B_8_set_74
  exact s_177 rfl rfl
theorem v_8_set_8 (l : Launch) (k8 : Nat → Nat → Int32 → Int32 → Int32 → jH → Option (Unit × jH)) (hk8 : ∀ a0 a1 a2 a3 a4 H, JV l mi_8_set jeV 8 [(0, .ref a0), (1, .ref a1), (2, .int a2), (3, .int a3), (4, .int a4)] [] H (k8 a0 a1 a2 a3 a4 H)) (a0 : Nat) (a1 : Nat) (a2 : Int32) (a3 : Int32) (a4 : Int32) (H : jH) : JV l mi_8_set jeV 8 [(0, .ref a0), (1, .ref a1), (2, .int a2), (3, .int a3), (4, .int a4)] [] H (B_8_set_8 k8 a0 a1 a2 a3 a4 H) := by
  unfold B_8_set_8
  refine s_21 4 10 rfl rfl ?_
  refine s_29 11 rfl rfl ?_
  refine s_162 0 63 74 14 rfl rfl ?_ ?_
  · exact s_jmp (v_8_set_74 l _) trivial
  · refine s_21 4 16 rfl rfl ?_
    refine s_16 32 18 32 jbp_32 rfl ?_
    refine s_162 0 56 74 21 rfl rfl ?_ ?_
    · exact s_jmp (v_8_set_74 l _) trivial
    · refine s_28 22 rfl rfl ?_
      refine s_29 23 rfl rfl ?_
      refine s_96 24 rfl ?_
      refine s_4 25 rfl ?_
      refine s_100 26 rfl ?_
      refine s_21 4 28 rfl rfl ?_
      refine s_100 29 rfl ?_
      refine s_54L 5 31 rfl rfl (fun x2 => ?_)
      refine s_21 5 33 rfl rfl ?_
      refine s_155 0 35 68 36 rfl rfl ?_ ?_
      · exact s_jmp (v_8_set_68 l k8 hk8 _ _ _ _ _ _) ⟨rfl, rfl, rfl, rfl, rfl, trivial⟩
      · refine s_21 5 38 rfl rfl ?_
        refine s_43 39 rfl rfl ?_
        refine s_190 40 101 jm_101 rfl ?_
        refine s_162 0 28 68 43 rfl rfl ?_ ?_
        · exact s_jmp (v_8_set_68 l k8 hk8 _ _ _ _ _ _) ⟨rfl, rfl, rfl, rfl, rfl, trivial⟩
        · refine s_42 44 rfl rfl ?_
          refine s_21 4 46 rfl rfl ?_
          refine s_7 47 rfl ?_
          refine s_108 48 rfl ?_
          refine s_92 49 rfl rfl rfl ?_
          refine s_46 50 rfl ?_
          refine s_43 51 rfl rfl ?_
          refine s_21 5 53 rfl rfl ?_
          refine s_51B 54 rfl ?_
          refine s_17 0 255 57 255 jsp_0_255 rfl ?_
          refine s_126 58 rfl ?_
          refine s_16 8 60 8 jbp_8 rfl ?_
          refine s_21 4 62 rfl rfl ?_
          refine s_7 63 rfl ?_
          refine s_112 64 rfl ?_
          refine s_104 65 rfl ?_
          refine s_120 66 rfl ?_
          refine s_128 67 rfl ?_
          refine s_79 68 rfl (fun h3 => ?_)
          exact s_jmp (v_8_set_68 l k8 hk8 _ _ _ _ _ _) ⟨rfl, rfl, rfl, rfl, rfl, trivial⟩
theorem w_8_set_8 (l : Launch)  (n : Nat) : ∀ a0 a1 a2 a3 a4 H, JV l mi_8_set jeV 8 [(0, .ref a0), (1, .ref a1), (2, .int a2), (3, .int a3), (4, .int a4)] [] H (F_8_set_8  n a0 a1 a2 a3 a4 H) := by
  induction n with
  | zero => intro _ _ _ _ _ _; exact s_none
  | succ n ih => intro a0 a1 a2 a3 a4 H; exact v_8_set_8 l (F_8_set_8  n) ih a0 a1 a2 a3 a4 H
theorem v_8_set (l : Launch) (a0 : Nat) (a1 : Nat) (a2 : Int32) (a3 : Int32) (H : jH) : JV l mi_8_set jeV 0 [(0, .ref a0), (1, .ref a1), (2, .int a2), (3, .int a3)] [] H (F_8_set a0 a1 a2 a3 H) := by
  unfold F_8_set
  refine s_42 1 rfl rfl ?_
  refine s_3 2 rfl ?_
  refine s_184V 0 172 5 172 (m_A_fill l _ _ _) rfl k_A_fill jw_1023 jw_1024 rfl rfl rfl rfl rfl (fun x4 h5 => ?_)
  refine s_3 6 rfl ?_
  refine s_54 4 8 rfl rfl ?_
  exact s_jmp (w_8_set_8 l jfuel _ _ _ _ _ _) ⟨rfl, rfl, rfl, rfl, rfl, trivial⟩
theorem m_8_set (l : Launch) (a0 : Nat) (a1 : Nat) (a2 : Int32) (a3 : Int32) (H : jH) : JMet l y_8_set prog_10_method_8_code mi_8_set jeV [.ref a0, .ref a1, .int a2, .int a3] H (F_8_set a0 a1 a2 a3 H) := jmet_of n_8_set (by decide) ⟨rfl, rfl⟩ (Nat.le_of_ble_eq_true rfl) (v_8_set l a0 a1 a2 a3 H)
def mi_8_setDigits : jM := (647235194963209270486912519560361955387149848070681944915153801649523389040080596629719366284836700571912755748375779320568167811423793737013612468564258244932799490642902399006663060697381657443750302676693739599555909288372394601589183288208557461565684203693891663295886345959296145158087604678088708284594104421791513641212944404476068650, 142, 9, "CoinNode$Signature", none, "setDigits", 1, 23)
def y_8_setDigits : MethodName := ⟨"CoinNode$Signature", "setDigits", "([I[I)V"⟩
theorem n_8_setDigits : jn_is prog_10_method_14_code mi_8_setDigits.1 mi_8_setDigits.2.1 := by unfold jn_is; decide +kernel
theorem k_8_setDigits : jmok y_8_setDigits prog_10_method_14_code mi_8_setDigits 2 := ⟨jw_1148, jw_4, ⟨by decide, by decide⟩, by decide +kernel⟩
theorem v_8_setDigits_135 (l : Launch) (k12 : Nat → Nat → Int32 → Int32 → Int32 → jH → Option (Unit × jH)) (hk12 : ∀ a0 a1 a2 a3 a4 H, JV l mi_8_setDigits jeV 12 [(0, .ref a0), (1, .ref a1), (2, .int a2), (3, .int a3), (4, .int a4)] [] H (k12 a0 a1 a2 a3 a4 H)) (a0 : Nat) (a1 : Nat) (a2 : Int32) (a3 : Int32) (a4 : Int32) (H : jH) : JV l mi_8_setDigits jeV 135 [(0, .ref a0), (1, .ref a1), (2, .int a2), (3, .int a3), (4, .int a4)] [] H (B_8_setDigits_135 k12 a0 a1 a2 a3 a4 H) := by
  unfold B_8_setDigits_135
  refine s_132L 4 1 138 1 ji_1 rfl rfl rfl (fun x1 => ?_)
  refine s_167 255 130 12 rfl rfl ?_
  exact s_jmp (hk12 _ _ _ _ _ _) ⟨rfl, rfl, rfl, rfl, rfl, trivial⟩
theorem v_8_setDigits_81 (l : Launch) (k12 : Nat → Nat → Int32 → Int32 → Int32 → jH → Option (Unit × jH)) (hk12 : ∀ a0 a1 a2 a3 a4 H, JV l mi_8_setDigits jeV 12 [(0, .ref a0), (1, .ref a1), (2, .int a2), (3, .int a3), (4, .int a4)] [] H (k12 a0 a1 a2 a3 a4 H)) (a0 : Nat) (a1 : Nat) (a2 : Int32) (a3 : Int32) (a4 : Int32) (s0 : Int64) (s1 : Int64) (H : jH) : JV l mi_8_setDigits jeV 81 [(0, .ref a0), (1, .ref a1), (2, .int a2), (3, .int a3), (4, .int a4)] [.long s1, .long s0] H (B_8_setDigits_81 k12 a0 a1 a2 a3 a4 s0 s1 H) := by
  unfold B_8_setDigits_81
  refine s_129 82 rfl ?_
  refine s_55L 6 84 rfl rfl (fun x2 => ?_)
  refine s_22 6 86 rfl rfl ?_
  refine s_29 87 rfl rfl ?_
  refine s_16 32 89 32 jbp_32 rfl ?_
  refine s_112 90 rfl ?_
  refine s_125 91 rfl ?_
  refine s_136 92 rfl ?_
  refine s_16 31 94 31 jbp_31 rfl ?_
  refine s_126 95 rfl ?_
  refine s_54L 8 97 rfl rfl (fun x3 => ?_)
  refine s_21 8 99 rfl rfl ?_
  refine s_4 100 rfl ?_
  refine s_126 101 rfl ?_
  refine s_28 102 rfl rfl ?_
  refine s_160 0 9 111 105 rfl rfl ?_ ?_
  · refine s_21 8 113 rfl rfl ?_
    refine s_28 114 rfl rfl ?_
    refine s_96 115 rfl ?_
    refine s_54L 8 117 rfl rfl (fun x4 => ?_)
    refine s_21 8 119 rfl rfl ?_
    refine s_7 120 rfl ?_
    refine s_122 121 rfl ?_
    refine s_61L 122 rfl rfl (fun x5 => ?_)
    refine s_42 123 rfl rfl ?_
    refine s_29 124 rfl rfl ?_
    refine s_21 8 126 rfl rfl ?_
    refine s_16 32 128 32 jbp_32 rfl ?_
    refine s_28 129 rfl rfl ?_
    refine s_104 130 rfl ?_
    refine s_100 131 rfl ?_
    refine s_79 132 rfl (fun h6 => ?_)
    refine s_132L 3 5 135 5 ji_5 rfl rfl rfl (fun x7 => ?_)
    exact s_jmp (v_8_setDigits_135 l k12 hk12 _ _ _ _ _ _) ⟨rfl, rfl, rfl, rfl, rfl, trivial⟩
  · refine s_132L 3 1 108 1 ji_1 rfl rfl rfl (fun x8 => ?_)
    refine s_167 0 27 135 rfl rfl ?_
    exact s_jmp (v_8_setDigits_135 l k12 hk12 _ _ _ _ _ _) ⟨rfl, rfl, rfl, rfl, rfl, trivial⟩
theorem v_8_setDigits_52 (l : Launch) (k12 : Nat → Nat → Int32 → Int32 → Int32 → jH → Option (Unit × jH)) (hk12 : ∀ a0 a1 a2 a3 a4 H, JV l mi_8_setDigits jeV 12 [(0, .ref a0), (1, .ref a1), (2, .int a2), (3, .int a3), (4, .int a4)] [] H (k12 a0 a1 a2 a3 a4 H)) (a0 : Nat) (a1 : Nat) (a2 : Int32) (a3 : Int32) (a4 : Int32) (a5 : Int32) (s0 : Int64) (H : jH) : JV l mi_8_setDigits jeV 52 [(0, .ref a0), (1, .ref a1), (2, .int a2), (3, .int a3), (4, .int a4), (5, .int a5)] [.long s0] H (B_8_setDigits_52 k12 a0 a1 a2 a3 a4 a5 s0 H) := by
  unfold B_8_setDigits_52
  refine s_55 6 54 rfl rfl ?_
  refine s_22 6 56 rfl rfl ?_
  refine s_21 5 58 rfl rfl ?_
  refine s_16 7 60 7 jbp_7 rfl ?_
  refine s_162 0 20 80 63 rfl rfl ?_ ?_
  · refine s_9 81 rfl ?_
    exact s_jmp (v_8_setDigits_81 l k12 hk12 _ _ _ _ _ _ _ _) ⟨rfl, rfl, rfl, rfl, rfl, trivial⟩
  · refine s_43 64 rfl rfl ?_
    refine s_21 5 66 rfl rfl ?_
    refine s_4 67 rfl ?_
    refine s_96 68 rfl ?_
    refine s_46 69 rfl ?_
    refine s_133 70 rfl ?_
    refine s_20 0 170 73 170 4294967295 rfl jw_1035 rfl ?_
    refine s_127 74 rfl ?_
    refine s_16 32 76 32 jbp_32 rfl ?_
    refine s_121 77 rfl ?_
    refine s_167 0 4 81 rfl rfl ?_
    exact s_jmp (v_8_setDigits_81 l k12 hk12 _ _ _ _ _ _ _ _) ⟨rfl, rfl, rfl, rfl, rfl, trivial⟩
theorem v_8_setDigits_141 (l : Launch)   (H : jH) : JV l mi_8_setDigits jeV 141 [] [] H (B_8_setDigits_141   H) := by
  unfold B_8_setDigits_141
  exact s_177 rfl rfl
theorem v_8_setDigits_12 (l : Launch) (k12 : Nat → Nat → Int32 → Int32 → Int32 → jH → Option (Unit × jH)) (hk12 : ∀ a0 a1 a2 a3 a4 H, JV l mi_8_setDigits jeV 12 [(0, .ref a0), (1, .ref a1), (2, .int a2), (3, .int a3), (4, .int a4)] [] H (k12 a0 a1 a2 a3 a4 H)) (a0 : Nat) (a1 : Nat) (a2 : Int32) (a3 : Int32) (a4 : Int32) (H : jH) : JV l mi_8_setDigits jeV 12 [(0, .ref a0), (1, .ref a1), (2, .int a2), (3, .int a3), (4, .int a4)] [] H (B_8_setDigits_12 k12 a0 a1 a2 a3 a4 H) := by
  unfold B_8_setDigits_12
  refine s_21 4 14 rfl rfl ?_
  refine s_17 1 1 17 257 jsp_1_1 rfl ?_
  refine s_162 0 124 141 20 rfl rfl ?_ ?_
  · exact s_jmp (v_8_setDigits_141 l _) trivial
  · refine s_29 21 rfl rfl ?_
    refine s_42 22 rfl rfl ?_
    refine s_190 23 100 jm_100 rfl ?_
    refine s_162 0 118 141 26 rfl rfl ?_ ?_
    · exact s_jmp (v_8_setDigits_141 l _) trivial
    · refine s_29 27 rfl rfl ?_
      refine s_16 32 29 32 jbp_32 rfl ?_
      refine s_108 30 rfl ?_
      refine s_54L 5 32 rfl rfl (fun x9 => ?_)
      refine s_21 5 34 rfl rfl ?_
      refine s_16 8 36 8 jbp_8 rfl ?_
      refine s_162 0 15 51 39 rfl rfl ?_ ?_
      · refine s_9 52 rfl ?_
        exact s_jmp (v_8_setDigits_52 l k12 hk12 _ _ _ _ _ _ _ _) ⟨rfl, rfl, rfl, rfl, rfl, rfl, trivial⟩
      · refine s_43 40 rfl rfl ?_
        refine s_21 5 42 rfl rfl ?_
        refine s_46 43 rfl ?_
        refine s_133 44 rfl ?_
        refine s_20 0 170 47 170 4294967295 rfl jw_1035 rfl ?_
        refine s_127 48 rfl ?_
        refine s_167 0 4 52 rfl rfl ?_
        exact s_jmp (v_8_setDigits_52 l k12 hk12 _ _ _ _ _ _ _ _) ⟨rfl, rfl, rfl, rfl, rfl, rfl, trivial⟩
theorem w_8_setDigits_12 (l : Launch)  (n : Nat) : ∀ a0 a1 a2 a3 a4 H, JV l mi_8_setDigits jeV 12 [(0, .ref a0), (1, .ref a1), (2, .int a2), (3, .int a3), (4, .int a4)] [] H (F_8_setDigits_12  n a0 a1 a2 a3 a4 H) := by
  induction n with
  | zero => intro _ _ _ _ _ _; exact s_none
  | succ n ih => intro a0 a1 a2 a3 a4 H; exact v_8_setDigits_12 l (F_8_setDigits_12  n) ih a0 a1 a2 a3 a4 H
theorem v_8_setDigits (l : Launch) (a0 : Nat) (a1 : Nat) (H : jH) : JV l mi_8_setDigits jeV 0 [(0, .ref a0), (1, .ref a1)] [] H (F_8_setDigits a0 a1 H) := by
  unfold F_8_setDigits
  refine s_42 1 rfl rfl ?_
  refine s_3 2 rfl ?_
  refine s_184V 0 172 5 172 (m_A_fill l _ _ _) rfl k_A_fill jw_1023 jw_1024 rfl rfl rfl rfl rfl (fun x10 h11 => ?_)
  refine s_3 6 rfl ?_
  refine s_61 7 rfl rfl ?_
  refine s_3 8 rfl ?_
  refine s_62 9 rfl rfl ?_
  refine s_3 10 rfl ?_
  refine s_54 4 12 rfl rfl ?_
  exact s_jmp (w_8_setDigits_12 l jfuel _ _ _ _ _ _) ⟨rfl, rfl, rfl, rfl, rfl, trivial⟩
theorem m_8_setDigits (l : Launch) (a0 : Nat) (a1 : Nat) (H : jH) : JMet l y_8_setDigits prog_10_method_14_code mi_8_setDigits jeV [.ref a0, .ref a1] H (F_8_setDigits a0 a1 H) := jmet_of n_8_setDigits (by decide) ⟨rfl, rfl⟩ (Nat.le_of_ble_eq_true rfl) (v_8_setDigits l a0 a1 H)
def mi_8_holds : jM := (484248985673009261961049682714307486058517866561228379713346408204511714890127981606031184132219031172400298752511835721742765526306780073716991390314936209704616128729014542978052473337273737638766119969172283742296928256496806204522817494152716857718182218841030289317872609816400213596140041196844707918200299996641042304834225861103026701742587431616098316739468761836178299285310462808341396996658341856277482977323918925205740158358668635129061983092815256785478678218789686123805628703784353119289385576829434779641529074641990812502320096727542064252477893682988300233111101409811405141758606928476233318556017689580739016587516179353230803107728897066, 274, 8, "CoinNode$Signature", some FieldType.boolean, "holds", 3, 115)
def y_8_holds : MethodName := ⟨"CoinNode$Signature", "holds", "([BZ)Z"⟩
theorem n_8_holds : jn_is prog_10_method_6_code mi_8_holds.1 mi_8_holds.2.1 := by unfold jn_is; decide +kernel
theorem k_8_holds : jmok y_8_holds prog_10_method_6_code mi_8_holds 2 := ⟨jw_1134, jw_4, ⟨by decide, by decide⟩, by decide +kernel⟩
theorem v_8_holds_239 (l : Launch) (k129 : Nat → Int32 → Int32 → jH → Option (Int32 × jH)) (hk129 : ∀ a0 a3 a4 H, JV l mi_8_holds jeI 129 [(0, .ref a0), (3, .int a3), (4, .int a4)] [] H (k129 a0 a3 a4 H)) (a0 : Nat) (a3 : Int32) (a4 : Int32) (H : jH) : JV l mi_8_holds jeI 239 [(0, .ref a0), (3, .int a3), (4, .int a4)] [] H (B_8_holds_239 k129 a0 a3 a4 H) := by
  unfold B_8_holds_239
  refine s_132L 4 1 242 1 ji_1 rfl rfl rfl (fun x1 => ?_)
  refine s_167 255 143 129 rfl rfl ?_
  exact s_jmp (hk129 _ _ _ _) ⟨rfl, rfl, rfl, trivial⟩
theorem v_8_holds_218 (l : Launch) (k129 : Nat → Int32 → Int32 → jH → Option (Int32 × jH)) (hk129 : ∀ a0 a3 a4 H, JV l mi_8_holds jeI 129 [(0, .ref a0), (3, .int a3), (4, .int a4)] [] H (k129 a0 a3 a4 H)) (a0 : Nat) (a3 : Int32) (a4 : Int32) (s0 : Nat) (s1 : Nat) (s2 : Int32) (H : jH) : JV l mi_8_holds jeI 218 [(0, .ref a0), (3, .int a3), (4, .int a4)] [.int s2, .ref s1, .ref s0] H (B_8_holds_218 k129 a0 a3 a4 s0 s1 s2 H) := by
  unfold B_8_holds_218
  refine s_42 219 rfl rfl ?_
  refine s_180R 0 40 222 40 f_8_9 jw_107 rfl rfl ?_
  refine s_182I 0 130 225 130 (m_5_add l _ _ _ _ _) rfl k_5_add jc_5 jw_1102 jw_1103 jw_1104 rfl rfl rfl rfl rfl (fun x2 h3 => ?_)
  refine s_154 0 14 239 228 rfl rfl ?_ ?_
  · exact s_jmp (v_8_holds_239 l k129 hk129 _ _ _ _) ⟨rfl, rfl, rfl, trivial⟩
  · refine s_42 229 rfl rfl ?_
    refine s_180R 0 63 232 63 f_8_15 jw_113 rfl rfl ?_
    refine s_42 233 rfl rfl ?_
    refine s_180R 0 40 236 40 f_8_9 jw_107 rfl rfl ?_
    refine s_182V 0 127 239 127 (m_5_twice l _ _ _) rfl k_5_twice jc_5 jw_1089 jw_1090 jw_1091 rfl rfl rfl rfl rfl (fun x4 h5 => ?_)
    exact s_jmp (v_8_holds_239 l k129 hk129 _ _ _ _) ⟨rfl, rfl, rfl, trivial⟩
theorem v_8_holds_200 (l : Launch) (k129 : Nat → Int32 → Int32 → jH → Option (Int32 × jH)) (hk129 : ∀ a0 a3 a4 H, JV l mi_8_holds jeI 129 [(0, .ref a0), (3, .int a3), (4, .int a4)] [] H (k129 a0 a3 a4 H)) (a0 : Nat) (a3 : Int32) (a4 : Int32) (a5 : Int32) (s0 : Nat) (H : jH) : JV l mi_8_holds jeI 200 [(0, .ref a0), (3, .int a3), (4, .int a4), (5, .int a5)] [.ref s0] H (B_8_holds_200 k129 a0 a3 a4 a5 s0 H) := by
  unfold B_8_holds_200
  refine s_58 7 202 rfl rfl ?_
  refine s_42 203 rfl rfl ?_
  refine s_180R 0 63 206 63 f_8_15 jw_113 rfl rfl ?_
  refine s_25 7 208 rfl rfl ?_
  refine s_21 5 210 rfl rfl ?_
  refine s_156 0 7 217 213 rfl rfl ?_ ?_
  · refine s_3 218 rfl ?_
    exact s_jmp (v_8_holds_218 l k129 hk129 _ _ _ _ _ _ _) ⟨rfl, rfl, rfl, trivial⟩
  · refine s_4 214 rfl ?_
    refine s_167 0 4 218 rfl rfl ?_
    exact s_jmp (v_8_holds_218 l k129 hk129 _ _ _ _ _ _ _) ⟨rfl, rfl, rfl, trivial⟩
theorem v_8_holds_155 (l : Launch) (k129 : Nat → Int32 → Int32 → jH → Option (Int32 × jH)) (hk129 : ∀ a0 a3 a4 H, JV l mi_8_holds jeI 129 [(0, .ref a0), (3, .int a3), (4, .int a4)] [] H (k129 a0 a3 a4 H)) (a0 : Nat) (a3 : Int32) (a4 : Int32) (s0 : Int32) (H : jH) : JV l mi_8_holds jeI 155 [(0, .ref a0), (3, .int a3), (4, .int a4)] [.int s0] H (B_8_holds_155 k129 a0 a3 a4 s0 H) := by
  unfold B_8_holds_155
  refine s_54 5 157 rfl rfl ?_
  refine s_21 5 159 rfl rfl ?_
  refine s_absI 0 158 162 158 jw_1149 jw_1150 jw_15 jw_1151 rfl rfl rfl ?_
  refine s_5 163 rfl ?_
  refine s_108 164 rfl ?_
  refine s_54L 6 166 rfl rfl (fun x6 => ?_)
  refine s_21 5 168 rfl rfl ?_
  refine s_153 0 71 239 171 rfl rfl ?_ ?_
  · exact s_jmp (v_8_holds_239 l k129 hk129 _ _ _ _) ⟨rfl, rfl, rfl, trivial⟩
  · refine s_21 6 173 rfl rfl ?_
    refine s_16 8 175 8 jbp_8 rfl ?_
    refine s_162 0 64 239 178 rfl rfl ?_ ?_
    · exact s_jmp (v_8_holds_239 l k129 hk129 _ _ _ _) ⟨rfl, rfl, rfl, trivial⟩
    · refine s_21 4 180 rfl rfl ?_
      refine s_154 0 13 193 183 rfl rfl ?_ ?_
      · refine s_42 194 rfl rfl ?_
        refine s_180R 0 55 197 55 f_8_13 jw_111 rfl rfl ?_
        refine s_21 6 199 rfl rfl ?_
        refine s_50 200 115 jt_115 rfl ?_
        exact s_jmp (v_8_holds_200 l k129 hk129 _ _ _ _ _ _) ⟨rfl, rfl, rfl, rfl, trivial⟩
      · refine s_42 184 rfl rfl ?_
        refine s_180R 0 51 187 51 f_8_12 jw_110 rfl rfl ?_
        refine s_21 6 189 rfl rfl ?_
        refine s_50 190 115 jt_115 rfl ?_
        refine s_167 0 10 200 rfl rfl ?_
        exact s_jmp (v_8_holds_200 l k129 hk129 _ _ _ _ _ _) ⟨rfl, rfl, rfl, rfl, trivial⟩
theorem v_8_holds_129 (l : Launch) (k111 : Nat → Int32 → jH → Option (Int32 × jH)) (hk111 : ∀ a0 a3 H, JV l mi_8_holds jeI 111 [(0, .ref a0), (3, .int a3)] [] H (k111 a0 a3 H)) (k129 : Nat → Int32 → Int32 → jH → Option (Int32 × jH)) (hk129 : ∀ a0 a3 a4 H, JV l mi_8_holds jeI 129 [(0, .ref a0), (3, .int a3), (4, .int a4)] [] H (k129 a0 a3 a4 H)) (a0 : Nat) (a3 : Int32) (a4 : Int32) (H : jH) : JV l mi_8_holds jeI 129 [(0, .ref a0), (3, .int a3), (4, .int a4)] [] H (B_8_holds_129 k111 k129 a0 a3 a4 H) := by
  unfold B_8_holds_129
  refine s_21 4 131 rfl rfl ?_
  refine s_5 132 rfl ?_
  refine s_162 0 113 245 135 rfl rfl ?_ ?_
  · refine s_132L 3 255 248 (-1) ji_255 rfl rfl rfl (fun x7 => ?_)
    refine s_167 255 119 111 rfl rfl ?_
    exact s_jmp (hk111 _ _ _) ⟨rfl, rfl, trivial⟩
  · refine s_21 4 137 rfl rfl ?_
    refine s_154 0 12 149 140 rfl rfl ?_ ?_
    · refine s_42 150 rfl rfl ?_
      refine s_180R 0 46 153 46 f_8_11 jw_109 rfl rfl ?_
      refine s_29 154 rfl rfl ?_
      refine s_46 155 rfl ?_
      exact s_jmp (v_8_holds_155 l k129 hk129 _ _ _ _ _) ⟨rfl, rfl, rfl, trivial⟩
    · refine s_42 141 rfl rfl ?_
      refine s_180R 0 43 144 43 f_8_10 jw_108 rfl rfl ?_
      refine s_29 145 rfl rfl ?_
      refine s_46 146 rfl ?_
      refine s_167 0 9 155 rfl rfl ?_
      exact s_jmp (v_8_holds_155 l k129 hk129 _ _ _ _ _) ⟨rfl, rfl, rfl, trivial⟩
theorem w_8_holds_129 (l : Launch) (k111 : Nat → Int32 → jH → Option (Int32 × jH)) (hk111 : ∀ a0 a3 H, JV l mi_8_holds jeI 111 [(0, .ref a0), (3, .int a3)] [] H (k111 a0 a3 H)) (n : Nat) : ∀ a0 a3 a4 H, JV l mi_8_holds jeI 129 [(0, .ref a0), (3, .int a3), (4, .int a4)] [] H (F_8_holds_129 k111 n a0 a3 a4 H) := by
  induction n with
  | zero => intro _ _ _ _; exact s_none
  | succ n ih => intro a0 a3 a4 H; exact v_8_holds_129 l k111 hk111 (F_8_holds_129 k111 n) ih a0 a3 a4 H
theorem v_8_holds_273 (l : Launch)  (s0 : Int32) (H : jH) : JV l mi_8_holds jeI 273 [] [.int s0] H (B_8_holds_273  s0 H) := by
  unfold B_8_holds_273
  exact s_172Z rfl rfl
theorem v_8_holds_272 (l : Launch)   (H : jH) : JV l mi_8_holds jeI 272 [] [] H (B_8_holds_272   H) := by
  unfold B_8_holds_272
  refine s_3 273 rfl ?_
  exact s_jmp (v_8_holds_273 l _ _) trivial
theorem v_8_holds_111 (l : Launch) (k111 : Nat → Int32 → jH → Option (Int32 × jH)) (hk111 : ∀ a0 a3 H, JV l mi_8_holds jeI 111 [(0, .ref a0), (3, .int a3)] [] H (k111 a0 a3 H)) (a0 : Nat) (a3 : Int32) (H : jH) : JV l mi_8_holds jeI 111 [(0, .ref a0), (3, .int a3)] [] H (B_8_holds_111 k111 a0 a3 H) := by
  unfold B_8_holds_111
  refine s_29 112 rfl rfl ?_
  refine s_155 0 139 251 115 rfl rfl ?_ ?_
  · refine s_42 252 rfl rfl ?_
    refine s_180R 0 63 255 63 f_8_15 jw_113 rfl rfl ?_
    refine s_180I 0 155 258 155 f_5_3 jw_86 rfl rfl ?_
    refine s_154 0 14 272 261 rfl rfl ?_ ?_
    · exact s_jmp (v_8_holds_272 l _) trivial
    · refine s_42 262 rfl rfl ?_
      refine s_182I 0 164 265 164 (m_8_isAtX l _ _) rfl k_8_isAtX jc_8 jw_1152 jw_1154 jps_28 rfl rfl rfl rfl rfl (fun x8 h9 => ?_)
      refine s_153 0 7 272 268 rfl rfl ?_ ?_
      · exact s_jmp (v_8_holds_272 l _) trivial
      · refine s_4 269 rfl ?_
        refine s_167 0 4 273 rfl rfl ?_
        exact s_jmp (v_8_holds_273 l _ _) trivial
  · refine s_42 116 rfl rfl ?_
    refine s_180R 0 63 119 63 f_8_15 jw_113 rfl rfl ?_
    refine s_42 120 rfl rfl ?_
    refine s_180R 0 40 123 40 f_8_9 jw_107 rfl rfl ?_
    refine s_182V 0 127 126 127 (m_5_twice l _ _ _) rfl k_5_twice jc_5 jw_1089 jw_1090 jw_1091 rfl rfl rfl rfl rfl (fun x10 h11 => ?_)
    refine s_3 127 rfl ?_
    refine s_54 4 129 rfl rfl ?_
    exact s_jmp (w_8_holds_129 l k111 hk111 jfuel _ _ _ _) ⟨rfl, rfl, rfl, trivial⟩
theorem w_8_holds_111 (l : Launch)  (n : Nat) : ∀ a0 a3 H, JV l mi_8_holds jeI 111 [(0, .ref a0), (3, .int a3)] [] H (F_8_holds_111  n a0 a3 H) := by
  induction n with
  | zero => intro _ _ _; exact s_none
  | succ n ih => intro a0 a3 H; exact v_8_holds_111 l (F_8_holds_111  n) ih a0 a3 H
theorem v_8_holds_35 (l : Launch)  (a0 : Nat) (s0 : Nat) (s1 : Int32) (s2 : Int32) (s3 : Int32) (H : jH) : JV l mi_8_holds jeI 35 [(0, .ref a0)] [.int s3, .int s2, .int s1, .ref s0] H (B_8_holds_35  a0 s0 s1 s2 s3 H) := by
  unfold B_8_holds_35
  refine s_128 36 rfl ?_
  refine s_79 37 rfl (fun h12 => ?_)
  refine s_42 38 rfl rfl ?_
  refine s_42 39 rfl rfl ?_
  refine s_180R 0 15 42 15 f_8_2 jw_100 rfl rfl ?_
  refine s_182V 0 144 45 144 (m_8_invert l _ _ _) rfl k_8_invert jc_8 jw_1135 jw_1137 jps_26 rfl rfl rfl rfl rfl (fun x13 h14 => ?_)
  refine s_42 46 rfl rfl ?_
  refine s_42 47 rfl rfl ?_
  refine s_180R 0 18 50 18 f_8_3 jw_101 rfl rfl ?_
  refine s_42 51 rfl rfl ?_
  refine s_180R 0 24 54 24 f_8_5 jw_103 rfl rfl ?_
  refine s_42 55 rfl rfl ?_
  refine s_180R 0 15 58 15 f_8_2 jw_100 rfl rfl ?_
  refine s_182V 0 148 61 148 (m_8_multiply l _ _ _ _ _) rfl k_8_multiply jc_8 jw_1139 jw_1141 jps_27 rfl rfl rfl rfl rfl (fun x15 h16 => ?_)
  refine s_42 62 rfl rfl ?_
  refine s_42 63 rfl rfl ?_
  refine s_180R 0 21 66 21 f_8_4 jw_102 rfl rfl ?_
  refine s_42 67 rfl rfl ?_
  refine s_180R 0 9 70 9 f_8_1 jw_99 rfl rfl ?_
  refine s_42 71 rfl rfl ?_
  refine s_180R 0 15 74 15 f_8_2 jw_100 rfl rfl ?_
  refine s_182V 0 148 77 148 (m_8_multiply l _ _ _ _ _) rfl k_8_multiply jc_8 jw_1139 jw_1141 jps_27 rfl rfl rfl rfl rfl (fun x17 h18 => ?_)
  refine s_42 78 rfl rfl ?_
  refine s_180R 0 43 81 43 f_8_10 jw_108 rfl rfl ?_
  refine s_42 82 rfl rfl ?_
  refine s_180R 0 18 85 18 f_8_3 jw_101 rfl rfl ?_
  refine s_184V 0 151 88 151 (m_8_setDigits l _ _ _) rfl k_8_setDigits jw_1146 jw_1147 rfl rfl rfl rfl rfl (fun x19 h20 => ?_)
  refine s_42 89 rfl rfl ?_
  refine s_180R 0 46 92 46 f_8_11 jw_109 rfl rfl ?_
  refine s_42 93 rfl rfl ?_
  refine s_180R 0 21 96 21 f_8_4 jw_102 rfl rfl ?_
  refine s_184V 0 151 99 151 (m_8_setDigits l _ _ _) rfl k_8_setDigits jw_1146 jw_1147 rfl rfl rfl rfl rfl (fun x21 h22 => ?_)
  refine s_42 100 rfl rfl ?_
  refine s_180R 0 63 103 63 f_8_15 jw_113 rfl rfl ?_
  refine s_4 104 rfl ?_
  refine s_181Z 0 155 107 155 f_5_3 rfl rfl jw_86 rfl rfl (fun h23 => ?_)
  refine s_17 1 0 110 256 jsp_1_0 rfl ?_
  refine s_62 111 rfl rfl ?_
  exact s_jmp (w_8_holds_111 l jfuel _ _ _) ⟨rfl, rfl, trivial⟩
theorem v_8_holds_16 (l : Launch)  (a0 : Nat) (a2 : Int32) (s0 : Nat) (s1 : Nat) (s2 : Int32) (s3 : Int32) (H : jH) : JV l mi_8_holds jeI 16 [(0, .ref a0), (2, .int a2)] [.int s3, .int s2, .ref s1, .ref s0] H (B_8_holds_16  a0 a2 s0 s1 s2 s3 H) := by
  unfold B_8_holds_16
  refine s_184V 0 74 19 74 (m_8_set l _ _ _ _ _) rfl k_8_set jw_1020 jw_1021 rfl rfl rfl rfl rfl (fun x24 h25 => ?_)
  refine s_42 20 rfl rfl ?_
  refine s_180R 0 24 23 24 f_8_5 jw_103 rfl rfl ?_
  refine s_3 24 rfl ?_
  refine s_92 25 rfl rfl rfl ?_
  refine s_46 26 rfl ?_
  refine s_28 27 rfl rfl ?_
  refine s_153 0 7 34 30 rfl rfl ?_ ?_
  · refine s_3 35 rfl ?_
    exact s_jmp (v_8_holds_35 l _ _ _ _ _ _) ⟨rfl, trivial⟩
  · refine s_4 31 rfl ?_
    refine s_167 0 4 35 rfl rfl ?_
    exact s_jmp (v_8_holds_35 l _ _ _ _ _ _) ⟨rfl, trivial⟩
theorem v_8_holds (l : Launch) (a0 : Nat) (a1 : Nat) (a2 : Int32) (H : jH) : JV l mi_8_holds jeI 0 [(0, .ref a0), (1, .ref a1), (2, .int a2)] [] H (F_8_holds a0 a1 a2 H) := by
  unfold F_8_holds
  refine s_42 1 rfl rfl ?_
  refine s_180R 0 24 4 24 f_8_5 jw_103 rfl rfl ?_
  refine s_43 5 rfl rfl ?_
  refine s_3 6 rfl ?_
  refine s_28 7 rfl rfl ?_
  refine s_153 0 7 14 10 rfl rfl ?_ ?_
  · refine s_16 32 16 32 jbp_32 rfl ?_
    exact s_jmp (v_8_holds_16 l _ _ _ _ _ _ _) ⟨rfl, rfl, trivial⟩
  · refine s_3 11 rfl ?_
    refine s_167 0 5 16 rfl rfl ?_
    exact s_jmp (v_8_holds_16 l _ _ _ _ _ _ _) ⟨rfl, rfl, trivial⟩
theorem m_8_holds (l : Launch) (a0 : Nat) (a1 : Nat) (a2 : Int32) (H : jH) : JMet l y_8_holds prog_10_method_6_code mi_8_holds jeI [.ref a0, .ref a1, .int a2] H (F_8_holds a0 a1 a2 H) := jmet_of n_8_holds (by decide) ⟨rfl, rfl⟩ (Nat.le_of_ble_eq_true rfl) (v_8_holds l a0 a1 a2 H)
def mi_A_fill_2 : jM := (17044522651025561517978723155143184090410705670996901379, 23, 5, "java/util/Arrays", none, "fill", 0, 0)
def y_A_fill_2 : MethodName := ⟨"java/util/Arrays", "fill", "([JJ)V"⟩
theorem n_A_fill_2 : jn_is prog_25_method_101_code mi_A_fill_2.1 mi_A_fill_2.2.1 := by unfold jn_is; decide +kernel
theorem k_A_fill_2 : jmok y_A_fill_2 prog_25_method_101_code mi_A_fill_2 2 := ⟨jw_1084, jw_14, ⟨by decide, by decide⟩, by decide +kernel⟩
theorem v_A_fill_2_6 (l : Launch) (k6 : Nat → Int64 → Int32 → Int32 → jH → Option (Unit × jH)) (hk6 : ∀ a0 a1 a3 a4 H, JV l mi_A_fill_2 jeV 6 [(0, .ref a0), (1, .long a1), (3, .int a3), (4, .int a4)] [] H (k6 a0 a1 a3 a4 H)) (a0 : Nat) (a1 : Int64) (a3 : Int32) (a4 : Int32) (H : jH) : JV l mi_A_fill_2 jeV 6 [(0, .ref a0), (1, .long a1), (3, .int a3), (4, .int a4)] [] H (B_A_fill_2_6 k6 a0 a1 a3 a4 H) := by
  unfold B_A_fill_2_6
  refine s_29 7 rfl rfl ?_
  refine s_21 4 9 rfl rfl ?_
  refine s_162 0 13 22 12 rfl rfl ?_ ?_
  · exact s_177 rfl rfl
  · refine s_42 13 rfl rfl ?_
    refine s_29 14 rfl rfl ?_
    refine s_31 15 rfl rfl ?_
    refine s_80 16 rfl (fun h1 => ?_)
    refine s_132L 3 1 19 1 ji_1 rfl rfl rfl (fun x2 => ?_)
    refine s_167 255 243 6 rfl rfl ?_
    exact s_jmp (hk6 _ _ _ _ _) ⟨rfl, rfl, rfl, rfl, trivial⟩
theorem w_A_fill_2_6 (l : Launch)  (n : Nat) : ∀ a0 a1 a3 a4 H, JV l mi_A_fill_2 jeV 6 [(0, .ref a0), (1, .long a1), (3, .int a3), (4, .int a4)] [] H (F_A_fill_2_6  n a0 a1 a3 a4 H) := by
  induction n with
  | zero => intro _ _ _ _ _; exact s_none
  | succ n ih => intro a0 a1 a3 a4 H; exact v_A_fill_2_6 l (F_A_fill_2_6  n) ih a0 a1 a3 a4 H
theorem v_A_fill_2 (l : Launch) (a0 : Nat) (a1 : Int64) (H : jH) : JV l mi_A_fill_2 jeV 0 [(0, .ref a0), (1, .long a1)] [] H (F_A_fill_2 a0 a1 H) := by
  unfold F_A_fill_2
  refine s_3 1 rfl ?_
  refine s_62 2 rfl rfl ?_
  refine s_42 3 rfl rfl ?_
  refine s_190 4 103 jm_103 rfl ?_
  refine s_54L 4 6 rfl rfl (fun x3 => ?_)
  exact s_jmp (w_A_fill_2_6 l jfuel _ _ _ _ _) ⟨rfl, rfl, rfl, rfl, trivial⟩
theorem m_A_fill_2 (l : Launch) (a0 : Nat) (a1 : Int64) (H : jH) : JMet l y_A_fill_2 prog_25_method_101_code mi_A_fill_2 jeV [.ref a0, .long a1] H (F_A_fill_2 a0 a1 H) := jmet_of n_A_fill_2 (by decide) ⟨rfl, rfl⟩ (Nat.le_of_ble_eq_true rfl) (v_A_fill_2 l a0 a1 H)
def mi_5_unit : jM := (258794276400616313385018485941667458694407027471402, 21, 1, "CoinNode$Point", none, "unit", 1, 24)
def y_5_unit : MethodName := ⟨"CoinNode$Point", "unit", "()V"⟩
theorem n_5_unit : jn_is prog_7_method_2_code mi_5_unit.1 mi_5_unit.2.1 := by unfold jn_is; decide +kernel
theorem k_5_unit : jmok y_5_unit prog_7_method_2_code mi_5_unit 0 := ⟨jw_1081, jw_5, ⟨by decide, by decide⟩, by decide +kernel⟩
theorem v_5_unit (l : Launch) (a0 : Nat) (H : jH) : JV l mi_5_unit jeV 0 [(0, .ref a0)] [] H (F_5_unit a0 H) := by
  unfold F_5_unit
  refine s_42 1 rfl rfl ?_
  refine s_180R 0 16 4 16 f_5_2 jw_83 rfl rfl ?_
  refine s_9 5 rfl ?_
  refine s_184V 0 23 8 23 (m_A_fill_2 l _ _ _) rfl k_A_fill_2 jw_1082 jw_1083 rfl rfl rfl rfl rfl (fun x1 h2 => ?_)
  refine s_42 9 rfl rfl ?_
  refine s_180R 0 16 12 16 f_5_2 jw_83 rfl rfl ?_
  refine s_3 13 rfl ?_
  refine s_10 14 rfl ?_
  refine s_80 15 rfl (fun h3 => ?_)
  refine s_42 16 rfl rfl ?_
  refine s_3 17 rfl ?_
  refine s_181Z 0 19 20 19 f_5_3 rfl rfl jw_85 rfl rfl (fun h4 => ?_)
  exact s_177 rfl rfl
theorem m_5_unit (l : Launch) (a0 : Nat) (H : jH) : JMet l y_5_unit prog_7_method_2_code mi_5_unit jeV [.ref a0] H (F_5_unit a0 H) := jmet_of n_5_unit (by decide) ⟨rfl, rfl⟩ (Nat.le_of_ble_eq_true rfl) (v_5_unit l a0 H)
def mi_8_setBase : jM := (31913268426695944868393615549940904663686475166990548538020631466212775942028044625686306119247284833378737547142188526007914746124050569521862854116552646091428382315759121224957797115632301110565734582948575221580881901928101268617647956069910659351657269036266936482513922822702693298432886045747206651163690, 129, 2, "CoinNode$Signature", none, "setBase", 2, 115)
def y_8_setBase : MethodName := ⟨"CoinNode$Signature", "setBase", "()V"⟩
theorem n_8_setBase : jn_is prog_10_method_5_code mi_8_setBase.1 mi_8_setBase.2.1 := by unfold jn_is; decide +kernel
theorem k_8_setBase : jmok y_8_setBase prog_10_method_5_code mi_8_setBase 0 := ⟨jw_1126, jw_4, ⟨by decide, by decide⟩, by decide +kernel⟩
theorem v_8_setBase_74 (l : Launch) (k74 : Nat → Int32 → jH → Option (Unit × jH)) (hk74 : ∀ a0 a1 H, JV l mi_8_setBase jeV 74 [(0, .ref a0), (1, .int a1)] [] H (k74 a0 a1 H)) (a0 : Nat) (a1 : Int32) (H : jH) : JV l mi_8_setBase jeV 74 [(0, .ref a0), (1, .int a1)] [] H (B_8_setBase_74 k74 a0 a1 H) := by
  unfold B_8_setBase_74
  refine s_27 75 rfl rfl ?_
  refine s_16 8 77 8 jbp_8 rfl ?_
  refine s_162 0 46 123 80 rfl rfl ?_ ?_
  · refine s_42 124 rfl rfl ?_
    refine s_4 125 rfl ?_
    refine s_181Z 0 134 128 134 f_8_16 rfl rfl jw_114 rfl rfl (fun h1 => ?_)
    exact s_177 rfl rfl
  · refine s_42 81 rfl rfl ?_
    refine s_180R 0 51 84 51 f_8_12 jw_110 rfl rfl ?_
    refine s_27 85 rfl rfl ?_
    refine s_50 86 115 jt_115 rfl ?_
    refine s_42 87 rfl rfl ?_
    refine s_180R 0 51 90 51 f_8_12 jw_110 rfl rfl ?_
    refine s_27 91 rfl rfl ?_
    refine s_4 92 rfl ?_
    refine s_100 93 rfl ?_
    refine s_50 94 115 jt_115 rfl ?_
    refine s_3 95 rfl ?_
    refine s_182V 0 124 98 124 (m_5_set l _ _ _ _) rfl k_5_set jc_5 jw_1085 jw_1086 jw_1087 rfl rfl rfl rfl rfl (fun x2 h3 => ?_)
    refine s_42 99 rfl rfl ?_
    refine s_180R 0 51 102 51 f_8_12 jw_110 rfl rfl ?_
    refine s_27 103 rfl rfl ?_
    refine s_50 104 115 jt_115 rfl ?_
    refine s_42 105 rfl rfl ?_
    refine s_180R 0 59 108 59 f_8_14 jw_112 rfl rfl ?_
    refine s_3 109 rfl ?_
    refine s_42 110 rfl rfl ?_
    refine s_180R 0 40 113 40 f_8_9 jw_107 rfl rfl ?_
    refine s_182I 0 130 116 130 (m_5_add l _ _ _ _ _) rfl k_5_add jc_5 jw_1102 jw_1103 jw_1104 rfl rfl rfl rfl rfl (fun x4 h5 => ?_)
    refine s_87 117 rfl rfl ?_
    refine s_132L 1 1 120 1 ji_1 rfl rfl rfl (fun x6 => ?_)
    refine s_167 255 210 74 rfl rfl ?_
    exact s_jmp (hk74 _ _ _) ⟨rfl, rfl, trivial⟩
theorem w_8_setBase_74 (l : Launch)  (n : Nat) : ∀ a0 a1 H, JV l mi_8_setBase jeV 74 [(0, .ref a0), (1, .int a1)] [] H (F_8_setBase_74  n a0 a1 H) := by
  induction n with
  | zero => intro _ _ _; exact s_none
  | succ n ih => intro a0 a1 H; exact v_8_setBase_74 l (F_8_setBase_74  n) ih a0 a1 H
theorem v_8_setBase (l : Launch) (a0 : Nat) (H : jH) : JV l mi_8_setBase jeV 0 [(0, .ref a0)] [] H (F_8_setBase a0 H) := by
  unfold F_8_setBase
  refine s_42 1 rfl rfl ?_
  refine s_180I 0 134 4 134 f_8_16 jw_114 rfl rfl ?_
  refine s_153 0 4 8 7 rfl rfl ?_ ?_
  · refine s_178 0 138 11 138 10 "CoinNode$Signature" "BASE_X" jst_10 ⟨by decide, by decide⟩ jw_1127 rfl rfl ?_
    refine s_42 12 rfl rfl ?_
    refine s_180R 0 51 15 51 f_8_12 jw_110 rfl rfl ?_
    refine s_3 16 rfl ?_
    refine s_50 17 115 jt_115 rfl ?_
    refine s_180R 0 89 20 89 f_5_0 jw_80 rfl rfl ?_
    refine s_184V 0 92 23 92 (m_8_spread l _ _ _) rfl k_8_spread jw_1048 jw_1049 rfl rfl rfl rfl rfl (fun x7 h8 => ?_)
    refine s_178 0 141 26 141 11 "CoinNode$Signature" "BASE_Y" jst_11 ⟨by decide, by decide⟩ jw_1129 rfl rfl ?_
    refine s_42 27 rfl rfl ?_
    refine s_180R 0 51 30 51 f_8_12 jw_110 rfl rfl ?_
    refine s_3 31 rfl ?_
    refine s_50 32 115 jt_115 rfl ?_
    refine s_180R 0 105 35 105 f_5_1 jw_82 rfl rfl ?_
    refine s_184V 0 92 38 92 (m_8_spread l _ _ _) rfl k_8_spread jw_1048 jw_1049 rfl rfl rfl rfl rfl (fun x9 h10 => ?_)
    refine s_42 39 rfl rfl ?_
    refine s_180R 0 51 42 51 f_8_12 jw_110 rfl rfl ?_
    refine s_3 43 rfl ?_
    refine s_50 44 115 jt_115 rfl ?_
    refine s_182V 0 121 47 121 (m_5_unit l _ _) rfl k_5_unit jc_5 jw_1078 jw_1079 jw_1080 rfl rfl rfl rfl rfl (fun x11 h12 => ?_)
    refine s_42 48 rfl rfl ?_
    refine s_180R 0 59 51 59 f_8_14 jw_112 rfl rfl ?_
    refine s_42 52 rfl rfl ?_
    refine s_180R 0 51 55 51 f_8_12 jw_110 rfl rfl ?_
    refine s_3 56 rfl ?_
    refine s_50 57 115 jt_115 rfl ?_
    refine s_3 58 rfl ?_
    refine s_182V 0 124 61 124 (m_5_set l _ _ _ _) rfl k_5_set jc_5 jw_1085 jw_1086 jw_1087 rfl rfl rfl rfl rfl (fun x13 h14 => ?_)
    refine s_42 62 rfl rfl ?_
    refine s_180R 0 59 65 59 f_8_14 jw_112 rfl rfl ?_
    refine s_42 66 rfl rfl ?_
    refine s_180R 0 40 69 40 f_8_9 jw_107 rfl rfl ?_
    refine s_182V 0 127 72 127 (m_5_twice l _ _ _) rfl k_5_twice jc_5 jw_1089 jw_1090 jw_1091 rfl rfl rfl rfl rfl (fun x15 h16 => ?_)
    refine s_4 73 rfl ?_
    refine s_60 74 rfl rfl ?_
    exact s_jmp (w_8_setBase_74 l jfuel _ _ _) ⟨rfl, rfl, trivial⟩
  · exact s_177 rfl rfl
theorem m_8_setBase (l : Launch) (a0 : Nat) (H : jH) : JMet l y_8_setBase prog_10_method_5_code mi_8_setBase jeV [.ref a0] H (F_8_setBase a0 H) := jmet_of n_8_setBase (by decide) ⟨rfl, rfl⟩ (Nat.le_of_ble_eq_true rfl) (v_8_setBase l a0 H)
def mi_5_root : jM := (485832747695114572678380875757172756312819596295075076445262199674915565010148237155520937139138069338670507005089922783613895422424328878120954336431760830191501057079299689004591993959818851578431335682723834262503670588844001778947962532602430634907197418200887102621315052032873409156913252559890726444, 127, 6, "CoinNode$Point", none, "root", 1, 86)
def y_5_root : MethodName := ⟨"CoinNode$Point", "root", "([J[J[[J)V"⟩
theorem n_5_root : jn_is prog_7_method_6_code mi_5_root.1 mi_5_root.2.1 := by unfold jn_is; decide +kernel
theorem k_5_root : jmok y_5_root prog_7_method_6_code mi_5_root 3 := ⟨jw_1063, jw_5, ⟨by decide, by decide⟩, by decide +kernel⟩
theorem v_5_root_59 (l : Launch) (k20 : Nat → Nat → Nat → Int32 → jH → Option (Unit × jH)) (hk20 : ∀ a0 a1 a2 a3 H, JV l mi_5_root jeV 20 [(0, .ref a0), (1, .ref a1), (2, .ref a2), (3, .int a3)] [] H (k20 a0 a1 a2 a3 H)) (k59 : Nat → Nat → Nat → Int32 → Nat → Int32 → jH → Option (Unit × jH)) (hk59 : ∀ a0 a1 a2 a3 a4 a5 H, JV l mi_5_root jeV 59 [(0, .ref a0), (1, .ref a1), (2, .ref a2), (3, .int a3), (4, .ref a4), (5, .int a5)] [] H (k59 a0 a1 a2 a3 a4 a5 H)) (a0 : Nat) (a1 : Nat) (a2 : Nat) (a3 : Int32) (a4 : Nat) (a5 : Int32) (H : jH) : JV l mi_5_root jeV 59 [(0, .ref a0), (1, .ref a1), (2, .ref a2), (3, .int a3), (4, .ref a4), (5, .int a5)] [] H (B_5_root_59 k20 k59 a0 a1 a2 a3 a4 a5 H) := by
  unfold B_5_root_59
  refine s_21 5 61 rfl rfl ?_
  refine s_178 0 63 64 63 12 "CoinNode$Point" "ROOT" jst_12 ⟨by decide, by decide⟩ jw_1067 rfl rfl ?_
  refine s_29 65 rfl rfl ?_
  refine s_4 66 rfl ?_
  refine s_96 67 rfl ?_
  refine s_46 68 rfl ?_
  refine s_162 0 18 86 71 rfl rfl ?_ ?_
  · refine s_25 4 88 rfl rfl ?_
    refine s_25 4 90 rfl rfl ?_
    refine s_44 91 rfl rfl ?_
    refine s_178 0 63 94 63 12 "CoinNode$Point" "ROOT" jst_12 ⟨by decide, by decide⟩ jw_1067 rfl rfl ?_
    refine s_29 95 rfl rfl ?_
    refine s_5 96 rfl ?_
    refine s_96 97 rfl ?_
    refine s_46 98 rfl ?_
    refine s_50 99 112 jt_112 rfl ?_
    refine s_184V 0 29 102 29 (m_5_multiply l _ _ _ _) rfl k_5_multiply jw_1069 jw_1055 rfl rfl rfl rfl rfl (fun x1 h2 => ?_)
    refine s_132L 3 4 105 4 ji_4 rfl rfl rfl (fun x3 => ?_)
    refine s_167 255 171 20 rfl rfl ?_
    exact s_jmp (hk20 _ _ _ _ _) ⟨rfl, rfl, rfl, rfl, trivial⟩
  · refine s_25 4 73 rfl rfl ?_
    refine s_25 4 75 rfl rfl ?_
    refine s_25 4 77 rfl rfl ?_
    refine s_184V 0 29 80 29 (m_5_multiply l _ _ _ _) rfl k_5_multiply jw_1069 jw_1055 rfl rfl rfl rfl rfl (fun x4 h5 => ?_)
    refine s_132L 5 1 83 1 ji_1 rfl rfl rfl (fun x6 => ?_)
    refine s_167 255 232 59 rfl rfl ?_
    exact s_jmp (hk59 _ _ _ _ _ _ _) ⟨rfl, rfl, rfl, rfl, rfl, rfl, trivial⟩
theorem w_5_root_59 (l : Launch) (k20 : Nat → Nat → Nat → Int32 → jH → Option (Unit × jH)) (hk20 : ∀ a0 a1 a2 a3 H, JV l mi_5_root jeV 20 [(0, .ref a0), (1, .ref a1), (2, .ref a2), (3, .int a3)] [] H (k20 a0 a1 a2 a3 H)) (n : Nat) : ∀ a0 a1 a2 a3 a4 a5 H, JV l mi_5_root jeV 59 [(0, .ref a0), (1, .ref a1), (2, .ref a2), (3, .int a3), (4, .ref a4), (5, .int a5)] [] H (F_5_root_59 k20 n a0 a1 a2 a3 a4 a5 H) := by
  induction n with
  | zero => intro _ _ _ _ _ _ _; exact s_none
  | succ n ih => intro a0 a1 a2 a3 a4 a5 H; exact v_5_root_59 l k20 hk20 (F_5_root_59 k20 n) ih a0 a1 a2 a3 a4 a5 H
theorem v_5_root_20 (l : Launch) (k20 : Nat → Nat → Nat → Int32 → jH → Option (Unit × jH)) (hk20 : ∀ a0 a1 a2 a3 H, JV l mi_5_root jeV 20 [(0, .ref a0), (1, .ref a1), (2, .ref a2), (3, .int a3)] [] H (k20 a0 a1 a2 a3 H)) (a0 : Nat) (a1 : Nat) (a2 : Nat) (a3 : Int32) (H : jH) : JV l mi_5_root jeV 20 [(0, .ref a0), (1, .ref a1), (2, .ref a2), (3, .int a3)] [] H (B_5_root_20 k20 a0 a1 a2 a3 H) := by
  unfold B_5_root_20
  refine s_29 21 rfl rfl ?_
  refine s_6 22 rfl ?_
  refine s_96 23 rfl ?_
  refine s_178 0 63 26 63 12 "CoinNode$Point" "ROOT" jst_12 ⟨by decide, by decide⟩ jw_1067 rfl rfl ?_
  refine s_190 27 100 jm_100 rfl ?_
  refine s_162 0 81 108 30 rfl rfl ?_ ?_
  · refine s_42 109 rfl rfl ?_
    refine s_44 110 rfl rfl ?_
    refine s_16 13 112 13 jbp_13 rfl ?_
    refine s_50 113 112 jt_112 rfl ?_
    refine s_44 114 rfl rfl ?_
    refine s_16 13 116 13 jbp_13 rfl ?_
    refine s_50 117 112 jt_112 rfl ?_
    refine s_184V 0 29 120 29 (m_5_multiply l _ _ _ _) rfl k_5_multiply jw_1069 jw_1055 rfl rfl rfl rfl rfl (fun x7 h8 => ?_)
    refine s_42 121 rfl rfl ?_
    refine s_42 122 rfl rfl ?_
    refine s_42 123 rfl rfl ?_
    refine s_184V 0 29 126 29 (m_5_multiply l _ _ _ _) rfl k_5_multiply jw_1069 jw_1055 rfl rfl rfl rfl rfl (fun x9 h10 => ?_)
    exact s_177 rfl rfl
  · refine s_44 31 rfl rfl ?_
    refine s_178 0 63 34 63 12 "CoinNode$Point" "ROOT" jst_12 ⟨by decide, by decide⟩ jw_1067 rfl rfl ?_
    refine s_29 35 rfl rfl ?_
    refine s_6 36 rfl ?_
    refine s_96 37 rfl ?_
    refine s_46 38 rfl ?_
    refine s_50 39 112 jt_112 rfl ?_
    refine s_58L 4 41 rfl rfl (fun x11 => ?_)
    refine s_25 4 43 rfl rfl ?_
    refine s_44 44 rfl rfl ?_
    refine s_178 0 63 47 63 12 "CoinNode$Point" "ROOT" jst_12 ⟨by decide, by decide⟩ jw_1067 rfl rfl ?_
    refine s_29 48 rfl rfl ?_
    refine s_46 49 rfl ?_
    refine s_50 50 112 jt_112 rfl ?_
    refine s_10 51 rfl ?_
    refine s_43 52 rfl rfl ?_
    refine s_9 53 rfl ?_
    refine s_184V 0 35 56 35 (m_5_mix l _ _ _ _ _ _) rfl k_5_mix jw_1064 jw_1065 rfl rfl rfl rfl rfl (fun x12 h13 => ?_)
    refine s_3 57 rfl ?_
    refine s_54 5 59 rfl rfl ?_
    exact s_jmp (w_5_root_59 l k20 hk20 jfuel _ _ _ _ _ _ _) ⟨rfl, rfl, rfl, rfl, rfl, rfl, trivial⟩
theorem w_5_root_20 (l : Launch)  (n : Nat) : ∀ a0 a1 a2 a3 H, JV l mi_5_root jeV 20 [(0, .ref a0), (1, .ref a1), (2, .ref a2), (3, .int a3)] [] H (F_5_root_20  n a0 a1 a2 a3 H) := by
  induction n with
  | zero => intro _ _ _ _ _; exact s_none
  | succ n ih => intro a0 a1 a2 a3 H; exact v_5_root_20 l (F_5_root_20  n) ih a0 a1 a2 a3 H
theorem v_5_root (l : Launch) (a0 : Nat) (a1 : Nat) (a2 : Nat) (H : jH) : JV l mi_5_root jeV 0 [(0, .ref a0), (1, .ref a1), (2, .ref a2)] [] H (F_5_root a0 a1 a2 H) := by
  unfold F_5_root
  refine s_44 1 rfl rfl ?_
  refine s_190 2 112 jm_112 rfl ?_
  refine s_16 14 4 14 jbp_14 rfl ?_
  refine s_162 0 4 8 7 rfl rfl ?_ ?_
  · refine s_44 9 rfl rfl ?_
    refine s_3 10 rfl ?_
    refine s_50 11 112 jt_112 rfl ?_
    refine s_43 12 rfl rfl ?_
    refine s_10 13 rfl ?_
    refine s_43 14 rfl rfl ?_
    refine s_9 15 rfl ?_
    refine s_184V 0 35 18 35 (m_5_mix l _ _ _ _ _ _) rfl k_5_mix jw_1064 jw_1065 rfl rfl rfl rfl rfl (fun x14 h15 => ?_)
    refine s_3 19 rfl ?_
    refine s_62 20 rfl rfl ?_
    exact s_jmp (w_5_root_20 l jfuel _ _ _ _ _) ⟨rfl, rfl, rfl, rfl, trivial⟩
  · exact s_177 rfl rfl
theorem m_5_root (l : Launch) (a0 : Nat) (a1 : Nat) (a2 : Nat) (H : jH) : JMet l y_5_root prog_7_method_6_code mi_5_root jeV [.ref a0, .ref a1, .ref a2] H (F_5_root a0 a1 a2 H) := jmet_of n_5_root (by decide) ⟨rfl, rfl⟩ (Nat.le_of_ble_eq_true rfl) (v_5_root l a0 a1 a2 H)
def mi_8_setKey : jM := (546463462678235584141658665538939019574079896177806112931102724010325626288696611327959292067484628643176625695888989230411689254581490294427797592148632629414690443669053317582553011102856333185703657230799453470996659175630592787798885378103910690148276266727881242487520011962914113037397417249017276542347310660389334393423877830166724751974937592928141469142194770457536417753363700799175234340843952383168601341256376515112415247057221702359625764490237642489578561309887643098687624135807608376820183383464675539872869166486639873521677813648858935753735139778679821379427090193313888273788927497011962366630067805428069997261292748440486016657116324474951588597745732018538804880008311527952746469258249606799127182749635538157123457417451317955209061789164285936951699232340122551634143259500346626188250279791396644504662639547673013804488265276196441686019291827668856185894832678357263412693511731051266055165461045289570982846508404286288757610117809959738347753794855033442721465825508792144388586539154965336092, 426, 9, "CoinNode$Signature", some FieldType.boolean, "setKey", 2, 115)
def y_8_setKey : MethodName := ⟨"CoinNode$Signature", "setKey", "([BI)Z"⟩
theorem n_8_setKey : jn_is prog_10_method_4_code mi_8_setKey.1 mi_8_setKey.2.1 := by unfold jn_is; decide +kernel
theorem k_8_setKey : jmok y_8_setKey prog_10_method_4_code mi_8_setKey 2 := ⟨jw_1047, jw_4, ⟨by decide, by decide⟩, by decide +kernel⟩
theorem v_8_setKey_371 (l : Launch) (k371 : Nat → Int32 → jH → Option (Int32 × jH)) (hk371 : ∀ a0 a8 H, JV l mi_8_setKey jeI 371 [(0, .ref a0), (8, .int a8)] [] H (k371 a0 a8 H)) (a0 : Nat) (a8 : Int32) (H : jH) : JV l mi_8_setKey jeI 371 [(0, .ref a0), (8, .int a8)] [] H (B_8_setKey_371 k371 a0 a8 H) := by
  unfold B_8_setKey_371
  refine s_21 8 373 rfl rfl ?_
  refine s_16 8 375 8 jbp_8 rfl ?_
  refine s_162 0 49 424 378 rfl rfl ?_ ?_
  · refine s_4 425 rfl ?_
    exact s_172Z rfl rfl
  · refine s_42 379 rfl rfl ?_
    refine s_180R 0 55 382 55 f_8_13 jw_111 rfl rfl ?_
    refine s_21 8 384 rfl rfl ?_
    refine s_50 385 115 jt_115 rfl ?_
    refine s_42 386 rfl rfl ?_
    refine s_180R 0 55 389 55 f_8_13 jw_111 rfl rfl ?_
    refine s_21 8 391 rfl rfl ?_
    refine s_4 392 rfl ?_
    refine s_100 393 rfl ?_
    refine s_50 394 115 jt_115 rfl ?_
    refine s_3 395 rfl ?_
    refine s_182V 0 124 398 124 (m_5_set l _ _ _ _) rfl k_5_set jc_5 jw_1085 jw_1086 jw_1087 rfl rfl rfl rfl rfl (fun x1 h2 => ?_)
    refine s_42 399 rfl rfl ?_
    refine s_180R 0 55 402 55 f_8_13 jw_111 rfl rfl ?_
    refine s_21 8 404 rfl rfl ?_
    refine s_50 405 115 jt_115 rfl ?_
    refine s_42 406 rfl rfl ?_
    refine s_180R 0 59 409 59 f_8_14 jw_112 rfl rfl ?_
    refine s_3 410 rfl ?_
    refine s_42 411 rfl rfl ?_
    refine s_180R 0 40 414 40 f_8_9 jw_107 rfl rfl ?_
    refine s_182I 0 130 417 130 (m_5_add l _ _ _ _ _) rfl k_5_add jc_5 jw_1102 jw_1103 jw_1104 rfl rfl rfl rfl rfl (fun x3 h4 => ?_)
    refine s_87 418 rfl rfl ?_
    refine s_132L 8 1 421 1 ji_1 rfl rfl rfl (fun x5 => ?_)
    refine s_167 255 206 371 rfl rfl ?_
    exact s_jmp (hk371 _ _ _) ⟨rfl, rfl, trivial⟩
theorem w_8_setKey_371 (l : Launch)  (n : Nat) : ∀ a0 a8 H, JV l mi_8_setKey jeI 371 [(0, .ref a0), (8, .int a8)] [] H (F_8_setKey_371  n a0 a8 H) := by
  induction n with
  | zero => intro _ _ _; exact s_none
  | succ n ih => intro a0 a8 H; exact v_8_setKey_371 l (F_8_setKey_371  n) ih a0 a8 H
theorem v_8_setKey_342 (l : Launch)  (a0 : Nat) (a5 : Nat) (H : jH) : JV l mi_8_setKey jeI 342 [(0, .ref a0), (5, .ref a5)] [] H (B_8_setKey_342  a0 a5 H) := by
  unfold B_8_setKey_342
  refine s_25 5 344 rfl rfl ?_
  refine s_182V 0 121 347 121 (m_5_unit l _ _) rfl k_5_unit jc_5 jw_1078 jw_1079 jw_1080 rfl rfl rfl rfl rfl (fun x6 h7 => ?_)
  refine s_42 348 rfl rfl ?_
  refine s_180R 0 59 351 59 f_8_14 jw_112 rfl rfl ?_
  refine s_25 5 353 rfl rfl ?_
  refine s_3 354 rfl ?_
  refine s_182V 0 124 357 124 (m_5_set l _ _ _ _) rfl k_5_set jc_5 jw_1085 jw_1086 jw_1087 rfl rfl rfl rfl rfl (fun x8 h9 => ?_)
  refine s_42 358 rfl rfl ?_
  refine s_180R 0 59 361 59 f_8_14 jw_112 rfl rfl ?_
  refine s_42 362 rfl rfl ?_
  refine s_180R 0 40 365 40 f_8_9 jw_107 rfl rfl ?_
  refine s_182V 0 127 368 127 (m_5_twice l _ _ _) rfl k_5_twice jc_5 jw_1089 jw_1090 jw_1091 rfl rfl rfl rfl rfl (fun x10 h11 => ?_)
  refine s_4 369 rfl ?_
  refine s_54 8 371 rfl rfl ?_
  exact s_jmp (w_8_setKey_371 l jfuel _ _ _) ⟨rfl, rfl, trivial⟩
theorem v_8_setKey_336 (l : Launch)  (a0 : Nat) (a5 : Nat) (a6 : Nat) (s0 : Nat) (s1 : Nat) (s2 : Int64) (H : jH) : JV l mi_8_setKey jeI 336 [(0, .ref a0), (5, .ref a5), (6, .ref a6)] [.long s2, .ref s1, .ref s0] H (B_8_setKey_336  a0 a5 a6 s0 s1 s2 H) := by
  unfold B_8_setKey_336
  refine s_25 6 338 rfl rfl ?_
  refine s_9 339 rfl ?_
  refine s_184V 0 113 342 113 (m_5_mix l _ _ _ _ _ _) rfl k_5_mix jw_1071 jw_1065 rfl rfl rfl rfl rfl (fun x12 h13 => ?_)
  exact s_jmp (v_8_setKey_342 l _ _ _) ⟨rfl, rfl, trivial⟩
theorem v_8_setKey_326 (l : Launch)  (a0 : Nat) (a5 : Nat) (a6 : Nat) (s0 : Nat) (s1 : Nat) (s2 : Int32) (s3 : Int32) (H : jH) : JV l mi_8_setKey jeI 326 [(0, .ref a0), (5, .ref a5), (6, .ref a6)] [.int s3, .int s2, .ref s1, .ref s0] H (B_8_setKey_326  a0 a5 a6 s0 s1 s2 s3 H) := by
  unfold B_8_setKey_326
  refine s_160 0 7 333 329 rfl rfl ?_ ?_
  · refine s_20 0 111 336 111 (-1) rfl jw_1070 rfl ?_
    exact s_jmp (v_8_setKey_336 l _ _ _ _ _ _ _) ⟨rfl, rfl, rfl, trivial⟩
  · refine s_10 330 rfl ?_
    refine s_167 0 6 336 rfl rfl ?_
    exact s_jmp (v_8_setKey_336 l _ _ _ _ _ _ _) ⟨rfl, rfl, rfl, trivial⟩
theorem v_8_setKey_300 (l : Launch)  (a0 : Nat) (a1 : Nat) (a5 : Nat) (a6 : Nat) (s0 : Int32) (H : jH) : JV l mi_8_setKey jeI 300 [(0, .ref a0), (1, .ref a1), (5, .ref a5), (6, .ref a6)] [.int s0] H (B_8_setKey_300  a0 a1 a5 a6 s0 H) := by
  unfold B_8_setKey_300
  refine s_54 8 302 rfl rfl ?_
  refine s_25 5 304 rfl rfl ?_
  refine s_180R 0 105 307 105 f_5_1 jw_82 rfl rfl ?_
  refine s_25 5 309 rfl rfl ?_
  refine s_180R 0 105 312 105 f_5_1 jw_82 rfl rfl ?_
  refine s_21 8 314 rfl rfl ?_
  refine s_43 315 rfl rfl ?_
  refine s_3 316 rfl ?_
  refine s_51B 317 rfl ?_
  refine s_6 318 rfl ?_
  refine s_160 0 7 325 321 rfl rfl ?_ ?_
  · refine s_3 326 rfl ?_
    exact s_jmp (v_8_setKey_326 l _ _ _ _ _ _ _ _) ⟨rfl, rfl, rfl, trivial⟩
  · refine s_4 322 rfl ?_
    refine s_167 0 4 326 rfl rfl ?_
    exact s_jmp (v_8_setKey_326 l _ _ _ _ _ _ _ _) ⟨rfl, rfl, rfl, trivial⟩
theorem v_8_setKey_230 (l : Launch)  (a0 : Nat) (a1 : Nat) (a3 : Int32) (a5 : Nat) (a6 : Nat) (a7 : Nat) (H : jH) : JV l mi_8_setKey jeI 230 [(0, .ref a0), (1, .ref a1), (3, .int a3), (5, .ref a5), (6, .ref a6), (7, .ref a7)] [] H (B_8_setKey_230  a0 a1 a3 a5 a6 a7 H) := by
  unfold B_8_setKey_230
  refine s_25 7 232 rfl rfl ?_
  refine s_25 5 234 rfl rfl ?_
  refine s_180R 0 105 237 105 f_5_1 jw_82 rfl rfl ?_
  refine s_25 5 239 rfl rfl ?_
  refine s_180R 0 105 242 105 f_5_1 jw_82 rfl rfl ?_
  refine s_184V 0 99 245 99 (m_5_multiply l _ _ _ _) rfl k_5_multiply jw_1054 jw_1055 rfl rfl rfl rfl rfl (fun x14 h15 => ?_)
  refine s_25 7 247 rfl rfl ?_
  refine s_25 7 249 rfl rfl ?_
  refine s_10 250 rfl ?_
  refine s_25 6 252 rfl rfl ?_
  refine s_20 0 111 255 111 (-1) rfl jw_1070 rfl ?_
  refine s_184V 0 113 258 113 (m_5_mix l _ _ _ _ _ _) rfl k_5_mix jw_1071 jw_1065 rfl rfl rfl rfl rfl (fun x16 h17 => ?_)
  refine s_25 7 260 rfl rfl ?_
  refine s_184I 0 117 263 117 (m_5_normalize l _ _) rfl k_5_normalize jw_1072 jw_1073 rfl rfl rfl rfl rfl (fun x18 h19 => ?_)
  refine s_154 0 5 268 266 rfl rfl ?_ ?_
  · refine s_29 269 rfl rfl ?_
    refine s_153 0 73 342 272 rfl rfl ?_ ?_
    · exact s_jmp (v_8_setKey_342 l _ _ _) ⟨rfl, rfl, trivial⟩
    · refine s_25 5 274 rfl rfl ?_
      refine s_180R 0 105 277 105 f_5_1 jw_82 rfl rfl ?_
      refine s_184I 0 117 280 117 (m_5_normalize l _ _) rfl k_5_normalize jw_1072 jw_1073 rfl rfl rfl rfl rfl (fun x20 h21 => ?_)
      refine s_87 281 rfl rfl ?_
      refine s_25 5 283 rfl rfl ?_
      refine s_180R 0 105 286 105 f_5_1 jw_82 rfl rfl ?_
      refine s_3 287 rfl ?_
      refine s_47 288 rfl ?_
      refine s_10 289 rfl ?_
      refine s_127 290 rfl ?_
      refine s_10 291 rfl ?_
      refine s_148_154 0 7 299 292 295 rfl rfl rfl ?_ ?_
      · refine s_3 300 rfl ?_
        exact s_jmp (v_8_setKey_300 l _ _ _ _ _ _) ⟨rfl, rfl, rfl, rfl, trivial⟩
      · refine s_4 296 rfl ?_
        refine s_167 0 4 300 rfl rfl ?_
        exact s_jmp (v_8_setKey_300 l _ _ _ _ _ _) ⟨rfl, rfl, rfl, rfl, trivial⟩
  · refine s_3 267 rfl ?_
    exact s_172Z rfl rfl
theorem v_8_setKey_71 (l : Launch)  (a0 : Nat) (a1 : Nat) (a3 : Int32) (a4 : Int32) (H : jH) : JV l mi_8_setKey jeI 71 [(0, .ref a0), (1, .ref a1), (3, .int a3), (4, .int a4)] [] H (B_8_setKey_71  a0 a1 a3 a4 H) := by
  unfold B_8_setKey_71
  refine s_42 72 rfl rfl ?_
  refine s_180R 0 55 75 55 f_8_13 jw_111 rfl rfl ?_
  refine s_3 76 rfl ?_
  refine s_50 77 115 jt_115 rfl ?_
  refine s_58L 5 79 rfl rfl (fun x22 => ?_)
  refine s_42 80 rfl rfl ?_
  refine s_180R 0 18 83 18 f_8_3 jw_101 rfl rfl ?_
  refine s_43 84 rfl rfl ?_
  refine s_4 85 rfl ?_
  refine s_16 32 87 32 jbp_32 rfl ?_
  refine s_184V 0 74 90 74 (m_8_set l _ _ _ _ _) rfl k_8_set jw_1020 jw_1021 rfl rfl rfl rfl rfl (fun x23 h24 => ?_)
  refine s_42 91 rfl rfl ?_
  refine s_180R 0 18 94 18 f_8_3 jw_101 rfl rfl ?_
  refine s_25 5 96 rfl rfl ?_
  refine s_180R 0 89 99 89 f_5_0 jw_80 rfl rfl ?_
  refine s_184V 0 92 102 92 (m_8_spread l _ _ _) rfl k_8_spread jw_1048 jw_1049 rfl rfl rfl rfl rfl (fun x25 h26 => ?_)
  refine s_42 103 rfl rfl ?_
  refine s_180R 0 18 106 18 f_8_3 jw_101 rfl rfl ?_
  refine s_178 0 96 109 96 7 "CoinNode$Signature" "PRIME" jst_7 ⟨by decide, by decide⟩ jw_1052 rfl rfl ?_
  refine s_184I 0 85 112 85 (m_8_isBelow l _ _ _) rfl k_8_isBelow jw_1031 jw_1032 rfl rfl rfl rfl rfl (fun x27 h28 => ?_)
  refine s_154 0 5 117 115 rfl rfl ?_ ?_
  · refine s_42 118 rfl rfl ?_
    refine s_180R 0 40 121 40 f_8_9 jw_107 rfl rfl ?_
    refine s_16 14 123 14 jbp_14 rfl ?_
    refine s_50 124 112 jt_112 rfl ?_
    refine s_58L 6 126 rfl rfl (fun x29 => ?_)
    refine s_42 127 rfl rfl ?_
    refine s_180R 0 40 130 40 f_8_9 jw_107 rfl rfl ?_
    refine s_16 15 132 15 jbp_15 rfl ?_
    refine s_50 133 112 jt_112 rfl ?_
    refine s_58L 7 135 rfl rfl (fun x30 => ?_)
    refine s_25 6 137 rfl rfl ?_
    refine s_25 5 139 rfl rfl ?_
    refine s_180R 0 89 142 89 f_5_0 jw_80 rfl rfl ?_
    refine s_25 5 144 rfl rfl ?_
    refine s_180R 0 89 147 89 f_5_0 jw_80 rfl rfl ?_
    refine s_184V 0 99 150 99 (m_5_multiply l _ _ _ _) rfl k_5_multiply jw_1054 jw_1055 rfl rfl rfl rfl rfl (fun x31 h32 => ?_)
    refine s_25 6 152 rfl rfl ?_
    refine s_25 6 154 rfl rfl ?_
    refine s_25 5 156 rfl rfl ?_
    refine s_180R 0 89 159 89 f_5_0 jw_80 rfl rfl ?_
    refine s_184V 0 99 162 99 (m_5_multiply l _ _ _ _) rfl k_5_multiply jw_1054 jw_1055 rfl rfl rfl rfl rfl (fun x33 h34 => ?_)
    refine s_25 6 164 rfl rfl ?_
    refine s_3 165 rfl ?_
    refine s_92 166 rfl rfl rfl ?_
    refine s_47 167 rfl ?_
    refine s_20 0 103 170 103 7 rfl jw_1060 rfl ?_
    refine s_97 171 rfl ?_
    refine s_80 172 rfl (fun h35 => ?_)
    refine s_21 4 174 rfl rfl ?_
    refine s_153 0 42 216 177 rfl rfl ?_ ?_
    · refine s_25 5 218 rfl rfl ?_
      refine s_180R 0 105 221 105 f_5_1 jw_82 rfl rfl ?_
      refine s_25 6 223 rfl rfl ?_
      refine s_42 224 rfl rfl ?_
      refine s_180R 0 40 227 40 f_8_9 jw_107 rfl rfl ?_
      refine s_184V 0 107 230 107 (m_5_root l _ _ _ _) rfl k_5_root jw_1061 jw_1062 rfl rfl rfl rfl rfl (fun x36 h37 => ?_)
      exact s_jmp (v_8_setKey_230 l _ _ _ _ _ _ _) ⟨rfl, rfl, rfl, rfl, rfl, rfl, trivial⟩
    · refine s_42 178 rfl rfl ?_
      refine s_180R 0 21 181 21 f_8_4 jw_102 rfl rfl ?_
      refine s_43 182 rfl rfl ?_
      refine s_16 33 184 33 jbp_33 rfl ?_
      refine s_16 32 186 32 jbp_32 rfl ?_
      refine s_184V 0 74 189 74 (m_8_set l _ _ _ _ _) rfl k_8_set jw_1020 jw_1021 rfl rfl rfl rfl rfl (fun x38 h39 => ?_)
      refine s_42 190 rfl rfl ?_
      refine s_180R 0 21 193 21 f_8_4 jw_102 rfl rfl ?_
      refine s_25 5 195 rfl rfl ?_
      refine s_180R 0 105 198 105 f_5_1 jw_82 rfl rfl ?_
      refine s_184V 0 92 201 92 (m_8_spread l _ _ _) rfl k_8_spread jw_1048 jw_1049 rfl rfl rfl rfl rfl (fun x40 h41 => ?_)
      refine s_42 202 rfl rfl ?_
      refine s_180R 0 21 205 21 f_8_4 jw_102 rfl rfl ?_
      refine s_178 0 96 208 96 7 "CoinNode$Signature" "PRIME" jst_7 ⟨by decide, by decide⟩ jw_1052 rfl rfl ?_
      refine s_184I 0 85 211 85 (m_8_isBelow l _ _ _) rfl k_8_isBelow jw_1031 jw_1032 rfl rfl rfl rfl rfl (fun x42 h43 => ?_)
      refine s_154 0 19 230 214 rfl rfl ?_ ?_
      · exact s_jmp (v_8_setKey_230 l _ _ _ _ _ _ _) ⟨rfl, rfl, rfl, rfl, rfl, rfl, trivial⟩
      · refine s_3 215 rfl ?_
        exact s_172Z rfl rfl
  · refine s_3 116 rfl ?_
    exact s_172Z rfl rfl
theorem v_8_setKey_58 (l : Launch)  (a0 : Nat) (a1 : Nat) (a3 : Int32) (s0 : Int32) (H : jH) : JV l mi_8_setKey jeI 58 [(0, .ref a0), (1, .ref a1), (3, .int a3)] [.int s0] H (B_8_setKey_58  a0 a1 a3 s0 H) := by
  unfold B_8_setKey_58
  refine s_54 4 60 rfl rfl ?_
  refine s_29 61 rfl rfl ?_
  refine s_154 0 10 71 64 rfl rfl ?_ ?_
  · exact s_jmp (v_8_setKey_71 l _ _ _ _ _) ⟨rfl, rfl, rfl, rfl, trivial⟩
  · refine s_21 4 66 rfl rfl ?_
    refine s_154 0 5 71 69 rfl rfl ?_ ?_
    · exact s_jmp (v_8_setKey_71 l _ _ _ _ _) ⟨rfl, rfl, rfl, rfl, trivial⟩
    · refine s_3 70 rfl ?_
      exact s_172Z rfl rfl
theorem v_8_setKey_57 (l : Launch)  (a0 : Nat) (a1 : Nat) (a3 : Int32) (H : jH) : JV l mi_8_setKey jeI 57 [(0, .ref a0), (1, .ref a1), (3, .int a3)] [] H (B_8_setKey_57  a0 a1 a3 H) := by
  unfold B_8_setKey_57
  refine s_3 58 rfl ?_
  exact s_jmp (v_8_setKey_58 l _ _ _ _ _) ⟨rfl, rfl, rfl, trivial⟩
theorem v_8_setKey_32 (l : Launch)  (a0 : Nat) (a1 : Nat) (a2 : Int32) (s0 : Int32) (H : jH) : JV l mi_8_setKey jeI 32 [(0, .ref a0), (1, .ref a1), (2, .int a2)] [.int s0] H (B_8_setKey_32  a0 a1 a2 s0 H) := by
  unfold B_8_setKey_32
  refine s_62 33 rfl rfl ?_
  refine s_28 34 rfl rfl ?_
  refine s_16 65 36 65 jbp_65 rfl ?_
  refine s_160 0 21 57 39 rfl rfl ?_ ?_
  · exact s_jmp (v_8_setKey_57 l _ _ _ _) ⟨rfl, rfl, rfl, trivial⟩
  · refine s_43 40 rfl rfl ?_
    refine s_190 41 101 jm_101 rfl ?_
    refine s_16 65 43 65 jbp_65 rfl ?_
    refine s_161 0 14 57 46 rfl rfl ?_ ?_
    · exact s_jmp (v_8_setKey_57 l _ _ _ _) ⟨rfl, rfl, rfl, trivial⟩
    · refine s_43 47 rfl rfl ?_
      refine s_3 48 rfl ?_
      refine s_51B 49 rfl ?_
      refine s_7 50 rfl ?_
      refine s_160 0 7 57 53 rfl rfl ?_ ?_
      · exact s_jmp (v_8_setKey_57 l _ _ _ _) ⟨rfl, rfl, rfl, trivial⟩
      · refine s_4 54 rfl ?_
        refine s_167 0 4 58 rfl rfl ?_
        exact s_jmp (v_8_setKey_58 l _ _ _ _ _) ⟨rfl, rfl, rfl, trivial⟩
theorem v_8_setKey_27 (l : Launch)  (a0 : Nat) (a1 : Nat) (a2 : Int32) (H : jH) : JV l mi_8_setKey jeI 27 [(0, .ref a0), (1, .ref a1), (2, .int a2)] [] H (B_8_setKey_27  a0 a1 a2 H) := by
  unfold B_8_setKey_27
  refine s_4 28 rfl ?_
  refine s_167 0 4 32 rfl rfl ?_
  exact s_jmp (v_8_setKey_32 l _ _ _ _ _) ⟨rfl, rfl, rfl, trivial⟩
theorem v_8_setKey_31 (l : Launch)  (a0 : Nat) (a1 : Nat) (a2 : Int32) (H : jH) : JV l mi_8_setKey jeI 31 [(0, .ref a0), (1, .ref a1), (2, .int a2)] [] H (B_8_setKey_31  a0 a1 a2 H) := by
  unfold B_8_setKey_31
  refine s_3 32 rfl ?_
  exact s_jmp (v_8_setKey_32 l _ _ _ _ _) ⟨rfl, rfl, rfl, trivial⟩
theorem v_8_setKey (l : Launch) (a0 : Nat) (a1 : Nat) (a2 : Int32) (H : jH) : JV l mi_8_setKey jeI 0 [(0, .ref a0), (1, .ref a1), (2, .int a2)] [] H (F_8_setKey a0 a1 a2 H) := by
  unfold F_8_setKey
  refine s_28 1 rfl rfl ?_
  refine s_16 33 3 33 jbp_33 rfl ?_
  refine s_160 0 28 31 6 rfl rfl ?_ ?_
  · exact s_jmp (v_8_setKey_31 l _ _ _ _) ⟨rfl, rfl, rfl, trivial⟩
  · refine s_43 7 rfl rfl ?_
    refine s_190 8 101 jm_101 rfl ?_
    refine s_16 33 10 33 jbp_33 rfl ?_
    refine s_161 0 21 31 13 rfl rfl ?_ ?_
    · exact s_jmp (v_8_setKey_31 l _ _ _ _) ⟨rfl, rfl, rfl, trivial⟩
    · refine s_43 14 rfl rfl ?_
      refine s_3 15 rfl ?_
      refine s_51B 16 rfl ?_
      refine s_5 17 rfl ?_
      refine s_159 0 10 27 20 rfl rfl ?_ ?_
      · exact s_jmp (v_8_setKey_27 l _ _ _ _) ⟨rfl, rfl, rfl, trivial⟩
      · refine s_43 21 rfl rfl ?_
        refine s_3 22 rfl ?_
        refine s_51B 23 rfl ?_
        refine s_6 24 rfl ?_
        refine s_160 0 7 31 27 rfl rfl ?_ ?_
        · exact s_jmp (v_8_setKey_31 l _ _ _ _) ⟨rfl, rfl, rfl, trivial⟩
        · exact s_jmp (v_8_setKey_27 l _ _ _ _) ⟨rfl, rfl, rfl, trivial⟩
theorem m_8_setKey (l : Launch) (a0 : Nat) (a1 : Nat) (a2 : Int32) (H : jH) : JMet l y_8_setKey prog_10_method_4_code mi_8_setKey jeI [.ref a0, .ref a1, .int a2] H (F_8_setKey a0 a1 a2 H) := jmet_of n_8_setKey (by decide) ⟨rfl, rfl⟩ (Nat.le_of_ble_eq_true rfl) (v_8_setKey l a0 a1 a2 H)
def mi_8_isNothing : jM := (77803138122090350581007082023124379938560404818459896251910275941469572512771, 32, 3, "CoinNode$Signature", some FieldType.boolean, "isNothing", 0, 0)
def y_8_isNothing : MethodName := ⟨"CoinNode$Signature", "isNothing", "([I)Z"⟩
theorem n_8_isNothing : jn_is prog_10_method_9_code mi_8_isNothing.1 mi_8_isNothing.2.1 := by unfold jn_is; decide +kernel
theorem k_8_isNothing : jmok y_8_isNothing prog_10_method_9_code mi_8_isNothing 1 := ⟨jw_1028, jw_4, ⟨by decide, by decide⟩, by decide +kernel⟩
theorem v_8_isNothing_31 (l : Launch)  (s0 : Int32) (H : jH) : JV l mi_8_isNothing jeI 31 [] [.int s0] H (B_8_isNothing_31  s0 H) := by
  unfold B_8_isNothing_31
  exact s_172Z rfl rfl
theorem v_8_isNothing_4 (l : Launch) (k4 : Nat → Int32 → Int32 → jH → Option (Int32 × jH)) (hk4 : ∀ a0 a1 a2 H, JV l mi_8_isNothing jeI 4 [(0, .ref a0), (1, .int a1), (2, .int a2)] [] H (k4 a0 a1 a2 H)) (a0 : Nat) (a1 : Int32) (a2 : Int32) (H : jH) : JV l mi_8_isNothing jeI 4 [(0, .ref a0), (1, .int a1), (2, .int a2)] [] H (B_8_isNothing_4 k4 a0 a1 a2 H) := by
  unfold B_8_isNothing_4
  refine s_28 5 rfl rfl ?_
  refine s_42 6 rfl rfl ?_
  refine s_190 7 100 jm_100 rfl ?_
  refine s_162 0 15 22 10 rfl rfl ?_ ?_
  · refine s_27 23 rfl rfl ?_
    refine s_154 0 7 30 26 rfl rfl ?_ ?_
    · refine s_3 31 rfl ?_
      exact s_jmp (v_8_isNothing_31 l _ _) trivial
    · refine s_4 27 rfl ?_
      refine s_167 0 4 31 rfl rfl ?_
      exact s_jmp (v_8_isNothing_31 l _ _) trivial
  · refine s_27 11 rfl rfl ?_
    refine s_42 12 rfl rfl ?_
    refine s_28 13 rfl rfl ?_
    refine s_46 14 rfl ?_
    refine s_128 15 rfl ?_
    refine s_60L 16 rfl rfl (fun x1 => ?_)
    refine s_132L 2 1 19 1 ji_1 rfl rfl rfl (fun x2 => ?_)
    refine s_167 255 241 4 rfl rfl ?_
    exact s_jmp (hk4 _ _ _ _) ⟨rfl, rfl, rfl, trivial⟩
theorem w_8_isNothing_4 (l : Launch)  (n : Nat) : ∀ a0 a1 a2 H, JV l mi_8_isNothing jeI 4 [(0, .ref a0), (1, .int a1), (2, .int a2)] [] H (F_8_isNothing_4  n a0 a1 a2 H) := by
  induction n with
  | zero => intro _ _ _ _; exact s_none
  | succ n ih => intro a0 a1 a2 H; exact v_8_isNothing_4 l (F_8_isNothing_4  n) ih a0 a1 a2 H
theorem v_8_isNothing (l : Launch) (a0 : Nat) (H : jH) : JV l mi_8_isNothing jeI 0 [(0, .ref a0)] [] H (F_8_isNothing a0 H) := by
  unfold F_8_isNothing
  refine s_3 1 rfl ?_
  refine s_60 2 rfl rfl ?_
  refine s_3 3 rfl ?_
  refine s_61 4 rfl rfl ?_
  exact s_jmp (w_8_isNothing_4 l jfuel _ _ _ _) ⟨rfl, rfl, rfl, trivial⟩
theorem m_8_isNothing (l : Launch) (a0 : Nat) (H : jH) : JMet l y_8_isNothing prog_10_method_9_code mi_8_isNothing jeI [.ref a0] H (F_8_isNothing a0 H) := jmet_of n_8_isNothing (by decide) ⟨rfl, rfl⟩ (Nat.le_of_ble_eq_true rfl) (v_8_isNothing l a0 H)
def mi_8_setNumber : jM := (784793530978698116788004352265840584857158041496703125340370072948684833999052015929256489722049850399458083038049358734170254421648307671388523140797655587579004418686501453976355465895362108459, 81, 5, "CoinNode$Signature", some FieldType.boolean, "setNumber", 2, 48)
def y_8_setNumber : MethodName := ⟨"CoinNode$Signature", "setNumber", "([I[BII)Z"⟩
theorem n_8_setNumber : jn_is prog_10_method_3_code mi_8_setNumber.1 mi_8_setNumber.2.1 := by unfold jn_is; decide +kernel
theorem k_8_setNumber : jmok y_8_setNumber prog_10_method_3_code mi_8_setNumber 4 := ⟨jw_1019, jw_4, ⟨by decide, by decide⟩, by decide +kernel⟩
theorem v_8_setNumber_49 (l : Launch)   (H : jH) : JV l mi_8_setNumber jeI 49 [] [] H (B_8_setNumber_49   H) := by
  unfold B_8_setNumber_49
  refine s_3 50 rfl ?_
  exact s_172Z rfl rfl
theorem v_8_setNumber_80 (l : Launch)  (s0 : Int32) (H : jH) : JV l mi_8_setNumber jeI 80 [] [.int s0] H (B_8_setNumber_80  s0 H) := by
  unfold B_8_setNumber_80
  exact s_172Z rfl rfl
theorem v_8_setNumber_79 (l : Launch)   (H : jH) : JV l mi_8_setNumber jeI 79 [] [] H (B_8_setNumber_79   H) := by
  unfold B_8_setNumber_79
  refine s_3 80 rfl ?_
  exact s_jmp (v_8_setNumber_80 l _ _) trivial
theorem v_8_setNumber_51 (l : Launch)  (a0 : Nat) (a1 : Nat) (a2 : Int32) (a3 : Int32) (H : jH) : JV l mi_8_setNumber jeI 51 [(0, .ref a0), (1, .ref a1), (2, .int a2), (3, .int a3)] [] H (B_8_setNumber_51  a0 a1 a2 a3 H) := by
  unfold B_8_setNumber_51
  refine s_42 52 rfl rfl ?_
  refine s_43 53 rfl rfl ?_
  refine s_28 54 rfl rfl ?_
  refine s_29 55 rfl rfl ?_
  refine s_184V 0 74 58 74 (m_8_set l _ _ _ _ _) rfl k_8_set jw_1020 jw_1021 rfl rfl rfl rfl rfl (fun x1 h2 => ?_)
  refine s_42 59 rfl rfl ?_
  refine s_184I 0 78 62 78 (m_8_isNothing l _ _) rfl k_8_isNothing jw_1026 jw_1027 rfl rfl rfl rfl rfl (fun x3 h4 => ?_)
  refine s_154 0 17 79 65 rfl rfl ?_ ?_
  · exact s_jmp (v_8_setNumber_79 l _) trivial
  · refine s_42 66 rfl rfl ?_
    refine s_178 0 82 69 82 8 "CoinNode$Signature" "ORDER" jst_8 ⟨by decide, by decide⟩ jw_1029 rfl rfl ?_
    refine s_184I 0 85 72 85 (m_8_isBelow l _ _ _) rfl k_8_isBelow jw_1031 jw_1032 rfl rfl rfl rfl rfl (fun x5 h6 => ?_)
    refine s_153 0 7 79 75 rfl rfl ?_ ?_
    · exact s_jmp (v_8_setNumber_79 l _) trivial
    · refine s_4 76 rfl ?_
      refine s_167 0 4 80 rfl rfl ?_
      exact s_jmp (v_8_setNumber_80 l _ _) trivial
theorem v_8_setNumber_24 (l : Launch)  (a0 : Nat) (a1 : Nat) (a2 : Int32) (a3 : Int32) (s0 : Int32) (H : jH) : JV l mi_8_setNumber jeI 24 [(0, .ref a0), (1, .ref a1), (2, .int a2), (3, .int a3)] [.int s0] H (B_8_setNumber_24  a0 a1 a2 a3 s0 H) := by
  unfold B_8_setNumber_24
  refine s_54 4 26 rfl rfl ?_
  refine s_43 27 rfl rfl ?_
  refine s_28 28 rfl rfl ?_
  refine s_51B 29 rfl ?_
  refine s_155 0 20 49 32 rfl rfl ?_ ?_
  · exact s_jmp (v_8_setNumber_49 l _) trivial
  · refine s_21 4 34 rfl rfl ?_
    refine s_154 0 15 49 37 rfl rfl ?_ ?_
    · exact s_jmp (v_8_setNumber_49 l _) trivial
    · refine s_29 38 rfl rfl ?_
      refine s_16 33 40 33 jbp_33 rfl ?_
      refine s_160 0 11 51 43 rfl rfl ?_ ?_
      · exact s_jmp (v_8_setNumber_51 l _ _ _ _ _) ⟨rfl, rfl, rfl, rfl, trivial⟩
      · refine s_43 44 rfl rfl ?_
        refine s_28 45 rfl rfl ?_
        refine s_51B 46 rfl ?_
        refine s_153 0 5 51 49 rfl rfl ?_ ?_
        · exact s_jmp (v_8_setNumber_51 l _ _ _ _ _) ⟨rfl, rfl, rfl, rfl, trivial⟩
        · exact s_jmp (v_8_setNumber_49 l _) trivial
theorem v_8_setNumber_23 (l : Launch)  (a0 : Nat) (a1 : Nat) (a2 : Int32) (a3 : Int32) (H : jH) : JV l mi_8_setNumber jeI 23 [(0, .ref a0), (1, .ref a1), (2, .int a2), (3, .int a3)] [] H (B_8_setNumber_23  a0 a1 a2 a3 H) := by
  unfold B_8_setNumber_23
  refine s_3 24 rfl ?_
  exact s_jmp (v_8_setNumber_24 l _ _ _ _ _ _) ⟨rfl, rfl, rfl, rfl, trivial⟩
theorem v_8_setNumber (l : Launch) (a0 : Nat) (a1 : Nat) (a2 : Int32) (a3 : Int32) (H : jH) : JV l mi_8_setNumber jeI 0 [(0, .ref a0), (1, .ref a1), (2, .int a2), (3, .int a3)] [] H (F_8_setNumber a0 a1 a2 a3 H) := by
  unfold F_8_setNumber
  refine s_43 1 rfl rfl ?_
  refine s_28 2 rfl rfl ?_
  refine s_51B 3 rfl ?_
  refine s_154 0 20 23 6 rfl rfl ?_ ?_
  · exact s_jmp (v_8_setNumber_23 l _ _ _ _ _) ⟨rfl, rfl, rfl, rfl, trivial⟩
  · refine s_29 7 rfl rfl ?_
    refine s_4 8 rfl ?_
    refine s_164 0 15 23 11 rfl rfl ?_ ?_
    · exact s_jmp (v_8_setNumber_23 l _ _ _ _ _) ⟨rfl, rfl, rfl, rfl, trivial⟩
    · refine s_43 12 rfl rfl ?_
      refine s_28 13 rfl rfl ?_
      refine s_4 14 rfl ?_
      refine s_96 15 rfl ?_
      refine s_51B 16 rfl ?_
      refine s_155 0 7 23 19 rfl rfl ?_ ?_
      · exact s_jmp (v_8_setNumber_23 l _ _ _ _ _) ⟨rfl, rfl, rfl, rfl, trivial⟩
      · refine s_4 20 rfl ?_
        refine s_167 0 4 24 rfl rfl ?_
        exact s_jmp (v_8_setNumber_24 l _ _ _ _ _ _) ⟨rfl, rfl, rfl, rfl, trivial⟩
theorem m_8_setNumber (l : Launch) (a0 : Nat) (a1 : Nat) (a2 : Int32) (a3 : Int32) (H : jH) : JMet l y_8_setNumber prog_10_method_3_code mi_8_setNumber jeI [.ref a0, .ref a1, .int a2, .int a3] H (F_8_setNumber a0 a1 a2 a3 H) := jmet_of n_8_setNumber (by decide) ⟨rfl, rfl⟩ (Nat.le_of_ble_eq_true rfl) (v_8_setNumber l a0 a1 a2 a3 H)
def mi_8_setSignature : jM := (49690444567156916605565923249221116425418789255650050295245116432617854908854155697042906130390236644539252123616153735088042700715278008716377307002930245112842795559329460473204339722247265621788461735991653891717568259643661492498945844637169232017121544207547456707165330245546080111885572689903627072244068732399248629366277141359294117385781709493900859552165335068, 154, 5, "CoinNode$Signature", some FieldType.boolean, "setSignature", 3, 72)
def y_8_setSignature : MethodName := ⟨"CoinNode$Signature", "setSignature", "([BI)Z"⟩
theorem n_8_setSignature : jn_is prog_10_method_2_code mi_8_setSignature.1 mi_8_setSignature.2.1 := by unfold jn_is; decide +kernel
theorem k_8_setSignature : jmok y_8_setSignature prog_10_method_2_code mi_8_setSignature 2 := ⟨jw_1016, jw_4, ⟨by decide, by decide⟩, by decide +kernel⟩
theorem v_8_setSignature_29 (l : Launch)   (H : jH) : JV l mi_8_setSignature jeI 29 [] [] H (B_8_setSignature_29   H) := by
  unfold B_8_setSignature_29
  refine s_3 30 rfl ?_
  exact s_172Z rfl rfl
theorem v_8_setSignature_70 (l : Launch)   (H : jH) : JV l mi_8_setSignature jeI 70 [] [] H (B_8_setSignature_70   H) := by
  unfold B_8_setSignature_70
  refine s_3 71 rfl ?_
  exact s_172Z rfl rfl
theorem v_8_setSignature_103 (l : Launch)   (H : jH) : JV l mi_8_setSignature jeI 103 [] [] H (B_8_setSignature_103   H) := by
  unfold B_8_setSignature_103
  refine s_3 104 rfl ?_
  exact s_172Z rfl rfl
theorem v_8_setSignature_153 (l : Launch)  (s0 : Int32) (H : jH) : JV l mi_8_setSignature jeI 153 [] [.int s0] H (B_8_setSignature_153  s0 H) := by
  unfold B_8_setSignature_153
  exact s_172Z rfl rfl
theorem v_8_setSignature_152 (l : Launch)   (H : jH) : JV l mi_8_setSignature jeI 152 [] [] H (B_8_setSignature_152   H) := by
  unfold B_8_setSignature_152
  refine s_3 153 rfl ?_
  exact s_jmp (v_8_setSignature_153 l _ _) trivial
theorem v_8_setSignature (l : Launch) (a0 : Nat) (a1 : Nat) (a2 : Int32) (H : jH) : JV l mi_8_setSignature jeI 0 [(0, .ref a0), (1, .ref a1), (2, .int a2)] [] H (F_8_setSignature a0 a1 a2 H) := by
  unfold F_8_setSignature
  refine s_28 1 rfl rfl ?_
  refine s_16 9 3 9 jbp_9 rfl ?_
  refine s_161 0 26 29 6 rfl rfl ?_ ?_
  · exact s_jmp (v_8_setSignature_29 l _) trivial
  · refine s_28 7 rfl rfl ?_
    refine s_43 8 rfl rfl ?_
    refine s_190 9 101 jm_101 rfl ?_
    refine s_163 0 20 29 12 rfl rfl ?_ ?_
    · exact s_jmp (v_8_setSignature_29 l _) trivial
    · refine s_43 13 rfl rfl ?_
      refine s_3 14 rfl ?_
      refine s_51B 15 rfl ?_
      refine s_16 48 17 48 jbp_48 rfl ?_
      refine s_160 0 12 29 20 rfl rfl ?_ ?_
      · exact s_jmp (v_8_setSignature_29 l _) trivial
      · refine s_43 21 rfl rfl ?_
        refine s_4 22 rfl ?_
        refine s_51B 23 rfl ?_
        refine s_28 24 rfl rfl ?_
        refine s_6 25 rfl ?_
        refine s_100 26 rfl ?_
        refine s_159 0 5 31 29 rfl rfl ?_ ?_
        · refine s_43 32 rfl rfl ?_
          refine s_6 33 rfl ?_
          refine s_51B 34 rfl ?_
          refine s_62L 35 rfl rfl (fun x1 => ?_)
          refine s_43 36 rfl rfl ?_
          refine s_5 37 rfl ?_
          refine s_51B 38 rfl ?_
          refine s_5 39 rfl ?_
          refine s_160 0 31 70 42 rfl rfl ?_ ?_
          · exact s_jmp (v_8_setSignature_70 l _) trivial
          · refine s_29 43 rfl rfl ?_
            refine s_4 44 rfl ?_
            refine s_161 0 26 70 47 rfl rfl ?_ ?_
            · exact s_jmp (v_8_setSignature_70 l _) trivial
            · refine s_29 48 rfl rfl ?_
              refine s_16 33 50 33 jbp_33 rfl ?_
              refine s_163 0 20 70 53 rfl rfl ?_ ?_
              · exact s_jmp (v_8_setSignature_70 l _) trivial
              · refine s_16 6 55 6 jbp_6 rfl ?_
                refine s_29 56 rfl rfl ?_
                refine s_96 57 rfl ?_
                refine s_28 58 rfl rfl ?_
                refine s_162 0 12 70 61 rfl rfl ?_ ?_
                · exact s_jmp (v_8_setSignature_70 l _) trivial
                · refine s_43 62 rfl rfl ?_
                  refine s_7 63 rfl ?_
                  refine s_29 64 rfl rfl ?_
                  refine s_96 65 rfl ?_
                  refine s_51B 66 rfl ?_
                  refine s_5 67 rfl ?_
                  refine s_159 0 5 72 70 rfl rfl ?_ ?_
                  · refine s_43 73 rfl rfl ?_
                    refine s_8 74 rfl ?_
                    refine s_29 75 rfl rfl ?_
                    refine s_96 76 rfl ?_
                    refine s_51B 77 rfl ?_
                    refine s_54L 4 79 rfl rfl (fun x2 => ?_)
                    refine s_21 4 81 rfl rfl ?_
                    refine s_4 82 rfl ?_
                    refine s_161 0 21 103 85 rfl rfl ?_ ?_
                    · exact s_jmp (v_8_setSignature_103 l _) trivial
                    · refine s_21 4 87 rfl rfl ?_
                      refine s_16 33 89 33 jbp_33 rfl ?_
                      refine s_163 0 14 103 92 rfl rfl ?_ ?_
                      · exact s_jmp (v_8_setSignature_103 l _) trivial
                      · refine s_16 7 94 7 jbp_7 rfl ?_
                        refine s_29 95 rfl rfl ?_
                        refine s_96 96 rfl ?_
                        refine s_21 4 98 rfl rfl ?_
                        refine s_96 99 rfl ?_
                        refine s_28 100 rfl rfl ?_
                        refine s_159 0 5 105 103 rfl rfl ?_ ?_
                        · refine s_42 106 rfl rfl ?_
                          refine s_43 107 rfl rfl ?_
                          refine s_28 108 rfl rfl ?_
                          refine s_4 109 rfl ?_
                          refine s_100 110 rfl ?_
                          refine s_51B 111 rfl ?_
                          refine s_17 0 255 114 255 jsp_0_255 rfl ?_
                          refine s_126 115 rfl ?_
                          refine s_181I 0 66 118 66 f_8_0 rfl rfl jw_97 rfl rfl (fun h3 => ?_)
                          refine s_42 119 rfl rfl ?_
                          refine s_180R 0 9 122 9 f_8_1 jw_99 rfl rfl ?_
                          refine s_43 123 rfl rfl ?_
                          refine s_7 124 rfl ?_
                          refine s_29 125 rfl rfl ?_
                          refine s_184I 0 70 128 70 (m_8_setNumber l _ _ _ _ _) rfl k_8_setNumber jw_1017 jw_1018 rfl rfl rfl rfl rfl (fun x4 h5 => ?_)
                          refine s_153 0 24 152 131 rfl rfl ?_ ?_
                          · exact s_jmp (v_8_setSignature_152 l _) trivial
                          · refine s_42 132 rfl rfl ?_
                            refine s_180R 0 15 135 15 f_8_2 jw_100 rfl rfl ?_
                            refine s_43 136 rfl rfl ?_
                            refine s_16 6 138 6 jbp_6 rfl ?_
                            refine s_29 139 rfl rfl ?_
                            refine s_96 140 rfl ?_
                            refine s_21 4 142 rfl rfl ?_
                            refine s_184I 0 70 145 70 (m_8_setNumber l _ _ _ _ _) rfl k_8_setNumber jw_1017 jw_1018 rfl rfl rfl rfl rfl (fun x6 h7 => ?_)
                            refine s_153 0 7 152 148 rfl rfl ?_ ?_
                            · exact s_jmp (v_8_setSignature_152 l _) trivial
                            · refine s_4 149 rfl ?_
                              refine s_167 0 4 153 rfl rfl ?_
                              exact s_jmp (v_8_setSignature_153 l _ _) trivial
                        · exact s_jmp (v_8_setSignature_103 l _) trivial
                  · exact s_jmp (v_8_setSignature_70 l _) trivial
        · exact s_jmp (v_8_setSignature_29 l _) trivial
theorem m_8_setSignature (l : Launch) (a0 : Nat) (a1 : Nat) (a2 : Int32) (H : jH) : JMet l y_8_setSignature prog_10_method_2_code mi_8_setSignature jeI [.ref a0, .ref a1, .int a2] H (F_8_setSignature a0 a1 a2 H) := jmet_of n_8_setSignature (by decide) ⟨rfl, rfl⟩ (Nat.le_of_ble_eq_true rfl) (v_8_setSignature l a0 a1 a2 H)
