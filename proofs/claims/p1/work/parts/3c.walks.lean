def mi_18_hangs : jM := (2535866247281670735492109667565410244888235303840934346629518937663412941937322339521424267042328411069188409776588722172463099000665160907856863120318407695413241198083, 70, 6, "CoinNodeModel", some FieldType.boolean, "hangs", 1, 26)
def y_18_hangs : MethodName := ⟨"CoinNodeModel", "hangs", "(I[BI)Z"⟩
theorem n_18_hangs : jn_is prog_14_method_22_code mi_18_hangs.1 mi_18_hangs.2.1 := by unfold jn_is; decide +kernel
theorem k_18_hangs : jmok y_18_hangs prog_14_method_22_code mi_18_hangs 3 := ⟨jw_2279, jw_14, ⟨by decide, by decide⟩, by decide +kernel⟩
theorem v_18_hangs_59 (l : Launch) (k6 : Nat → Int32 → Nat → Int32 → Int32 → Int32 → jH → Option (Int32 × jH)) (hk6 : ∀ a0 a1 a2 a3 a4 a5 H, JV l mi_18_hangs jeI 6 [(0, .ref a0), (1, .int a1), (2, .ref a2), (3, .int a3), (4, .int a4), (5, .int a5)] [] H (k6 a0 a1 a2 a3 a4 a5 H)) (a0 : Nat) (a1 : Int32) (a2 : Nat) (a3 : Int32) (a5 : Int32) (s0 : Int32) (H : jH) : JV l mi_18_hangs jeI 59 [(0, .ref a0), (1, .int a1), (2, .ref a2), (3, .int a3), (5, .int a5)] [.int s0] H (B_18_hangs_59 k6 a0 a1 a2 a3 a5 s0 H) := by
  unfold B_18_hangs_59
  refine s_54 4 61 rfl rfl ?_
  refine s_132L 5 1 64 1 ji_1 rfl rfl rfl (fun x1 => ?_)
  refine s_167 255 198 6 rfl rfl ?_
  exact s_jmp (hk6 _ _ _ _ _ _ _) ⟨rfl, rfl, rfl, rfl, rfl, rfl, trivial⟩
theorem v_18_hangs_54 (l : Launch) (k6 : Nat → Int32 → Nat → Int32 → Int32 → Int32 → jH → Option (Int32 × jH)) (hk6 : ∀ a0 a1 a2 a3 a4 a5 H, JV l mi_18_hangs jeI 6 [(0, .ref a0), (1, .int a1), (2, .ref a2), (3, .int a3), (4, .int a4), (5, .int a5)] [] H (k6 a0 a1 a2 a3 a4 a5 H)) (a0 : Nat) (a1 : Int32) (a2 : Nat) (a3 : Int32) (a5 : Int32) (H : jH) : JV l mi_18_hangs jeI 54 [(0, .ref a0), (1, .int a1), (2, .ref a2), (3, .int a3), (5, .int a5)] [] H (B_18_hangs_54 k6 a0 a1 a2 a3 a5 H) := by
  unfold B_18_hangs_54
  refine s_4 55 rfl ?_
  refine s_167 0 4 59 rfl rfl ?_
  exact s_jmp (v_18_hangs_59 l k6 hk6 _ _ _ _ _ _ _) ⟨rfl, rfl, rfl, rfl, rfl, trivial⟩
theorem v_18_hangs_6 (l : Launch) (k6 : Nat → Int32 → Nat → Int32 → Int32 → Int32 → jH → Option (Int32 × jH)) (hk6 : ∀ a0 a1 a2 a3 a4 a5 H, JV l mi_18_hangs jeI 6 [(0, .ref a0), (1, .int a1), (2, .ref a2), (3, .int a3), (4, .int a4), (5, .int a5)] [] H (k6 a0 a1 a2 a3 a4 a5 H)) (a0 : Nat) (a1 : Int32) (a2 : Nat) (a3 : Int32) (a4 : Int32) (a5 : Int32) (H : jH) : JV l mi_18_hangs jeI 6 [(0, .ref a0), (1, .int a1), (2, .ref a2), (3, .int a3), (4, .int a4), (5, .int a5)] [] H (B_18_hangs_6 k6 a0 a1 a2 a3 a4 a5 H) := by
  unfold B_18_hangs_6
  refine s_21 5 8 rfl rfl ?_
  refine s_42 9 rfl rfl ?_
  refine s_180R 0 140 12 140 f_18_41 jw_1651 rfl rfl ?_
  refine s_27 13 rfl rfl ?_
  refine s_46 14 rfl ?_
  refine s_162 0 53 67 17 rfl rfl ?_ ?_
  · refine s_21 4 69 rfl rfl ?_
    exact s_172Z rfl rfl
  · refine s_21 4 19 rfl rfl ?_
    refine s_154 0 35 54 22 rfl rfl ?_ ?_
    · exact s_jmp (v_18_hangs_54 l k6 hk6 _ _ _ _ _ _) ⟨rfl, rfl, rfl, rfl, rfl, trivial⟩
    · refine s_42 23 rfl rfl ?_
      refine s_180R 0 128 26 128 f_18_37 jw_1647 rfl rfl ?_
      refine s_17 7 208 29 2000 jsp_7_208 rfl ?_
      refine s_27 30 rfl rfl ?_
      refine s_104 31 rfl ?_
      refine s_42 32 rfl rfl ?_
      refine s_180R 0 143 35 143 f_18_42 jw_1652 rfl rfl ?_
      refine s_16 8 37 8 jbp_8 rfl ?_
      refine s_27 38 rfl rfl ?_
      refine s_104 39 rfl ?_
      refine s_21 5 41 rfl rfl ?_
      refine s_96 42 rfl ?_
      refine s_46 43 rfl ?_
      refine s_96 44 rfl ?_
      refine s_44 45 rfl rfl ?_
      refine s_29 46 rfl rfl ?_
      refine s_16 32 48 32 jbp_32 rfl ?_
      refine s_184I 0 187 51 187 (m_18_like l _ _ _ _ _ _) rfl k_18_like jw_1876 jw_1877 rfl rfl rfl rfl rfl (fun x2 h3 => ?_)
      refine s_153 0 7 58 54 rfl rfl ?_ ?_
      · refine s_3 59 rfl ?_
        exact s_jmp (v_18_hangs_59 l k6 hk6 _ _ _ _ _ _ _) ⟨rfl, rfl, rfl, rfl, rfl, trivial⟩
      · exact s_jmp (v_18_hangs_54 l k6 hk6 _ _ _ _ _ _) ⟨rfl, rfl, rfl, rfl, rfl, trivial⟩
theorem w_18_hangs_6 (l : Launch)  (n : Nat) : ∀ a0 a1 a2 a3 a4 a5 H, JV l mi_18_hangs jeI 6 [(0, .ref a0), (1, .int a1), (2, .ref a2), (3, .int a3), (4, .int a4), (5, .int a5)] [] H (F_18_hangs_6  n a0 a1 a2 a3 a4 a5 H) := by
  induction n with
  | zero => intro _ _ _ _ _ _ _; exact s_none
  | succ n ih => intro a0 a1 a2 a3 a4 a5 H; exact v_18_hangs_6 l (F_18_hangs_6  n) ih a0 a1 a2 a3 a4 a5 H
theorem v_18_hangs (l : Launch) (a0 : Nat) (a1 : Int32) (a2 : Nat) (a3 : Int32) (H : jH) : JV l mi_18_hangs jeI 0 [(0, .ref a0), (1, .int a1), (2, .ref a2), (3, .int a3)] [] H (F_18_hangs a0 a1 a2 a3 H) := by
  unfold F_18_hangs
  refine s_3 1 rfl ?_
  refine s_54 4 3 rfl rfl ?_
  refine s_3 4 rfl ?_
  refine s_54 5 6 rfl rfl ?_
  exact s_jmp (w_18_hangs_6 l jfuel _ _ _ _ _ _ _) ⟨rfl, rfl, rfl, rfl, rfl, rfl, trivial⟩
theorem m_18_hangs (l : Launch) (a0 : Nat) (a1 : Int32) (a2 : Nat) (a3 : Int32) (H : jH) : JMet l y_18_hangs prog_14_method_22_code mi_18_hangs jeI [.ref a0, .int a1, .ref a2, .int a3] H (F_18_hangs a0 a1 a2 a3 H) := jmet_of n_18_hangs (by decide) ⟨rfl, rfl⟩ (Nat.le_of_ble_eq_true rfl) (v_18_hangs l a0 a1 a2 a3 H)
def mi_18_family : jM := (7435781631853198006432762829372413449445591949024756140376888560455424786715757473233360784633939927946388308105593864393998629105494420865682264489440704271628101711578167547186043902661913576486527478813140674102019407986405483935538052852872911063762794435732665702765687373119989782465253356682755, 125, 6, "CoinNodeModel", none, "family", 2, 51)
def y_18_family : MethodName := ⟨"CoinNodeModel", "family", "([BI)V"⟩
theorem n_18_family : jn_is prog_14_method_23_code mi_18_family.1 mi_18_family.2.1 := by unfold jn_is; decide +kernel
theorem k_18_family : jmok y_18_family prog_14_method_23_code mi_18_family 2 := ⟨jw_2275, jw_14, ⟨by decide, by decide⟩, by decide +kernel⟩
theorem v_18_family_109 (l : Launch) (k52 : Nat → Int32 → Int32 → Int32 → jH → Option (Unit × jH)) (hk52 : ∀ a0 a3 a4 a5 H, JV l mi_18_family jeV 52 [(0, .ref a0), (3, .int a3), (4, .int a4), (5, .int a5)] [] H (k52 a0 a3 a4 a5 H)) (a0 : Nat) (a3 : Int32) (a4 : Int32) (a5 : Int32) (H : jH) : JV l mi_18_family jeV 109 [(0, .ref a0), (3, .int a3), (4, .int a4), (5, .int a5)] [] H (B_18_family_109 k52 a0 a3 a4 a5 H) := by
  unfold B_18_family_109
  refine s_132L 5 1 112 1 ji_1 rfl rfl rfl (fun x1 => ?_)
  refine s_167 255 196 52 rfl rfl ?_
  exact s_jmp (hk52 _ _ _ _ _) ⟨rfl, rfl, rfl, rfl, trivial⟩
theorem v_18_family_115 (l : Launch) (k40 : Nat → Int32 → Int32 → jH → Option (Unit × jH)) (hk40 : ∀ a0 a3 a4 H, JV l mi_18_family jeV 40 [(0, .ref a0), (3, .int a3), (4, .int a4)] [] H (k40 a0 a3 a4 H)) (a0 : Nat) (a3 : Int32) (a4 : Int32) (H : jH) : JV l mi_18_family jeV 115 [(0, .ref a0), (3, .int a3), (4, .int a4)] [] H (B_18_family_115 k40 a0 a3 a4 H) := by
  unfold B_18_family_115
  refine s_132L 4 1 118 1 ji_1 rfl rfl rfl (fun x2 => ?_)
  refine s_167 255 178 40 rfl rfl ?_
  exact s_jmp (hk40 _ _ _ _) ⟨rfl, rfl, rfl, trivial⟩
theorem v_18_family_52 (l : Launch) (k40 : Nat → Int32 → Int32 → jH → Option (Unit × jH)) (hk40 : ∀ a0 a3 a4 H, JV l mi_18_family jeV 40 [(0, .ref a0), (3, .int a3), (4, .int a4)] [] H (k40 a0 a3 a4 H)) (k52 : Nat → Int32 → Int32 → Int32 → jH → Option (Unit × jH)) (hk52 : ∀ a0 a3 a4 a5 H, JV l mi_18_family jeV 52 [(0, .ref a0), (3, .int a3), (4, .int a4), (5, .int a5)] [] H (k52 a0 a3 a4 a5 H)) (a0 : Nat) (a3 : Int32) (a4 : Int32) (a5 : Int32) (H : jH) : JV l mi_18_family jeV 52 [(0, .ref a0), (3, .int a3), (4, .int a4), (5, .int a5)] [] H (B_18_family_52 k40 k52 a0 a3 a4 a5 H) := by
  unfold B_18_family_52
  refine s_21 5 54 rfl rfl ?_
  refine s_42 55 rfl rfl ?_
  refine s_180I 1 97 58 353 f_18_36 jw_1646 rfl rfl ?_
  refine s_162 0 57 115 61 rfl rfl ?_ ?_
  · exact s_jmp (v_18_family_115 l k40 hk40 _ _ _ _) ⟨rfl, rfl, rfl, trivial⟩
  · refine s_42 62 rfl rfl ?_
    refine s_180R 0 149 65 149 f_18_44 jw_1654 rfl rfl ?_
    refine s_21 4 67 rfl rfl ?_
    refine s_51Z 68 rfl ?_
    refine s_154 0 47 115 71 rfl rfl ?_ ?_
    · exact s_jmp (v_18_family_115 l k40 hk40 _ _ _ _) ⟨rfl, rfl, rfl, trivial⟩
    · refine s_42 72 rfl rfl ?_
      refine s_180R 0 149 75 149 f_18_44 jw_1654 rfl rfl ?_
      refine s_21 5 77 rfl rfl ?_
      refine s_51Z 78 rfl ?_
      refine s_153 0 31 109 81 rfl rfl ?_ ?_
      · exact s_jmp (v_18_family_109 l k52 hk52 _ _ _ _ _) ⟨rfl, rfl, rfl, rfl, trivial⟩
      · refine s_42 82 rfl rfl ?_
        refine s_21 4 84 rfl rfl ?_
        refine s_42 85 rfl rfl ?_
        refine s_180R 0 134 88 134 f_18_39 jw_1649 rfl rfl ?_
        refine s_16 32 90 32 jbp_32 rfl ?_
        refine s_21 5 92 rfl rfl ?_
        refine s_104 93 rfl ?_
        refine s_182I 1 100 96 356 (m_18_hangs l _ _ _ _ _) rfl k_18_hangs jc_18 jw_2276 jw_2278 jps_136 rfl rfl rfl rfl rfl (fun x3 h4 => ?_)
        refine s_153 0 13 109 99 rfl rfl ?_ ?_
        · exact s_jmp (v_18_family_109 l k52 hk52 _ _ _ _ _) ⟨rfl, rfl, rfl, rfl, trivial⟩
        · refine s_42 100 rfl rfl ?_
          refine s_180R 0 149 103 149 f_18_44 jw_1654 rfl rfl ?_
          refine s_21 4 105 rfl rfl ?_
          refine s_4 106 rfl ?_
          refine s_84Z 107 rfl (fun h5 => ?_)
          refine s_4 108 rfl ?_
          refine s_62 109 rfl rfl ?_
          exact s_jmp (v_18_family_109 l k52 hk52 _ _ _ _ _) ⟨rfl, rfl, rfl, rfl, trivial⟩
theorem w_18_family_52 (l : Launch) (k40 : Nat → Int32 → Int32 → jH → Option (Unit × jH)) (hk40 : ∀ a0 a3 a4 H, JV l mi_18_family jeV 40 [(0, .ref a0), (3, .int a3), (4, .int a4)] [] H (k40 a0 a3 a4 H)) (n : Nat) : ∀ a0 a3 a4 a5 H, JV l mi_18_family jeV 52 [(0, .ref a0), (3, .int a3), (4, .int a4), (5, .int a5)] [] H (F_18_family_52 k40 n a0 a3 a4 a5 H) := by
  induction n with
  | zero => intro _ _ _ _ _; exact s_none
  | succ n ih => intro a0 a3 a4 a5 H; exact v_18_family_52 l k40 hk40 (F_18_family_52 k40 n) ih a0 a3 a4 a5 H
theorem v_18_family_40 (l : Launch) (k31 : Nat → Int32 → jH → Option (Unit × jH)) (hk31 : ∀ a0 a3 H, JV l mi_18_family jeV 31 [(0, .ref a0), (3, .int a3)] [] H (k31 a0 a3 H)) (k40 : Nat → Int32 → Int32 → jH → Option (Unit × jH)) (hk40 : ∀ a0 a3 a4 H, JV l mi_18_family jeV 40 [(0, .ref a0), (3, .int a3), (4, .int a4)] [] H (k40 a0 a3 a4 H)) (a0 : Nat) (a3 : Int32) (a4 : Int32) (H : jH) : JV l mi_18_family jeV 40 [(0, .ref a0), (3, .int a3), (4, .int a4)] [] H (B_18_family_40 k31 k40 a0 a3 a4 H) := by
  unfold B_18_family_40
  refine s_21 4 42 rfl rfl ?_
  refine s_42 43 rfl rfl ?_
  refine s_180I 1 97 46 353 f_18_36 jw_1646 rfl rfl ?_
  refine s_162 0 75 121 49 rfl rfl ?_ ?_
  · refine s_167 255 166 31 rfl rfl ?_
    exact s_jmp (hk31 _ _ _) ⟨rfl, rfl, trivial⟩
  · refine s_3 50 rfl ?_
    refine s_54 5 52 rfl rfl ?_
    exact s_jmp (w_18_family_52 l k40 hk40 jfuel _ _ _ _ _) ⟨rfl, rfl, rfl, rfl, trivial⟩
theorem w_18_family_40 (l : Launch) (k31 : Nat → Int32 → jH → Option (Unit × jH)) (hk31 : ∀ a0 a3 H, JV l mi_18_family jeV 31 [(0, .ref a0), (3, .int a3)] [] H (k31 a0 a3 H)) (n : Nat) : ∀ a0 a3 a4 H, JV l mi_18_family jeV 40 [(0, .ref a0), (3, .int a3), (4, .int a4)] [] H (F_18_family_40 k31 n a0 a3 a4 H) := by
  induction n with
  | zero => intro _ _ _ _; exact s_none
  | succ n ih => intro a0 a3 a4 H; exact v_18_family_40 l k31 hk31 (F_18_family_40 k31 n) ih a0 a3 a4 H
theorem v_18_family_31 (l : Launch) (k31 : Nat → Int32 → jH → Option (Unit × jH)) (hk31 : ∀ a0 a3 H, JV l mi_18_family jeV 31 [(0, .ref a0), (3, .int a3)] [] H (k31 a0 a3 H)) (a0 : Nat) (a3 : Int32) (H : jH) : JV l mi_18_family jeV 31 [(0, .ref a0), (3, .int a3)] [] H (B_18_family_31 k31 a0 a3 H) := by
  unfold B_18_family_31
  refine s_29 32 rfl rfl ?_
  refine s_153 0 92 124 35 rfl rfl ?_ ?_
  · exact s_177 rfl rfl
  · refine s_3 36 rfl ?_
    refine s_62 37 rfl rfl ?_
    refine s_3 38 rfl ?_
    refine s_54 4 40 rfl rfl ?_
    exact s_jmp (w_18_family_40 l k31 hk31 jfuel _ _ _ _) ⟨rfl, rfl, rfl, trivial⟩
theorem w_18_family_31 (l : Launch)  (n : Nat) : ∀ a0 a3 H, JV l mi_18_family jeV 31 [(0, .ref a0), (3, .int a3)] [] H (F_18_family_31  n a0 a3 H) := by
  induction n with
  | zero => intro _ _ _; exact s_none
  | succ n ih => intro a0 a3 H; exact v_18_family_31 l (F_18_family_31  n) ih a0 a3 H
theorem v_18_family_2 (l : Launch) (k2 : Nat → Nat → Int32 → Int32 → jH → Option (Unit × jH)) (hk2 : ∀ a0 a1 a2 a3 H, JV l mi_18_family jeV 2 [(0, .ref a0), (1, .ref a1), (2, .int a2), (3, .int a3)] [] H (k2 a0 a1 a2 a3 H)) (a0 : Nat) (a1 : Nat) (a2 : Int32) (a3 : Int32) (H : jH) : JV l mi_18_family jeV 2 [(0, .ref a0), (1, .ref a1), (2, .int a2), (3, .int a3)] [] H (B_18_family_2 k2 a0 a1 a2 a3 H) := by
  unfold B_18_family_2
  refine s_29 3 rfl rfl ?_
  refine s_42 4 rfl rfl ?_
  refine s_180I 1 97 7 353 f_18_36 jw_1646 rfl rfl ?_
  refine s_162 0 22 29 10 rfl rfl ?_ ?_
  · refine s_4 30 rfl ?_
    refine s_62 31 rfl rfl ?_
    exact s_jmp (w_18_family_31 l jfuel _ _ _) ⟨rfl, rfl, trivial⟩
  · refine s_42 11 rfl rfl ?_
    refine s_180R 0 149 14 149 f_18_44 jw_1654 rfl rfl ?_
    refine s_29 15 rfl rfl ?_
    refine s_42 16 rfl rfl ?_
    refine s_29 17 rfl rfl ?_
    refine s_43 18 rfl rfl ?_
    refine s_28 19 rfl rfl ?_
    refine s_182I 1 100 22 356 (m_18_hangs l _ _ _ _ _) rfl k_18_hangs jc_18 jw_2276 jw_2278 jps_136 rfl rfl rfl rfl rfl (fun x6 h7 => ?_)
    refine s_84Z 23 rfl (fun h8 => ?_)
    refine s_132L 3 1 26 1 ji_1 rfl rfl rfl (fun x9 => ?_)
    refine s_167 255 232 2 rfl rfl ?_
    exact s_jmp (hk2 _ _ _ _ _) ⟨rfl, rfl, rfl, rfl, trivial⟩
theorem w_18_family_2 (l : Launch)  (n : Nat) : ∀ a0 a1 a2 a3 H, JV l mi_18_family jeV 2 [(0, .ref a0), (1, .ref a1), (2, .int a2), (3, .int a3)] [] H (F_18_family_2  n a0 a1 a2 a3 H) := by
  induction n with
  | zero => intro _ _ _ _ _; exact s_none
  | succ n ih => intro a0 a1 a2 a3 H; exact v_18_family_2 l (F_18_family_2  n) ih a0 a1 a2 a3 H
theorem v_18_family (l : Launch) (a0 : Nat) (a1 : Nat) (a2 : Int32) (H : jH) : JV l mi_18_family jeV 0 [(0, .ref a0), (1, .ref a1), (2, .int a2)] [] H (F_18_family a0 a1 a2 H) := by
  unfold F_18_family
  refine s_3 1 rfl ?_
  refine s_62 2 rfl rfl ?_
  exact s_jmp (w_18_family_2 l jfuel _ _ _ _ _) ⟨rfl, rfl, rfl, rfl, trivial⟩
theorem m_18_family (l : Launch) (a0 : Nat) (a1 : Nat) (a2 : Int32) (H : jH) : JMet l y_18_family prog_14_method_23_code mi_18_family jeV [.ref a0, .ref a1, .int a2] H (F_18_family a0 a1 a2 H) := jmet_of n_18_family (by decide) ⟨rfl, rfl⟩ (Nat.le_of_ble_eq_true rfl) (v_18_family l a0 a1 a2 H)
def mi_18_compare : jM := (42543742561983726151289699905081002677225412800183763826057335197544790897346309963999151577621955473223564442984822542209469768108693763146398418398905061431576185873858633758, 73, 12, "CoinNodeModel", some FieldType.int, "compare", 0, 0)
def y_18_compare : MethodName := ⟨"CoinNodeModel", "compare", "(JJJJ)I"⟩
theorem n_18_compare : jn_is prog_14_method_24_code mi_18_compare.1 mi_18_compare.2.1 := by unfold jn_is; decide +kernel
theorem k_18_compare : jmok y_18_compare prog_14_method_24_code mi_18_compare 4 := ⟨jw_2286, jw_14, ⟨by decide, by decide⟩, by decide +kernel⟩
theorem v_18_compare_29 (l : Launch)  (s0 : Int32) (H : jH) : JV l mi_18_compare jeI 29 [] [.int s0] H (B_18_compare_29  s0 H) := by
  unfold B_18_compare_29
  exact s_172 rfl rfl
theorem v_18_compare_72 (l : Launch)  (s0 : Int32) (H : jH) : JV l mi_18_compare jeI 72 [] [.int s0] H (B_18_compare_72  s0 H) := by
  unfold B_18_compare_72
  exact s_172 rfl rfl
theorem v_18_compare (l : Launch) (a0 : Int64) (a2 : Int64) (a4 : Int64) (a6 : Int64) (H : jH) : JV l mi_18_compare jeI 0 [(0, .long a0), (2, .long a2), (4, .long a4), (6, .long a6)] [] H (F_18_compare a0 a2 a4 a6 H) := by
  unfold F_18_compare
  refine s_30 1 rfl rfl ?_
  refine s_32 2 rfl rfl ?_
  refine s_109 3 rfl ?_
  refine s_22 4 5 rfl rfl ?_
  refine s_22 6 7 rfl rfl ?_
  refine s_109 8 rfl ?_
  refine s_148_153 0 21 30 9 12 rfl rfl rfl ?_ ?_
  · refine s_30 31 rfl rfl ?_
    refine s_32 32 rfl rfl ?_
    refine s_113 33 rfl ?_
    refine s_22 6 35 rfl rfl ?_
    refine s_105 36 rfl ?_
    refine s_55L 8 38 rfl rfl (fun x1 => ?_)
    refine s_22 4 40 rfl rfl ?_
    refine s_22 6 42 rfl rfl ?_
    refine s_113 43 rfl ?_
    refine s_32 44 rfl rfl ?_
    refine s_105 45 rfl ?_
    refine s_55L 10 47 rfl rfl (fun x2 => ?_)
    refine s_22 8 49 rfl rfl ?_
    refine s_22 10 51 rfl rfl ?_
    refine s_148_156 0 7 59 52 55 rfl rfl rfl ?_ ?_
    · refine s_22 8 61 rfl rfl ?_
      refine s_22 10 63 rfl rfl ?_
      refine s_148_158 0 7 71 64 67 rfl rfl rfl ?_ ?_
      · refine s_3 72 rfl ?_
        exact s_jmp (v_18_compare_72 l _ _) trivial
      · refine s_4 68 rfl ?_
        refine s_167 0 4 72 rfl rfl ?_
        exact s_jmp (v_18_compare_72 l _ _) trivial
    · refine s_2 56 rfl ?_
      refine s_167 0 16 72 rfl rfl ?_
      exact s_jmp (v_18_compare_72 l _ _) trivial
  · refine s_30 13 rfl rfl ?_
    refine s_32 14 rfl rfl ?_
    refine s_109 15 rfl ?_
    refine s_22 4 17 rfl rfl ?_
    refine s_22 6 19 rfl rfl ?_
    refine s_109 20 rfl ?_
    refine s_148_156 0 7 28 21 24 rfl rfl rfl ?_ ?_
    · refine s_4 29 rfl ?_
      exact s_jmp (v_18_compare_29 l _ _) trivial
    · refine s_2 25 rfl ?_
      refine s_167 0 4 29 rfl rfl ?_
      exact s_jmp (v_18_compare_29 l _ _) trivial
theorem m_18_compare (l : Launch) (a0 : Int64) (a2 : Int64) (a4 : Int64) (a6 : Int64) (H : jH) : JMet l y_18_compare prog_14_method_24_code mi_18_compare jeI [.long a0, .long a2, .long a4, .long a6] H (F_18_compare a0 a2 a4 a6 H) := jmet_of n_18_compare (by decide) ⟨rfl, rfl⟩ (Nat.le_of_ble_eq_true rfl) (v_18_compare l a0 a2 a4 a6 H)
def mi_18_evict : jM := (7820014111544951552974989001966487909477921721029357560709958995203254840548043744810537999381711108837185092632310972966103814980716100671781664150748427572514953804895680248105365003642558085447880244303629941680276090765871991247839038908900269666830433687751170069586415915880546728071560269444363444800580323885706485190205509927524994907779954370990172809836547058410032310869613632569672732839945115952289757228782943169711618519775004364556079378426446930897090297594324112117120250085982262846910037545961450468535695411792597752949543483234754219380837454863791762951038407000901349958475696285160036623690247737301605419711375826452209883366598290491359533751271541603726346124729577470728777259998803016424791462071076965612501412263784184768540247512336742177554609229223508436581476626396974505709580902974420914694973820379663683347626335204566333511799122057055261070222460052304308288059589657873561260490541802293079731886353311048836763403286104766848135077234383966121867730905538618801154, 419, 12, "CoinNodeModel", none, "evict", 3, 76)
def y_18_evict : MethodName := ⟨"CoinNodeModel", "evict", "()V"⟩
theorem n_18_evict : jn_is prog_14_method_25_code mi_18_evict.1 mi_18_evict.2.1 := by unfold jn_is; decide +kernel
theorem k_18_evict : jmok y_18_evict prog_14_method_25_code mi_18_evict 0 := ⟨jw_2283, jw_14, ⟨by decide, by decide⟩, by decide +kernel⟩
theorem v_18_evict_108 (l : Launch) (k49 : Nat → Int32 → Int64 → Int64 → Int32 → Int64 → Int64 → Int32 → jH → Option (Unit × jH)) (hk49 : ∀ a0 a1 a2 a4 a6 a7 a9 a11 H, JV l mi_18_evict jeV 49 [(0, .ref a0), (1, .int a1), (2, .long a2), (4, .long a4), (6, .int a6), (7, .long a7), (9, .long a9), (11, .int a11)] [] H (k49 a0 a1 a2 a4 a6 a7 a9 a11 H)) (a0 : Nat) (a1 : Int32) (a2 : Int64) (a4 : Int64) (a6 : Int32) (a7 : Int64) (a11 : Int32) (s0 : Int64) (s1 : Int64) (H : jH) : JV l mi_18_evict jeV 108 [(0, .ref a0), (1, .int a1), (2, .long a2), (4, .long a4), (6, .int a6), (7, .long a7), (11, .int a11)] [.long s1, .long s0] H (B_18_evict_108 k49 a0 a1 a2 a4 a6 a7 a11 s0 s1 H) := by
  unfold B_18_evict_108
  refine s_97 109 rfl ?_
  refine s_55L 9 111 rfl rfl (fun x1 => ?_)
  refine s_132L 11 1 114 1 ji_1 rfl rfl rfl (fun x2 => ?_)
  refine s_167 255 191 49 rfl rfl ?_
  exact s_jmp (hk49 _ _ _ _ _ _ _ _ _) ⟨rfl, rfl, rfl, rfl, rfl, rfl, rfl, rfl, trivial⟩
theorem v_18_evict_81 (l : Launch) (k49 : Nat → Int32 → Int64 → Int64 → Int32 → Int64 → Int64 → Int32 → jH → Option (Unit × jH)) (hk49 : ∀ a0 a1 a2 a4 a6 a7 a9 a11 H, JV l mi_18_evict jeV 49 [(0, .ref a0), (1, .int a1), (2, .long a2), (4, .long a4), (6, .int a6), (7, .long a7), (9, .long a9), (11, .int a11)] [] H (k49 a0 a1 a2 a4 a6 a7 a9 a11 H)) (a0 : Nat) (a1 : Int32) (a2 : Int64) (a4 : Int64) (a6 : Int32) (a9 : Int64) (a11 : Int32) (s0 : Int64) (s1 : Int64) (H : jH) : JV l mi_18_evict jeV 81 [(0, .ref a0), (1, .int a1), (2, .long a2), (4, .long a4), (6, .int a6), (9, .long a9), (11, .int a11)] [.long s1, .long s0] H (B_18_evict_81 k49 a0 a1 a2 a4 a6 a9 a11 s0 s1 H) := by
  unfold B_18_evict_81
  refine s_97 82 rfl ?_
  refine s_jmp (ls' := [(0, .ref a0), (1, .int a1), (2, .long a2), (4, .long a4), (6, .int a6), (9, .long a9), (11, .int a11)]) ?_ ⟨rfl, rfl, rfl, rfl, rfl, rfl, rfl, trivial⟩
  refine s_55L 7 84 rfl rfl (fun x3 => ?_)
  refine s_22 9 86 rfl rfl ?_
  refine s_42 87 rfl rfl ?_
  refine s_180R 0 149 90 149 f_18_44 jw_1654 rfl rfl ?_
  refine s_21 11 92 rfl rfl ?_
  refine s_51Z 93 rfl ?_
  refine s_153 0 14 107 96 rfl rfl ?_ ?_
  · refine s_9 108 rfl ?_
    exact s_jmp (v_18_evict_108 l k49 hk49 _ _ _ _ _ _ _ _ _ _) ⟨rfl, rfl, rfl, rfl, rfl, rfl, rfl, trivial⟩
  · refine s_42 97 rfl rfl ?_
    refine s_180R 0 131 100 131 f_18_38 jw_1648 rfl rfl ?_
    refine s_21 11 102 rfl rfl ?_
    refine s_46 103 rfl ?_
    refine s_133 104 rfl ?_
    refine s_167 0 4 108 rfl rfl ?_
    exact s_jmp (v_18_evict_108 l k49 hk49 _ _ _ _ _ _ _ _ _ _) ⟨rfl, rfl, rfl, rfl, rfl, rfl, rfl, trivial⟩
theorem v_18_evict_144 (l : Launch) (k10 : Nat → Int32 → Int64 → Int64 → Int32 → jH → Option (Unit × jH)) (hk10 : ∀ a0 a1 a2 a4 a6 H, JV l mi_18_evict jeV 10 [(0, .ref a0), (1, .int a1), (2, .long a2), (4, .long a4), (6, .int a6)] [] H (k10 a0 a1 a2 a4 a6 H)) (a0 : Nat) (a1 : Int32) (a2 : Int64) (a4 : Int64) (a6 : Int32) (H : jH) : JV l mi_18_evict jeV 144 [(0, .ref a0), (1, .int a1), (2, .long a2), (4, .long a4), (6, .int a6)] [] H (B_18_evict_144 k10 a0 a1 a2 a4 a6 H) := by
  unfold B_18_evict_144
  refine s_132L 6 1 147 1 ji_1 rfl rfl rfl (fun x4 => ?_)
  refine s_167 255 119 10 rfl rfl ?_
  exact s_jmp (hk10 _ _ _ _ _ _) ⟨rfl, rfl, rfl, rfl, rfl, trivial⟩
theorem v_18_evict_134 (l : Launch) (k10 : Nat → Int32 → Int64 → Int64 → Int32 → jH → Option (Unit × jH)) (hk10 : ∀ a0 a1 a2 a4 a6 H, JV l mi_18_evict jeV 10 [(0, .ref a0), (1, .int a1), (2, .long a2), (4, .long a4), (6, .int a6)] [] H (k10 a0 a1 a2 a4 a6 H)) (a0 : Nat) (a6 : Int32) (a7 : Int64) (a9 : Int64) (H : jH) : JV l mi_18_evict jeV 134 [(0, .ref a0), (6, .int a6), (7, .long a7), (9, .long a9)] [] H (B_18_evict_134 k10 a0 a6 a7 a9 H) := by
  unfold B_18_evict_134
  refine s_21 6 136 rfl rfl ?_
  refine s_60 137 rfl rfl ?_
  refine s_22 7 139 rfl rfl ?_
  refine s_65 140 rfl rfl ?_
  refine s_22 9 142 rfl rfl ?_
  refine s_55 4 144 rfl rfl ?_
  exact s_jmp (v_18_evict_144 l k10 hk10 _ _ _ _ _ _) ⟨rfl, rfl, rfl, rfl, rfl, trivial⟩
theorem v_18_evict_49 (l : Launch) (k10 : Nat → Int32 → Int64 → Int64 → Int32 → jH → Option (Unit × jH)) (hk10 : ∀ a0 a1 a2 a4 a6 H, JV l mi_18_evict jeV 10 [(0, .ref a0), (1, .int a1), (2, .long a2), (4, .long a4), (6, .int a6)] [] H (k10 a0 a1 a2 a4 a6 H)) (k49 : Nat → Int32 → Int64 → Int64 → Int32 → Int64 → Int64 → Int32 → jH → Option (Unit × jH)) (hk49 : ∀ a0 a1 a2 a4 a6 a7 a9 a11 H, JV l mi_18_evict jeV 49 [(0, .ref a0), (1, .int a1), (2, .long a2), (4, .long a4), (6, .int a6), (7, .long a7), (9, .long a9), (11, .int a11)] [] H (k49 a0 a1 a2 a4 a6 a7 a9 a11 H)) (a0 : Nat) (a1 : Int32) (a2 : Int64) (a4 : Int64) (a6 : Int32) (a7 : Int64) (a9 : Int64) (a11 : Int32) (H : jH) : JV l mi_18_evict jeV 49 [(0, .ref a0), (1, .int a1), (2, .long a2), (4, .long a4), (6, .int a6), (7, .long a7), (9, .long a9), (11, .int a11)] [] H (B_18_evict_49 k10 k49 a0 a1 a2 a4 a6 a7 a9 a11 H) := by
  unfold B_18_evict_49
  refine s_21 11 51 rfl rfl ?_
  refine s_42 52 rfl rfl ?_
  refine s_180I 1 97 55 353 f_18_36 jw_1646 rfl rfl ?_
  refine s_162 0 62 117 58 rfl rfl ?_ ?_
  · refine s_27 118 rfl rfl ?_
    refine s_155 0 16 134 121 rfl rfl ?_ ?_
    · exact s_jmp (v_18_evict_134 l k10 hk10 _ _ _ _ _) ⟨rfl, rfl, rfl, rfl, trivial⟩
    · refine s_22 7 123 rfl rfl ?_
      refine s_22 9 125 rfl rfl ?_
      refine s_32 126 rfl rfl ?_
      refine s_22 4 128 rfl rfl ?_
      refine s_184I 1 108 131 364 (m_18_compare l _ _ _ _ _) rfl k_18_compare jw_2284 jw_2285 rfl rfl rfl rfl rfl (fun x5 h6 => ?_)
      refine s_157 0 13 144 134 rfl rfl ?_ ?_
      · exact s_jmp (v_18_evict_144 l k10 hk10 _ _ _ _ _ _) ⟨rfl, rfl, rfl, rfl, rfl, trivial⟩
      · exact s_jmp (v_18_evict_134 l k10 hk10 _ _ _ _ _) ⟨rfl, rfl, rfl, rfl, trivial⟩
  · refine s_22 7 60 rfl rfl ?_
    refine s_42 61 rfl rfl ?_
    refine s_180R 0 149 64 149 f_18_44 jw_1654 rfl rfl ?_
    refine s_21 11 66 rfl rfl ?_
    refine s_51Z 67 rfl ?_
    refine s_153 0 13 80 70 rfl rfl ?_ ?_
    · refine s_9 81 rfl ?_
      exact s_jmp (v_18_evict_81 l k49 hk49 _ _ _ _ _ _ _ _ _ _) ⟨rfl, rfl, rfl, rfl, rfl, rfl, rfl, trivial⟩
    · refine s_42 71 rfl rfl ?_
      refine s_180R 0 137 74 137 f_18_40 jw_1650 rfl rfl ?_
      refine s_21 11 76 rfl rfl ?_
      refine s_47 77 rfl ?_
      refine s_167 0 4 81 rfl rfl ?_
      exact s_jmp (v_18_evict_81 l k49 hk49 _ _ _ _ _ _ _ _ _ _) ⟨rfl, rfl, rfl, rfl, rfl, rfl, rfl, trivial⟩
theorem w_18_evict_49 (l : Launch) (k10 : Nat → Int32 → Int64 → Int64 → Int32 → jH → Option (Unit × jH)) (hk10 : ∀ a0 a1 a2 a4 a6 H, JV l mi_18_evict jeV 10 [(0, .ref a0), (1, .int a1), (2, .long a2), (4, .long a4), (6, .int a6)] [] H (k10 a0 a1 a2 a4 a6 H)) (n : Nat) : ∀ a0 a1 a2 a4 a6 a7 a9 a11 H, JV l mi_18_evict jeV 49 [(0, .ref a0), (1, .int a1), (2, .long a2), (4, .long a4), (6, .int a6), (7, .long a7), (9, .long a9), (11, .int a11)] [] H (F_18_evict_49 k10 n a0 a1 a2 a4 a6 a7 a9 a11 H) := by
  induction n with
  | zero => intro _ _ _ _ _ _ _ _ _; exact s_none
  | succ n ih => intro a0 a1 a2 a4 a6 a7 a9 a11 H; exact v_18_evict_49 l k10 hk10 (F_18_evict_49 k10 n) ih a0 a1 a2 a4 a6 a7 a9 a11 H
theorem v_18_evict_406 (l : Launch) (k175 : Nat → Int32 → Int32 → jH → Option (Unit × jH)) (hk175 : ∀ a0 a6 a7 H, JV l mi_18_evict jeV 175 [(0, .ref a0), (6, .int a6), (7, .int a7)] [] H (k175 a0 a6 a7 H)) (a0 : Nat) (a6 : Int32) (a7 : Int32) (H : jH) : JV l mi_18_evict jeV 406 [(0, .ref a0), (6, .int a6), (7, .int a7)] [] H (B_18_evict_406 k175 a0 a6 a7 H) := by
  unfold B_18_evict_406
  refine s_132L 7 1 409 1 ji_1 rfl rfl rfl (fun x7 => ?_)
  refine s_167 255 22 175 rfl rfl ?_
  exact s_jmp (hk175 _ _ _ _) ⟨rfl, rfl, rfl, trivial⟩
theorem v_18_evict_333 (l : Launch) (k175 : Nat → Int32 → Int32 → jH → Option (Unit × jH)) (hk175 : ∀ a0 a6 a7 H, JV l mi_18_evict jeV 175 [(0, .ref a0), (6, .int a6), (7, .int a7)] [] H (k175 a0 a6 a7 H)) (k333 : Nat → Int32 → Int32 → Int32 → jH → Option (Unit × jH)) (hk333 : ∀ a0 a6 a7 a8 H, JV l mi_18_evict jeV 333 [(0, .ref a0), (6, .int a6), (7, .int a7), (8, .int a8)] [] H (k333 a0 a6 a7 a8 H)) (a0 : Nat) (a6 : Int32) (a7 : Int32) (a8 : Int32) (H : jH) : JV l mi_18_evict jeV 333 [(0, .ref a0), (6, .int a6), (7, .int a7), (8, .int a8)] [] H (B_18_evict_333 k175 k333 a0 a6 a7 a8 H) := by
  unfold B_18_evict_333
  refine s_21 8 335 rfl rfl ?_
  refine s_42 336 rfl rfl ?_
  refine s_180R 0 140 339 140 f_18_41 jw_1651 rfl rfl ?_
  refine s_21 7 341 rfl rfl ?_
  refine s_46 342 rfl ?_
  refine s_162 0 61 403 345 rfl rfl ?_ ?_
  · refine s_132L 6 1 406 1 ji_1 rfl rfl rfl (fun x8 => ?_)
    exact s_jmp (v_18_evict_406 l k175 hk175 _ _ _ _) ⟨rfl, rfl, rfl, trivial⟩
  · refine s_42 346 rfl rfl ?_
    refine s_180R 0 143 349 143 f_18_42 jw_1652 rfl rfl ?_
    refine s_16 8 351 8 jbp_8 rfl ?_
    refine s_21 6 353 rfl rfl ?_
    refine s_104 354 rfl ?_
    refine s_21 8 356 rfl rfl ?_
    refine s_96 357 rfl ?_
    refine s_42 358 rfl rfl ?_
    refine s_180R 0 143 361 143 f_18_42 jw_1652 rfl rfl ?_
    refine s_16 8 363 8 jbp_8 rfl ?_
    refine s_21 7 365 rfl rfl ?_
    refine s_104 366 rfl ?_
    refine s_21 8 368 rfl rfl ?_
    refine s_96 369 rfl ?_
    refine s_46 370 rfl ?_
    refine s_79 371 rfl (fun h9 => ?_)
    refine s_42 372 rfl rfl ?_
    refine s_180R 0 146 375 146 f_18_43 jw_1653 rfl rfl ?_
    refine s_16 8 377 8 jbp_8 rfl ?_
    refine s_21 6 379 rfl rfl ?_
    refine s_104 380 rfl ?_
    refine s_21 8 382 rfl rfl ?_
    refine s_96 383 rfl ?_
    refine s_42 384 rfl rfl ?_
    refine s_180R 0 146 387 146 f_18_43 jw_1653 rfl rfl ?_
    refine s_16 8 389 8 jbp_8 rfl ?_
    refine s_21 7 391 rfl rfl ?_
    refine s_104 392 rfl ?_
    refine s_21 8 394 rfl rfl ?_
    refine s_96 395 rfl ?_
    refine s_47 396 rfl ?_
    refine s_80 397 rfl (fun h10 => ?_)
    refine s_132L 8 1 400 1 ji_1 rfl rfl rfl (fun x11 => ?_)
    refine s_167 255 189 333 rfl rfl ?_
    exact s_jmp (hk333 _ _ _ _ _) ⟨rfl, rfl, rfl, rfl, trivial⟩
theorem w_18_evict_333 (l : Launch) (k175 : Nat → Int32 → Int32 → jH → Option (Unit × jH)) (hk175 : ∀ a0 a6 a7 H, JV l mi_18_evict jeV 175 [(0, .ref a0), (6, .int a6), (7, .int a7)] [] H (k175 a0 a6 a7 H)) (n : Nat) : ∀ a0 a6 a7 a8 H, JV l mi_18_evict jeV 333 [(0, .ref a0), (6, .int a6), (7, .int a7), (8, .int a8)] [] H (F_18_evict_333 k175 n a0 a6 a7 a8 H) := by
  induction n with
  | zero => intro _ _ _ _ _; exact s_none
  | succ n ih => intro a0 a6 a7 a8 H; exact v_18_evict_333 l k175 hk175 (F_18_evict_333 k175 n) ih a0 a6 a7 a8 H
theorem v_18_evict_249 (l : Launch) (k175 : Nat → Int32 → Int32 → jH → Option (Unit × jH)) (hk175 : ∀ a0 a6 a7 H, JV l mi_18_evict jeV 175 [(0, .ref a0), (6, .int a6), (7, .int a7)] [] H (k175 a0 a6 a7 H)) (k249 : Nat → Int32 → Int32 → Int32 → jH → Option (Unit × jH)) (hk249 : ∀ a0 a6 a7 a8 H, JV l mi_18_evict jeV 249 [(0, .ref a0), (6, .int a6), (7, .int a7), (8, .int a8)] [] H (k249 a0 a6 a7 a8 H)) (a0 : Nat) (a6 : Int32) (a7 : Int32) (a8 : Int32) (H : jH) : JV l mi_18_evict jeV 249 [(0, .ref a0), (6, .int a6), (7, .int a7), (8, .int a8)] [] H (B_18_evict_249 k175 k249 a0 a6 a7 a8 H) := by
  unfold B_18_evict_249
  refine s_21 8 251 rfl rfl ?_
  refine s_16 32 253 32 jbp_32 rfl ?_
  refine s_162 0 35 288 256 rfl rfl ?_ ?_
  · refine s_42 289 rfl rfl ?_
    refine s_180R 0 131 292 131 f_18_38 jw_1648 rfl rfl ?_
    refine s_21 6 294 rfl rfl ?_
    refine s_42 295 rfl rfl ?_
    refine s_180R 0 131 298 131 f_18_38 jw_1648 rfl rfl ?_
    refine s_21 7 300 rfl rfl ?_
    refine s_46 301 rfl ?_
    refine s_79 302 rfl (fun h12 => ?_)
    refine s_42 303 rfl rfl ?_
    refine s_180R 0 137 306 137 f_18_40 jw_1650 rfl rfl ?_
    refine s_21 6 308 rfl rfl ?_
    refine s_42 309 rfl rfl ?_
    refine s_180R 0 137 312 137 f_18_40 jw_1650 rfl rfl ?_
    refine s_21 7 314 rfl rfl ?_
    refine s_47 315 rfl ?_
    refine s_80 316 rfl (fun h13 => ?_)
    refine s_42 317 rfl rfl ?_
    refine s_180R 0 140 320 140 f_18_41 jw_1651 rfl rfl ?_
    refine s_21 6 322 rfl rfl ?_
    refine s_42 323 rfl rfl ?_
    refine s_180R 0 140 326 140 f_18_41 jw_1651 rfl rfl ?_
    refine s_21 7 328 rfl rfl ?_
    refine s_46 329 rfl ?_
    refine s_79 330 rfl (fun h14 => ?_)
    refine s_3 331 rfl ?_
    refine s_jmp (ls' := [(0, .ref a0), (6, .int a6), (7, .int a7), (8, .int a8)]) ?_ ⟨rfl, rfl, rfl, rfl, trivial⟩
    refine s_54 8 333 rfl rfl ?_
    exact s_jmp (w_18_evict_333 l k175 hk175 jfuel _ _ _ _ _) ⟨rfl, rfl, rfl, rfl, trivial⟩
  · refine s_42 257 rfl rfl ?_
    refine s_180R 0 134 260 134 f_18_39 jw_1649 rfl rfl ?_
    refine s_16 32 262 32 jbp_32 rfl ?_
    refine s_21 6 264 rfl rfl ?_
    refine s_104 265 rfl ?_
    refine s_21 8 267 rfl rfl ?_
    refine s_96 268 rfl ?_
    refine s_42 269 rfl rfl ?_
    refine s_180R 0 134 272 134 f_18_39 jw_1649 rfl rfl ?_
    refine s_16 32 274 32 jbp_32 rfl ?_
    refine s_21 7 276 rfl rfl ?_
    refine s_104 277 rfl ?_
    refine s_21 8 279 rfl rfl ?_
    refine s_96 280 rfl ?_
    refine s_51B 281 rfl ?_
    refine s_84B 282 rfl (fun h15 => ?_)
    refine s_132L 8 1 285 1 ji_1 rfl rfl rfl (fun x16 => ?_)
    refine s_167 255 220 249 rfl rfl ?_
    exact s_jmp (hk249 _ _ _ _ _) ⟨rfl, rfl, rfl, rfl, trivial⟩
theorem w_18_evict_249 (l : Launch) (k175 : Nat → Int32 → Int32 → jH → Option (Unit × jH)) (hk175 : ∀ a0 a6 a7 H, JV l mi_18_evict jeV 175 [(0, .ref a0), (6, .int a6), (7, .int a7)] [] H (k175 a0 a6 a7 H)) (n : Nat) : ∀ a0 a6 a7 a8 H, JV l mi_18_evict jeV 249 [(0, .ref a0), (6, .int a6), (7, .int a7), (8, .int a8)] [] H (F_18_evict_249 k175 n a0 a6 a7 a8 H) := by
  induction n with
  | zero => intro _ _ _ _ _; exact s_none
  | succ n ih => intro a0 a6 a7 a8 H; exact v_18_evict_249 l k175 hk175 (F_18_evict_249 k175 n) ih a0 a6 a7 a8 H
theorem v_18_evict_200 (l : Launch) (k175 : Nat → Int32 → Int32 → jH → Option (Unit × jH)) (hk175 : ∀ a0 a6 a7 H, JV l mi_18_evict jeV 175 [(0, .ref a0), (6, .int a6), (7, .int a7)] [] H (k175 a0 a6 a7 H)) (k200 : Nat → Int32 → Int32 → Int32 → jH → Option (Unit × jH)) (hk200 : ∀ a0 a6 a7 a8 H, JV l mi_18_evict jeV 200 [(0, .ref a0), (6, .int a6), (7, .int a7), (8, .int a8)] [] H (k200 a0 a6 a7 a8 H)) (a0 : Nat) (a6 : Int32) (a7 : Int32) (a8 : Int32) (H : jH) : JV l mi_18_evict jeV 200 [(0, .ref a0), (6, .int a6), (7, .int a7), (8, .int a8)] [] H (B_18_evict_200 k175 k200 a0 a6 a7 a8 H) := by
  unfold B_18_evict_200
  refine s_21 8 202 rfl rfl ?_
  refine s_42 203 rfl rfl ?_
  refine s_180R 0 131 206 131 f_18_38 jw_1648 rfl rfl ?_
  refine s_21 7 208 rfl rfl ?_
  refine s_46 209 rfl ?_
  refine s_162 0 37 246 212 rfl rfl ?_ ?_
  · refine s_3 247 rfl ?_
    refine s_jmp (ls' := [(0, .ref a0), (6, .int a6), (7, .int a7), (8, .int a8)]) ?_ ⟨rfl, rfl, rfl, rfl, trivial⟩
    refine s_54 8 249 rfl rfl ?_
    exact s_jmp (w_18_evict_249 l k175 hk175 jfuel _ _ _ _ _) ⟨rfl, rfl, rfl, rfl, trivial⟩
  · refine s_42 213 rfl rfl ?_
    refine s_180R 0 128 216 128 f_18_37 jw_1647 rfl rfl ?_
    refine s_17 7 208 219 2000 jsp_7_208 rfl ?_
    refine s_21 6 221 rfl rfl ?_
    refine s_104 222 rfl ?_
    refine s_21 8 224 rfl rfl ?_
    refine s_96 225 rfl ?_
    refine s_42 226 rfl rfl ?_
    refine s_180R 0 128 229 128 f_18_37 jw_1647 rfl rfl ?_
    refine s_17 7 208 232 2000 jsp_7_208 rfl ?_
    refine s_21 7 234 rfl rfl ?_
    refine s_104 235 rfl ?_
    refine s_21 8 237 rfl rfl ?_
    refine s_96 238 rfl ?_
    refine s_51B 239 rfl ?_
    refine s_84B 240 rfl (fun h17 => ?_)
    refine s_132L 8 1 243 1 ji_1 rfl rfl rfl (fun x18 => ?_)
    refine s_167 255 213 200 rfl rfl ?_
    exact s_jmp (hk200 _ _ _ _ _) ⟨rfl, rfl, rfl, rfl, trivial⟩
theorem w_18_evict_200 (l : Launch) (k175 : Nat → Int32 → Int32 → jH → Option (Unit × jH)) (hk175 : ∀ a0 a6 a7 H, JV l mi_18_evict jeV 175 [(0, .ref a0), (6, .int a6), (7, .int a7)] [] H (k175 a0 a6 a7 H)) (n : Nat) : ∀ a0 a6 a7 a8 H, JV l mi_18_evict jeV 200 [(0, .ref a0), (6, .int a6), (7, .int a7), (8, .int a8)] [] H (F_18_evict_200 k175 n a0 a6 a7 a8 H) := by
  induction n with
  | zero => intro _ _ _ _ _; exact s_none
  | succ n ih => intro a0 a6 a7 a8 H; exact v_18_evict_200 l k175 hk175 (F_18_evict_200 k175 n) ih a0 a6 a7 a8 H
theorem v_18_evict_175 (l : Launch) (k175 : Nat → Int32 → Int32 → jH → Option (Unit × jH)) (hk175 : ∀ a0 a6 a7 H, JV l mi_18_evict jeV 175 [(0, .ref a0), (6, .int a6), (7, .int a7)] [] H (k175 a0 a6 a7 H)) (a0 : Nat) (a6 : Int32) (a7 : Int32) (H : jH) : JV l mi_18_evict jeV 175 [(0, .ref a0), (6, .int a6), (7, .int a7)] [] H (B_18_evict_175 k175 a0 a6 a7 H) := by
  unfold B_18_evict_175
  refine s_21 7 177 rfl rfl ?_
  refine s_42 178 rfl rfl ?_
  refine s_180I 1 97 181 353 f_18_36 jw_1646 rfl rfl ?_
  refine s_162 0 231 412 184 rfl rfl ?_ ?_
  · refine s_42 413 rfl rfl ?_
    refine s_21 6 415 rfl rfl ?_
    refine s_181I 1 97 418 353 f_18_36 rfl rfl jw_1646 rfl rfl (fun h19 => ?_)
    exact s_177 rfl rfl
  · refine s_42 185 rfl rfl ?_
    refine s_180R 0 149 188 149 f_18_44 jw_1654 rfl rfl ?_
    refine s_21 7 190 rfl rfl ?_
    refine s_51Z 191 rfl ?_
    refine s_153 0 6 197 194 rfl rfl ?_ ?_
    · refine s_3 198 rfl ?_
      refine s_jmp (ls' := [(0, .ref a0), (6, .int a6), (7, .int a7)]) ?_ ⟨rfl, rfl, rfl, trivial⟩
      refine s_54 8 200 rfl rfl ?_
      exact s_jmp (w_18_evict_200 l k175 hk175 jfuel _ _ _ _ _) ⟨rfl, rfl, rfl, rfl, trivial⟩
    · refine s_167 0 212 406 rfl rfl ?_
      exact s_jmp (v_18_evict_406 l k175 hk175 _ _ _ _) ⟨rfl, rfl, rfl, trivial⟩
theorem w_18_evict_175 (l : Launch)  (n : Nat) : ∀ a0 a6 a7 H, JV l mi_18_evict jeV 175 [(0, .ref a0), (6, .int a6), (7, .int a7)] [] H (F_18_evict_175  n a0 a6 a7 H) := by
  induction n with
  | zero => intro _ _ _ _; exact s_none
  | succ n ih => intro a0 a6 a7 H; exact v_18_evict_175 l (F_18_evict_175  n) ih a0 a6 a7 H
theorem v_18_evict_10 (l : Launch) (k10 : Nat → Int32 → Int64 → Int64 → Int32 → jH → Option (Unit × jH)) (hk10 : ∀ a0 a1 a2 a4 a6 H, JV l mi_18_evict jeV 10 [(0, .ref a0), (1, .int a1), (2, .long a2), (4, .long a4), (6, .int a6)] [] H (k10 a0 a1 a2 a4 a6 H)) (a0 : Nat) (a1 : Int32) (a2 : Int64) (a4 : Int64) (a6 : Int32) (H : jH) : JV l mi_18_evict jeV 10 [(0, .ref a0), (1, .int a1), (2, .long a2), (4, .long a4), (6, .int a6)] [] H (B_18_evict_10 k10 a0 a1 a2 a4 a6 H) := by
  unfold B_18_evict_10
  refine s_21 6 12 rfl rfl ?_
  refine s_42 13 rfl rfl ?_
  refine s_180I 1 97 16 353 f_18_36 jw_1646 rfl rfl ?_
  refine s_162 0 134 150 19 rfl rfl ?_ ?_
  · refine s_42 151 rfl rfl ?_
    refine s_42 152 rfl rfl ?_
    refine s_180R 0 134 155 134 f_18_39 jw_1649 rfl rfl ?_
    refine s_16 32 157 32 jbp_32 rfl ?_
    refine s_27 158 rfl rfl ?_
    refine s_104 159 rfl ?_
    refine s_182V 1 104 162 360 (m_18_family l _ _ _ _) rfl k_18_family jc_18 jw_2272 jw_2274 jps_135 rfl rfl rfl rfl rfl (fun x20 h21 => ?_)
    refine s_42 163 rfl rfl ?_
    refine s_180R 0 149 166 149 f_18_44 jw_1654 rfl rfl ?_
    refine s_27 167 rfl rfl ?_
    refine s_4 168 rfl ?_
    refine s_84Z 169 rfl (fun h22 => ?_)
    refine s_3 170 rfl ?_
    refine s_54 6 172 rfl rfl ?_
    refine s_3 173 rfl ?_
    refine s_54 7 175 rfl rfl ?_
    exact s_jmp (w_18_evict_175 l jfuel _ _ _ _) ⟨rfl, rfl, rfl, trivial⟩
  · refine s_42 20 rfl rfl ?_
    refine s_42 21 rfl rfl ?_
    refine s_180R 0 134 24 134 f_18_39 jw_1649 rfl rfl ?_
    refine s_16 32 26 32 jbp_32 rfl ?_
    refine s_21 6 28 rfl rfl ?_
    refine s_104 29 rfl ?_
    refine s_182V 1 104 32 360 (m_18_family l _ _ _ _) rfl k_18_family jc_18 jw_2272 jw_2274 jps_135 rfl rfl rfl rfl rfl (fun x23 h24 => ?_)
    refine s_42 33 rfl rfl ?_
    refine s_180R 0 149 36 149 f_18_44 jw_1654 rfl rfl ?_
    refine s_21 6 38 rfl rfl ?_
    refine s_4 39 rfl ?_
    refine s_84Z 40 rfl (fun h25 => ?_)
    refine s_9 41 rfl ?_
    refine s_jmp (ls' := [(0, .ref a0), (1, .int a1), (2, .long a2), (4, .long a4), (6, .int a6)]) ?_ ⟨rfl, rfl, rfl, rfl, rfl, trivial⟩
    refine s_55 7 43 rfl rfl ?_
    refine s_9 44 rfl ?_
    refine s_55 9 46 rfl rfl ?_
    refine s_3 47 rfl ?_
    refine s_54 11 49 rfl rfl ?_
    exact s_jmp (w_18_evict_49 l k10 hk10 jfuel _ _ _ _ _ _ _ _ _) ⟨rfl, rfl, rfl, rfl, rfl, rfl, rfl, rfl, trivial⟩
theorem w_18_evict_10 (l : Launch)  (n : Nat) : ∀ a0 a1 a2 a4 a6 H, JV l mi_18_evict jeV 10 [(0, .ref a0), (1, .int a1), (2, .long a2), (4, .long a4), (6, .int a6)] [] H (F_18_evict_10  n a0 a1 a2 a4 a6 H) := by
  induction n with
  | zero => intro _ _ _ _ _ _; exact s_none
  | succ n ih => intro a0 a1 a2 a4 a6 H; exact v_18_evict_10 l (F_18_evict_10  n) ih a0 a1 a2 a4 a6 H
theorem v_18_evict (l : Launch) (a0 : Nat) (H : jH) : JV l mi_18_evict jeV 0 [(0, .ref a0)] [] H (F_18_evict a0 H) := by
  unfold F_18_evict
  refine s_2 1 rfl ?_
  refine s_60 2 rfl rfl ?_
  refine s_9 3 rfl ?_
  refine s_65 4 rfl rfl ?_
  refine s_10 5 rfl ?_
  refine s_55 4 7 rfl rfl ?_
  refine s_3 8 rfl ?_
  refine s_54 6 10 rfl rfl ?_
  exact s_jmp (w_18_evict_10 l jfuel _ _ _ _ _ _) ⟨rfl, rfl, rfl, rfl, rfl, trivial⟩
theorem m_18_evict (l : Launch) (a0 : Nat) (H : jH) : JMet l y_18_evict prog_14_method_25_code mi_18_evict jeV [.ref a0] H (F_18_evict a0 H) := jmet_of n_18_evict (by decide) ⟨rfl, rfl⟩ (Nat.le_of_ble_eq_true rfl) (v_18_evict l a0 H)
def mi_18_find : jM := (5793026820545696143430657440125934213610179671270374593215271880099234742899730476632496997635681579651508943610744846540704686218807839060674496542147240738036038799052931858567732889951250284916869680785149207509611504059591353248032520972267179408839476264628557416141202199396228164513668952857813373011578397082060178261564723372658812853210972404425190967165382574522829603833759034209276570519907714898784759745896209158904063283117321628458, 186, 7, "CoinNodeModel", some FieldType.long, "find", 5, 113)
def y_18_find : MethodName := ⟨"CoinNodeModel", "find", "([BIJ)J"⟩
theorem n_18_find : jn_is prog_14_method_26_code mi_18_find.1 mi_18_find.2.1 := by unfold jn_is; decide +kernel
theorem k_18_find : jmok y_18_find prog_14_method_26_code mi_18_find 3 := ⟨jw_1924, jw_14, ⟨by decide, by decide⟩, by decide +kernel⟩
theorem v_18_find_88 (l : Launch)  (a0 : Nat) (a5 : Int32) (s0 : Nat) (s1 : Int32) (H : jH) : JV l mi_18_find jeL 88 [(0, .ref a0), (5, .int a5)] [.int s1, .ref s0] H (B_18_find_88  a0 a5 s0 s1 H) := by
  unfold B_18_find_88
  refine s_181Z 1 112 91 368 f_18_60 rfl rfl jw_1670 rfl rfl (fun h1 => ?_)
  refine s_42 92 rfl rfl ?_
  refine s_180R 0 90 95 90 f_18_22 jw_1632 rfl rfl ?_
  refine s_21 5 97 rfl rfl ?_
  refine s_47 98 rfl ?_
  exact s_173 rfl rfl
theorem v_18_find_87 (l : Launch)  (a0 : Nat) (a5 : Int32) (s0 : Nat) (H : jH) : JV l mi_18_find jeL 87 [(0, .ref a0), (5, .int a5)] [.ref s0] H (B_18_find_87  a0 a5 s0 H) := by
  unfold B_18_find_87
  refine s_3 88 rfl ?_
  exact s_jmp (v_18_find_88 l _ _ _ _ _) ⟨rfl, rfl, trivial⟩
theorem v_18_find (l : Launch) (a0 : Nat) (a1 : Nat) (a2 : Int32) (a3 : Int64) (H : jH) : JV l mi_18_find jeL 0 [(0, .ref a0), (1, .ref a1), (2, .int a2), (3, .long a3)] [] H (F_18_find a0 a1 a2 a3 H) := by
  unfold F_18_find
  refine s_42 1 rfl rfl ?_
  refine s_43 2 rfl rfl ?_
  refine s_28 3 rfl rfl ?_
  refine s_33 4 rfl rfl ?_
  refine s_182I 0 205 7 205 (m_18_coin l _ _ _ _ _) rfl k_18_coin jc_18 jw_1872 jw_1874 jps_66 rfl rfl rfl rfl rfl (fun x2 h3 => ?_)
  refine s_54 5 9 rfl rfl ?_
  refine s_42 10 rfl rfl ?_
  refine s_3 11 rfl ?_
  refine s_181Z 1 112 14 368 f_18_60 rfl rfl jw_1670 rfl rfl (fun h4 => ?_)
  refine s_21 5 16 rfl rfl ?_
  refine s_155 0 83 99 19 rfl rfl ?_ ?_
  · refine s_42 100 rfl rfl ?_
    refine s_43 101 rfl rfl ?_
    refine s_28 102 rfl rfl ?_
    refine s_182I 1 119 105 375 (m_18_inPool l _ _ _ _) rfl k_18_inPool jc_18 jw_1913 jw_1915 jps_69 rfl rfl rfl rfl rfl (fun x5 h6 => ?_)
    refine s_54 6 107 rfl rfl ?_
    refine s_21 6 109 rfl rfl ?_
    refine s_156 0 7 116 112 rfl rfl ?_ ?_
    · refine s_42 117 rfl rfl ?_
      refine s_21 6 119 rfl rfl ?_
      refine s_182V 1 125 122 381 (m_18_openPool l _ _ _) rfl k_18_openPool jc_18 jw_1926 jw_1928 jps_72 rfl rfl rfl rfl rfl (fun x7 h8 => ?_)
      refine s_33 123 rfl rfl ?_
      refine s_42 124 rfl rfl ?_
      refine s_180R 0 51 127 51 f_18_5 jw_1615 rfl rfl ?_
      refine s_180IN 0 213 130 213 f_17_5 jnf_14 rfl rfl ?_
      refine s_133 131 rfl ?_
      refine s_148_155 0 7 139 132 135 rfl rfl rfl ?_ ?_
      · refine s_42 140 rfl rfl ?_
        refine s_42 141 rfl rfl ?_
        refine s_180R 0 128 144 128 f_18_37 jw_1647 rfl rfl ?_
        refine s_181R 1 116 147 372 f_18_57 rfl rfl jw_1667 rfl rfl (fun h9 => ?_)
        refine s_42 148 rfl rfl ?_
        refine s_42 149 rfl rfl ?_
        refine s_180R 0 51 152 51 f_18_5 jw_1615 rfl rfl ?_
        refine s_180RN 0 219 155 219 f_17_13 jnf_24 rfl rfl ?_
        refine s_33 156 rfl rfl ?_
        refine s_136 157 rfl ?_
        refine s_46 158 rfl ?_
        refine s_181I 1 117 161 373 f_18_58 rfl rfl jw_1668 rfl rfl (fun h10 => ?_)
        refine s_42 162 rfl rfl ?_
        refine s_42 163 rfl rfl ?_
        refine s_180R 0 51 166 51 f_18_5 jw_1615 rfl rfl ?_
        refine s_180RN 0 222 169 222 f_17_14 jnf_26 rfl rfl ?_
        refine s_33 170 rfl rfl ?_
        refine s_136 171 rfl ?_
        refine s_46 172 rfl ?_
        refine s_181I 1 118 175 374 f_18_59 rfl rfl jw_1669 rfl rfl (fun h11 => ?_)
        refine s_42 176 rfl rfl ?_
        refine s_180R 0 51 179 51 f_18_5 jw_1615 rfl rfl ?_
        refine s_180RN 0 216 182 216 f_17_12 jnf_22 rfl rfl ?_
        refine s_33 183 rfl rfl ?_
        refine s_136 184 rfl ?_
        refine s_47 185 rfl ?_
        exact s_173 rfl rfl
      · refine s_20 1 123 138 379 (-1) rfl jw_1925 rfl ?_
        exact s_173 rfl rfl
    · refine s_20 1 123 115 379 (-1) rfl jw_1925 rfl ?_
      exact s_173 rfl rfl
  · refine s_42 20 rfl rfl ?_
    refine s_42 21 rfl rfl ?_
    refine s_180R 0 55 24 55 f_18_6 jw_1616 rfl rfl ?_
    refine s_181R 1 116 27 372 f_18_57 rfl rfl jw_1667 rfl rfl (fun h12 => ?_)
    refine s_42 28 rfl rfl ?_
    refine s_42 29 rfl rfl ?_
    refine s_180R 0 100 32 100 f_18_25 jw_1635 rfl rfl ?_
    refine s_21 5 34 rfl rfl ?_
    refine s_46 35 rfl ?_
    refine s_181I 1 117 38 373 f_18_58 rfl rfl jw_1668 rfl rfl (fun h13 => ?_)
    refine s_42 39 rfl rfl ?_
    refine s_42 40 rfl rfl ?_
    refine s_180R 0 103 43 103 f_18_26 jw_1636 rfl rfl ?_
    refine s_21 5 45 rfl rfl ?_
    refine s_46 46 rfl ?_
    refine s_181I 1 118 49 374 f_18_59 rfl rfl jw_1669 rfl rfl (fun h14 => ?_)
    refine s_42 50 rfl rfl ?_
    refine s_42 51 rfl rfl ?_
    refine s_180R 0 96 54 96 f_18_24 jw_1634 rfl rfl ?_
    refine s_21 5 56 rfl rfl ?_
    refine s_51Z 57 rfl ?_
    refine s_153 0 30 87 60 rfl rfl ?_ ?_
    · exact s_jmp (v_18_find_87 l _ _ _ _) ⟨rfl, rfl, trivial⟩
    · refine s_42 61 rfl rfl ?_
      refine s_42 62 rfl rfl ?_
      refine s_180I 1 84 65 340 f_18_13 jw_1623 rfl rfl ?_
      refine s_182I 0 250 68 250 (m_18_height l _ _ _) rfl k_18_height jc_18 jw_1821 jw_1823 jps_58 rfl rfl rfl rfl rfl (fun x15 h16 => ?_)
      refine s_4 69 rfl ?_
      refine s_96 70 rfl ?_
      refine s_42 71 rfl rfl ?_
      refine s_180R 0 93 74 93 f_18_23 jw_1633 rfl rfl ?_
      refine s_21 5 76 rfl rfl ?_
      refine s_46 77 rfl ?_
      refine s_100 78 rfl ?_
      refine s_16 8 80 8 jbp_8 rfl ?_
      refine s_162 0 7 87 83 rfl rfl ?_ ?_
      · exact s_jmp (v_18_find_87 l _ _ _ _) ⟨rfl, rfl, trivial⟩
      · refine s_4 84 rfl ?_
        refine s_167 0 4 88 rfl rfl ?_
        exact s_jmp (v_18_find_88 l _ _ _ _ _) ⟨rfl, rfl, trivial⟩
theorem m_18_find (l : Launch) (a0 : Nat) (a1 : Nat) (a2 : Int32) (a3 : Int64) (H : jH) : JMet l y_18_find prog_14_method_26_code mi_18_find jeL [.ref a0, .ref a1, .int a2, .long a3] H (F_18_find a0 a1 a2 a3 H) := jmet_of n_18_find (by decide) ⟨rfl, rfl⟩ (Nat.le_of_ble_eq_true rfl) (v_18_find l a0 a1 a2 a3 H)
def mi_18_lacks : jM := (16909029575088871019090781513523079283659782663023703097397127395322354120294357165936934899924431661023244485873681482813279902319522783729819718180394626053095947437260035846275375953019817689036445340119967299828727025035365951751491628943319883411446914540494738669167750583456042668634821548596431296579205040120910827779226946746859585341493224935593812183103511564470577040246967994764240452868353244163, 170, 3, "CoinNodeModel", some FieldType.boolean, "lacks", 5, 113)
def y_18_lacks : MethodName := ⟨"CoinNodeModel", "lacks", "()Z"⟩
theorem n_18_lacks : jn_is prog_14_method_27_code mi_18_lacks.1 mi_18_lacks.2.1 := by unfold jn_is; decide +kernel
theorem k_18_lacks : jmok y_18_lacks prog_14_method_27_code mi_18_lacks 0 := ⟨jw_2267, jw_14, ⟨by decide, by decide⟩, by decide +kernel⟩
theorem v_18_lacks_69 (l : Launch) (k2 : Nat → Int32 → jH → Option (Int32 × jH)) (hk2 : ∀ a0 a1 H, JV l mi_18_lacks jeI 2 [(0, .ref a0), (1, .int a1)] [] H (k2 a0 a1 H)) (a0 : Nat) (a1 : Int32) (H : jH) : JV l mi_18_lacks jeI 69 [(0, .ref a0), (1, .int a1)] [] H (B_18_lacks_69 k2 a0 a1 H) := by
  unfold B_18_lacks_69
  refine s_132L 1 1 72 1 ji_1 rfl rfl rfl (fun x1 => ?_)
  refine s_167 255 186 2 rfl rfl ?_
  exact s_jmp (hk2 _ _ _) ⟨rfl, rfl, trivial⟩
theorem v_18_lacks_156 (l : Launch) (k87 : Nat → Int32 → Int32 → jH → Option (Int32 × jH)) (hk87 : ∀ a0 a1 a2 H, JV l mi_18_lacks jeI 87 [(0, .ref a0), (1, .int a1), (2, .int a2)] [] H (k87 a0 a1 a2 H)) (a0 : Nat) (a1 : Int32) (a2 : Int32) (H : jH) : JV l mi_18_lacks jeI 156 [(0, .ref a0), (1, .int a1), (2, .int a2)] [] H (B_18_lacks_156 k87 a0 a1 a2 H) := by
  unfold B_18_lacks_156
  refine s_132L 2 1 159 1 ji_1 rfl rfl rfl (fun x2 => ?_)
  refine s_167 255 184 87 rfl rfl ?_
  exact s_jmp (hk87 _ _ _ _) ⟨rfl, rfl, rfl, trivial⟩
theorem v_18_lacks_87 (l : Launch) (k77 : Nat → Int32 → jH → Option (Int32 × jH)) (hk77 : ∀ a0 a1 H, JV l mi_18_lacks jeI 77 [(0, .ref a0), (1, .int a1)] [] H (k77 a0 a1 H)) (k87 : Nat → Int32 → Int32 → jH → Option (Int32 × jH)) (hk87 : ∀ a0 a1 a2 H, JV l mi_18_lacks jeI 87 [(0, .ref a0), (1, .int a1), (2, .int a2)] [] H (k87 a0 a1 a2 H)) (a0 : Nat) (a1 : Int32) (a2 : Int32) (H : jH) : JV l mi_18_lacks jeI 87 [(0, .ref a0), (1, .int a1), (2, .int a2)] [] H (B_18_lacks_87 k77 k87 a0 a1 a2 H) := by
  unfold B_18_lacks_87
  refine s_28 88 rfl rfl ?_
  refine s_42 89 rfl rfl ?_
  refine s_180R 0 140 92 140 f_18_41 jw_1651 rfl rfl ?_
  refine s_27 93 rfl rfl ?_
  refine s_46 94 rfl ?_
  refine s_162 0 68 162 97 rfl rfl ?_ ?_
  · refine s_132L 1 1 165 1 ji_1 rfl rfl rfl (fun x3 => ?_)
    refine s_167 255 168 77 rfl rfl ?_
    exact s_jmp (hk77 _ _ _) ⟨rfl, rfl, trivial⟩
  · refine s_42 98 rfl rfl ?_
    refine s_180R 0 146 101 146 f_18_43 jw_1653 rfl rfl ?_
    refine s_16 8 103 8 jbp_8 rfl ?_
    refine s_27 104 rfl rfl ?_
    refine s_104 105 rfl ?_
    refine s_28 106 rfl rfl ?_
    refine s_96 107 rfl ?_
    refine s_47 108 rfl ?_
    refine s_42 109 rfl rfl ?_
    refine s_180R 0 47 112 47 f_18_4 jw_1614 rfl rfl ?_
    refine s_180IN 0 213 115 213 f_17_5 jnf_14 rfl rfl ?_
    refine s_133 116 rfl ?_
    refine s_148_155 0 39 156 117 120 rfl rfl rfl ?_ ?_
    · exact s_jmp (v_18_lacks_156 l k87 hk87 _ _ _ _) ⟨rfl, rfl, rfl, trivial⟩
    · refine s_42 121 rfl rfl ?_
      refine s_180R 0 128 124 128 f_18_37 jw_1647 rfl rfl ?_
      refine s_17 7 208 127 2000 jsp_7_208 rfl ?_
      refine s_27 128 rfl rfl ?_
      refine s_104 129 rfl ?_
      refine s_42 130 rfl rfl ?_
      refine s_180R 0 143 133 143 f_18_42 jw_1652 rfl rfl ?_
      refine s_16 8 135 8 jbp_8 rfl ?_
      refine s_27 136 rfl rfl ?_
      refine s_104 137 rfl ?_
      refine s_28 138 rfl rfl ?_
      refine s_96 139 rfl ?_
      refine s_46 140 rfl ?_
      refine s_96 141 rfl ?_
      refine s_42 142 rfl rfl ?_
      refine s_180R 0 161 145 161 f_18_49 jw_1659 rfl rfl ?_
      refine s_3 146 rfl ?_
      refine s_16 32 148 32 jbp_32 rfl ?_
      refine s_184I 0 187 151 187 (m_18_like l _ _ _ _ _ _) rfl k_18_like jw_1876 jw_1877 rfl rfl rfl rfl rfl (fun x4 h5 => ?_)
      refine s_153 0 5 156 154 rfl rfl ?_ ?_
      · exact s_jmp (v_18_lacks_156 l k87 hk87 _ _ _ _) ⟨rfl, rfl, rfl, trivial⟩
      · refine s_4 155 rfl ?_
        exact s_172Z rfl rfl
theorem w_18_lacks_87 (l : Launch) (k77 : Nat → Int32 → jH → Option (Int32 × jH)) (hk77 : ∀ a0 a1 H, JV l mi_18_lacks jeI 77 [(0, .ref a0), (1, .int a1)] [] H (k77 a0 a1 H)) (n : Nat) : ∀ a0 a1 a2 H, JV l mi_18_lacks jeI 87 [(0, .ref a0), (1, .int a1), (2, .int a2)] [] H (F_18_lacks_87 k77 n a0 a1 a2 H) := by
  induction n with
  | zero => intro _ _ _ _; exact s_none
  | succ n ih => intro a0 a1 a2 H; exact v_18_lacks_87 l k77 hk77 (F_18_lacks_87 k77 n) ih a0 a1 a2 H
theorem v_18_lacks_77 (l : Launch) (k77 : Nat → Int32 → jH → Option (Int32 × jH)) (hk77 : ∀ a0 a1 H, JV l mi_18_lacks jeI 77 [(0, .ref a0), (1, .int a1)] [] H (k77 a0 a1 H)) (a0 : Nat) (a1 : Int32) (H : jH) : JV l mi_18_lacks jeI 77 [(0, .ref a0), (1, .int a1)] [] H (B_18_lacks_77 k77 a0 a1 H) := by
  unfold B_18_lacks_77
  refine s_27 78 rfl rfl ?_
  refine s_42 79 rfl rfl ?_
  refine s_180I 1 97 82 353 f_18_36 jw_1646 rfl rfl ?_
  refine s_162 0 86 168 85 rfl rfl ?_ ?_
  · refine s_3 169 rfl ?_
    exact s_172Z rfl rfl
  · refine s_3 86 rfl ?_
    refine s_61 87 rfl rfl ?_
    exact s_jmp (w_18_lacks_87 l k77 hk77 jfuel _ _ _ _) ⟨rfl, rfl, rfl, trivial⟩
theorem w_18_lacks_77 (l : Launch)  (n : Nat) : ∀ a0 a1 H, JV l mi_18_lacks jeI 77 [(0, .ref a0), (1, .int a1)] [] H (F_18_lacks_77  n a0 a1 H) := by
  induction n with
  | zero => intro _ _ _; exact s_none
  | succ n ih => intro a0 a1 H; exact v_18_lacks_77 l (F_18_lacks_77  n) ih a0 a1 H
theorem v_18_lacks_2 (l : Launch) (k2 : Nat → Int32 → jH → Option (Int32 × jH)) (hk2 : ∀ a0 a1 H, JV l mi_18_lacks jeI 2 [(0, .ref a0), (1, .int a1)] [] H (k2 a0 a1 H)) (a0 : Nat) (a1 : Int32) (H : jH) : JV l mi_18_lacks jeI 2 [(0, .ref a0), (1, .int a1)] [] H (B_18_lacks_2 k2 a0 a1 H) := by
  unfold B_18_lacks_2
  refine s_27 3 rfl rfl ?_
  refine s_42 4 rfl rfl ?_
  refine s_180R 0 47 7 47 f_18_4 jw_1614 rfl rfl ?_
  refine s_180IN 0 194 10 194 f_17_4 jnf_12 rfl rfl ?_
  refine s_162 0 65 75 13 rfl rfl ?_ ?_
  · refine s_3 76 rfl ?_
    refine s_60 77 rfl rfl ?_
    exact s_jmp (w_18_lacks_77 l jfuel _ _ _) ⟨rfl, rfl, trivial⟩
  · refine s_42 14 rfl rfl ?_
    refine s_42 15 rfl rfl ?_
    refine s_180R 0 47 18 47 f_18_4 jw_1614 rfl rfl ?_
    refine s_180RN 0 197 21 197 f_17_0 jnf_7 rfl rfl ?_
    refine s_42 22 rfl rfl ?_
    refine s_180R 0 47 25 47 f_18_4 jw_1614 rfl rfl ?_
    refine s_180RN 0 200 28 200 f_17_7 jnf_16 rfl rfl ?_
    refine s_27 29 rfl rfl ?_
    refine s_46 30 rfl ?_
    refine s_182I 1 119 33 375 (m_18_inPool l _ _ _ _) rfl k_18_inPool jc_18 jw_1913 jw_1915 jps_69 rfl rfl rfl rfl rfl (fun x6 h7 => ?_)
    refine s_61 34 rfl rfl ?_
    refine s_28 35 rfl rfl ?_
    refine s_156 0 6 41 38 rfl rfl ?_ ?_
    · refine s_42 42 rfl rfl ?_
      refine s_28 43 rfl rfl ?_
      refine s_182V 1 125 46 381 (m_18_openPool l _ _ _) rfl k_18_openPool jc_18 jw_1926 jw_1928 jps_72 rfl rfl rfl rfl rfl (fun x8 h9 => ?_)
      refine s_42 47 rfl rfl ?_
      refine s_180R 0 47 50 47 f_18_4 jw_1614 rfl rfl ?_
      refine s_180RN 0 202 53 202 f_17_8 jnf_17 rfl rfl ?_
      refine s_27 54 rfl rfl ?_
      refine s_47 55 rfl ?_
      refine s_42 56 rfl rfl ?_
      refine s_180R 0 51 59 51 f_18_5 jw_1615 rfl rfl ?_
      refine s_180IN 0 213 62 213 f_17_5 jnf_14 rfl rfl ?_
      refine s_133 63 rfl ?_
      refine s_148_155 0 5 69 64 67 rfl rfl rfl ?_ ?_
      · exact s_jmp (v_18_lacks_69 l k2 hk2 _ _ _) ⟨rfl, rfl, trivial⟩
      · refine s_4 68 rfl ?_
        exact s_172Z rfl rfl
    · refine s_167 0 31 69 rfl rfl ?_
      exact s_jmp (v_18_lacks_69 l k2 hk2 _ _ _) ⟨rfl, rfl, trivial⟩
theorem w_18_lacks_2 (l : Launch)  (n : Nat) : ∀ a0 a1 H, JV l mi_18_lacks jeI 2 [(0, .ref a0), (1, .int a1)] [] H (F_18_lacks_2  n a0 a1 H) := by
  induction n with
  | zero => intro _ _ _; exact s_none
  | succ n ih => intro a0 a1 H; exact v_18_lacks_2 l (F_18_lacks_2  n) ih a0 a1 H
theorem v_18_lacks (l : Launch) (a0 : Nat) (H : jH) : JV l mi_18_lacks jeI 0 [(0, .ref a0)] [] H (F_18_lacks a0 H) := by
  unfold F_18_lacks
  refine s_3 1 rfl ?_
  refine s_60 2 rfl rfl ?_
  exact s_jmp (w_18_lacks_2 l jfuel _ _ _) ⟨rfl, rfl, trivial⟩
theorem m_18_lacks (l : Launch) (a0 : Nat) (H : jH) : JMet l y_18_lacks prog_14_method_27_code mi_18_lacks jeI [.ref a0] H (F_18_lacks a0 H) := jmet_of n_18_lacks (by decide) ⟨rfl, rfl⟩ (Nat.le_of_ble_eq_true rfl) (v_18_lacks l a0 H)
def mi_18_hangsOnItself : jM := (6548167828188038567259341068644145236048159737871641158119980331650242518017528792223492666139632916245061900983751797216254042987408315970440717356177990734495596886207050444951774152259802399918019067044538804641380122699758521730135982032693359357743330629665646698365109611122312620586, 120, 3, "CoinNodeModel", some FieldType.boolean, "hangsOnItself", 3, 76)
def y_18_hangsOnItself : MethodName := ⟨"CoinNodeModel", "hangsOnItself", "()Z"⟩
theorem n_18_hangsOnItself : jn_is prog_14_method_28_code mi_18_hangsOnItself.1 mi_18_hangsOnItself.2.1 := by unfold jn_is; decide +kernel
theorem k_18_hangsOnItself : jmok y_18_hangsOnItself prog_14_method_28_code mi_18_hangsOnItself 0 := ⟨jw_2271, jw_14, ⟨by decide, by decide⟩, by decide +kernel⟩
theorem v_18_hangsOnItself_106 (l : Launch) (k55 : Nat → Int32 → Int32 → jH → Option (Int32 × jH)) (hk55 : ∀ a0 a1 a2 H, JV l mi_18_hangsOnItself jeI 55 [(0, .ref a0), (1, .int a1), (2, .int a2)] [] H (k55 a0 a1 a2 H)) (a0 : Nat) (a1 : Int32) (a2 : Int32) (H : jH) : JV l mi_18_hangsOnItself jeI 106 [(0, .ref a0), (1, .int a1), (2, .int a2)] [] H (B_18_hangsOnItself_106 k55 a0 a1 a2 H) := by
  unfold B_18_hangsOnItself_106
  refine s_132L 2 1 109 1 ji_1 rfl rfl rfl (fun x1 => ?_)
  refine s_167 255 202 55 rfl rfl ?_
  exact s_jmp (hk55 _ _ _ _) ⟨rfl, rfl, rfl, trivial⟩
theorem v_18_hangsOnItself_55 (l : Launch) (k11 : Nat → Int32 → jH → Option (Int32 × jH)) (hk11 : ∀ a0 a1 H, JV l mi_18_hangsOnItself jeI 11 [(0, .ref a0), (1, .int a1)] [] H (k11 a0 a1 H)) (k55 : Nat → Int32 → Int32 → jH → Option (Int32 × jH)) (hk55 : ∀ a0 a1 a2 H, JV l mi_18_hangsOnItself jeI 55 [(0, .ref a0), (1, .int a1), (2, .int a2)] [] H (k55 a0 a1 a2 H)) (a0 : Nat) (a1 : Int32) (a2 : Int32) (H : jH) : JV l mi_18_hangsOnItself jeI 55 [(0, .ref a0), (1, .int a1), (2, .int a2)] [] H (B_18_hangsOnItself_55 k11 k55 a0 a1 a2 H) := by
  unfold B_18_hangsOnItself_55
  refine s_28 56 rfl rfl ?_
  refine s_42 57 rfl rfl ?_
  refine s_180I 1 97 60 353 f_18_36 jw_1646 rfl rfl ?_
  refine s_162 0 52 112 63 rfl rfl ?_ ?_
  · refine s_132L 1 1 115 1 ji_1 rfl rfl rfl (fun x2 => ?_)
    refine s_167 255 152 11 rfl rfl ?_
    exact s_jmp (hk11 _ _ _) ⟨rfl, rfl, trivial⟩
  · refine s_42 64 rfl rfl ?_
    refine s_180R 0 149 67 149 f_18_44 jw_1654 rfl rfl ?_
    refine s_28 68 rfl rfl ?_
    refine s_51Z 69 rfl ?_
    refine s_153 0 37 106 72 rfl rfl ?_ ?_
    · exact s_jmp (v_18_hangsOnItself_106 l k55 hk55 _ _ _ _) ⟨rfl, rfl, rfl, trivial⟩
    · refine s_42 73 rfl rfl ?_
      refine s_180R 0 47 76 47 f_18_4 jw_1614 rfl rfl ?_
      refine s_180RN 0 197 79 197 f_17_0 jnf_7 rfl rfl ?_
      refine s_42 80 rfl rfl ?_
      refine s_180R 0 47 83 47 f_18_4 jw_1614 rfl rfl ?_
      refine s_180RN 0 200 86 200 f_17_7 jnf_16 rfl rfl ?_
      refine s_27 87 rfl rfl ?_
      refine s_46 88 rfl ?_
      refine s_42 89 rfl rfl ?_
      refine s_180R 0 134 92 134 f_18_39 jw_1649 rfl rfl ?_
      refine s_16 32 94 32 jbp_32 rfl ?_
      refine s_28 95 rfl rfl ?_
      refine s_104 96 rfl ?_
      refine s_16 32 98 32 jbp_32 rfl ?_
      refine s_184I 0 187 101 187 (m_18_like l _ _ _ _ _ _) rfl k_18_like jw_1876 jw_1877 rfl rfl rfl rfl rfl (fun x3 h4 => ?_)
      refine s_153 0 5 106 104 rfl rfl ?_ ?_
      · exact s_jmp (v_18_hangsOnItself_106 l k55 hk55 _ _ _ _) ⟨rfl, rfl, rfl, trivial⟩
      · refine s_4 105 rfl ?_
        exact s_172Z rfl rfl
theorem w_18_hangsOnItself_55 (l : Launch) (k11 : Nat → Int32 → jH → Option (Int32 × jH)) (hk11 : ∀ a0 a1 H, JV l mi_18_hangsOnItself jeI 11 [(0, .ref a0), (1, .int a1)] [] H (k11 a0 a1 H)) (n : Nat) : ∀ a0 a1 a2 H, JV l mi_18_hangsOnItself jeI 55 [(0, .ref a0), (1, .int a1), (2, .int a2)] [] H (F_18_hangsOnItself_55 k11 n a0 a1 a2 H) := by
  induction n with
  | zero => intro _ _ _ _; exact s_none
  | succ n ih => intro a0 a1 a2 H; exact v_18_hangsOnItself_55 l k11 hk11 (F_18_hangsOnItself_55 k11 n) ih a0 a1 a2 H
theorem v_18_hangsOnItself_11 (l : Launch) (k11 : Nat → Int32 → jH → Option (Int32 × jH)) (hk11 : ∀ a0 a1 H, JV l mi_18_hangsOnItself jeI 11 [(0, .ref a0), (1, .int a1)] [] H (k11 a0 a1 H)) (a0 : Nat) (a1 : Int32) (H : jH) : JV l mi_18_hangsOnItself jeI 11 [(0, .ref a0), (1, .int a1)] [] H (B_18_hangsOnItself_11 k11 a0 a1 H) := by
  unfold B_18_hangsOnItself_11
  refine s_27 12 rfl rfl ?_
  refine s_42 13 rfl rfl ?_
  refine s_180R 0 47 16 47 f_18_4 jw_1614 rfl rfl ?_
  refine s_180IN 0 194 19 194 f_17_4 jnf_12 rfl rfl ?_
  refine s_162 0 99 118 22 rfl rfl ?_ ?_
  · refine s_3 119 rfl ?_
    exact s_172Z rfl rfl
  · refine s_42 23 rfl rfl ?_
    refine s_180R 0 47 26 47 f_18_4 jw_1614 rfl rfl ?_
    refine s_180RN 0 197 29 197 f_17_0 jnf_7 rfl rfl ?_
    refine s_42 30 rfl rfl ?_
    refine s_180R 0 47 33 47 f_18_4 jw_1614 rfl rfl ?_
    refine s_180RN 0 200 36 200 f_17_7 jnf_16 rfl rfl ?_
    refine s_27 37 rfl rfl ?_
    refine s_46 38 rfl ?_
    refine s_42 39 rfl rfl ?_
    refine s_180R 0 161 42 161 f_18_49 jw_1659 rfl rfl ?_
    refine s_3 43 rfl ?_
    refine s_16 32 45 32 jbp_32 rfl ?_
    refine s_184I 0 187 48 187 (m_18_like l _ _ _ _ _ _) rfl k_18_like jw_1876 jw_1877 rfl rfl rfl rfl rfl (fun x5 h6 => ?_)
    refine s_153 0 5 53 51 rfl rfl ?_ ?_
    · refine s_3 54 rfl ?_
      refine s_61 55 rfl rfl ?_
      exact s_jmp (w_18_hangsOnItself_55 l k11 hk11 jfuel _ _ _ _) ⟨rfl, rfl, rfl, trivial⟩
    · refine s_4 52 rfl ?_
      exact s_172Z rfl rfl
theorem w_18_hangsOnItself_11 (l : Launch)  (n : Nat) : ∀ a0 a1 H, JV l mi_18_hangsOnItself jeI 11 [(0, .ref a0), (1, .int a1)] [] H (F_18_hangsOnItself_11  n a0 a1 H) := by
  induction n with
  | zero => intro _ _ _; exact s_none
  | succ n ih => intro a0 a1 H; exact v_18_hangsOnItself_11 l (F_18_hangsOnItself_11  n) ih a0 a1 H
theorem v_18_hangsOnItself (l : Launch) (a0 : Nat) (H : jH) : JV l mi_18_hangsOnItself jeI 0 [(0, .ref a0)] [] H (F_18_hangsOnItself a0 H) := by
  unfold F_18_hangsOnItself
  refine s_42 1 rfl rfl ?_
  refine s_42 2 rfl rfl ?_
  refine s_180R 0 161 5 161 f_18_49 jw_1659 rfl rfl ?_
  refine s_3 6 rfl ?_
  refine s_182V 1 104 9 360 (m_18_family l _ _ _ _) rfl k_18_family jc_18 jw_2272 jw_2274 jps_135 rfl rfl rfl rfl rfl (fun x7 h8 => ?_)
  refine s_3 10 rfl ?_
  refine s_60 11 rfl rfl ?_
  exact s_jmp (w_18_hangsOnItself_11 l jfuel _ _ _) ⟨rfl, rfl, trivial⟩
theorem m_18_hangsOnItself (l : Launch) (a0 : Nat) (H : jH) : JMet l y_18_hangsOnItself prog_14_method_28_code mi_18_hangsOnItself jeI [.ref a0] H (F_18_hangsOnItself a0 H) := jmet_of n_18_hangsOnItself (by decide) ⟨rfl, rfl⟩ (Nat.le_of_ble_eq_true rfl) (v_18_hangsOnItself l a0 H)
def mi_17_isLarge : jM := (15917503849606051405449307035401058568624638860292495527021923435768637837688280995336163779088624659897997919451050014126764076800970175175554208850017933997510062190008983186351091340558015175695442419020907401895942514359299, 94, 5, "CoinNodeModel$Tx", some FieldType.boolean, "isLarge", 0, 0)
def y_17_isLarge : MethodName := ⟨"CoinNodeModel$Tx", "isLarge", "()Z"⟩
theorem n_17_isLarge : jn_is prog_21_method_9_code mi_17_isLarge.1 mi_17_isLarge.2.1 := by unfold jn_is; decide +kernel
theorem k_17_isLarge : jmok y_17_isLarge prog_21_method_9_code mi_17_isLarge 0 := ⟨jw_1898, jw_20, ⟨by decide, by decide⟩, by decide +kernel⟩
theorem v_17_isLarge_68 (l : Launch) (k7 : Nat → Int32 → Int64 → Int32 → jH → Option (Int32 × jH)) (hk7 : ∀ a0 a1 a2 a4 H, JV l mi_17_isLarge jeI 7 [(0, .ref a0), (1, .int a1), (2, .long a2), (4, .int a4)] [] H (k7 a0 a1 a2 a4 H)) (a0 : Nat) (a1 : Int32) (a4 : Int32) (s0 : Int64) (s1 : Int64) (H : jH) : JV l mi_17_isLarge jeI 68 [(0, .ref a0), (1, .int a1), (4, .int a4)] [.long s1, .long s0] H (B_17_isLarge_68 k7 a0 a1 a4 s0 s1 H) := by
  unfold B_17_isLarge_68
  refine s_97 69 rfl ?_
  refine s_65L 70 rfl rfl (fun x1 => ?_)
  refine s_132L 4 1 73 1 ji_1 rfl rfl rfl (fun x2 => ?_)
  refine s_167 255 190 7 rfl rfl ?_
  exact s_jmp (hk7 _ _ _ _ _) ⟨rfl, rfl, rfl, rfl, trivial⟩
theorem v_17_isLarge_51 (l : Launch) (k7 : Nat → Int32 → Int64 → Int32 → jH → Option (Int32 × jH)) (hk7 : ∀ a0 a1 a2 a4 H, JV l mi_17_isLarge jeI 7 [(0, .ref a0), (1, .int a1), (2, .long a2), (4, .int a4)] [] H (k7 a0 a1 a2 a4 H)) (a0 : Nat) (a2 : Int64) (a4 : Int32) (s0 : Int32) (H : jH) : JV l mi_17_isLarge jeI 51 [(0, .ref a0), (2, .long a2), (4, .int a4)] [.int s0] H (B_17_isLarge_51 k7 a0 a2 a4 s0 H) := by
  unfold B_17_isLarge_51
  refine s_60 52 rfl rfl ?_
  refine s_32 53 rfl rfl ?_
  refine s_27 54 rfl rfl ?_
  refine s_153 0 7 61 57 rfl rfl ?_ ?_
  · refine s_42 62 rfl rfl ?_
    refine s_180R 0 28 65 28 f_17_12 jw_1541 rfl rfl ?_
    refine s_21 4 67 rfl rfl ?_
    refine s_47 68 rfl ?_
    exact s_jmp (v_17_isLarge_68 l k7 hk7 _ _ _ _ _ _) ⟨rfl, rfl, rfl, trivial⟩
  · refine s_9 58 rfl ?_
    refine s_167 0 10 68 rfl rfl ?_
    exact s_jmp (v_17_isLarge_68 l k7 hk7 _ _ _ _ _ _) ⟨rfl, rfl, rfl, trivial⟩
theorem v_17_isLarge_46 (l : Launch) (k7 : Nat → Int32 → Int64 → Int32 → jH → Option (Int32 × jH)) (hk7 : ∀ a0 a1 a2 a4 H, JV l mi_17_isLarge jeI 7 [(0, .ref a0), (1, .int a1), (2, .long a2), (4, .int a4)] [] H (k7 a0 a1 a2 a4 H)) (a0 : Nat) (a2 : Int64) (a4 : Int32) (H : jH) : JV l mi_17_isLarge jeI 46 [(0, .ref a0), (2, .long a2), (4, .int a4)] [] H (B_17_isLarge_46 k7 a0 a2 a4 H) := by
  unfold B_17_isLarge_46
  refine s_4 47 rfl ?_
  refine s_167 0 4 51 rfl rfl ?_
  exact s_jmp (v_17_isLarge_51 l k7 hk7 _ _ _ _ _) ⟨rfl, rfl, rfl, trivial⟩
theorem v_17_isLarge_93 (l : Launch)  (s0 : Int32) (H : jH) : JV l mi_17_isLarge jeI 93 [] [.int s0] H (B_17_isLarge_93  s0 H) := by
  unfold B_17_isLarge_93
  exact s_172Z rfl rfl
theorem v_17_isLarge_88 (l : Launch)   (H : jH) : JV l mi_17_isLarge jeI 88 [] [] H (B_17_isLarge_88   H) := by
  unfold B_17_isLarge_88
  refine s_4 89 rfl ?_
  refine s_167 0 4 93 rfl rfl ?_
  exact s_jmp (v_17_isLarge_93 l _ _) trivial
theorem v_17_isLarge_7 (l : Launch) (k7 : Nat → Int32 → Int64 → Int32 → jH → Option (Int32 × jH)) (hk7 : ∀ a0 a1 a2 a4 H, JV l mi_17_isLarge jeI 7 [(0, .ref a0), (1, .int a1), (2, .long a2), (4, .int a4)] [] H (k7 a0 a1 a2 a4 H)) (a0 : Nat) (a1 : Int32) (a2 : Int64) (a4 : Int32) (H : jH) : JV l mi_17_isLarge jeI 7 [(0, .ref a0), (1, .int a1), (2, .long a2), (4, .int a4)] [] H (B_17_isLarge_7 k7 a0 a1 a2 a4 H) := by
  unfold B_17_isLarge_7
  refine s_21 4 9 rfl rfl ?_
  refine s_42 10 rfl rfl ?_
  refine s_180I 0 82 13 82 f_17_5 jw_1528 rfl rfl ?_
  refine s_162 0 63 76 16 rfl rfl ?_ ?_
  · refine s_27 77 rfl rfl ?_
    refine s_154 0 11 88 80 rfl rfl ?_ ?_
    · exact s_jmp (v_17_isLarge_88 l _) trivial
    · refine s_32 81 rfl rfl ?_
      refine s_20 0 89 84 89 2100000000000000 rfl jw_1899 rfl ?_
      refine s_148_158 0 7 92 85 88 rfl rfl rfl ?_ ?_
      · refine s_3 93 rfl ?_
        exact s_jmp (v_17_isLarge_93 l _ _) trivial
      · exact s_jmp (v_17_isLarge_88 l _) trivial
  · refine s_27 17 rfl rfl ?_
    refine s_154 0 29 46 20 rfl rfl ?_ ?_
    · exact s_jmp (v_17_isLarge_46 l k7 hk7 _ _ _ _) ⟨rfl, rfl, rfl, trivial⟩
    · refine s_42 21 rfl rfl ?_
      refine s_180R 0 28 24 28 f_17_12 jw_1541 rfl rfl ?_
      refine s_21 4 26 rfl rfl ?_
      refine s_47 27 rfl ?_
      refine s_9 28 rfl ?_
      refine s_148_155 0 17 46 29 32 rfl rfl rfl ?_ ?_
      · exact s_jmp (v_17_isLarge_46 l k7 hk7 _ _ _ _) ⟨rfl, rfl, rfl, trivial⟩
      · refine s_42 33 rfl rfl ?_
        refine s_180R 0 28 36 28 f_17_12 jw_1541 rfl rfl ?_
        refine s_21 4 38 rfl rfl ?_
        refine s_47 39 rfl ?_
        refine s_20 0 89 42 89 2100000000000000 rfl jw_1899 rfl ?_
        refine s_148_158 0 7 50 43 46 rfl rfl rfl ?_ ?_
        · refine s_3 51 rfl ?_
          exact s_jmp (v_17_isLarge_51 l k7 hk7 _ _ _ _ _) ⟨rfl, rfl, rfl, trivial⟩
        · exact s_jmp (v_17_isLarge_46 l k7 hk7 _ _ _ _) ⟨rfl, rfl, rfl, trivial⟩
theorem w_17_isLarge_7 (l : Launch)  (n : Nat) : ∀ a0 a1 a2 a4 H, JV l mi_17_isLarge jeI 7 [(0, .ref a0), (1, .int a1), (2, .long a2), (4, .int a4)] [] H (F_17_isLarge_7  n a0 a1 a2 a4 H) := by
  induction n with
  | zero => intro _ _ _ _ _; exact s_none
  | succ n ih => intro a0 a1 a2 a4 H; exact v_17_isLarge_7 l (F_17_isLarge_7  n) ih a0 a1 a2 a4 H
theorem v_17_isLarge (l : Launch) (a0 : Nat) (H : jH) : JV l mi_17_isLarge jeI 0 [(0, .ref a0)] [] H (F_17_isLarge a0 H) := by
  unfold F_17_isLarge
  refine s_3 1 rfl ?_
  refine s_60 2 rfl rfl ?_
  refine s_9 3 rfl ?_
  refine s_65 4 rfl rfl ?_
  refine s_3 5 rfl ?_
  refine s_54 4 7 rfl rfl ?_
  exact s_jmp (w_17_isLarge_7 l jfuel _ _ _ _ _) ⟨rfl, rfl, rfl, rfl, trivial⟩
theorem m_17_isLarge (l : Launch) (a0 : Nat) (H : jH) : JMet l y_17_isLarge prog_21_method_9_code mi_17_isLarge jeI [.ref a0] H (F_17_isLarge a0 H) := jmet_of n_17_isLarge (by decide) ⟨rfl, rfl⟩ (Nat.le_of_ble_eq_true rfl) (v_17_isLarge l a0 H)
def mi_17_isTwice : jM := (221023564952914139332573467789119598796196755170930861516329856428191839086976829020635953711629373444653944092741703354884578086276397497144509303518826225097678498109586388933044787521300665430808166284868611, 87, 4, "CoinNodeModel$Tx", some FieldType.boolean, "isTwice", 1, 26)
def y_17_isTwice : MethodName := ⟨"CoinNodeModel$Tx", "isTwice", "()Z"⟩
theorem n_17_isTwice : jn_is prog_21_method_10_code mi_17_isTwice.1 mi_17_isTwice.2.1 := by unfold jn_is; decide +kernel
theorem k_17_isTwice : jmok y_17_isTwice prog_21_method_10_code mi_17_isTwice 0 := ⟨jw_1903, jw_20, ⟨by decide, by decide⟩, by decide +kernel⟩
theorem v_17_isTwice_72 (l : Launch) (k14 : Nat → Int32 → Int32 → Int32 → jH → Option (Int32 × jH)) (hk14 : ∀ a0 a1 a2 a3 H, JV l mi_17_isTwice jeI 14 [(0, .ref a0), (1, .int a1), (2, .int a2), (3, .int a3)] [] H (k14 a0 a1 a2 a3 H)) (a0 : Nat) (a2 : Int32) (a3 : Int32) (s0 : Int32) (H : jH) : JV l mi_17_isTwice jeI 72 [(0, .ref a0), (2, .int a2), (3, .int a3)] [.int s0] H (B_17_isTwice_72 k14 a0 a2 a3 s0 H) := by
  unfold B_17_isTwice_72
  refine s_60 73 rfl rfl ?_
  refine s_132L 3 1 76 1 ji_1 rfl rfl rfl (fun x1 => ?_)
  refine s_167 255 194 14 rfl rfl ?_
  exact s_jmp (hk14 _ _ _ _ _) ⟨rfl, rfl, rfl, rfl, trivial⟩
theorem v_17_isTwice_67 (l : Launch) (k14 : Nat → Int32 → Int32 → Int32 → jH → Option (Int32 × jH)) (hk14 : ∀ a0 a1 a2 a3 H, JV l mi_17_isTwice jeI 14 [(0, .ref a0), (1, .int a1), (2, .int a2), (3, .int a3)] [] H (k14 a0 a1 a2 a3 H)) (a0 : Nat) (a2 : Int32) (a3 : Int32) (H : jH) : JV l mi_17_isTwice jeI 67 [(0, .ref a0), (2, .int a2), (3, .int a3)] [] H (B_17_isTwice_67 k14 a0 a2 a3 H) := by
  unfold B_17_isTwice_67
  refine s_4 68 rfl ?_
  refine s_167 0 4 72 rfl rfl ?_
  exact s_jmp (v_17_isTwice_72 l k14 hk14 _ _ _ _ _) ⟨rfl, rfl, rfl, trivial⟩
theorem v_17_isTwice_71 (l : Launch) (k14 : Nat → Int32 → Int32 → Int32 → jH → Option (Int32 × jH)) (hk14 : ∀ a0 a1 a2 a3 H, JV l mi_17_isTwice jeI 14 [(0, .ref a0), (1, .int a1), (2, .int a2), (3, .int a3)] [] H (k14 a0 a1 a2 a3 H)) (a0 : Nat) (a2 : Int32) (a3 : Int32) (H : jH) : JV l mi_17_isTwice jeI 71 [(0, .ref a0), (2, .int a2), (3, .int a3)] [] H (B_17_isTwice_71 k14 a0 a2 a3 H) := by
  unfold B_17_isTwice_71
  refine s_3 72 rfl ?_
  exact s_jmp (v_17_isTwice_72 l k14 hk14 _ _ _ _ _) ⟨rfl, rfl, rfl, trivial⟩
theorem v_17_isTwice_14 (l : Launch) (k4 : Nat → Int32 → Int32 → jH → Option (Int32 × jH)) (hk4 : ∀ a0 a1 a2 H, JV l mi_17_isTwice jeI 4 [(0, .ref a0), (1, .int a1), (2, .int a2)] [] H (k4 a0 a1 a2 H)) (k14 : Nat → Int32 → Int32 → Int32 → jH → Option (Int32 × jH)) (hk14 : ∀ a0 a1 a2 a3 H, JV l mi_17_isTwice jeI 14 [(0, .ref a0), (1, .int a1), (2, .int a2), (3, .int a3)] [] H (k14 a0 a1 a2 a3 H)) (a0 : Nat) (a1 : Int32) (a2 : Int32) (a3 : Int32) (H : jH) : JV l mi_17_isTwice jeI 14 [(0, .ref a0), (1, .int a1), (2, .int a2), (3, .int a3)] [] H (B_17_isTwice_14 k4 k14 a0 a1 a2 a3 H) := by
  unfold B_17_isTwice_14
  refine s_29 15 rfl rfl ?_
  refine s_28 16 rfl rfl ?_
  refine s_162 0 63 79 19 rfl rfl ?_ ?_
  · refine s_132L 2 1 82 1 ji_1 rfl rfl rfl (fun x2 => ?_)
    refine s_167 255 178 4 rfl rfl ?_
    exact s_jmp (hk4 _ _ _ _) ⟨rfl, rfl, rfl, trivial⟩
  · refine s_27 20 rfl rfl ?_
    refine s_154 0 47 67 23 rfl rfl ?_ ?_
    · exact s_jmp (v_17_isTwice_67 l k14 hk14 _ _ _ _) ⟨rfl, rfl, rfl, trivial⟩
    · refine s_42 24 rfl rfl ?_
      refine s_180R 0 15 27 15 f_17_8 jw_1533 rfl rfl ?_
      refine s_28 28 rfl rfl ?_
      refine s_47 29 rfl ?_
      refine s_42 30 rfl rfl ?_
      refine s_180R 0 15 33 15 f_17_8 jw_1533 rfl rfl ?_
      refine s_29 34 rfl rfl ?_
      refine s_47 35 rfl ?_
      refine s_148_154 0 35 71 36 39 rfl rfl rfl ?_ ?_
      · exact s_jmp (v_17_isTwice_71 l k14 hk14 _ _ _ _) ⟨rfl, rfl, rfl, trivial⟩
      · refine s_42 40 rfl rfl ?_
        refine s_180R 0 52 43 52 f_17_0 jw_1514 rfl rfl ?_
        refine s_42 44 rfl rfl ?_
        refine s_180R 0 11 47 11 f_17_7 jw_1530 rfl rfl ?_
        refine s_28 48 rfl rfl ?_
        refine s_46 49 rfl ?_
        refine s_42 50 rfl rfl ?_
        refine s_180R 0 52 53 52 f_17_0 jw_1514 rfl rfl ?_
        refine s_42 54 rfl rfl ?_
        refine s_180R 0 11 57 11 f_17_7 jw_1530 rfl rfl ?_
        refine s_29 58 rfl rfl ?_
        refine s_46 59 rfl ?_
        refine s_16 32 61 32 jbp_32 rfl ?_
        refine s_184IN 0 91 64 91 (m_18_like l _ _ _ _ _ _) rfl k_18_like jnm_6 jw_1877 rfl rfl rfl rfl rfl (fun x3 h4 => ?_)
        refine s_153 0 7 71 67 rfl rfl ?_ ?_
        · exact s_jmp (v_17_isTwice_71 l k14 hk14 _ _ _ _) ⟨rfl, rfl, rfl, trivial⟩
        · exact s_jmp (v_17_isTwice_67 l k14 hk14 _ _ _ _) ⟨rfl, rfl, rfl, trivial⟩
theorem w_17_isTwice_14 (l : Launch) (k4 : Nat → Int32 → Int32 → jH → Option (Int32 × jH)) (hk4 : ∀ a0 a1 a2 H, JV l mi_17_isTwice jeI 4 [(0, .ref a0), (1, .int a1), (2, .int a2)] [] H (k4 a0 a1 a2 H)) (n : Nat) : ∀ a0 a1 a2 a3 H, JV l mi_17_isTwice jeI 14 [(0, .ref a0), (1, .int a1), (2, .int a2), (3, .int a3)] [] H (F_17_isTwice_14 k4 n a0 a1 a2 a3 H) := by
  induction n with
  | zero => intro _ _ _ _ _; exact s_none
  | succ n ih => intro a0 a1 a2 a3 H; exact v_17_isTwice_14 l k4 hk4 (F_17_isTwice_14 k4 n) ih a0 a1 a2 a3 H
theorem v_17_isTwice_4 (l : Launch) (k4 : Nat → Int32 → Int32 → jH → Option (Int32 × jH)) (hk4 : ∀ a0 a1 a2 H, JV l mi_17_isTwice jeI 4 [(0, .ref a0), (1, .int a1), (2, .int a2)] [] H (k4 a0 a1 a2 H)) (a0 : Nat) (a1 : Int32) (a2 : Int32) (H : jH) : JV l mi_17_isTwice jeI 4 [(0, .ref a0), (1, .int a1), (2, .int a2)] [] H (B_17_isTwice_4 k4 a0 a1 a2 H) := by
  unfold B_17_isTwice_4
  refine s_28 5 rfl rfl ?_
  refine s_42 6 rfl rfl ?_
  refine s_180I 0 79 9 79 f_17_4 jw_1525 rfl rfl ?_
  refine s_162 0 76 85 12 rfl rfl ?_ ?_
  · refine s_27 86 rfl rfl ?_
    exact s_172Z rfl rfl
  · refine s_3 13 rfl ?_
    refine s_62 14 rfl rfl ?_
    exact s_jmp (w_17_isTwice_14 l k4 hk4 jfuel _ _ _ _ _) ⟨rfl, rfl, rfl, rfl, trivial⟩
theorem w_17_isTwice_4 (l : Launch)  (n : Nat) : ∀ a0 a1 a2 H, JV l mi_17_isTwice jeI 4 [(0, .ref a0), (1, .int a1), (2, .int a2)] [] H (F_17_isTwice_4  n a0 a1 a2 H) := by
  induction n with
  | zero => intro _ _ _ _; exact s_none
  | succ n ih => intro a0 a1 a2 H; exact v_17_isTwice_4 l (F_17_isTwice_4  n) ih a0 a1 a2 H
theorem v_17_isTwice (l : Launch) (a0 : Nat) (H : jH) : JV l mi_17_isTwice jeI 0 [(0, .ref a0)] [] H (F_17_isTwice a0 H) := by
  unfold F_17_isTwice
  refine s_3 1 rfl ?_
  refine s_60 2 rfl rfl ?_
  refine s_3 3 rfl ?_
  refine s_61 4 rfl rfl ?_
  exact s_jmp (w_17_isTwice_4 l jfuel _ _ _ _) ⟨rfl, rfl, rfl, trivial⟩
theorem m_17_isTwice (l : Launch) (a0 : Nat) (H : jH) : JMet l y_17_isTwice prog_21_method_10_code mi_17_isTwice jeI [.ref a0] H (F_17_isTwice a0 H) := jmet_of n_17_isTwice (by decide) ⟨rfl, rfl⟩ (Nat.le_of_ble_eq_true rfl) (v_17_isTwice l a0 H)
def mi_17_fault : jM := (94058222522839769611359939155354010900363166017714677838150363261511128419448657993159592451483153450, 42, 1, "CoinNodeModel$Tx", some FieldType.int, "fault", 2, 49)
def y_17_fault : MethodName := ⟨"CoinNodeModel$Tx", "fault", "()I"⟩
theorem n_17_fault : jn_is prog_21_method_11_code mi_17_fault.1 mi_17_fault.2.1 := by unfold jn_is; decide +kernel
theorem k_17_fault : jmok y_17_fault prog_21_method_11_code mi_17_fault 0 := ⟨jw_1894, jw_20, ⟨by decide, by decide⟩, by decide +kernel⟩
theorem v_17_fault_41 (l : Launch)  (s0 : Int32) (H : jH) : JV l mi_17_fault jeI 41 [] [.int s0] H (B_17_fault_41  s0 H) := by
  unfold B_17_fault_41
  exact s_172 rfl rfl
theorem v_17_fault_14 (l : Launch)   (H : jH) : JV l mi_17_fault jeI 14 [] [] H (B_17_fault_14   H) := by
  unfold B_17_fault_14
  refine s_5 15 rfl ?_
  refine s_167 0 26 41 rfl rfl ?_
  exact s_jmp (v_17_fault_41 l _ _) trivial
theorem v_17_fault (l : Launch) (a0 : Nat) (H : jH) : JV l mi_17_fault jeI 0 [(0, .ref a0)] [] H (F_17_fault a0 H) := by
  unfold F_17_fault
  refine s_42 1 rfl rfl ?_
  refine s_180I 0 79 4 79 f_17_4 jw_1525 rfl rfl ?_
  refine s_153 0 10 14 7 rfl rfl ?_ ?_
  · exact s_jmp (v_17_fault_14 l _) trivial
  · refine s_42 8 rfl rfl ?_
    refine s_180I 0 82 11 82 f_17_5 jw_1528 rfl rfl ?_
    refine s_154 0 7 18 14 rfl rfl ?_ ?_
    · refine s_42 19 rfl rfl ?_
      refine s_182I 0 95 22 95 (m_17_isLarge l _ _) rfl k_17_isLarge jc_17 jw_1895 jw_1896 jw_1897 rfl rfl rfl rfl rfl (fun x1 h2 => ?_)
      refine s_153 0 7 29 25 rfl rfl ?_ ?_
      · refine s_42 30 rfl rfl ?_
        refine s_182I 0 99 33 99 (m_17_isTwice l _ _) rfl k_17_isTwice jc_17 jw_1900 jw_1901 jw_1902 rfl rfl rfl rfl rfl (fun x3 h4 => ?_)
        refine s_153 0 7 40 36 rfl rfl ?_ ?_
        · refine s_3 41 rfl ?_
          exact s_jmp (v_17_fault_41 l _ _) trivial
        · refine s_7 37 rfl ?_
          refine s_167 0 4 41 rfl rfl ?_
          exact s_jmp (v_17_fault_41 l _ _) trivial
      · refine s_6 26 rfl ?_
        refine s_167 0 15 41 rfl rfl ?_
        exact s_jmp (v_17_fault_41 l _ _) trivial
    · exact s_jmp (v_17_fault_14 l _) trivial
theorem m_17_fault (l : Launch) (a0 : Nat) (H : jH) : JMet l y_17_fault prog_21_method_11_code mi_17_fault jeI [.ref a0] H (F_17_fault a0 H) := jmet_of n_17_fault (by decide) ⟨rfl, rfl⟩ (Nat.le_of_ble_eq_true rfl) (v_17_fault l a0 H)
def mi_17_isRoot : jM := (537292766608140774190678216250720116599669996862231323278486254960347154553001441027842412294896632887380779434148962483809398467546010020804080682, 61, 4, "CoinNodeModel$Tx", some FieldType.boolean, "isRoot", 0, 0)
def y_17_isRoot : MethodName := ⟨"CoinNodeModel$Tx", "isRoot", "(I)Z"⟩
theorem n_17_isRoot : jn_is prog_21_method_7_code mi_17_isRoot.1 mi_17_isRoot.2.1 := by unfold jn_is; decide +kernel
theorem k_17_isRoot : jmok y_17_isRoot prog_21_method_7_code mi_17_isRoot 1 := ⟨jw_1912, jw_20, ⟨by decide, by decide⟩, by decide +kernel⟩
theorem v_17_isRoot_52 (l : Launch) (k21 : Nat → Int32 → Int32 → Int32 → jH → Option (Int32 × jH)) (hk21 : ∀ a0 a1 a2 a3 H, JV l mi_17_isRoot jeI 21 [(0, .ref a0), (1, .int a1), (2, .int a2), (3, .int a3)] [] H (k21 a0 a1 a2 a3 H)) (a0 : Nat) (a1 : Int32) (a3 : Int32) (s0 : Int32) (H : jH) : JV l mi_17_isRoot jeI 52 [(0, .ref a0), (1, .int a1), (3, .int a3)] [.int s0] H (B_17_isRoot_52 k21 a0 a1 a3 s0 H) := by
  unfold B_17_isRoot_52
  refine s_61 53 rfl rfl ?_
  refine s_132L 3 1 56 1 ji_1 rfl rfl rfl (fun x1 => ?_)
  refine s_167 255 221 21 rfl rfl ?_
  exact s_jmp (hk21 _ _ _ _ _) ⟨rfl, rfl, rfl, rfl, trivial⟩
theorem v_17_isRoot_51 (l : Launch) (k21 : Nat → Int32 → Int32 → Int32 → jH → Option (Int32 × jH)) (hk21 : ∀ a0 a1 a2 a3 H, JV l mi_17_isRoot jeI 21 [(0, .ref a0), (1, .int a1), (2, .int a2), (3, .int a3)] [] H (k21 a0 a1 a2 a3 H)) (a0 : Nat) (a1 : Int32) (a3 : Int32) (H : jH) : JV l mi_17_isRoot jeI 51 [(0, .ref a0), (1, .int a1), (3, .int a3)] [] H (B_17_isRoot_51 k21 a0 a1 a3 H) := by
  unfold B_17_isRoot_51
  refine s_3 52 rfl ?_
  exact s_jmp (v_17_isRoot_52 l k21 hk21 _ _ _ _ _) ⟨rfl, rfl, rfl, trivial⟩
theorem v_17_isRoot_21 (l : Launch) (k21 : Nat → Int32 → Int32 → Int32 → jH → Option (Int32 × jH)) (hk21 : ∀ a0 a1 a2 a3 H, JV l mi_17_isRoot jeI 21 [(0, .ref a0), (1, .int a1), (2, .int a2), (3, .int a3)] [] H (k21 a0 a1 a2 a3 H)) (a0 : Nat) (a1 : Int32) (a2 : Int32) (a3 : Int32) (H : jH) : JV l mi_17_isRoot jeI 21 [(0, .ref a0), (1, .int a1), (2, .int a2), (3, .int a3)] [] H (B_17_isRoot_21 k21 a0 a1 a2 a3 H) := by
  unfold B_17_isRoot_21
  refine s_29 22 rfl rfl ?_
  refine s_16 32 24 32 jbp_32 rfl ?_
  refine s_162 0 35 59 27 rfl rfl ?_ ?_
  · refine s_28 60 rfl rfl ?_
    exact s_172Z rfl rfl
  · refine s_28 28 rfl rfl ?_
    refine s_153 0 23 51 31 rfl rfl ?_ ?_
    · exact s_jmp (v_17_isRoot_51 l k21 hk21 _ _ _ _) ⟨rfl, rfl, rfl, trivial⟩
    · refine s_42 32 rfl rfl ?_
      refine s_180R 0 52 35 52 f_17_0 jw_1514 rfl rfl ?_
      refine s_42 36 rfl rfl ?_
      refine s_180R 0 11 39 11 f_17_7 jw_1530 rfl rfl ?_
      refine s_27 40 rfl rfl ?_
      refine s_46 41 rfl ?_
      refine s_29 42 rfl rfl ?_
      refine s_96 43 rfl ?_
      refine s_51B 44 rfl ?_
      refine s_154 0 7 51 47 rfl rfl ?_ ?_
      · exact s_jmp (v_17_isRoot_51 l k21 hk21 _ _ _ _) ⟨rfl, rfl, rfl, trivial⟩
      · refine s_4 48 rfl ?_
        refine s_167 0 4 52 rfl rfl ?_
        exact s_jmp (v_17_isRoot_52 l k21 hk21 _ _ _ _ _) ⟨rfl, rfl, rfl, trivial⟩
theorem w_17_isRoot_21 (l : Launch)  (n : Nat) : ∀ a0 a1 a2 a3 H, JV l mi_17_isRoot jeI 21 [(0, .ref a0), (1, .int a1), (2, .int a2), (3, .int a3)] [] H (F_17_isRoot_21  n a0 a1 a2 a3 H) := by
  induction n with
  | zero => intro _ _ _ _ _; exact s_none
  | succ n ih => intro a0 a1 a2 a3 H; exact v_17_isRoot_21 l (F_17_isRoot_21  n) ih a0 a1 a2 a3 H
theorem v_17_isRoot_18 (l : Launch)  (a0 : Nat) (a1 : Int32) (s0 : Int32) (H : jH) : JV l mi_17_isRoot jeI 18 [(0, .ref a0), (1, .int a1)] [.int s0] H (B_17_isRoot_18  a0 a1 s0 H) := by
  unfold B_17_isRoot_18
  refine s_61 19 rfl rfl ?_
  refine s_3 20 rfl ?_
  refine s_62 21 rfl rfl ?_
  exact s_jmp (w_17_isRoot_21 l jfuel _ _ _ _ _) ⟨rfl, rfl, rfl, rfl, trivial⟩
theorem v_17_isRoot (l : Launch) (a0 : Nat) (a1 : Int32) (H : jH) : JV l mi_17_isRoot jeI 0 [(0, .ref a0), (1, .int a1)] [] H (F_17_isRoot a0 a1 H) := by
  unfold F_17_isRoot
  refine s_42 1 rfl rfl ?_
  refine s_180R 0 15 4 15 f_17_8 jw_1533 rfl rfl ?_
  refine s_27 5 rfl rfl ?_
  refine s_47 6 rfl ?_
  refine s_20 0 70 9 70 4294967295 rfl jw_1867 rfl ?_
  refine s_148_154 0 7 17 10 13 rfl rfl rfl ?_ ?_
  · refine s_3 18 rfl ?_
    exact s_jmp (v_17_isRoot_18 l _ _ _ _) ⟨rfl, rfl, trivial⟩
  · refine s_4 14 rfl ?_
    refine s_167 0 4 18 rfl rfl ?_
    exact s_jmp (v_17_isRoot_18 l _ _ _ _) ⟨rfl, rfl, trivial⟩
theorem m_17_isRoot (l : Launch) (a0 : Nat) (a1 : Int32) (H : jH) : JMet l y_17_isRoot prog_21_method_7_code mi_17_isRoot jeI [.ref a0, .int a1] H (F_17_isRoot a0 a1 H) := jmet_of n_17_isRoot (by decide) ⟨rfl, rfl⟩ (Nat.le_of_ble_eq_true rfl) (v_17_isRoot l a0 a1 H)
def mi_17_hasRoot : jM := (21912007398848127102122077027524811543376643862561568581087895351068125438946724391906655235, 38, 3, "CoinNodeModel$Tx", some FieldType.boolean, "hasRoot", 1, 23)
def y_17_hasRoot : MethodName := ⟨"CoinNodeModel$Tx", "hasRoot", "()Z"⟩
theorem n_17_hasRoot : jn_is prog_21_method_8_code mi_17_hasRoot.1 mi_17_hasRoot.2.1 := by unfold jn_is; decide +kernel
theorem k_17_hasRoot : jmok y_17_hasRoot prog_21_method_8_code mi_17_hasRoot 0 := ⟨jw_1908, jw_20, ⟨by decide, by decide⟩, by decide +kernel⟩
theorem v_17_hasRoot_29 (l : Launch) (k4 : Nat → Int32 → Int32 → jH → Option (Int32 × jH)) (hk4 : ∀ a0 a1 a2 H, JV l mi_17_hasRoot jeI 4 [(0, .ref a0), (1, .int a1), (2, .int a2)] [] H (k4 a0 a1 a2 H)) (a0 : Nat) (a2 : Int32) (s0 : Int32) (H : jH) : JV l mi_17_hasRoot jeI 29 [(0, .ref a0), (2, .int a2)] [.int s0] H (B_17_hasRoot_29 k4 a0 a2 s0 H) := by
  unfold B_17_hasRoot_29
  refine s_60 30 rfl rfl ?_
  refine s_132L 2 1 33 1 ji_1 rfl rfl rfl (fun x1 => ?_)
  refine s_167 255 227 4 rfl rfl ?_
  exact s_jmp (hk4 _ _ _ _) ⟨rfl, rfl, rfl, trivial⟩
theorem v_17_hasRoot_24 (l : Launch) (k4 : Nat → Int32 → Int32 → jH → Option (Int32 × jH)) (hk4 : ∀ a0 a1 a2 H, JV l mi_17_hasRoot jeI 4 [(0, .ref a0), (1, .int a1), (2, .int a2)] [] H (k4 a0 a1 a2 H)) (a0 : Nat) (a2 : Int32) (H : jH) : JV l mi_17_hasRoot jeI 24 [(0, .ref a0), (2, .int a2)] [] H (B_17_hasRoot_24 k4 a0 a2 H) := by
  unfold B_17_hasRoot_24
  refine s_4 25 rfl ?_
  refine s_167 0 4 29 rfl rfl ?_
  exact s_jmp (v_17_hasRoot_29 l k4 hk4 _ _ _ _) ⟨rfl, rfl, trivial⟩
theorem v_17_hasRoot_4 (l : Launch) (k4 : Nat → Int32 → Int32 → jH → Option (Int32 × jH)) (hk4 : ∀ a0 a1 a2 H, JV l mi_17_hasRoot jeI 4 [(0, .ref a0), (1, .int a1), (2, .int a2)] [] H (k4 a0 a1 a2 H)) (a0 : Nat) (a1 : Int32) (a2 : Int32) (H : jH) : JV l mi_17_hasRoot jeI 4 [(0, .ref a0), (1, .int a1), (2, .int a2)] [] H (B_17_hasRoot_4 k4 a0 a1 a2 H) := by
  unfold B_17_hasRoot_4
  refine s_28 5 rfl rfl ?_
  refine s_42 6 rfl rfl ?_
  refine s_180I 0 79 9 79 f_17_4 jw_1525 rfl rfl ?_
  refine s_162 0 27 36 12 rfl rfl ?_ ?_
  · refine s_27 37 rfl rfl ?_
    exact s_172Z rfl rfl
  · refine s_27 13 rfl rfl ?_
    refine s_154 0 11 24 16 rfl rfl ?_ ?_
    · exact s_jmp (v_17_hasRoot_24 l k4 hk4 _ _ _) ⟨rfl, rfl, trivial⟩
    · refine s_42 17 rfl rfl ?_
      refine s_28 18 rfl rfl ?_
      refine s_182I 0 85 21 85 (m_17_isRoot l _ _ _) rfl k_17_isRoot jc_17 jw_1909 jw_1910 jw_1911 rfl rfl rfl rfl rfl (fun x2 h3 => ?_)
      refine s_153 0 7 28 24 rfl rfl ?_ ?_
      · refine s_3 29 rfl ?_
        exact s_jmp (v_17_hasRoot_29 l k4 hk4 _ _ _ _) ⟨rfl, rfl, trivial⟩
      · exact s_jmp (v_17_hasRoot_24 l k4 hk4 _ _ _) ⟨rfl, rfl, trivial⟩
theorem w_17_hasRoot_4 (l : Launch)  (n : Nat) : ∀ a0 a1 a2 H, JV l mi_17_hasRoot jeI 4 [(0, .ref a0), (1, .int a1), (2, .int a2)] [] H (F_17_hasRoot_4  n a0 a1 a2 H) := by
  induction n with
  | zero => intro _ _ _ _; exact s_none
  | succ n ih => intro a0 a1 a2 H; exact v_17_hasRoot_4 l (F_17_hasRoot_4  n) ih a0 a1 a2 H
theorem v_17_hasRoot (l : Launch) (a0 : Nat) (H : jH) : JV l mi_17_hasRoot jeI 0 [(0, .ref a0)] [] H (F_17_hasRoot a0 H) := by
  unfold F_17_hasRoot
  refine s_3 1 rfl ?_
  refine s_60 2 rfl rfl ?_
  refine s_3 3 rfl ?_
  refine s_61 4 rfl rfl ?_
  exact s_jmp (w_17_hasRoot_4 l jfuel _ _ _ _) ⟨rfl, rfl, rfl, trivial⟩
theorem m_17_hasRoot (l : Launch) (a0 : Nat) (H : jH) : JMet l y_17_hasRoot prog_21_method_8_code mi_17_hasRoot jeI [.ref a0] H (F_17_hasRoot a0 H) := jmet_of n_17_hasRoot (by decide) ⟨rfl, rfl⟩ (Nat.le_of_ble_eq_true rfl) (v_17_hasRoot l a0 H)
def mi_18_comes : jM := (152509071474969507279771404270970309414307235951672012496056851937108943777569756132245996343834616748570424776527965867572423145146731500088578058745662829655897503225947959547345917873873151852962378940572905988811327502884212084978617040755930754377700176869533403017126329194055748521557702163713182328955000032552033859394339946501260328330058691905228073819112085695261472483097207762339697373558909888923374349006109473786725954530801464968901489236144563539809900212548135110117042080679673925767506748507591314468849292900399278112437195837275712494712338347995471754797629672609263379820919795498054847841751615061446340814801133399016954095916876648654894799539929397733563572325824923778719903823502550543005499088191812424460796430367333760641335780693023829986192973391633978019665843926744253603427654943737552828545098890790853544688691329056211098086060866081070488384169459254898240648609764932124338108343816035613354884834899405598371438680540276529147828891366650897174129508817832384559778866345596324624190418801207495500175956924882240364524153456692133556139177295645412327235537571527018731201263493383391778063001274934400651441472209536337707741036401438296731022724648918479058503495837191562277197248063644329551640306958154419330009463003766234852745148224573841387081208260704435716308337036387427782271027897953290179362273734926229973106823118711717545517083473548175711199351156306779846109174835185301210771594498396289171698111201977293323238006112405864187233822023301290339417281333789825079052514478759113225539742598390098474, 650, 12, "CoinNodeModel", some FieldType.int, "comes", 14, 333)
def y_18_comes : MethodName := ⟨"CoinNodeModel", "comes", "([BIIZ)I"⟩
theorem n_18_comes : jn_is prog_14_method_29_code mi_18_comes.1 mi_18_comes.2.1 := by unfold jn_is; decide +kernel
theorem k_18_comes : jmok y_18_comes prog_14_method_29_code mi_18_comes 4 := ⟨jw_1816, jw_14, ⟨by decide, by decide⟩, by decide +kernel⟩
theorem v_18_comes_103 (l : Launch) (k88 : Nat → Nat → Int32 → Int32 → Int32 → Int32 → jH → Option (Int32 × jH)) (hk88 : ∀ a0 a1 a2 a3 a4 a6 H, JV l mi_18_comes jeI 88 [(0, .ref a0), (1, .ref a1), (2, .int a2), (3, .int a3), (4, .int a4), (6, .int a6)] [] H (k88 a0 a1 a2 a3 a4 a6 H)) (k103 : Nat → Nat → Int32 → Int32 → Int32 → Int32 → Int32 → jH → Option (Int32 × jH)) (hk103 : ∀ a0 a1 a2 a3 a4 a6 a7 H, JV l mi_18_comes jeI 103 [(0, .ref a0), (1, .ref a1), (2, .int a2), (3, .int a3), (4, .int a4), (6, .int a6), (7, .int a7)] [] H (k103 a0 a1 a2 a3 a4 a6 a7 H)) (a0 : Nat) (a1 : Nat) (a2 : Int32) (a3 : Int32) (a4 : Int32) (a6 : Int32) (a7 : Int32) (H : jH) : JV l mi_18_comes jeI 103 [(0, .ref a0), (1, .ref a1), (2, .int a2), (3, .int a3), (4, .int a4), (6, .int a6), (7, .int a7)] [] H (B_18_comes_103 k88 k103 a0 a1 a2 a3 a4 a6 a7 H) := by
  unfold B_18_comes_103
  refine s_21 7 105 rfl rfl ?_
  refine s_42 106 rfl rfl ?_
  refine s_180I 1 97 109 353 f_18_36 jw_1646 rfl rfl ?_
  refine s_162 0 48 157 112 rfl rfl ?_ ?_
  · refine s_132L 6 1 160 1 ji_1 rfl rfl rfl (fun x1 => ?_)
    refine s_167 255 184 88 rfl rfl ?_
    exact s_jmp (hk88 _ _ _ _ _ _ _) ⟨rfl, rfl, rfl, rfl, rfl, rfl, trivial⟩
  · refine s_42 113 rfl rfl ?_
    refine s_21 7 115 rfl rfl ?_
    refine s_42 116 rfl rfl ?_
    refine s_180R 0 47 119 47 f_18_4 jw_1614 rfl rfl ?_
    refine s_180RN 0 197 122 197 f_17_0 jnf_7 rfl rfl ?_
    refine s_42 123 rfl rfl ?_
    refine s_180R 0 47 126 47 f_18_4 jw_1614 rfl rfl ?_
    refine s_180RN 0 200 129 200 f_17_7 jnf_16 rfl rfl ?_
    refine s_21 6 131 rfl rfl ?_
    refine s_46 132 rfl ?_
    refine s_42 133 rfl rfl ?_
    refine s_180R 0 47 136 47 f_18_4 jw_1614 rfl rfl ?_
    refine s_180RN 0 202 139 202 f_17_8 jnf_17 rfl rfl ?_
    refine s_21 6 141 rfl rfl ?_
    refine s_47 142 rfl ?_
    refine s_182I 1 138 145 394 (m_18_spends l _ _ _ _ _ _) rfl k_18_spends jc_18 jw_1917 jw_1919 jps_70 rfl rfl rfl rfl rfl (fun x2 h3 => ?_)
    refine s_153 0 6 151 148 rfl rfl ?_ ?_
    · refine s_132L 7 1 154 1 ji_1 rfl rfl rfl (fun x4 => ?_)
      refine s_167 255 205 103 rfl rfl ?_
      exact s_jmp (hk103 _ _ _ _ _ _ _ _) ⟨rfl, rfl, rfl, rfl, rfl, rfl, rfl, trivial⟩
    · refine s_16 13 150 13 jbp_13 rfl ?_
      exact s_172 rfl rfl
theorem w_18_comes_103 (l : Launch) (k88 : Nat → Nat → Int32 → Int32 → Int32 → Int32 → jH → Option (Int32 × jH)) (hk88 : ∀ a0 a1 a2 a3 a4 a6 H, JV l mi_18_comes jeI 88 [(0, .ref a0), (1, .ref a1), (2, .int a2), (3, .int a3), (4, .int a4), (6, .int a6)] [] H (k88 a0 a1 a2 a3 a4 a6 H)) (n : Nat) : ∀ a0 a1 a2 a3 a4 a6 a7 H, JV l mi_18_comes jeI 103 [(0, .ref a0), (1, .ref a1), (2, .int a2), (3, .int a3), (4, .int a4), (6, .int a6), (7, .int a7)] [] H (F_18_comes_103 k88 n a0 a1 a2 a3 a4 a6 a7 H) := by
  induction n with
  | zero => intro _ _ _ _ _ _ _ _; exact s_none
  | succ n ih => intro a0 a1 a2 a3 a4 a6 a7 H; exact v_18_comes_103 l k88 hk88 (F_18_comes_103 k88 n) ih a0 a1 a2 a3 a4 a6 a7 H
theorem v_18_comes_241 (l : Launch)   (H : jH) : JV l mi_18_comes jeI 241 [] [] H (B_18_comes_241   H) := by
  unfold B_18_comes_241
  refine s_16 7 243 7 jbp_7 rfl ?_
  exact s_172 rfl rfl
theorem v_18_comes_261 (l : Launch) (k172 : Nat → Nat → Int32 → Int32 → Int32 → Int64 → Int32 → Int32 → jH → Option (Int32 × jH)) (hk172 : ∀ a0 a1 a2 a3 a4 a6 a8 a9 H, JV l mi_18_comes jeI 172 [(0, .ref a0), (1, .ref a1), (2, .int a2), (3, .int a3), (4, .int a4), (6, .long a6), (8, .int a8), (9, .int a9)] [] H (k172 a0 a1 a2 a3 a4 a6 a8 a9 H)) (a0 : Nat) (a1 : Nat) (a2 : Int32) (a3 : Int32) (a4 : Int32) (a6 : Int64) (a9 : Int32) (a10 : Int64) (s0 : Int32) (H : jH) : JV l mi_18_comes jeI 261 [(0, .ref a0), (1, .ref a1), (2, .int a2), (3, .int a3), (4, .int a4), (6, .long a6), (9, .int a9), (10, .long a10)] [.int s0] H (B_18_comes_261 k172 a0 a1 a2 a3 a4 a6 a9 a10 s0 H) := by
  unfold B_18_comes_261
  refine s_54 8 263 rfl rfl ?_
  refine s_22 6 265 rfl rfl ?_
  refine s_22 10 267 rfl rfl ?_
  refine s_97 268 rfl ?_
  refine s_jmp (ls' := [(0, .ref a0), (1, .ref a1), (2, .int a2), (3, .int a3), (4, .int a4), (6, .long a6), (8, .int s0), (9, .int a9), (10, .long a10)]) ?_ ⟨rfl, rfl, rfl, rfl, rfl, rfl, rfl, rfl, rfl, trivial⟩
  refine s_55L 6 270 rfl rfl (fun x5 => ?_)
  refine s_132L 9 1 273 1 ji_1 rfl rfl rfl (fun x6 => ?_)
  refine s_167 255 155 172 rfl rfl ?_
  exact s_jmp (hk172 _ _ _ _ _ _ _ _ _) ⟨rfl, rfl, rfl, rfl, rfl, rfl, rfl, rfl, trivial⟩
theorem v_18_comes_256 (l : Launch) (k172 : Nat → Nat → Int32 → Int32 → Int32 → Int64 → Int32 → Int32 → jH → Option (Int32 × jH)) (hk172 : ∀ a0 a1 a2 a3 a4 a6 a8 a9 H, JV l mi_18_comes jeI 172 [(0, .ref a0), (1, .ref a1), (2, .int a2), (3, .int a3), (4, .int a4), (6, .long a6), (8, .int a8), (9, .int a9)] [] H (k172 a0 a1 a2 a3 a4 a6 a8 a9 H)) (a0 : Nat) (a1 : Nat) (a2 : Int32) (a3 : Int32) (a4 : Int32) (a6 : Int64) (a9 : Int32) (a10 : Int64) (H : jH) : JV l mi_18_comes jeI 256 [(0, .ref a0), (1, .ref a1), (2, .int a2), (3, .int a3), (4, .int a4), (6, .long a6), (9, .int a9), (10, .long a10)] [] H (B_18_comes_256 k172 a0 a1 a2 a3 a4 a6 a9 a10 H) := by
  unfold B_18_comes_256
  refine s_4 257 rfl ?_
  refine s_167 0 4 261 rfl rfl ?_
  exact s_jmp (v_18_comes_261 l k172 hk172 _ _ _ _ _ _ _ _ _ _) ⟨rfl, rfl, rfl, rfl, rfl, rfl, rfl, rfl, trivial⟩
theorem v_18_comes_649 (l : Launch)  (s0 : Int32) (H : jH) : JV l mi_18_comes jeI 649 [] [.int s0] H (B_18_comes_649  s0 H) := by
  unfold B_18_comes_649
  exact s_172 rfl rfl
theorem v_18_comes_631 (l : Launch)  (a0 : Nat) (H : jH) : JV l mi_18_comes jeI 631 [(0, .ref a0)] [] H (B_18_comes_631  a0 H) := by
  unfold B_18_comes_631
  refine s_42 632 rfl rfl ?_
  refine s_42 633 rfl rfl ?_
  refine s_180R 0 161 636 161 f_18_49 jw_1659 rfl rfl ?_
  refine s_3 637 rfl ?_
  refine s_182I 1 119 640 375 (m_18_inPool l _ _ _ _) rfl k_18_inPool jc_18 jw_1913 jw_1915 jps_69 rfl rfl rfl rfl rfl (fun x7 h8 => ?_)
  refine s_156 0 8 648 643 rfl rfl ?_ ?_
  · refine s_3 649 rfl ?_
    exact s_jmp (v_18_comes_649 l _ _) trivial
  · refine s_16 11 645 11 jbp_11 rfl ?_
    refine s_167 0 4 649 rfl rfl ?_
    exact s_jmp (v_18_comes_649 l _ _) trivial
theorem v_18_comes_538 (l : Launch) (k538 : Nat → Int32 → Int32 → jH → Option (Int32 × jH)) (hk538 : ∀ a0 a2 a9 H, JV l mi_18_comes jeI 538 [(0, .ref a0), (2, .int a2), (9, .int a9)] [] H (k538 a0 a2 a9 H)) (a0 : Nat) (a2 : Int32) (a9 : Int32) (H : jH) : JV l mi_18_comes jeI 538 [(0, .ref a0), (2, .int a2), (9, .int a9)] [] H (B_18_comes_538 k538 a0 a2 a9 H) := by
  unfold B_18_comes_538
  refine s_21 9 540 rfl rfl ?_
  refine s_42 541 rfl rfl ?_
  refine s_180R 0 47 544 47 f_18_4 jw_1614 rfl rfl ?_
  refine s_180IN 0 194 547 194 f_17_4 jnf_12 rfl rfl ?_
  refine s_162 0 61 608 550 rfl rfl ?_ ?_
  · refine s_42 609 rfl rfl ?_
    refine s_89 610 rfl rfl ?_
    refine s_180I 1 97 613 353 f_18_36 jw_1646 rfl rfl ?_
    refine s_4 614 rfl ?_
    refine s_96 615 rfl ?_
    refine s_181I 1 97 618 353 f_18_36 rfl rfl jw_1646 rfl rfl (fun h9 => ?_)
    refine s_42 619 rfl rfl ?_
    refine s_180I 1 97 622 353 f_18_36 jw_1646 rfl rfl ?_
    refine s_16 40 624 40 jbp_40 rfl ?_
    refine s_164 0 7 631 627 rfl rfl ?_ ?_
    · exact s_jmp (v_18_comes_631 l _ _) ⟨rfl, trivial⟩
    · refine s_42 628 rfl rfl ?_
      refine s_182V 1 154 631 410 (m_18_evict l _ _) rfl k_18_evict jc_18 jw_2280 jw_2282 jps_137 rfl rfl rfl rfl rfl (fun x10 h11 => ?_)
      exact s_jmp (v_18_comes_631 l _ _) ⟨rfl, trivial⟩
  · refine s_42 551 rfl rfl ?_
    refine s_180R 0 143 554 143 f_18_42 jw_1652 rfl rfl ?_
    refine s_16 8 556 8 jbp_8 rfl ?_
    refine s_42 557 rfl rfl ?_
    refine s_180I 1 97 560 353 f_18_36 jw_1646 rfl rfl ?_
    refine s_104 561 rfl ?_
    refine s_21 9 563 rfl rfl ?_
    refine s_96 564 rfl ?_
    refine s_42 565 rfl rfl ?_
    refine s_180R 0 47 568 47 f_18_4 jw_1614 rfl rfl ?_
    refine s_180RN 0 200 571 200 f_17_7 jnf_16 rfl rfl ?_
    refine s_21 9 573 rfl rfl ?_
    refine s_46 574 rfl ?_
    refine s_28 575 rfl rfl ?_
    refine s_100 576 rfl ?_
    refine s_79 577 rfl (fun h12 => ?_)
    refine s_42 578 rfl rfl ?_
    refine s_180R 0 146 581 146 f_18_43 jw_1653 rfl rfl ?_
    refine s_16 8 583 8 jbp_8 rfl ?_
    refine s_42 584 rfl rfl ?_
    refine s_180I 1 97 587 353 f_18_36 jw_1646 rfl rfl ?_
    refine s_104 588 rfl ?_
    refine s_21 9 590 rfl rfl ?_
    refine s_96 591 rfl ?_
    refine s_42 592 rfl rfl ?_
    refine s_180R 0 47 595 47 f_18_4 jw_1614 rfl rfl ?_
    refine s_180RN 0 202 598 202 f_17_8 jnf_17 rfl rfl ?_
    refine s_21 9 600 rfl rfl ?_
    refine s_47 601 rfl ?_
    refine s_80 602 rfl (fun h13 => ?_)
    refine s_132L 9 1 605 1 ji_1 rfl rfl rfl (fun x14 => ?_)
    refine s_167 255 189 538 rfl rfl ?_
    exact s_jmp (hk538 _ _ _ _) ⟨rfl, rfl, rfl, trivial⟩
theorem w_18_comes_538 (l : Launch)  (n : Nat) : ∀ a0 a2 a9 H, JV l mi_18_comes jeI 538 [(0, .ref a0), (2, .int a2), (9, .int a9)] [] H (F_18_comes_538  n a0 a2 a9 H) := by
  induction n with
  | zero => intro _ _ _ _; exact s_none
  | succ n ih => intro a0 a2 a9 H; exact v_18_comes_538 l (F_18_comes_538  n) ih a0 a2 a9 H
theorem v_18_comes_455 (l : Launch) (k455 : Nat → Int32 → Int32 → Int64 → Int32 → jH → Option (Int32 × jH)) (hk455 : ∀ a0 a2 a3 a6 a9 H, JV l mi_18_comes jeI 455 [(0, .ref a0), (2, .int a2), (3, .int a3), (6, .long a6), (9, .int a9)] [] H (k455 a0 a2 a3 a6 a9 H)) (a0 : Nat) (a2 : Int32) (a3 : Int32) (a6 : Int64) (a9 : Int32) (H : jH) : JV l mi_18_comes jeI 455 [(0, .ref a0), (2, .int a2), (3, .int a3), (6, .long a6), (9, .int a9)] [] H (B_18_comes_455 k455 a0 a2 a3 a6 a9 H) := by
  unfold B_18_comes_455
  refine s_21 9 457 rfl rfl ?_
  refine s_16 32 459 32 jbp_32 rfl ?_
  refine s_162 0 31 490 462 rfl rfl ?_ ?_
  · refine s_42 491 rfl rfl ?_
    refine s_180R 0 131 494 131 f_18_38 jw_1648 rfl rfl ?_
    refine s_42 495 rfl rfl ?_
    refine s_180I 1 97 498 353 f_18_36 jw_1646 rfl rfl ?_
    refine s_29 499 rfl rfl ?_
    refine s_79 500 rfl (fun h15 => ?_)
    refine s_42 501 rfl rfl ?_
    refine s_180R 0 137 504 137 f_18_40 jw_1650 rfl rfl ?_
    refine s_42 505 rfl rfl ?_
    refine s_180I 1 97 508 353 f_18_36 jw_1646 rfl rfl ?_
    refine s_22 6 510 rfl rfl ?_
    refine s_42 511 rfl rfl ?_
    refine s_180R 0 47 514 47 f_18_4 jw_1614 rfl rfl ?_
    refine s_182L 1 41 517 297 (m_17_sum l _ _) rfl k_17_sum jc_17 jw_1931 jw_1932 jw_1933 rfl rfl rfl rfl rfl (fun x16 h17 => ?_)
    refine s_101 518 rfl ?_
    refine s_80 519 rfl (fun h18 => ?_)
    refine s_42 520 rfl rfl ?_
    refine s_180R 0 140 523 140 f_18_41 jw_1651 rfl rfl ?_
    refine s_42 524 rfl rfl ?_
    refine s_180I 1 97 527 353 f_18_36 jw_1646 rfl rfl ?_
    refine s_42 528 rfl rfl ?_
    refine s_180R 0 47 531 47 f_18_4 jw_1614 rfl rfl ?_
    refine s_180IN 0 194 534 194 f_17_4 jnf_12 rfl rfl ?_
    refine s_79 535 rfl (fun h19 => ?_)
    refine s_3 536 rfl ?_
    refine s_54 9 538 rfl rfl ?_
    exact s_jmp (w_18_comes_538 l jfuel _ _ _ _) ⟨rfl, rfl, rfl, trivial⟩
  · refine s_42 463 rfl rfl ?_
    refine s_180R 0 134 466 134 f_18_39 jw_1649 rfl rfl ?_
    refine s_16 32 468 32 jbp_32 rfl ?_
    refine s_42 469 rfl rfl ?_
    refine s_180I 1 97 472 353 f_18_36 jw_1646 rfl rfl ?_
    refine s_104 473 rfl ?_
    refine s_21 9 475 rfl rfl ?_
    refine s_96 476 rfl ?_
    refine s_42 477 rfl rfl ?_
    refine s_180R 0 161 480 161 f_18_49 jw_1659 rfl rfl ?_
    refine s_21 9 482 rfl rfl ?_
    refine s_51B 483 rfl ?_
    refine s_84B 484 rfl (fun h20 => ?_)
    refine s_132L 9 1 487 1 ji_1 rfl rfl rfl (fun x21 => ?_)
    refine s_167 255 224 455 rfl rfl ?_
    exact s_jmp (hk455 _ _ _ _ _ _) ⟨rfl, rfl, rfl, rfl, rfl, trivial⟩
theorem w_18_comes_455 (l : Launch)  (n : Nat) : ∀ a0 a2 a3 a6 a9 H, JV l mi_18_comes jeI 455 [(0, .ref a0), (2, .int a2), (3, .int a3), (6, .long a6), (9, .int a9)] [] H (F_18_comes_455  n a0 a2 a3 a6 a9 H) := by
  induction n with
  | zero => intro _ _ _ _ _ _; exact s_none
  | succ n ih => intro a0 a2 a3 a6 a9 H; exact v_18_comes_455 l (F_18_comes_455  n) ih a0 a2 a3 a6 a9 H
theorem v_18_comes_418 (l : Launch) (k418 : Nat → Nat → Int32 → Int32 → Int64 → Int32 → jH → Option (Int32 × jH)) (hk418 : ∀ a0 a1 a2 a3 a6 a9 H, JV l mi_18_comes jeI 418 [(0, .ref a0), (1, .ref a1), (2, .int a2), (3, .int a3), (6, .long a6), (9, .int a9)] [] H (k418 a0 a1 a2 a3 a6 a9 H)) (a0 : Nat) (a1 : Nat) (a2 : Int32) (a3 : Int32) (a6 : Int64) (a9 : Int32) (H : jH) : JV l mi_18_comes jeI 418 [(0, .ref a0), (1, .ref a1), (2, .int a2), (3, .int a3), (6, .long a6), (9, .int a9)] [] H (B_18_comes_418 k418 a0 a1 a2 a3 a6 a9 H) := by
  unfold B_18_comes_418
  refine s_21 9 420 rfl rfl ?_
  refine s_29 421 rfl rfl ?_
  refine s_162 0 31 452 424 rfl rfl ?_ ?_
  · refine s_3 453 rfl ?_
    refine s_54 9 455 rfl rfl ?_
    exact s_jmp (w_18_comes_455 l jfuel _ _ _ _ _ _) ⟨rfl, rfl, rfl, rfl, rfl, trivial⟩
  · refine s_42 425 rfl rfl ?_
    refine s_180R 0 128 428 128 f_18_37 jw_1647 rfl rfl ?_
    refine s_17 7 208 431 2000 jsp_7_208 rfl ?_
    refine s_42 432 rfl rfl ?_
    refine s_180I 1 97 435 353 f_18_36 jw_1646 rfl rfl ?_
    refine s_104 436 rfl ?_
    refine s_21 9 438 rfl rfl ?_
    refine s_96 439 rfl ?_
    refine s_43 440 rfl rfl ?_
    refine s_28 441 rfl rfl ?_
    refine s_21 9 443 rfl rfl ?_
    refine s_96 444 rfl ?_
    refine s_51B 445 rfl ?_
    refine s_84B 446 rfl (fun h22 => ?_)
    refine s_132L 9 1 449 1 ji_1 rfl rfl rfl (fun x23 => ?_)
    refine s_167 255 225 418 rfl rfl ?_
    exact s_jmp (hk418 _ _ _ _ _ _ _) ⟨rfl, rfl, rfl, rfl, rfl, rfl, trivial⟩
theorem w_18_comes_418 (l : Launch)  (n : Nat) : ∀ a0 a1 a2 a3 a6 a9 H, JV l mi_18_comes jeI 418 [(0, .ref a0), (1, .ref a1), (2, .int a2), (3, .int a3), (6, .long a6), (9, .int a9)] [] H (F_18_comes_418  n a0 a1 a2 a3 a6 a9 H) := by
  induction n with
  | zero => intro _ _ _ _ _ _ _; exact s_none
  | succ n ih => intro a0 a1 a2 a3 a6 a9 H; exact v_18_comes_418 l (F_18_comes_418  n) ih a0 a1 a2 a3 a6 a9 H
theorem v_18_comes_395 (l : Launch)  (a0 : Nat) (a1 : Nat) (a2 : Int32) (a3 : Int32) (a6 : Int64) (H : jH) : JV l mi_18_comes jeI 395 [(0, .ref a0), (1, .ref a1), (2, .int a2), (3, .int a3), (6, .long a6)] [] H (B_18_comes_395  a0 a1 a2 a3 a6 H) := by
  unfold B_18_comes_395
  refine s_42 396 rfl rfl ?_
  refine s_182I 1 148 399 404 (m_18_lacks l _ _) rfl k_18_lacks jc_18 jw_2264 jw_2266 jps_133 rfl rfl rfl rfl rfl (fun x24 h25 => ?_)
  refine s_153 0 6 405 402 rfl rfl ?_ ?_
  · refine s_42 406 rfl rfl ?_
    refine s_182I 1 151 409 407 (m_18_hangsOnItself l _ _) rfl k_18_hangsOnItself jc_18 jw_2268 jw_2270 jps_134 rfl rfl rfl rfl rfl (fun x26 h27 => ?_)
    refine s_153 0 6 415 412 rfl rfl ?_ ?_
    · refine s_3 416 rfl ?_
      refine s_54 9 418 rfl rfl ?_
      exact s_jmp (w_18_comes_418 l jfuel _ _ _ _ _ _ _) ⟨rfl, rfl, rfl, rfl, rfl, rfl, trivial⟩
    · refine s_16 14 414 14 jbp_14 rfl ?_
      exact s_172 rfl rfl
  · refine s_16 15 404 15 jbp_15 rfl ?_
    exact s_172 rfl rfl
theorem v_18_comes_312 (l : Launch) (k312 : Nat → Nat → Int32 → Int32 → Int32 → Int64 → Int32 → jH → Option (Int32 × jH)) (hk312 : ∀ a0 a1 a2 a3 a4 a6 a9 H, JV l mi_18_comes jeI 312 [(0, .ref a0), (1, .ref a1), (2, .int a2), (3, .int a3), (4, .int a4), (6, .long a6), (9, .int a9)] [] H (k312 a0 a1 a2 a3 a4 a6 a9 H)) (a0 : Nat) (a1 : Nat) (a2 : Int32) (a3 : Int32) (a4 : Int32) (a6 : Int64) (a9 : Int32) (H : jH) : JV l mi_18_comes jeI 312 [(0, .ref a0), (1, .ref a1), (2, .int a2), (3, .int a3), (4, .int a4), (6, .long a6), (9, .int a9)] [] H (B_18_comes_312 k312 a0 a1 a2 a3 a4 a6 a9 H) := by
  unfold B_18_comes_312
  refine s_21 9 314 rfl rfl ?_
  refine s_42 315 rfl rfl ?_
  refine s_180R 0 47 318 47 f_18_4 jw_1614 rfl rfl ?_
  refine s_180IN 0 194 321 194 f_17_4 jnf_12 rfl rfl ?_
  refine s_162 0 74 395 324 rfl rfl ?_ ?_
  · exact s_jmp (v_18_comes_395 l _ _ _ _ _ _) ⟨rfl, rfl, rfl, rfl, rfl, trivial⟩
  · refine s_21 4 326 rfl rfl ?_
    refine s_153 0 69 395 329 rfl rfl ?_ ?_
    · exact s_jmp (v_18_comes_395 l _ _ _ _ _ _) ⟨rfl, rfl, rfl, rfl, rfl, trivial⟩
    · refine s_42 330 rfl rfl ?_
      refine s_42 331 rfl rfl ?_
      refine s_180R 0 47 334 47 f_18_4 jw_1614 rfl rfl ?_
      refine s_180RN 0 197 337 197 f_17_0 jnf_7 rfl rfl ?_
      refine s_42 338 rfl rfl ?_
      refine s_180R 0 47 341 47 f_18_4 jw_1614 rfl rfl ?_
      refine s_180RN 0 200 344 200 f_17_7 jnf_16 rfl rfl ?_
      refine s_21 9 346 rfl rfl ?_
      refine s_46 347 rfl ?_
      refine s_42 348 rfl rfl ?_
      refine s_180R 0 47 351 47 f_18_4 jw_1614 rfl rfl ?_
      refine s_180RN 0 202 354 202 f_17_8 jnf_17 rfl rfl ?_
      refine s_21 9 356 rfl rfl ?_
      refine s_47 357 rfl ?_
      refine s_182L 1 142 360 398 (m_18_find l _ _ _ _ _) rfl k_18_find jc_18 jw_1921 jw_1923 jps_71 rfl rfl rfl rfl rfl (fun x28 h29 => ?_)
      refine s_88L 361 rfl rfl ?_
      refine s_42 362 rfl rfl ?_
      refine s_42 363 rfl rfl ?_
      refine s_180R 0 47 366 47 f_18_4 jw_1614 rfl rfl ?_
      refine s_21 9 368 rfl rfl ?_
      refine s_42 369 rfl rfl ?_
      refine s_180R 1 116 372 372 f_18_57 jw_1667 rfl rfl ?_
      refine s_42 373 rfl rfl ?_
      refine s_180I 1 117 376 373 f_18_58 jw_1668 rfl rfl ?_
      refine s_42 377 rfl rfl ?_
      refine s_180I 1 118 380 374 f_18_59 jw_1669 rfl rfl ?_
      refine s_182I 1 45 383 301 (m_18_fails l _ _ _ _ _ _ _) rfl k_18_fails jc_18 jw_1935 jw_1937 jps_73 rfl rfl rfl rfl rfl (fun x30 h31 => ?_)
      refine s_153 0 6 389 386 rfl rfl ?_ ?_
      · refine s_132L 9 1 392 1 ji_1 rfl rfl rfl (fun x32 => ?_)
        refine s_167 255 176 312 rfl rfl ?_
        exact s_jmp (hk312 _ _ _ _ _ _ _ _) ⟨rfl, rfl, rfl, rfl, rfl, rfl, rfl, trivial⟩
      · refine s_16 10 388 10 jbp_10 rfl ?_
        exact s_172 rfl rfl
theorem w_18_comes_312 (l : Launch)  (n : Nat) : ∀ a0 a1 a2 a3 a4 a6 a9 H, JV l mi_18_comes jeI 312 [(0, .ref a0), (1, .ref a1), (2, .int a2), (3, .int a3), (4, .int a4), (6, .long a6), (9, .int a9)] [] H (F_18_comes_312  n a0 a1 a2 a3 a4 a6 a9 H) := by
  induction n with
  | zero => intro _ _ _ _ _ _ _ _; exact s_none
  | succ n ih => intro a0 a1 a2 a3 a4 a6 a9 H; exact v_18_comes_312 l (F_18_comes_312  n) ih a0 a1 a2 a3 a4 a6 a9 H
theorem v_18_comes_172 (l : Launch) (k172 : Nat → Nat → Int32 → Int32 → Int32 → Int64 → Int32 → Int32 → jH → Option (Int32 × jH)) (hk172 : ∀ a0 a1 a2 a3 a4 a6 a8 a9 H, JV l mi_18_comes jeI 172 [(0, .ref a0), (1, .ref a1), (2, .int a2), (3, .int a3), (4, .int a4), (6, .long a6), (8, .int a8), (9, .int a9)] [] H (k172 a0 a1 a2 a3 a4 a6 a8 a9 H)) (a0 : Nat) (a1 : Nat) (a2 : Int32) (a3 : Int32) (a4 : Int32) (a6 : Int64) (a8 : Int32) (a9 : Int32) (H : jH) : JV l mi_18_comes jeI 172 [(0, .ref a0), (1, .ref a1), (2, .int a2), (3, .int a3), (4, .int a4), (6, .long a6), (8, .int a8), (9, .int a9)] [] H (B_18_comes_172 k172 a0 a1 a2 a3 a4 a6 a8 a9 H) := by
  unfold B_18_comes_172
  refine s_21 9 174 rfl rfl ?_
  refine s_42 175 rfl rfl ?_
  refine s_180R 0 47 178 47 f_18_4 jw_1614 rfl rfl ?_
  refine s_180IN 0 194 181 194 f_17_4 jnf_12 rfl rfl ?_
  refine s_162 0 95 276 184 rfl rfl ?_ ?_
  · refine s_21 8 278 rfl rfl ?_
    refine s_153 0 6 284 281 rfl rfl ?_ ?_
    · refine s_42 285 rfl rfl ?_
      refine s_180R 0 47 288 47 f_18_4 jw_1614 rfl rfl ?_
      refine s_182L 1 41 291 297 (m_17_sum l _ _) rfl k_17_sum jc_17 jw_1931 jw_1932 jw_1933 rfl rfl rfl rfl rfl (fun x33 h34 => ?_)
      refine s_22 6 293 rfl rfl ?_
      refine s_148_158 0 6 300 294 297 rfl rfl rfl ?_ ?_
      · refine s_42 301 rfl rfl ?_
        refine s_180R 0 30 304 30 f_18_2 jw_1612 rfl rfl ?_
        refine s_16 8 306 8 jbp_8 rfl ?_
        refine s_181IN 1 74 309 330 f_14_8 rfl rfl jnf_5 rfl rfl (fun h35 => ?_)
        refine s_3 310 rfl ?_
        refine s_54 9 312 rfl rfl ?_
        exact s_jmp (w_18_comes_312 l jfuel _ _ _ _ _ _ _ _) ⟨rfl, rfl, rfl, rfl, rfl, rfl, rfl, trivial⟩
      · refine s_16 9 299 9 jbp_9 rfl ?_
        exact s_172 rfl rfl
    · refine s_16 8 283 8 jbp_8 rfl ?_
      exact s_172 rfl rfl
  · refine s_42 185 rfl rfl ?_
    refine s_42 186 rfl rfl ?_
    refine s_180R 0 47 189 47 f_18_4 jw_1614 rfl rfl ?_
    refine s_180RN 0 197 192 197 f_17_0 jnf_7 rfl rfl ?_
    refine s_42 193 rfl rfl ?_
    refine s_180R 0 47 196 47 f_18_4 jw_1614 rfl rfl ?_
    refine s_180RN 0 200 199 200 f_17_7 jnf_16 rfl rfl ?_
    refine s_21 9 201 rfl rfl ?_
    refine s_46 202 rfl ?_
    refine s_42 203 rfl rfl ?_
    refine s_180R 0 47 206 47 f_18_4 jw_1614 rfl rfl ?_
    refine s_180RN 0 202 209 202 f_17_8 jnf_17 rfl rfl ?_
    refine s_21 9 211 rfl rfl ?_
    refine s_47 212 rfl ?_
    refine s_182L 1 142 215 398 (m_18_find l _ _ _ _ _) rfl k_18_find jc_18 jw_1921 jw_1923 jps_71 rfl rfl rfl rfl rfl (fun x36 h37 => ?_)
    refine s_55 10 217 rfl rfl ?_
    refine s_22 10 219 rfl rfl ?_
    refine s_9 220 rfl ?_
    refine s_148_155 0 20 241 221 224 rfl rfl rfl ?_ ?_
    · exact s_jmp (v_18_comes_241 l _) trivial
    · refine s_42 225 rfl rfl ?_
      refine s_180R 0 47 228 47 f_18_4 jw_1614 rfl rfl ?_
      refine s_180RN 0 202 231 202 f_17_8 jnf_17 rfl rfl ?_
      refine s_21 9 233 rfl rfl ?_
      refine s_47 234 rfl ?_
      refine s_20 1 146 237 402 2147483647 rfl jw_1930 rfl ?_
      refine s_148_158 0 6 244 238 241 rfl rfl rfl ?_ ?_
      · refine s_21 8 246 rfl rfl ?_
        refine s_154 0 10 256 249 rfl rfl ?_ ?_
        · exact s_jmp (v_18_comes_256 l k172 hk172 _ _ _ _ _ _ _ _ _) ⟨rfl, rfl, rfl, rfl, rfl, rfl, rfl, rfl, trivial⟩
        · refine s_42 250 rfl rfl ?_
          refine s_180I 1 112 253 368 f_18_60 jw_1670 rfl rfl ?_
          refine s_153 0 7 260 256 rfl rfl ?_ ?_
          · refine s_3 261 rfl ?_
            exact s_jmp (v_18_comes_261 l k172 hk172 _ _ _ _ _ _ _ _ _ _) ⟨rfl, rfl, rfl, rfl, rfl, rfl, rfl, rfl, trivial⟩
          · exact s_jmp (v_18_comes_256 l k172 hk172 _ _ _ _ _ _ _ _ _) ⟨rfl, rfl, rfl, rfl, rfl, rfl, rfl, rfl, trivial⟩
      · exact s_jmp (v_18_comes_241 l _) trivial
theorem w_18_comes_172 (l : Launch)  (n : Nat) : ∀ a0 a1 a2 a3 a4 a6 a8 a9 H, JV l mi_18_comes jeI 172 [(0, .ref a0), (1, .ref a1), (2, .int a2), (3, .int a3), (4, .int a4), (6, .long a6), (8, .int a8), (9, .int a9)] [] H (F_18_comes_172  n a0 a1 a2 a3 a4 a6 a8 a9 H) := by
  induction n with
  | zero => intro _ _ _ _ _ _ _ _ _; exact s_none
  | succ n ih => intro a0 a1 a2 a3 a4 a6 a8 a9 H; exact v_18_comes_172 l (F_18_comes_172  n) ih a0 a1 a2 a3 a4 a6 a8 a9 H
theorem v_18_comes_88 (l : Launch) (k88 : Nat → Nat → Int32 → Int32 → Int32 → Int32 → jH → Option (Int32 × jH)) (hk88 : ∀ a0 a1 a2 a3 a4 a6 H, JV l mi_18_comes jeI 88 [(0, .ref a0), (1, .ref a1), (2, .int a2), (3, .int a3), (4, .int a4), (6, .int a6)] [] H (k88 a0 a1 a2 a3 a4 a6 H)) (a0 : Nat) (a1 : Nat) (a2 : Int32) (a3 : Int32) (a4 : Int32) (a6 : Int32) (H : jH) : JV l mi_18_comes jeI 88 [(0, .ref a0), (1, .ref a1), (2, .int a2), (3, .int a3), (4, .int a4), (6, .int a6)] [] H (B_18_comes_88 k88 a0 a1 a2 a3 a4 a6 H) := by
  unfold B_18_comes_88
  refine s_21 6 90 rfl rfl ?_
  refine s_42 91 rfl rfl ?_
  refine s_180R 0 47 94 47 f_18_4 jw_1614 rfl rfl ?_
  refine s_180IN 0 194 97 194 f_17_4 jnf_12 rfl rfl ?_
  refine s_162 0 66 163 100 rfl rfl ?_ ?_
  · refine s_9 164 rfl ?_
    refine s_jmp (ls' := [(0, .ref a0), (1, .ref a1), (2, .int a2), (3, .int a3), (4, .int a4), (6, .int a6)]) ?_ ⟨rfl, rfl, rfl, rfl, rfl, rfl, trivial⟩
    refine s_55 6 166 rfl rfl ?_
    refine s_3 167 rfl ?_
    refine s_54 8 169 rfl rfl ?_
    refine s_3 170 rfl ?_
    refine s_54 9 172 rfl rfl ?_
    exact s_jmp (w_18_comes_172 l jfuel _ _ _ _ _ _ _ _ _) ⟨rfl, rfl, rfl, rfl, rfl, rfl, rfl, rfl, trivial⟩
  · refine s_3 101 rfl ?_
    refine s_jmp (ls' := [(0, .ref a0), (1, .ref a1), (2, .int a2), (3, .int a3), (4, .int a4), (6, .int a6)]) ?_ ⟨rfl, rfl, rfl, rfl, rfl, rfl, trivial⟩
    refine s_54 7 103 rfl rfl ?_
    exact s_jmp (w_18_comes_103 l k88 hk88 jfuel _ _ _ _ _ _ _ _) ⟨rfl, rfl, rfl, rfl, rfl, rfl, rfl, trivial⟩
theorem w_18_comes_88 (l : Launch)  (n : Nat) : ∀ a0 a1 a2 a3 a4 a6 H, JV l mi_18_comes jeI 88 [(0, .ref a0), (1, .ref a1), (2, .int a2), (3, .int a3), (4, .int a4), (6, .int a6)] [] H (F_18_comes_88  n a0 a1 a2 a3 a4 a6 H) := by
  induction n with
  | zero => intro _ _ _ _ _ _ _; exact s_none
  | succ n ih => intro a0 a1 a2 a3 a4 a6 H; exact v_18_comes_88 l (F_18_comes_88  n) ih a0 a1 a2 a3 a4 a6 H
theorem v_18_comes (l : Launch) (a0 : Nat) (a1 : Nat) (a2 : Int32) (a3 : Int32) (a4 : Int32) (H : jH) : JV l mi_18_comes jeI 0 [(0, .ref a0), (1, .ref a1), (2, .int a2), (3, .int a3), (4, .int a4)] [] H (F_18_comes a0 a1 a2 a3 a4 H) := by
  unfold F_18_comes
  refine s_42 1 rfl rfl ?_
  refine s_42 2 rfl rfl ?_
  refine s_180I 1 84 5 340 f_18_13 jw_1623 rfl rfl ?_
  refine s_182V 1 56 8 312 (m_18_need l _ _ _) rfl k_18_need jc_18 jw_1817 jw_1819 jps_57 rfl rfl rfl rfl rfl (fun x38 h39 => ?_)
  refine s_42 9 rfl rfl ?_
  refine s_180R 0 47 12 47 f_18_4 jw_1614 rfl rfl ?_
  refine s_43 13 rfl rfl ?_
  refine s_28 14 rfl rfl ?_
  refine s_28 15 rfl rfl ?_
  refine s_29 16 rfl rfl ?_
  refine s_96 17 rfl ?_
  refine s_182I 0 235 20 235 (m_17_read l _ _ _ _ _) rfl k_17_read jc_17 jw_1846 jw_1847 jw_1848 rfl rfl rfl rfl rfl (fun x40 h41 => ?_)
  refine s_28 21 rfl rfl ?_
  refine s_29 22 rfl rfl ?_
  refine s_96 23 rfl ?_
  refine s_159 0 5 28 26 rfl rfl ?_ ?_
  · refine s_42 29 rfl rfl ?_
    refine s_42 30 rfl rfl ?_
    refine s_180R 0 47 33 47 f_18_4 jw_1614 rfl rfl ?_
    refine s_42 34 rfl rfl ?_
    refine s_180R 0 161 37 161 f_18_49 jw_1659 rfl rfl ?_
    refine s_3 38 rfl ?_
    refine s_182V 1 128 41 384 (m_18_nameOf l _ _ _ _ _) rfl k_18_nameOf jc_18 jw_1883 jw_1885 jps_68 rfl rfl rfl rfl rfl (fun x42 h43 => ?_)
    refine s_42 42 rfl rfl ?_
    refine s_180R 0 47 45 47 f_18_4 jw_1614 rfl rfl ?_
    refine s_182I 1 132 48 388 (m_17_fault l _ _) rfl k_17_fault jc_17 jw_1891 jw_1892 jw_1893 rfl rfl rfl rfl rfl (fun x44 h45 => ?_)
    refine s_54 5 50 rfl rfl ?_
    refine s_21 5 52 rfl rfl ?_
    refine s_158 0 6 58 55 rfl rfl ?_ ?_
    · refine s_42 59 rfl rfl ?_
      refine s_180R 0 47 62 47 f_18_4 jw_1614 rfl rfl ?_
      refine s_182I 1 135 65 391 (m_17_hasRoot l _ _) rfl k_17_hasRoot jc_17 jw_1905 jw_1906 jw_1907 rfl rfl rfl rfl rfl (fun x46 h47 => ?_)
      refine s_153 0 5 70 68 rfl rfl ?_ ?_
      · refine s_42 71 rfl rfl ?_
        refine s_42 72 rfl rfl ?_
        refine s_180R 0 161 75 161 f_18_49 jw_1659 rfl rfl ?_
        refine s_3 76 rfl ?_
        refine s_182I 1 119 79 375 (m_18_inPool l _ _ _ _) rfl k_18_inPool jc_18 jw_1913 jw_1915 jps_69 rfl rfl rfl rfl rfl (fun x48 h49 => ?_)
        refine s_155 0 6 85 82 rfl rfl ?_ ?_
        · refine s_3 86 rfl ?_
          refine s_54 6 88 rfl rfl ?_
          exact s_jmp (w_18_comes_88 l jfuel _ _ _ _ _ _ _) ⟨rfl, rfl, rfl, rfl, rfl, rfl, trivial⟩
        · refine s_16 12 84 12 jbp_12 rfl ?_
          exact s_172 rfl rfl
      · refine s_8 69 rfl ?_
        exact s_172 rfl rfl
    · refine s_21 5 57 rfl rfl ?_
      exact s_172 rfl rfl
  · refine s_4 27 rfl ?_
    exact s_172 rfl rfl
theorem m_18_comes (l : Launch) (a0 : Nat) (a1 : Nat) (a2 : Int32) (a3 : Int32) (a4 : Int32) (H : jH) : JMet l y_18_comes prog_14_method_29_code mi_18_comes jeI [.ref a0, .ref a1, .int a2, .int a3, .int a4] H (F_18_comes a0 a1 a2 a3 a4 H) := jmet_of n_18_comes (by decide) ⟨rfl, rfl⟩ (Nat.le_of_ble_eq_true rfl) (v_18_comes l a0 a1 a2 a3 a4 H)
def mi_18_renew : jM := (3253757697159450946243288927978840416117879862952437971742009345288888444383395561512123756000148513713845172187266539134338513434805887394351404889366647900237670982979117541652222176492748368398536555662874696329563219587210660967349278004550521022668261402342423205425357175921046693232162271820472014418459991783514461160446124054754215237502029671404244987275595471210552134733918598588724903069189433577727778244505912624306935090017980249183957022470351314345603536987902901578156367878673766720602734266557120650350724432737021070007186474, 227, 6, "CoinNodeModel", none, "renew", 15, 364)
def y_18_renew : MethodName := ⟨"CoinNodeModel", "renew", "(I)V"⟩
theorem n_18_renew : jn_is prog_14_method_30_code mi_18_renew.1 mi_18_renew.2.1 := by unfold jn_is; decide +kernel
theorem k_18_renew : jmok y_18_renew prog_14_method_30_code mi_18_renew 1 := ⟨jw_2439, jw_14, ⟨by decide, by decide⟩, by decide +kernel⟩
theorem v_18_renew_15 (l : Launch) (k7 : Nat → Int32 → Int32 → Int32 → jH → Option (Unit × jH)) (hk7 : ∀ a0 a1 a2 a3 H, JV l mi_18_renew jeV 7 [(0, .ref a0), (1, .int a1), (2, .int a2), (3, .int a3)] [] H (k7 a0 a1 a2 a3 H)) (k15 : Nat → Int32 → Int32 → Int32 → Int32 → jH → Option (Unit × jH)) (hk15 : ∀ a0 a1 a2 a3 a4 H, JV l mi_18_renew jeV 15 [(0, .ref a0), (1, .int a1), (2, .int a2), (3, .int a3), (4, .int a4)] [] H (k15 a0 a1 a2 a3 a4 H)) (a0 : Nat) (a1 : Int32) (a2 : Int32) (a3 : Int32) (a4 : Int32) (H : jH) : JV l mi_18_renew jeV 15 [(0, .ref a0), (1, .int a1), (2, .int a2), (3, .int a3), (4, .int a4)] [] H (B_18_renew_15 k7 k15 a0 a1 a2 a3 a4 H) := by
  unfold B_18_renew_15
  refine s_21 4 17 rfl rfl ?_
  refine s_42 18 rfl rfl ?_
  refine s_180R 0 131 21 131 f_18_38 jw_1648 rfl rfl ?_
  refine s_29 22 rfl rfl ?_
  refine s_46 23 rfl ?_
  refine s_162 0 35 58 26 rfl rfl ?_ ?_
  · refine s_42 59 rfl rfl ?_
    refine s_180R 0 155 62 155 f_18_46 jw_1656 rfl rfl ?_
    refine s_29 63 rfl rfl ?_
    refine s_42 64 rfl rfl ?_
    refine s_180R 0 131 67 131 f_18_38 jw_1648 rfl rfl ?_
    refine s_29 68 rfl rfl ?_
    refine s_46 69 rfl ?_
    refine s_79 70 rfl (fun h1 => ?_)
    refine s_132L 3 1 73 1 ji_1 rfl rfl rfl (fun x2 => ?_)
    refine s_167 255 190 7 rfl rfl ?_
    exact s_jmp (hk7 _ _ _ _ _) ⟨rfl, rfl, rfl, rfl, trivial⟩
  · refine s_42 27 rfl rfl ?_
    refine s_180R 0 152 30 152 f_18_45 jw_1655 rfl rfl ?_
    refine s_17 7 208 33 2000 jsp_7_208 rfl ?_
    refine s_29 34 rfl rfl ?_
    refine s_104 35 rfl ?_
    refine s_21 4 37 rfl rfl ?_
    refine s_96 38 rfl ?_
    refine s_42 39 rfl rfl ?_
    refine s_180R 0 128 42 128 f_18_37 jw_1647 rfl rfl ?_
    refine s_17 7 208 45 2000 jsp_7_208 rfl ?_
    refine s_29 46 rfl rfl ?_
    refine s_104 47 rfl ?_
    refine s_21 4 49 rfl rfl ?_
    refine s_96 50 rfl ?_
    refine s_51B 51 rfl ?_
    refine s_84B 52 rfl (fun h3 => ?_)
    refine s_132L 4 1 55 1 ji_1 rfl rfl rfl (fun x4 => ?_)
    refine s_167 255 216 15 rfl rfl ?_
    exact s_jmp (hk15 _ _ _ _ _ _) ⟨rfl, rfl, rfl, rfl, rfl, trivial⟩
theorem w_18_renew_15 (l : Launch) (k7 : Nat → Int32 → Int32 → Int32 → jH → Option (Unit × jH)) (hk7 : ∀ a0 a1 a2 a3 H, JV l mi_18_renew jeV 7 [(0, .ref a0), (1, .int a1), (2, .int a2), (3, .int a3)] [] H (k7 a0 a1 a2 a3 H)) (n : Nat) : ∀ a0 a1 a2 a3 a4 H, JV l mi_18_renew jeV 15 [(0, .ref a0), (1, .int a1), (2, .int a2), (3, .int a3), (4, .int a4)] [] H (F_18_renew_15 k7 n a0 a1 a2 a3 a4 H) := by
  induction n with
  | zero => intro _ _ _ _ _ _; exact s_none
  | succ n ih => intro a0 a1 a2 a3 a4 H; exact v_18_renew_15 l k7 hk7 (F_18_renew_15 k7 n) ih a0 a1 a2 a3 a4 H
theorem v_18_renew_137 (l : Launch) (k108 : Nat → Int32 → Int32 → Int32 → jH → Option (Unit × jH)) (hk108 : ∀ a0 a1 a2 a3 H, JV l mi_18_renew jeV 108 [(0, .ref a0), (1, .int a1), (2, .int a2), (3, .int a3)] [] H (k108 a0 a1 a2 a3 H)) (k137 : Nat → Int32 → Int32 → Int32 → Int32 → jH → Option (Unit × jH)) (hk137 : ∀ a0 a1 a2 a3 a5 H, JV l mi_18_renew jeV 137 [(0, .ref a0), (1, .int a1), (2, .int a2), (3, .int a3), (5, .int a5)] [] H (k137 a0 a1 a2 a3 a5 H)) (a0 : Nat) (a1 : Int32) (a2 : Int32) (a3 : Int32) (a5 : Int32) (H : jH) : JV l mi_18_renew jeV 137 [(0, .ref a0), (1, .int a1), (2, .int a2), (3, .int a3), (5, .int a5)] [] H (B_18_renew_137 k108 k137 a0 a1 a2 a3 a5 H) := by
  unfold B_18_renew_137
  refine s_21 5 139 rfl rfl ?_
  refine s_42 140 rfl rfl ?_
  refine s_180I 0 232 143 232 f_18_14 jw_1624 rfl rfl ?_
  refine s_162 0 43 186 146 rfl rfl ?_ ?_
  · refine s_132L 3 1 189 1 ji_1 rfl rfl rfl (fun x5 => ?_)
    refine s_167 255 175 108 rfl rfl ?_
    exact s_jmp (hk108 _ _ _ _ _) ⟨rfl, rfl, rfl, rfl, trivial⟩
  · refine s_42 147 rfl rfl ?_
    refine s_42 148 rfl rfl ?_
    refine s_180R 0 55 151 55 f_18_6 jw_1616 rfl rfl ?_
    refine s_42 152 rfl rfl ?_
    refine s_180R 0 79 155 79 f_18_15 jw_1625 rfl rfl ?_
    refine s_21 5 157 rfl rfl ?_
    refine s_46 158 rfl ?_
    refine s_42 159 rfl rfl ?_
    refine s_180R 0 79 162 79 f_18_15 jw_1625 rfl rfl ?_
    refine s_21 5 164 rfl rfl ?_
    refine s_4 165 rfl ?_
    refine s_96 166 rfl ?_
    refine s_46 167 rfl ?_
    refine s_42 168 rfl rfl ?_
    refine s_180R 0 79 171 79 f_18_15 jw_1625 rfl rfl ?_
    refine s_21 5 173 rfl rfl ?_
    refine s_46 174 rfl ?_
    refine s_100 175 rfl ?_
    refine s_3 176 rfl ?_
    refine s_182I 1 157 179 413 (m_18_comes l _ _ _ _ _ _) rfl k_18_comes jc_18 jw_1813 jw_1815 jps_56 rfl rfl rfl rfl rfl (fun x6 h7 => ?_)
    refine s_87 180 rfl rfl ?_
    refine s_132L 5 1 183 1 ji_1 rfl rfl rfl (fun x8 => ?_)
    refine s_167 255 210 137 rfl rfl ?_
    exact s_jmp (hk137 _ _ _ _ _ _) ⟨rfl, rfl, rfl, rfl, rfl, trivial⟩
theorem w_18_renew_137 (l : Launch) (k108 : Nat → Int32 → Int32 → Int32 → jH → Option (Unit × jH)) (hk108 : ∀ a0 a1 a2 a3 H, JV l mi_18_renew jeV 108 [(0, .ref a0), (1, .int a1), (2, .int a2), (3, .int a3)] [] H (k108 a0 a1 a2 a3 H)) (n : Nat) : ∀ a0 a1 a2 a3 a5 H, JV l mi_18_renew jeV 137 [(0, .ref a0), (1, .int a1), (2, .int a2), (3, .int a3), (5, .int a5)] [] H (F_18_renew_137 k108 n a0 a1 a2 a3 a5 H) := by
  induction n with
  | zero => intro _ _ _ _ _ _; exact s_none
  | succ n ih => intro a0 a1 a2 a3 a5 H; exact v_18_renew_137 l k108 hk108 (F_18_renew_137 k108 n) ih a0 a1 a2 a3 a5 H
theorem v_18_renew_194 (l : Launch) (k194 : Nat → Int32 → Int32 → jH → Option (Unit × jH)) (hk194 : ∀ a0 a2 a3 H, JV l mi_18_renew jeV 194 [(0, .ref a0), (2, .int a2), (3, .int a3)] [] H (k194 a0 a2 a3 H)) (a0 : Nat) (a2 : Int32) (a3 : Int32) (H : jH) : JV l mi_18_renew jeV 194 [(0, .ref a0), (2, .int a2), (3, .int a3)] [] H (B_18_renew_194 k194 a0 a2 a3 H) := by
  unfold B_18_renew_194
  refine s_29 195 rfl rfl ?_
  refine s_28 196 rfl rfl ?_
  refine s_162 0 30 226 199 rfl rfl ?_ ?_
  · exact s_177 rfl rfl
  · refine s_42 200 rfl rfl ?_
    refine s_42 201 rfl rfl ?_
    refine s_180R 0 152 204 152 f_18_45 jw_1655 rfl rfl ?_
    refine s_17 7 208 207 2000 jsp_7_208 rfl ?_
    refine s_29 208 rfl rfl ?_
    refine s_104 209 rfl ?_
    refine s_42 210 rfl rfl ?_
    refine s_180R 0 155 213 155 f_18_46 jw_1656 rfl rfl ?_
    refine s_29 214 rfl rfl ?_
    refine s_46 215 rfl ?_
    refine s_3 216 rfl ?_
    refine s_182I 1 157 219 413 (m_18_comes l _ _ _ _ _ _) rfl k_18_comes jc_18 jw_1813 jw_1815 jps_56 rfl rfl rfl rfl rfl (fun x9 h10 => ?_)
    refine s_87 220 rfl rfl ?_
    refine s_132L 3 1 223 1 ji_1 rfl rfl rfl (fun x11 => ?_)
    refine s_167 255 227 194 rfl rfl ?_
    exact s_jmp (hk194 _ _ _ _) ⟨rfl, rfl, rfl, trivial⟩
theorem w_18_renew_194 (l : Launch)  (n : Nat) : ∀ a0 a2 a3 H, JV l mi_18_renew jeV 194 [(0, .ref a0), (2, .int a2), (3, .int a3)] [] H (F_18_renew_194  n a0 a2 a3 H) := by
  induction n with
  | zero => intro _ _ _ _; exact s_none
  | succ n ih => intro a0 a2 a3 H; exact v_18_renew_194 l (F_18_renew_194  n) ih a0 a2 a3 H
theorem v_18_renew_108 (l : Launch) (k108 : Nat → Int32 → Int32 → Int32 → jH → Option (Unit × jH)) (hk108 : ∀ a0 a1 a2 a3 H, JV l mi_18_renew jeV 108 [(0, .ref a0), (1, .int a1), (2, .int a2), (3, .int a3)] [] H (k108 a0 a1 a2 a3 H)) (a0 : Nat) (a1 : Int32) (a2 : Int32) (a3 : Int32) (H : jH) : JV l mi_18_renew jeV 108 [(0, .ref a0), (1, .int a1), (2, .int a2), (3, .int a3)] [] H (B_18_renew_108 k108 a0 a1 a2 a3 H) := by
  unfold B_18_renew_108
  refine s_29 109 rfl rfl ?_
  refine s_42 110 rfl rfl ?_
  refine s_27 111 rfl rfl ?_
  refine s_182I 0 250 114 250 (m_18_height l _ _ _) rfl k_18_height jc_18 jw_1821 jw_1823 jps_58 rfl rfl rfl rfl rfl (fun x12 h13 => ?_)
  refine s_163 0 78 192 117 rfl rfl ?_ ?_
  · refine s_3 193 rfl ?_
    refine s_62 194 rfl rfl ?_
    exact s_jmp (w_18_renew_194 l jfuel _ _ _ _) ⟨rfl, rfl, rfl, trivial⟩
  · refine s_42 118 rfl rfl ?_
    refine s_180R 0 40 121 40 f_18_3 jw_1613 rfl rfl ?_
    refine s_27 122 rfl rfl ?_
    refine s_29 123 rfl rfl ?_
    refine s_182I 0 254 126 254 (m_16_below l _ _ _ _) rfl k_16_below jc_16 jw_1834 jw_1835 jw_1836 rfl rfl rfl rfl rfl (fun x14 h15 => ?_)
    refine s_54 4 128 rfl rfl ?_
    refine s_42 129 rfl rfl ?_
    refine s_21 4 131 rfl rfl ?_
    refine s_182V 1 2 134 258 (m_18_openBlock l _ _ _) rfl k_18_openBlock jc_18 jw_1838 jw_1840 jps_60 rfl rfl rfl rfl rfl (fun x16 h17 => ?_)
    refine s_4 135 rfl ?_
    refine s_54 5 137 rfl rfl ?_
    exact s_jmp (w_18_renew_137 l k108 hk108 jfuel _ _ _ _ _ _) ⟨rfl, rfl, rfl, rfl, rfl, trivial⟩
theorem w_18_renew_108 (l : Launch)  (n : Nat) : ∀ a0 a1 a2 a3 H, JV l mi_18_renew jeV 108 [(0, .ref a0), (1, .int a1), (2, .int a2), (3, .int a3)] [] H (F_18_renew_108  n a0 a1 a2 a3 H) := by
  induction n with
  | zero => intro _ _ _ _ _; exact s_none
  | succ n ih => intro a0 a1 a2 a3 H; exact v_18_renew_108 l (F_18_renew_108  n) ih a0 a1 a2 a3 H
theorem v_18_renew_7 (l : Launch) (k7 : Nat → Int32 → Int32 → Int32 → jH → Option (Unit × jH)) (hk7 : ∀ a0 a1 a2 a3 H, JV l mi_18_renew jeV 7 [(0, .ref a0), (1, .int a1), (2, .int a2), (3, .int a3)] [] H (k7 a0 a1 a2 a3 H)) (a0 : Nat) (a1 : Int32) (a2 : Int32) (a3 : Int32) (H : jH) : JV l mi_18_renew jeV 7 [(0, .ref a0), (1, .int a1), (2, .int a2), (3, .int a3)] [] H (B_18_renew_7 k7 a0 a1 a2 a3 H) := by
  unfold B_18_renew_7
  refine s_29 8 rfl rfl ?_
  refine s_28 9 rfl rfl ?_
  refine s_162 0 67 76 12 rfl rfl ?_ ?_
  · refine s_42 77 rfl rfl ?_
    refine s_3 78 rfl ?_
    refine s_181I 1 97 81 353 f_18_36 rfl rfl jw_1646 rfl rfl (fun h18 => ?_)
    refine s_42 82 rfl rfl ?_
    refine s_42 83 rfl rfl ?_
    refine s_180I 1 84 86 340 f_18_13 jw_1623 rfl rfl ?_
    refine s_182V 1 56 89 312 (m_18_need l _ _ _) rfl k_18_need jc_18 jw_1817 jw_1819 jps_57 rfl rfl rfl rfl rfl (fun x19 h20 => ?_)
    refine s_42 90 rfl rfl ?_
    refine s_42 91 rfl rfl ?_
    refine s_180R 0 40 94 40 f_18_3 jw_1613 rfl rfl ?_
    refine s_27 95 rfl rfl ?_
    refine s_42 96 rfl rfl ?_
    refine s_180I 1 84 99 340 f_18_13 jw_1623 rfl rfl ?_
    refine s_182I 1 89 102 345 (m_16_fork l _ _ _ _) rfl k_16_fork jc_16 jw_2402 jw_2403 jw_2404 rfl rfl rfl rfl rfl (fun x21 h22 => ?_)
    refine s_182I 0 250 105 250 (m_18_height l _ _ _) rfl k_18_height jc_18 jw_1821 jw_1823 jps_58 rfl rfl rfl rfl rfl (fun x23 h24 => ?_)
    refine s_4 106 rfl ?_
    refine s_96 107 rfl ?_
    refine s_62L 108 rfl rfl (fun x25 => ?_)
    exact s_jmp (w_18_renew_108 l jfuel _ _ _ _ _) ⟨rfl, rfl, rfl, rfl, trivial⟩
  · refine s_3 13 rfl ?_
    refine s_54 4 15 rfl rfl ?_
    exact s_jmp (w_18_renew_15 l k7 hk7 jfuel _ _ _ _ _ _) ⟨rfl, rfl, rfl, rfl, rfl, trivial⟩
theorem w_18_renew_7 (l : Launch)  (n : Nat) : ∀ a0 a1 a2 a3 H, JV l mi_18_renew jeV 7 [(0, .ref a0), (1, .int a1), (2, .int a2), (3, .int a3)] [] H (F_18_renew_7  n a0 a1 a2 a3 H) := by
  induction n with
  | zero => intro _ _ _ _ _; exact s_none
  | succ n ih => intro a0 a1 a2 a3 H; exact v_18_renew_7 l (F_18_renew_7  n) ih a0 a1 a2 a3 H
theorem v_18_renew (l : Launch) (a0 : Nat) (a1 : Int32) (H : jH) : JV l mi_18_renew jeV 0 [(0, .ref a0), (1, .int a1)] [] H (F_18_renew a0 a1 H) := by
  unfold F_18_renew
  refine s_42 1 rfl rfl ?_
  refine s_180I 1 97 4 353 f_18_36 jw_1646 rfl rfl ?_
  refine s_61L 5 rfl rfl (fun x26 => ?_)
  refine s_3 6 rfl ?_
  refine s_62 7 rfl rfl ?_
  exact s_jmp (w_18_renew_7 l jfuel _ _ _ _ _) ⟨rfl, rfl, rfl, rfl, trivial⟩
theorem m_18_renew (l : Launch) (a0 : Nat) (a1 : Int32) (H : jH) : JMet l y_18_renew prog_14_method_30_code mi_18_renew jeV [.ref a0, .int a1] H (F_18_renew a0 a1 H) := jmet_of n_18_renew (by decide) ⟨rfl, rfl⟩ (Nat.le_of_ble_eq_true rfl) (v_18_renew l a0 a1 H)
def mi_16_size : jM := (739640390698, 5, 1, "CoinNodeModel$Tree", some FieldType.int, "size", 0, 0)
def y_16_size : MethodName := ⟨"CoinNodeModel$Tree", "size", "()I"⟩
theorem n_16_size : jn_is prog_20_method_25_code mi_16_size.1 mi_16_size.2.1 := by unfold jn_is; decide +kernel
theorem k_16_size : jmok y_16_size prog_20_method_25_code mi_16_size 0 := ⟨jw_2322, jw_19, ⟨by decide, by decide⟩, by decide +kernel⟩
theorem v_16_size (l : Launch) (a0 : Nat) (H : jH) : JV l mi_16_size jeI 0 [(0, .ref a0)] [] H (F_16_size a0 H) := by
  unfold F_16_size
  refine s_42 1 rfl rfl ?_
  refine s_180I 0 54 4 54 f_16_1 jw_1472 rfl rfl ?_
  exact s_172 rfl rfl
theorem m_16_size (l : Launch) (a0 : Nat) (H : jH) : JMet l y_16_size prog_20_method_25_code mi_16_size jeI [.ref a0] H (F_16_size a0 H) := jmet_of n_16_size (by decide) ⟨rfl, rfl⟩ (Nat.le_of_ble_eq_true rfl) (v_16_size l a0 H)
def mi_18_known : jM := (367413725677218429055166190497159172730966472102590320629195020299442373341353719718270415098691075, 41, 4, "CoinNodeModel", some FieldType.int, "known", 1, 26)
def y_18_known : MethodName := ⟨"CoinNodeModel", "known", "([BI)I"⟩
theorem n_18_known : jn_is prog_14_method_31_code mi_18_known.1 mi_18_known.2.1 := by unfold jn_is; decide +kernel
theorem k_18_known : jmok y_18_known prog_14_method_31_code mi_18_known 2 := ⟨jw_2318, jw_14, ⟨by decide, by decide⟩, by decide +kernel⟩
theorem v_18_known_2 (l : Launch) (k2 : Nat → Nat → Int32 → Int32 → jH → Option (Int32 × jH)) (hk2 : ∀ a0 a1 a2 a3 H, JV l mi_18_known jeI 2 [(0, .ref a0), (1, .ref a1), (2, .int a2), (3, .int a3)] [] H (k2 a0 a1 a2 a3 H)) (a0 : Nat) (a1 : Nat) (a2 : Int32) (a3 : Int32) (H : jH) : JV l mi_18_known jeI 2 [(0, .ref a0), (1, .ref a1), (2, .int a2), (3, .int a3)] [] H (B_18_known_2 k2 a0 a1 a2 a3 H) := by
  unfold B_18_known_2
  refine s_29 3 rfl rfl ?_
  refine s_42 4 rfl rfl ?_
  refine s_180R 0 40 7 40 f_18_3 jw_1613 rfl rfl ?_
  refine s_182I 1 161 10 417 (m_16_size l _ _) rfl k_16_size jc_16 jw_2319 jw_2320 jw_2321 rfl rfl rfl rfl rfl (fun x1 h2 => ?_)
  refine s_162 0 29 39 13 rfl rfl ?_ ?_
  · refine s_2 40 rfl ?_
    exact s_172 rfl rfl
  · refine s_42 14 rfl rfl ?_
    refine s_180R 0 63 17 63 f_18_8 jw_1618 rfl rfl ?_
    refine s_16 32 19 32 jbp_32 rfl ?_
    refine s_29 20 rfl rfl ?_
    refine s_104 21 rfl ?_
    refine s_43 22 rfl rfl ?_
    refine s_28 23 rfl rfl ?_
    refine s_16 32 25 32 jbp_32 rfl ?_
    refine s_184I 0 187 28 187 (m_18_like l _ _ _ _ _ _) rfl k_18_like jw_1876 jw_1877 rfl rfl rfl rfl rfl (fun x3 h4 => ?_)
    refine s_153 0 5 33 31 rfl rfl ?_ ?_
    · refine s_132L 3 1 36 1 ji_1 rfl rfl rfl (fun x5 => ?_)
      refine s_167 255 222 2 rfl rfl ?_
      exact s_jmp (hk2 _ _ _ _ _) ⟨rfl, rfl, rfl, rfl, trivial⟩
    · refine s_29 32 rfl rfl ?_
      exact s_172 rfl rfl
theorem w_18_known_2 (l : Launch)  (n : Nat) : ∀ a0 a1 a2 a3 H, JV l mi_18_known jeI 2 [(0, .ref a0), (1, .ref a1), (2, .int a2), (3, .int a3)] [] H (F_18_known_2  n a0 a1 a2 a3 H) := by
  induction n with
  | zero => intro _ _ _ _ _; exact s_none
  | succ n ih => intro a0 a1 a2 a3 H; exact v_18_known_2 l (F_18_known_2  n) ih a0 a1 a2 a3 H
theorem v_18_known (l : Launch) (a0 : Nat) (a1 : Nat) (a2 : Int32) (H : jH) : JV l mi_18_known jeI 0 [(0, .ref a0), (1, .ref a1), (2, .int a2)] [] H (F_18_known a0 a1 a2 H) := by
  unfold F_18_known
  refine s_3 1 rfl ?_
  refine s_62 2 rfl rfl ?_
  exact s_jmp (w_18_known_2 l jfuel _ _ _ _ _) ⟨rfl, rfl, rfl, rfl, trivial⟩
theorem m_18_known (l : Launch) (a0 : Nat) (a1 : Nat) (a2 : Int32) (H : jH) : JMet l y_18_known prog_14_method_31_code mi_18_known jeI [.ref a0, .ref a1, .int a2] H (F_18_known a0 a1 a2 H) := jmet_of n_18_known (by decide) ⟨rfl, rfl⟩ (Nat.le_of_ble_eq_true rfl) (v_18_known l a0 a1 a2 H)
def mi_16_isBits : jM := (982013663488441703587662541072373443266061011230, 20, 2, "CoinNodeModel$Tree", some FieldType.boolean, "isBits", 0, 0)
def y_16_isBits : MethodName := ⟨"CoinNodeModel$Tree", "isBits", "(J)Z"⟩
theorem n_16_isBits : jn_is prog_20_method_10_code mi_16_isBits.1 mi_16_isBits.2.1 := by unfold jn_is; decide +kernel
theorem k_16_isBits : jmok y_16_isBits prog_20_method_10_code mi_16_isBits 1 := ⟨jw_2365, jw_19, ⟨by decide, by decide⟩, by decide +kernel⟩
theorem v_16_isBits_19 (l : Launch)  (s0 : Int32) (H : jH) : JV l mi_16_isBits jeI 19 [] [.int s0] H (B_16_isBits_19  s0 H) := by
  unfold B_16_isBits_19
  exact s_172Z rfl rfl
theorem v_16_isBits_18 (l : Launch)   (H : jH) : JV l mi_16_isBits jeI 18 [] [] H (B_16_isBits_18   H) := by
  unfold B_16_isBits_18
  refine s_3 19 rfl ?_
  exact s_jmp (v_16_isBits_19 l _ _) trivial
theorem v_16_isBits (l : Launch) (a0 : Int64) (H : jH) : JV l mi_16_isBits jeI 0 [(0, .long a0)] [] H (F_16_isBits a0 H) := by
  unfold F_16_isBits
  refine s_30 1 rfl rfl ?_
  refine s_9 2 rfl ?_
  refine s_148_155 0 15 18 3 6 rfl rfl rfl ?_ ?_
  · exact s_jmp (v_16_isBits_18 l _) trivial
  · refine s_30 7 rfl rfl ?_
    refine s_20 0 46 10 46 4294967295 rfl jw_1450 rfl ?_
    refine s_148_157 0 7 18 11 14 rfl rfl rfl ?_ ?_
    · exact s_jmp (v_16_isBits_18 l _) trivial
    · refine s_4 15 rfl ?_
      refine s_167 0 4 19 rfl rfl ?_
      exact s_jmp (v_16_isBits_19 l _ _) trivial
theorem m_16_isBits (l : Launch) (a0 : Int64) (H : jH) : JMet l y_16_isBits prog_20_method_10_code mi_16_isBits jeI [.long a0] H (F_16_isBits a0 H) := jmet_of n_16_isBits (by decide) ⟨rfl, rfl⟩ (Nat.le_of_ble_eq_true rfl) (v_16_isBits l a0 H)
def mi_16_fault : jM := (45193196062571318912052767803001484839219566973971070187445942877720547139906429926998768259123028950512689697601324252027323561520050254576805380993384978525337618937264450979607662682162158385568475541300828545001299857857474084829520835328390180796894649417521714112109654735730483642072232493828019962099278644148480534145943153860808425015453874332416031, 149, 7, "CoinNodeModel$Tree", some FieldType.int, "fault", 2, 48)
def y_16_fault : MethodName := ⟨"CoinNodeModel$Tree", "fault", "(J)I"⟩
theorem n_16_fault : jn_is prog_20_method_11_code mi_16_fault.1 mi_16_fault.2.1 := by unfold jn_is; decide +kernel
theorem k_16_fault : jmok y_16_fault prog_20_method_11_code mi_16_fault 1 := ⟨jw_2362, jw_19, ⟨by decide, by decide⟩, by decide +kernel⟩
theorem v_16_fault_96 (l : Launch)   (H : jH) : JV l mi_16_fault jeI 96 [] [] H (B_16_fault_96   H) := by
  unfold B_16_fault_96
  refine s_5 97 rfl ?_
  exact s_172 rfl rfl
theorem v_16_fault_148 (l : Launch)  (s0 : Int32) (H : jH) : JV l mi_16_fault jeI 148 [] [.int s0] H (B_16_fault_148  s0 H) := by
  unfold B_16_fault_148
  exact s_172 rfl rfl
theorem v_16_fault_80 (l : Launch)  (a0 : Nat) (a1 : Int64) (a3 : Int32) (s0 : Int32) (H : jH) : JV l mi_16_fault jeI 80 [(0, .ref a0), (1, .long a1), (3, .int a3)] [.int s0] H (B_16_fault_80  a0 a1 a3 s0 H) := by
  unfold B_16_fault_80
  refine s_54 6 82 rfl rfl ?_
  refine s_21 6 84 rfl rfl ?_
  refine s_29 85 rfl rfl ?_
  refine s_96 86 rfl ?_
  refine s_6 87 rfl ?_
  refine s_100 88 rfl ?_
  refine s_158 0 8 96 91 rfl rfl ?_ ?_
  · exact s_jmp (v_16_fault_96 l _) trivial
  · refine s_21 6 93 rfl rfl ?_
    refine s_154 0 5 98 96 rfl rfl ?_ ?_
    · refine s_21 6 100 rfl rfl ?_
      refine s_29 101 rfl rfl ?_
      refine s_96 102 rfl ?_
      refine s_6 103 rfl ?_
      refine s_100 104 rfl ?_
      refine s_16 32 106 32 jbp_32 rfl ?_
      refine s_164 0 5 111 109 rfl rfl ?_ ?_
      · refine s_31 112 rfl rfl ?_
        refine s_42 113 rfl rfl ?_
        refine s_180R 0 30 116 30 f_16_8 jw_1479 rfl rfl ?_
        refine s_184V 0 57 119 57 (m_16_open l _ _ _) rfl k_16_open jw_1456 jw_1457 rfl rfl rfl rfl rfl (fun x1 h2 => ?_)
        refine s_20 0 48 122 48 545259519 rfl jw_1451 rfl ?_
        refine s_42 123 rfl rfl ?_
        refine s_180R 0 33 126 33 f_16_9 jw_1480 rfl rfl ?_
        refine s_184V 0 57 129 57 (m_16_open l _ _ _) rfl k_16_open jw_1456 jw_1457 rfl rfl rfl rfl rfl (fun x3 h4 => ?_)
        refine s_42 130 rfl rfl ?_
        refine s_180R 0 30 133 30 f_16_8 jw_1479 rfl rfl ?_
        refine s_42 134 rfl rfl ?_
        refine s_180R 0 33 137 33 f_16_9 jw_1480 rfl rfl ?_
        refine s_184I 0 72 140 72 (m_16_compareRows l _ _ _) rfl k_16_compareRows jw_1468 jw_1469 rfl rfl rfl rfl rfl (fun x5 h6 => ?_)
        refine s_158 0 7 147 143 rfl rfl ?_ ?_
        · refine s_3 148 rfl ?_
          exact s_jmp (v_16_fault_148 l _ _) trivial
        · refine s_7 144 rfl ?_
          refine s_167 0 4 148 rfl rfl ?_
          exact s_jmp (v_16_fault_148 l _ _) trivial
      · refine s_6 110 rfl ?_
        exact s_172 rfl rfl
    · exact s_jmp (v_16_fault_96 l _) trivial
theorem v_16_fault_42 (l : Launch)  (a0 : Nat) (a1 : Int64) (a3 : Int32) (a4 : Int64) (H : jH) : JV l mi_16_fault jeI 42 [(0, .ref a0), (1, .long a1), (3, .int a3), (4, .long a4)] [] H (B_16_fault_42  a0 a1 a3 a4 H) := by
  unfold B_16_fault_42
  refine s_22 4 44 rfl rfl ?_
  refine s_9 45 rfl ?_
  refine s_148_154 0 7 53 46 49 rfl rfl rfl ?_ ?_
  · refine s_22 4 55 rfl rfl ?_
    refine s_20 0 76 58 76 256 rfl jw_2339 rfl ?_
    refine s_148_156 0 7 66 59 62 rfl rfl rfl ?_ ?_
    · refine s_22 4 68 rfl rfl ?_
      refine s_20 0 88 71 88 65536 rfl jw_2366 rfl ?_
      refine s_148_156 0 7 79 72 75 rfl rfl rfl ?_ ?_
      · refine s_6 80 rfl ?_
        exact s_jmp (v_16_fault_80 l _ _ _ _ _) ⟨rfl, rfl, rfl, trivial⟩
      · refine s_5 76 rfl ?_
        refine s_167 0 4 80 rfl rfl ?_
        exact s_jmp (v_16_fault_80 l _ _ _ _ _) ⟨rfl, rfl, rfl, trivial⟩
    · refine s_4 63 rfl ?_
      refine s_167 0 17 80 rfl rfl ?_
      exact s_jmp (v_16_fault_80 l _ _ _ _ _) ⟨rfl, rfl, rfl, trivial⟩
  · refine s_3 50 rfl ?_
    refine s_167 0 30 80 rfl rfl ?_
    exact s_jmp (v_16_fault_80 l _ _ _ _ _) ⟨rfl, rfl, rfl, trivial⟩
theorem v_16_fault (l : Launch) (a0 : Nat) (a1 : Int64) (H : jH) : JV l mi_16_fault jeI 0 [(0, .ref a0), (1, .long a1)] [] H (F_16_fault a0 a1 H) := by
  unfold F_16_fault
  refine s_31 1 rfl rfl ?_
  refine s_184I 0 84 4 84 (m_16_isBits l _ _) rfl k_16_isBits jw_2363 jw_2364 rfl rfl rfl rfl rfl (fun x7 h8 => ?_)
  refine s_154 0 5 9 7 rfl rfl ?_ ?_
  · refine s_31 10 rfl rfl ?_
    refine s_16 24 12 24 jbp_24 rfl ?_
    refine s_123 13 rfl ?_
    refine s_136 14 rfl ?_
    refine s_62L 15 rfl rfl (fun x9 => ?_)
    refine s_31 16 rfl rfl ?_
    refine s_20 0 68 19 68 8388607 rfl jw_1462 rfl ?_
    refine s_127 20 rfl ?_
    refine s_55L 4 22 rfl rfl (fun x10 => ?_)
    refine s_31 23 rfl rfl ?_
    refine s_16 23 25 23 jbp_23 rfl ?_
    refine s_123 26 rfl ?_
    refine s_10 27 rfl ?_
    refine s_127 28 rfl ?_
    refine s_10 29 rfl ?_
    refine s_148_154 0 12 42 30 33 rfl rfl rfl ?_ ?_
    · exact s_jmp (v_16_fault_42 l _ _ _ _ _) ⟨rfl, rfl, rfl, rfl, trivial⟩
    · refine s_22 4 35 rfl rfl ?_
      refine s_9 36 rfl ?_
      refine s_148_158 0 5 42 37 40 rfl rfl rfl ?_ ?_
      · exact s_jmp (v_16_fault_42 l _ _ _ _ _) ⟨rfl, rfl, rfl, rfl, trivial⟩
      · refine s_4 41 rfl ?_
        exact s_172 rfl rfl
  · refine s_2 8 rfl ?_
    exact s_172 rfl rfl
theorem m_16_fault (l : Launch) (a0 : Nat) (a1 : Int64) (H : jH) : JMet l y_16_fault prog_20_method_11_code mi_16_fault jeI [.ref a0, .long a1] H (F_16_fault a0 a1 H) := jmet_of n_16_fault (by decide) ⟨rfl, rfl⟩ (Nat.le_of_ble_eq_true rfl) (v_16_fault l a0 a1 H)
