/-! The words of the tables, by their places. -/
def jpriv : List MethodName := [⟨"CoinNode", "layOnTape", "(I)V"⟩, ⟨"CoinNode", "takeTransaction", "(I[B)V"⟩, ⟨"CoinNode$Tx", "readInputs", "(I)I"⟩, ⟨"CoinNode$Tx", "isRootInput", "(I)Z"⟩, ⟨"CoinNode$Tx", "readOutputs", "(I)I"⟩, ⟨"CoinNode", "answerVerdict", "(II[B)V"⟩, ⟨"CoinNode", "begin", "(I)V"⟩, ⟨"CoinNode", "put", "(I)V"⟩, ⟨"CoinNode", "post", "(I)V"⟩, ⟨"CoinNode$Pool", "clash", "(LCoinNode$Tx;)I"⟩, ⟨"CoinNode$Pool", "take", "(LCoinNode$Tx;I)I"⟩, ⟨"CoinNode$Machine", "push", "(I)V"⟩, ⟨"CoinNode$Machine", "part", "(I)V"⟩, ⟨"CoinNode$Machine", "has", "(I)Z"⟩, ⟨"CoinNode$Machine", "small", "(I)V"⟩, ⟨"CoinNode$Machine", "pass", "(I)V"⟩, ⟨"CoinNode$Machine", "arrange", "(I)V"⟩, ⟨"CoinNode$Machine", "move", "(I)V"⟩, ⟨"CoinNode$Machine", "compare", "(I)V"⟩, ⟨"CoinNode$Machine", "calculate", "(I)V"⟩, ⟨"CoinNode$Machine", "digest", "(I)V"⟩, ⟨"CoinNode$Machine", "ask", "(I)V"⟩, ⟨"CoinNode$Machine", "finish", "(Z)V"⟩, ⟨"CoinNode$Scripts", "write", "(LCoinNode$Tx;ILCoinNode$Tx;II)V"⟩, ⟨"CoinNode$Scripts", "put", "([BII)V"⟩, ⟨"CoinNode$Scripts", "fill", "(II)V"⟩, ⟨"CoinNode$Signature", "invert", "([I)V"⟩, ⟨"CoinNode$Signature", "multiply", "([I[I[I)V"⟩, ⟨"CoinNode$Signature", "isAtX", "()Z"⟩, ⟨"CoinNode$Pool", "knot", "(LCoinNode$Tx;)I"⟩, ⟨"CoinNode$Pool", "markKin", "(LCoinNode$Tx;)V"⟩, ⟨"CoinNode$Pool", "dropLeast", "(LCoinNode$Tx;)Z"⟩, ⟨"CoinNode", "tellOthers", "(II[B)V"⟩, ⟨"CoinNode", "put", "([BII)V"⟩, ⟨"CoinNode$Chain", "bitsBehind", "(LCoinNode$Block;)I"⟩, ⟨"CoinNode$Chain", "median", "(LCoinNode$Block;)J"⟩, ⟨"CoinNode$Chain", "setWork", "(LCoinNode$Block;)V"⟩, ⟨"CoinNode$Chain", "best", "()LCoinNode$Block;"⟩, ⟨"CoinNode$Chain", "layWay", "(LCoinNode$Block;)I"⟩, ⟨"CoinNode$Chain", "replay", "(I)V"⟩, ⟨"CoinNode$Coins", "change", "(LCoinNode$Tx;IZ)V"⟩, ⟨"CoinNode$Coins", "take", "(LCoinNode$Tx;I)I"⟩, ⟨"CoinNode$Coins", "faultOfMaking", "(LCoinNode$Tx;I)I"⟩, ⟨"CoinNode$Chain", "move", "(ILCoinNode$Block;)V"⟩, ⟨"CoinNode$Chain", "condemn", "(LCoinNode$Block;)V"⟩, ⟨"CoinNode", "answerBlock", "(ILCoinNode$Block;IZ)V"⟩, ⟨"CoinNode", "askWhatIsBehind", "(I)V"⟩, ⟨"CoinNode", "answerWhatIsBehind", "(I[B)V"⟩, ⟨"CoinNode", "answerGive", "(I[B)V"⟩, ⟨"CoinNode", "answerIHave", "(I[B)V"⟩]
def jsel (y : MethodName) : Cond := .selects y.cls y y
def jws : List Cond := tables_1.filter goodWord ++ jpriv.map jsel
theorem jws_t {w : Cond} {i : Nat} (h : tables_1[i]? = some w) (hg : goodWord w = true) : w ∈ jws := List.mem_append_left _ (List.mem_filter.mpr ⟨List.mem_of_getElem? h, hg⟩)
theorem jws_1 {w : Cond} (h : w ∈ tables_1_1) (hg : goodWord w = true) : w ∈ jws := List.mem_append_left _ (List.mem_filter.mpr ⟨List.mem_append_left _ h, hg⟩)
theorem jws_2 {w : Cond} (h : w ∈ tables_1_2) (hg : goodWord w = true) : w ∈ jws := List.mem_append_left _ (List.mem_filter.mpr ⟨List.mem_append_right _ (List.mem_append_left _ h), hg⟩)
theorem jws_3 {w : Cond} (h : w ∈ tables_1_3) (hg : goodWord w = true) : w ∈ jws := List.mem_append_left _ (List.mem_filter.mpr ⟨List.mem_append_right _ (List.mem_append_right _ (List.mem_append_left _ h)), hg⟩)
theorem jws_4 {w : Cond} (h : w ∈ tables_1_4) (hg : goodWord w = true) : w ∈ jws := List.mem_append_left _ (List.mem_filter.mpr ⟨List.mem_append_right _ (List.mem_append_right _ (List.mem_append_right _ (List.mem_append_left _ h))), hg⟩)
theorem jws_5 {w : Cond} (h : w ∈ tables_1_5) (hg : goodWord w = true) : w ∈ jws := List.mem_append_left _ (List.mem_filter.mpr ⟨List.mem_append_right _ (List.mem_append_right _ (List.mem_append_right _ (List.mem_append_right _ (List.mem_append_left _ h)))), hg⟩)
theorem jws_6 {w : Cond} (h : w ∈ tables_1_6) (hg : goodWord w = true) : w ∈ jws := List.mem_append_left _ (List.mem_filter.mpr ⟨List.mem_append_right _ (List.mem_append_right _ (List.mem_append_right _ (List.mem_append_right _ (List.mem_append_right _ (h))))), hg⟩)
theorem jws_p {y : MethodName} {i : Nat} (h : jpriv[i]? = some y) : jsel y ∈ jws := List.mem_append_right _ (List.mem_map.mpr ⟨y, List.mem_of_getElem? h, rfl⟩)
theorem jws_good : ∀ w ∈ jws, goodWord w = true := by
  intro w hw
  rcases List.mem_append.mp hw with h | h
  · exact (List.mem_filter.mp h).2
  · obtain ⟨y, -, rfl⟩ := List.mem_map.mp h
    rfl
theorem jw_0 : (Jvm.Cond.initialized "CoinNodeLaw") ∈ jws := jws_1 (List.mem_of_getElem? (i := 0) rfl) rfl
theorem jw_1 : (Jvm.Cond.initialized "CoinNode") ∈ jws := jws_1 (List.mem_of_getElem? (i := 1) rfl) rfl
theorem jw_2 : (Jvm.Cond.initialized "CoinNode$Hash") ∈ jws := jws_1 (List.mem_of_getElem? (i := 2) rfl) rfl
theorem jw_3 : (Jvm.Cond.initialized "CoinNode$Scripts") ∈ jws := jws_1 (List.mem_of_getElem? (i := 3) rfl) rfl
theorem jw_4 : (Jvm.Cond.initialized "CoinNode$Signature") ∈ jws := jws_1 (List.mem_of_getElem? (i := 4) rfl) rfl
theorem jw_5 : (Jvm.Cond.initialized "CoinNode$Point") ∈ jws := jws_1 (List.mem_of_getElem? (i := 5) rfl) rfl
theorem jw_6 : (Jvm.Cond.initialized "CoinNode$Machine") ∈ jws := jws_1 (List.mem_of_getElem? (i := 6) rfl) rfl
theorem jw_7 : (Jvm.Cond.initialized "CoinNode$Stack") ∈ jws := jws_1 (List.mem_of_getElem? (i := 7) rfl) rfl
theorem jw_8 : (Jvm.Cond.initialized "CoinNode$Coins") ∈ jws := jws_1 (List.mem_of_getElem? (i := 8) rfl) rfl
theorem jw_9 : (Jvm.Cond.initialized "CoinNode$Chain") ∈ jws := jws_1 (List.mem_of_getElem? (i := 9) rfl) rfl
theorem jw_10 : (Jvm.Cond.initialized "CoinNode$Block") ∈ jws := jws_1 (List.mem_of_getElem? (i := 10) rfl) rfl
theorem jw_11 : (Jvm.Cond.initialized "CoinNode$Tx") ∈ jws := jws_1 (List.mem_of_getElem? (i := 11) rfl) rfl
theorem jw_12 : (Jvm.Cond.initialized "java/lang/System") ∈ jws := jws_1 (List.mem_of_getElem? (i := 12) rfl) rfl
theorem jw_13 : (Jvm.Cond.initialized "CoinNode$Pool") ∈ jws := jws_1 (List.mem_of_getElem? (i := 13) rfl) rfl
theorem jw_14 : (Jvm.Cond.initialized "java/util/Arrays") ∈ jws := jws_1 (List.mem_of_getElem? (i := 14) rfl) rfl
theorem jw_15 : (Jvm.Cond.initialized "java/lang/Math") ∈ jws := jws_1 (List.mem_of_getElem? (i := 15) rfl) rfl
theorem jw_16 : (Jvm.Cond.methodLink "CoinNodeLaw" (207 : Nat) ({ cls := "CoinNodeLaw", name := "holds", desc := "([I[I)Z" } : Jvm.MethodName)) ∈ jws := jws_1 (List.mem_of_getElem? (i := 16) rfl) rfl
theorem jw_17 : (Jvm.Cond.static ({ cls := "CoinNodeLaw", name := "holds", desc := "([I[I)Z" } : Jvm.MethodName)) ∈ jws := jws_1 (List.mem_of_getElem? (i := 17) rfl) rfl
theorem jw_18 : (Jvm.Cond.code ({ cls := "CoinNodeLaw", name := "holds", desc := "([I[I)Z" } : Jvm.MethodName) method_34_code (23 : Nat) (Option.some Jvm.ClassFile.FieldType.boolean)) ∈ jws := jws_1 (List.mem_of_getElem? (i := 18) rfl) rfl
theorem jw_19 : (Jvm.Cond.classLink "CoinNodeLaw" (118 : Nat) "CoinNode") ∈ jws := jws_1 (List.mem_of_getElem? (i := 19) rfl) rfl
theorem jw_20 : (Jvm.Cond.instantiable "CoinNode" (14 : Nat)) ∈ jws := jws_1 (List.mem_of_getElem? (i := 20) rfl) rfl
theorem jw_21 : (Jvm.Cond.methodLink "CoinNodeLaw" (211 : Nat) ({ cls := "CoinNode", name := "<init>", desc := "()V" } : Jvm.MethodName)) ∈ jws := jws_1 (List.mem_of_getElem? (i := 21) rfl) rfl
theorem jw_22 : (Jvm.Cond.instanceMethod ({ cls := "CoinNode", name := "<init>", desc := "()V" } : Jvm.MethodName)) ∈ jws := jws_1 (List.mem_of_getElem? (i := 22) rfl) rfl
theorem jw_23 : (Jvm.Cond.code ({ cls := "CoinNode", name := "<init>", desc := "()V" } : Jvm.MethodName) prog_1_method_1_code (1 : Nat) (Option.none : Option Jvm.ClassFile.FieldType)) ∈ jws := jws_1 (List.mem_of_getElem? (i := 23) rfl) rfl
theorem jw_24 : (Jvm.Cond.methodLink "CoinNode" (1 : Nat) ({ cls := "java/lang/Object", name := "<init>", desc := "()V" } : Jvm.MethodName)) ∈ jws := jws_1 (List.mem_of_getElem? (i := 24) rfl) rfl
theorem jw_25 : (Jvm.Cond.instanceMethod ({ cls := "java/lang/Object", name := "<init>", desc := "()V" } : Jvm.MethodName)) ∈ jws := jws_1 (List.mem_of_getElem? (i := 25) rfl) rfl
theorem jw_26 : (Jvm.Cond.code ({ cls := "java/lang/Object", name := "<init>", desc := "()V" } : Jvm.MethodName) object_method_1_code (1 : Nat) (Option.none : Option Jvm.ClassFile.FieldType)) ∈ jws := jws_1 (List.mem_of_getElem? (i := 26) rfl) rfl
theorem jw_27 : (Jvm.Cond.classLink "CoinNode" (16 : Nat) "[[B") ∈ jws := jws_1 (List.mem_of_getElem? (i := 27) rfl) rfl
theorem jw_29 : (Jvm.Cond.classLink "CoinNode" (31 : Nat) "CoinNode$Hash") ∈ jws := jws_1 (List.mem_of_getElem? (i := 29) rfl) rfl
theorem jw_30 : (Jvm.Cond.instantiable "CoinNode$Hash" (6 : Nat)) ∈ jws := jws_1 (List.mem_of_getElem? (i := 30) rfl) rfl
theorem jw_32 : (Jvm.Cond.instanceMethod ({ cls := "CoinNode$Hash", name := "<init>", desc := "()V" } : Jvm.MethodName)) ∈ jws := jws_1 (List.mem_of_getElem? (i := 32) rfl) rfl
theorem jw_33 : (Jvm.Cond.code ({ cls := "CoinNode$Hash", name := "<init>", desc := "()V" } : Jvm.MethodName) prog_5_method_1_code (1 : Nat) (Option.none : Option Jvm.ClassFile.FieldType)) ∈ jws := jws_1 (List.mem_of_getElem? (i := 33) rfl) rfl
theorem jw_34 : (Jvm.Cond.methodLink "CoinNode$Hash" (3 : Nat) ({ cls := "java/lang/Object", name := "<init>", desc := "()V" } : Jvm.MethodName)) ∈ jws := jws_1 (List.mem_of_getElem? (i := 34) rfl) rfl
theorem jw_35 : (Jvm.Cond.fieldLink "CoinNode$Hash" (11 : Nat) "CoinNode$Hash" "ready" "[B") ∈ jws := jws_1 (List.mem_of_getElem? (i := 35) rfl) rfl
theorem jw_36 : (Jvm.Cond.fieldLink "CoinNode$Hash" (28 : Nat) "CoinNode$Hash" "readySize" "I") ∈ jws := jws_1 (List.mem_of_getElem? (i := 36) rfl) rfl
theorem jw_37 : (Jvm.Cond.fieldLink "CoinNode$Hash" (15 : Nat) "CoinNode$Hash" "state" "[I") ∈ jws := jws_1 (List.mem_of_getElem? (i := 37) rfl) rfl
theorem jw_38 : (Jvm.Cond.fieldLink "CoinNode$Hash" (19 : Nat) "CoinNode$Hash" "words" "[I") ∈ jws := jws_1 (List.mem_of_getElem? (i := 38) rfl) rfl
theorem jw_39 : (Jvm.Cond.fieldLink "CoinNode$Hash" (22 : Nat) "CoinNode$Hash" "line" "[I") ∈ jws := jws_1 (List.mem_of_getElem? (i := 39) rfl) rfl
theorem jw_40 : (Jvm.Cond.fieldLink "CoinNode$Hash" (25 : Nat) "CoinNode$Hash" "between" "[B") ∈ jws := jws_1 (List.mem_of_getElem? (i := 40) rfl) rfl
theorem jw_41 : (Jvm.Cond.laysFinal "CoinNode$Hash" "CoinNode$Hash" "ready" "[B") ∈ jws := jws_1 (List.mem_of_getElem? (i := 41) rfl) rfl
theorem jw_43 : (Jvm.Cond.lays "CoinNode$Hash" "CoinNode$Hash" "readySize" "I") ∈ jws := jws_1 (List.mem_of_getElem? (i := 43) rfl) rfl
theorem jw_45 : (Jvm.Cond.laysFinal "CoinNode$Hash" "CoinNode$Hash" "state" "[I") ∈ jws := jws_1 (List.mem_of_getElem? (i := 45) rfl) rfl
theorem jw_47 : (Jvm.Cond.laysFinal "CoinNode$Hash" "CoinNode$Hash" "words" "[I") ∈ jws := jws_1 (List.mem_of_getElem? (i := 47) rfl) rfl
theorem jw_49 : (Jvm.Cond.laysFinal "CoinNode$Hash" "CoinNode$Hash" "line" "[I") ∈ jws := jws_1 (List.mem_of_getElem? (i := 49) rfl) rfl
theorem jw_51 : (Jvm.Cond.laysFinal "CoinNode$Hash" "CoinNode$Hash" "between" "[B") ∈ jws := jws_1 (List.mem_of_getElem? (i := 51) rfl) rfl
theorem jw_54 : (Jvm.Cond.arrayClass Jvm.ClassFile.FieldType.byte) ∈ jws := jws_1 (List.mem_of_getElem? (i := 54) rfl) rfl
theorem jw_55 : (Jvm.Cond.arrayClass Jvm.ClassFile.FieldType.int) ∈ jws := jws_1 (List.mem_of_getElem? (i := 55) rfl) rfl
theorem jw_56 : (Jvm.Cond.classLink "CoinNode" (38 : Nat) "CoinNode$Scripts") ∈ jws := jws_1 (List.mem_of_getElem? (i := 56) rfl) rfl
theorem jw_57 : (Jvm.Cond.instantiable "CoinNode$Scripts" (8 : Nat)) ∈ jws := jws_1 (List.mem_of_getElem? (i := 57) rfl) rfl
theorem jw_58 : (Jvm.Cond.methodLink "CoinNode" (40 : Nat) ({ cls := "CoinNode$Scripts", name := "<init>", desc := "(LCoinNode$Hash;)V" } : Jvm.MethodName)) ∈ jws := jws_1 (List.mem_of_getElem? (i := 58) rfl) rfl
theorem jw_59 : (Jvm.Cond.instanceMethod ({ cls := "CoinNode$Scripts", name := "<init>", desc := "(LCoinNode$Hash;)V" } : Jvm.MethodName)) ∈ jws := jws_1 (List.mem_of_getElem? (i := 59) rfl) rfl
theorem jw_60 : (Jvm.Cond.code ({ cls := "CoinNode$Scripts", name := "<init>", desc := "(LCoinNode$Hash;)V" } : Jvm.MethodName) prog_9_method_1_code (2 : Nat) (Option.none : Option Jvm.ClassFile.FieldType)) ∈ jws := jws_1 (List.mem_of_getElem? (i := 60) rfl) rfl
theorem jw_61 : (Jvm.Cond.methodLink "CoinNode$Scripts" (3 : Nat) ({ cls := "java/lang/Object", name := "<init>", desc := "()V" } : Jvm.MethodName)) ∈ jws := jws_1 (List.mem_of_getElem? (i := 61) rfl) rfl
theorem jw_62 : (Jvm.Cond.classLink "CoinNode$Scripts" (9 : Nat) "CoinNode$Signature") ∈ jws := jws_1 (List.mem_of_getElem? (i := 62) rfl) rfl
theorem jw_63 : (Jvm.Cond.instantiable "CoinNode$Signature" (17 : Nat)) ∈ jws := jws_1 (List.mem_of_getElem? (i := 63) rfl) rfl
theorem jw_64 : (Jvm.Cond.methodLink "CoinNode$Scripts" (11 : Nat) ({ cls := "CoinNode$Signature", name := "<init>", desc := "()V" } : Jvm.MethodName)) ∈ jws := jws_1 (List.mem_of_getElem? (i := 64) rfl) rfl
theorem jw_65 : (Jvm.Cond.instanceMethod ({ cls := "CoinNode$Signature", name := "<init>", desc := "()V" } : Jvm.MethodName)) ∈ jws := jws_1 (List.mem_of_getElem? (i := 65) rfl) rfl
theorem jw_66 : (Jvm.Cond.code ({ cls := "CoinNode$Signature", name := "<init>", desc := "()V" } : Jvm.MethodName) prog_10_method_1_code (2 : Nat) (Option.none : Option Jvm.ClassFile.FieldType)) ∈ jws := jws_1 (List.mem_of_getElem? (i := 66) rfl) rfl
theorem jw_67 : (Jvm.Cond.methodLink "CoinNode$Signature" (3 : Nat) ({ cls := "java/lang/Object", name := "<init>", desc := "()V" } : Jvm.MethodName)) ∈ jws := jws_1 (List.mem_of_getElem? (i := 67) rfl) rfl
theorem jw_68 : (Jvm.Cond.classLink "CoinNode$Signature" (33 : Nat) "[[I") ∈ jws := jws_1 (List.mem_of_getElem? (i := 68) rfl) rfl
theorem jw_70 : (Jvm.Cond.classLink "CoinNode$Signature" (38 : Nat) "[[J") ∈ jws := jws_1 (List.mem_of_getElem? (i := 70) rfl) rfl
theorem jw_72 : (Jvm.Cond.classLink "CoinNode$Signature" (49 : Nat) "CoinNode$Point") ∈ jws := jws_1 (List.mem_of_getElem? (i := 72) rfl) rfl
theorem jw_74 : (Jvm.Cond.instantiable "CoinNode$Point" (4 : Nat)) ∈ jws := jws_1 (List.mem_of_getElem? (i := 74) rfl) rfl
theorem jw_76 : (Jvm.Cond.instanceMethod ({ cls := "CoinNode$Point", name := "<init>", desc := "()V" } : Jvm.MethodName)) ∈ jws := jws_1 (List.mem_of_getElem? (i := 76) rfl) rfl
theorem jw_77 : (Jvm.Cond.code ({ cls := "CoinNode$Point", name := "<init>", desc := "()V" } : Jvm.MethodName) prog_7_method_1_code (1 : Nat) (Option.none : Option Jvm.ClassFile.FieldType)) ∈ jws := jws_1 (List.mem_of_getElem? (i := 77) rfl) rfl
theorem jw_78 : (Jvm.Cond.methodLink "CoinNode$Point" (1 : Nat) ({ cls := "java/lang/Object", name := "<init>", desc := "()V" } : Jvm.MethodName)) ∈ jws := jws_1 (List.mem_of_getElem? (i := 78) rfl) rfl
theorem jw_79 : (Jvm.Cond.fieldLink "CoinNode$Point" (7 : Nat) "CoinNode$Point" "x" "[J") ∈ jws := jws_1 (List.mem_of_getElem? (i := 79) rfl) rfl
theorem jw_80 : (Jvm.Cond.fieldLink "CoinNode$Signature" (89 : Nat) "CoinNode$Point" "x" "[J") ∈ jws := jws_1 (List.mem_of_getElem? (i := 80) rfl) rfl
theorem jw_81 : (Jvm.Cond.fieldLink "CoinNode$Point" (13 : Nat) "CoinNode$Point" "y" "[J") ∈ jws := jws_1 (List.mem_of_getElem? (i := 81) rfl) rfl
theorem jw_82 : (Jvm.Cond.fieldLink "CoinNode$Signature" (105 : Nat) "CoinNode$Point" "y" "[J") ∈ jws := jws_1 (List.mem_of_getElem? (i := 82) rfl) rfl
theorem jw_83 : (Jvm.Cond.fieldLink "CoinNode$Point" (16 : Nat) "CoinNode$Point" "z" "[J") ∈ jws := jws_1 (List.mem_of_getElem? (i := 83) rfl) rfl
theorem jw_84 : (Jvm.Cond.fieldLink "CoinNode$Signature" (168 : Nat) "CoinNode$Point" "z" "[J") ∈ jws := jws_1 (List.mem_of_getElem? (i := 84) rfl) rfl
theorem jw_85 : (Jvm.Cond.fieldLink "CoinNode$Point" (19 : Nat) "CoinNode$Point" "isNone" "Z") ∈ jws := jws_1 (List.mem_of_getElem? (i := 85) rfl) rfl
theorem jw_86 : (Jvm.Cond.fieldLink "CoinNode$Signature" (155 : Nat) "CoinNode$Point" "isNone" "Z") ∈ jws := jws_1 (List.mem_of_getElem? (i := 86) rfl) rfl
theorem jw_87 : (Jvm.Cond.laysFinal "CoinNode$Point" "CoinNode$Point" "x" "[J") ∈ jws := jws_1 (List.mem_of_getElem? (i := 87) rfl) rfl
theorem jw_89 : (Jvm.Cond.laysFinal "CoinNode$Point" "CoinNode$Point" "y" "[J") ∈ jws := jws_1 (List.mem_of_getElem? (i := 89) rfl) rfl
theorem jw_91 : (Jvm.Cond.laysFinal "CoinNode$Point" "CoinNode$Point" "z" "[J") ∈ jws := jws_1 (List.mem_of_getElem? (i := 91) rfl) rfl
theorem jw_93 : (Jvm.Cond.lays "CoinNode$Point" "CoinNode$Point" "isNone" "Z") ∈ jws := jws_1 (List.mem_of_getElem? (i := 93) rfl) rfl
theorem jw_96 : (Jvm.Cond.arrayClass Jvm.ClassFile.FieldType.long) ∈ jws := jws_1 (List.mem_of_getElem? (i := 96) rfl) rfl
theorem jw_97 : (Jvm.Cond.fieldLink "CoinNode$Signature" (66 : Nat) "CoinNode$Signature" "kind" "I") ∈ jws := jws_1 (List.mem_of_getElem? (i := 97) rfl) rfl
theorem jw_98 : (Jvm.Cond.fieldLink "CoinNode$Scripts" (97 : Nat) "CoinNode$Signature" "kind" "I") ∈ jws := jws_1 (List.mem_of_getElem? (i := 98) rfl) rfl
theorem jw_99 : (Jvm.Cond.fieldLink "CoinNode$Signature" (9 : Nat) "CoinNode$Signature" "r" "[I") ∈ jws := jws_1 (List.mem_of_getElem? (i := 99) rfl) rfl
theorem jw_100 : (Jvm.Cond.fieldLink "CoinNode$Signature" (15 : Nat) "CoinNode$Signature" "s" "[I") ∈ jws := jws_1 (List.mem_of_getElem? (i := 100) rfl) rfl
theorem jw_101 : (Jvm.Cond.fieldLink "CoinNode$Signature" (18 : Nat) "CoinNode$Signature" "x" "[I") ∈ jws := jws_1 (List.mem_of_getElem? (i := 101) rfl) rfl
theorem jw_102 : (Jvm.Cond.fieldLink "CoinNode$Signature" (21 : Nat) "CoinNode$Signature" "y" "[I") ∈ jws := jws_1 (List.mem_of_getElem? (i := 102) rfl) rfl
theorem jw_103 : (Jvm.Cond.fieldLink "CoinNode$Signature" (24 : Nat) "CoinNode$Signature" "z" "[I") ∈ jws := jws_1 (List.mem_of_getElem? (i := 103) rfl) rfl
theorem jw_104 : (Jvm.Cond.fieldLink "CoinNode$Signature" (27 : Nat) "CoinNode$Signature" "wide" "[I") ∈ jws := jws_1 (List.mem_of_getElem? (i := 104) rfl) rfl
theorem jw_105 : (Jvm.Cond.fieldLink "CoinNode$Signature" (30 : Nat) "CoinNode$Signature" "high" "[I") ∈ jws := jws_1 (List.mem_of_getElem? (i := 105) rfl) rfl
theorem jw_106 : (Jvm.Cond.fieldLink "CoinNode$Signature" (35 : Nat) "CoinNode$Signature" "powers" "[[I") ∈ jws := jws_1 (List.mem_of_getElem? (i := 106) rfl) rfl
theorem jw_107 : (Jvm.Cond.fieldLink "CoinNode$Signature" (40 : Nat) "CoinNode$Signature" "work" "[[J") ∈ jws := jws_1 (List.mem_of_getElem? (i := 107) rfl) rfl
theorem jw_108 : (Jvm.Cond.fieldLink "CoinNode$Signature" (43 : Nat) "CoinNode$Signature" "baseDigits" "[I") ∈ jws := jws_1 (List.mem_of_getElem? (i := 108) rfl) rfl
theorem jw_109 : (Jvm.Cond.fieldLink "CoinNode$Signature" (46 : Nat) "CoinNode$Signature" "keyDigits" "[I") ∈ jws := jws_1 (List.mem_of_getElem? (i := 109) rfl) rfl
theorem jw_110 : (Jvm.Cond.fieldLink "CoinNode$Signature" (51 : Nat) "CoinNode$Signature" "baseOdds" "[LCoinNode$Point;") ∈ jws := jws_1 (List.mem_of_getElem? (i := 110) rfl) rfl
theorem jw_111 : (Jvm.Cond.fieldLink "CoinNode$Signature" (55 : Nat) "CoinNode$Signature" "keyOdds" "[LCoinNode$Point;") ∈ jws := jws_1 (List.mem_of_getElem? (i := 111) rfl) rfl
theorem jw_112 : (Jvm.Cond.fieldLink "CoinNode$Signature" (59 : Nat) "CoinNode$Signature" "twice" "LCoinNode$Point;") ∈ jws := jws_1 (List.mem_of_getElem? (i := 112) rfl) rfl
theorem jw_113 : (Jvm.Cond.fieldLink "CoinNode$Signature" (63 : Nat) "CoinNode$Signature" "sum" "LCoinNode$Point;") ∈ jws := jws_1 (List.mem_of_getElem? (i := 113) rfl) rfl
theorem jw_114 : (Jvm.Cond.fieldLink "CoinNode$Signature" (134 : Nat) "CoinNode$Signature" "hasBase" "Z") ∈ jws := jws_1 (List.mem_of_getElem? (i := 114) rfl) rfl
theorem jw_115 : (Jvm.Cond.lays "CoinNode$Signature" "CoinNode$Signature" "kind" "I") ∈ jws := jws_1 (List.mem_of_getElem? (i := 115) rfl) rfl
theorem jw_117 : (Jvm.Cond.laysFinal "CoinNode$Signature" "CoinNode$Signature" "r" "[I") ∈ jws := jws_1 (List.mem_of_getElem? (i := 117) rfl) rfl
theorem jw_119 : (Jvm.Cond.laysFinal "CoinNode$Signature" "CoinNode$Signature" "s" "[I") ∈ jws := jws_1 (List.mem_of_getElem? (i := 119) rfl) rfl
theorem jw_121 : (Jvm.Cond.laysFinal "CoinNode$Signature" "CoinNode$Signature" "x" "[I") ∈ jws := jws_1 (List.mem_of_getElem? (i := 121) rfl) rfl
theorem jw_123 : (Jvm.Cond.laysFinal "CoinNode$Signature" "CoinNode$Signature" "y" "[I") ∈ jws := jws_1 (List.mem_of_getElem? (i := 123) rfl) rfl
theorem jw_125 : (Jvm.Cond.laysFinal "CoinNode$Signature" "CoinNode$Signature" "z" "[I") ∈ jws := jws_1 (List.mem_of_getElem? (i := 125) rfl) rfl
theorem jw_127 : (Jvm.Cond.laysFinal "CoinNode$Signature" "CoinNode$Signature" "wide" "[I") ∈ jws := jws_1 (List.mem_of_getElem? (i := 127) rfl) rfl
theorem jw_129 : (Jvm.Cond.laysFinal "CoinNode$Signature" "CoinNode$Signature" "high" "[I") ∈ jws := jws_1 (List.mem_of_getElem? (i := 129) rfl) rfl
theorem jw_131 : (Jvm.Cond.laysFinal "CoinNode$Signature" "CoinNode$Signature" "powers" "[[I") ∈ jws := jws_1 (List.mem_of_getElem? (i := 131) rfl) rfl
theorem jw_133 : (Jvm.Cond.laysFinal "CoinNode$Signature" "CoinNode$Signature" "work" "[[J") ∈ jws := jws_1 (List.mem_of_getElem? (i := 133) rfl) rfl
theorem jw_135 : (Jvm.Cond.laysFinal "CoinNode$Signature" "CoinNode$Signature" "baseDigits" "[I") ∈ jws := jws_1 (List.mem_of_getElem? (i := 135) rfl) rfl
theorem jw_137 : (Jvm.Cond.laysFinal "CoinNode$Signature" "CoinNode$Signature" "keyDigits" "[I") ∈ jws := jws_1 (List.mem_of_getElem? (i := 137) rfl) rfl
theorem jw_139 : (Jvm.Cond.laysFinal "CoinNode$Signature" "CoinNode$Signature" "baseOdds" "[LCoinNode$Point;") ∈ jws := jws_1 (List.mem_of_getElem? (i := 139) rfl) rfl
theorem jw_141 : (Jvm.Cond.laysFinal "CoinNode$Signature" "CoinNode$Signature" "keyOdds" "[LCoinNode$Point;") ∈ jws := jws_1 (List.mem_of_getElem? (i := 141) rfl) rfl
theorem jw_143 : (Jvm.Cond.laysFinal "CoinNode$Signature" "CoinNode$Signature" "twice" "LCoinNode$Point;") ∈ jws := jws_1 (List.mem_of_getElem? (i := 143) rfl) rfl
theorem jw_145 : (Jvm.Cond.laysFinal "CoinNode$Signature" "CoinNode$Signature" "sum" "LCoinNode$Point;") ∈ jws := jws_1 (List.mem_of_getElem? (i := 145) rfl) rfl
theorem jw_147 : (Jvm.Cond.lays "CoinNode$Signature" "CoinNode$Signature" "hasBase" "Z") ∈ jws := jws_1 (List.mem_of_getElem? (i := 147) rfl) rfl
theorem jw_150 : (Jvm.Cond.classLink "CoinNode$Scripts" (29 : Nat) "CoinNode$Machine") ∈ jws := jws_1 (List.mem_of_getElem? (i := 150) rfl) rfl
theorem jw_151 : (Jvm.Cond.instantiable "CoinNode$Machine" (20 : Nat)) ∈ jws := jws_1 (List.mem_of_getElem? (i := 151) rfl) rfl
theorem jw_152 : (Jvm.Cond.methodLink "CoinNode$Scripts" (31 : Nat) ({ cls := "CoinNode$Machine", name := "<init>", desc := "(LCoinNode$Hash;)V" } : Jvm.MethodName)) ∈ jws := jws_1 (List.mem_of_getElem? (i := 152) rfl) rfl
theorem jw_153 : (Jvm.Cond.instanceMethod ({ cls := "CoinNode$Machine", name := "<init>", desc := "(LCoinNode$Hash;)V" } : Jvm.MethodName)) ∈ jws := jws_1 (List.mem_of_getElem? (i := 153) rfl) rfl
theorem jw_154 : (Jvm.Cond.code ({ cls := "CoinNode$Machine", name := "<init>", desc := "(LCoinNode$Hash;)V" } : Jvm.MethodName) prog_6_method_1_code (2 : Nat) (Option.none : Option Jvm.ClassFile.FieldType)) ∈ jws := jws_1 (List.mem_of_getElem? (i := 154) rfl) rfl
theorem jw_155 : (Jvm.Cond.methodLink "CoinNode$Machine" (5 : Nat) ({ cls := "java/lang/Object", name := "<init>", desc := "()V" } : Jvm.MethodName)) ∈ jws := jws_1 (List.mem_of_getElem? (i := 155) rfl) rfl
theorem jw_156 : (Jvm.Cond.classLink "CoinNode$Machine" (11 : Nat) "CoinNode$Stack") ∈ jws := jws_1 (List.mem_of_getElem? (i := 156) rfl) rfl
theorem jw_157 : (Jvm.Cond.instantiable "CoinNode$Stack" (3 : Nat)) ∈ jws := jws_1 (List.mem_of_getElem? (i := 157) rfl) rfl
theorem jw_159 : (Jvm.Cond.instanceMethod ({ cls := "CoinNode$Stack", name := "<init>", desc := "()V" } : Jvm.MethodName)) ∈ jws := jws_1 (List.mem_of_getElem? (i := 159) rfl) rfl
theorem jw_160 : (Jvm.Cond.code ({ cls := "CoinNode$Stack", name := "<init>", desc := "()V" } : Jvm.MethodName) prog_11_method_1_code (1 : Nat) (Option.none : Option Jvm.ClassFile.FieldType)) ∈ jws := jws_1 (List.mem_of_getElem? (i := 160) rfl) rfl
theorem jw_161 : (Jvm.Cond.methodLink "CoinNode$Stack" (1 : Nat) ({ cls := "java/lang/Object", name := "<init>", desc := "()V" } : Jvm.MethodName)) ∈ jws := jws_1 (List.mem_of_getElem? (i := 161) rfl) rfl
theorem jw_162 : (Jvm.Cond.classLink "CoinNode$Stack" (9 : Nat) "[[B") ∈ jws := jws_1 (List.mem_of_getElem? (i := 162) rfl) rfl
theorem jw_163 : (Jvm.Cond.fieldLink "CoinNode$Stack" (11 : Nat) "CoinNode$Stack" "rows" "[[B") ∈ jws := jws_1 (List.mem_of_getElem? (i := 163) rfl) rfl
theorem jw_164 : (Jvm.Cond.fieldLink "CoinNode$Machine" (174 : Nat) "CoinNode$Stack" "rows" "[[B") ∈ jws := jws_1 (List.mem_of_getElem? (i := 164) rfl) rfl
theorem jw_165 : (Jvm.Cond.fieldLink "CoinNode$Stack" (14 : Nat) "CoinNode$Stack" "sizes" "[I") ∈ jws := jws_1 (List.mem_of_getElem? (i := 165) rfl) rfl
theorem jw_166 : (Jvm.Cond.fieldLink "CoinNode$Machine" (142 : Nat) "CoinNode$Stack" "sizes" "[I") ∈ jws := jws_1 (List.mem_of_getElem? (i := 166) rfl) rfl
theorem jw_167 : (Jvm.Cond.fieldLink "CoinNode$Stack" (18 : Nat) "CoinNode$Stack" "height" "I") ∈ jws := jws_1 (List.mem_of_getElem? (i := 167) rfl) rfl
theorem jw_168 : (Jvm.Cond.fieldLink "CoinNode$Machine" (41 : Nat) "CoinNode$Stack" "height" "I") ∈ jws := jws_1 (List.mem_of_getElem? (i := 168) rfl) rfl
theorem jw_169 : (Jvm.Cond.laysFinal "CoinNode$Stack" "CoinNode$Stack" "rows" "[[B") ∈ jws := jws_1 (List.mem_of_getElem? (i := 169) rfl) rfl
theorem jw_171 : (Jvm.Cond.laysFinal "CoinNode$Stack" "CoinNode$Stack" "sizes" "[I") ∈ jws := jws_1 (List.mem_of_getElem? (i := 171) rfl) rfl
theorem jw_173 : (Jvm.Cond.lays "CoinNode$Stack" "CoinNode$Stack" "height" "I") ∈ jws := jws_1 (List.mem_of_getElem? (i := 173) rfl) rfl
theorem jw_176 : (Jvm.Cond.fieldLink "CoinNode$Machine" (37 : Nat) "CoinNode$Machine" "hash" "LCoinNode$Hash;") ∈ jws := jws_1 (List.mem_of_getElem? (i := 176) rfl) rfl
theorem jw_177 : (Jvm.Cond.fieldLink "CoinNode$Machine" (14 : Nat) "CoinNode$Machine" "stack" "LCoinNode$Stack;") ∈ jws := jws_1 (List.mem_of_getElem? (i := 177) rfl) rfl
theorem jw_178 : (Jvm.Cond.fieldLink "CoinNode$Machine" (20 : Nat) "CoinNode$Machine" "side" "LCoinNode$Stack;") ∈ jws := jws_1 (List.mem_of_getElem? (i := 178) rfl) rfl
theorem jw_179 : (Jvm.Cond.fieldLink "CoinNode$Machine" (23 : Nat) "CoinNode$Machine" "spare" "LCoinNode$Stack;") ∈ jws := jws_1 (List.mem_of_getElem? (i := 179) rfl) rfl
theorem jw_180 : (Jvm.Cond.fieldLink "CoinNode$Machine" (26 : Nat) "CoinNode$Machine" "made" "[B") ∈ jws := jws_1 (List.mem_of_getElem? (i := 180) rfl) rfl
theorem jw_181 : (Jvm.Cond.fieldLink "CoinNode$Machine" (30 : Nat) "CoinNode$Machine" "script" "[B") ∈ jws := jws_1 (List.mem_of_getElem? (i := 181) rfl) rfl
theorem jw_182 : (Jvm.Cond.fieldLink "CoinNode$Machine" (62 : Nat) "CoinNode$Machine" "at" "I") ∈ jws := jws_1 (List.mem_of_getElem? (i := 182) rfl) rfl
theorem jw_183 : (Jvm.Cond.fieldLink "CoinNode$Machine" (65 : Nat) "CoinNode$Machine" "end" "I") ∈ jws := jws_1 (List.mem_of_getElem? (i := 183) rfl) rfl
theorem jw_184 : (Jvm.Cond.fieldLink "CoinNode$Machine" (45 : Nat) "CoinNode$Machine" "isLast" "Z") ∈ jws := jws_1 (List.mem_of_getElem? (i := 184) rfl) rfl
theorem jw_185 : (Jvm.Cond.fieldLink "CoinNode$Scripts" (123 : Nat) "CoinNode$Machine" "isLast" "Z") ∈ jws := jws_1 (List.mem_of_getElem? (i := 185) rfl) rfl
theorem jw_186 : (Jvm.Cond.fieldLink "CoinNode$Scripts" (75 : Nat) "CoinNode$Machine" "status" "I") ∈ jws := jws_1 (List.mem_of_getElem? (i := 186) rfl) rfl
theorem jw_187 : (Jvm.Cond.fieldLink "CoinNode$Machine" (68 : Nat) "CoinNode$Machine" "status" "I") ∈ jws := jws_1 (List.mem_of_getElem? (i := 187) rfl) rfl
theorem jw_188 : (Jvm.Cond.fieldLink "CoinNode$Machine" (53 : Nat) "CoinNode$Machine" "operations" "I") ∈ jws := jws_1 (List.mem_of_getElem? (i := 188) rfl) rfl
theorem jw_189 : (Jvm.Cond.fieldLink "CoinNode$Machine" (33 : Nat) "CoinNode$Machine" "parts" "[Z") ∈ jws := jws_1 (List.mem_of_getElem? (i := 189) rfl) rfl
theorem jw_190 : (Jvm.Cond.fieldLink "CoinNode$Machine" (56 : Nat) "CoinNode$Machine" "depth" "I") ∈ jws := jws_1 (List.mem_of_getElem? (i := 190) rfl) rfl
theorem jw_191 : (Jvm.Cond.fieldLink "CoinNode$Machine" (59 : Nat) "CoinNode$Machine" "closed" "I") ∈ jws := jws_1 (List.mem_of_getElem? (i := 191) rfl) rfl
theorem jw_192 : (Jvm.Cond.fieldLink "CoinNode$Machine" (106 : Nat) "CoinNode$Machine" "signatures" "I") ∈ jws := jws_1 (List.mem_of_getElem? (i := 192) rfl) rfl
theorem jw_193 : (Jvm.Cond.fieldLink "CoinNode$Machine" (198 : Nat) "CoinNode$Machine" "signatureAt" "I") ∈ jws := jws_1 (List.mem_of_getElem? (i := 193) rfl) rfl
theorem jw_194 : (Jvm.Cond.fieldLink "CoinNode$Machine" (192 : Nat) "CoinNode$Machine" "keys" "I") ∈ jws := jws_1 (List.mem_of_getElem? (i := 194) rfl) rfl
theorem jw_195 : (Jvm.Cond.fieldLink "CoinNode$Machine" (195 : Nat) "CoinNode$Machine" "keyAt" "I") ∈ jws := jws_1 (List.mem_of_getElem? (i := 195) rfl) rfl
theorem jw_196 : (Jvm.Cond.fieldLink "CoinNode$Machine" (201 : Nat) "CoinNode$Machine" "operands" "I") ∈ jws := jws_1 (List.mem_of_getElem? (i := 196) rfl) rfl
theorem jw_197 : (Jvm.Cond.fieldLink "CoinNode$Machine" (189 : Nat) "CoinNode$Machine" "mustFit" "Z") ∈ jws := jws_1 (List.mem_of_getElem? (i := 197) rfl) rfl
theorem jw_198 : (Jvm.Cond.laysFinal "CoinNode$Machine" "CoinNode$Machine" "hash" "LCoinNode$Hash;") ∈ jws := jws_1 (List.mem_of_getElem? (i := 198) rfl) rfl
theorem jw_200 : (Jvm.Cond.laysFinal "CoinNode$Machine" "CoinNode$Machine" "stack" "LCoinNode$Stack;") ∈ jws := jws_1 (List.mem_of_getElem? (i := 200) rfl) rfl
theorem jw_202 : (Jvm.Cond.laysFinal "CoinNode$Machine" "CoinNode$Machine" "side" "LCoinNode$Stack;") ∈ jws := jws_1 (List.mem_of_getElem? (i := 202) rfl) rfl
theorem jw_204 : (Jvm.Cond.laysFinal "CoinNode$Machine" "CoinNode$Machine" "spare" "LCoinNode$Stack;") ∈ jws := jws_1 (List.mem_of_getElem? (i := 204) rfl) rfl
theorem jw_206 : (Jvm.Cond.laysFinal "CoinNode$Machine" "CoinNode$Machine" "made" "[B") ∈ jws := jws_1 (List.mem_of_getElem? (i := 206) rfl) rfl
theorem jw_208 : (Jvm.Cond.lays "CoinNode$Machine" "CoinNode$Machine" "script" "[B") ∈ jws := jws_1 (List.mem_of_getElem? (i := 208) rfl) rfl
theorem jw_210 : (Jvm.Cond.lays "CoinNode$Machine" "CoinNode$Machine" "at" "I") ∈ jws := jws_1 (List.mem_of_getElem? (i := 210) rfl) rfl
theorem jw_212 : (Jvm.Cond.lays "CoinNode$Machine" "CoinNode$Machine" "end" "I") ∈ jws := jws_1 (List.mem_of_getElem? (i := 212) rfl) rfl
theorem jw_214 : (Jvm.Cond.lays "CoinNode$Machine" "CoinNode$Machine" "isLast" "Z") ∈ jws := jws_1 (List.mem_of_getElem? (i := 214) rfl) rfl
theorem jw_216 : (Jvm.Cond.lays "CoinNode$Machine" "CoinNode$Machine" "status" "I") ∈ jws := jws_1 (List.mem_of_getElem? (i := 216) rfl) rfl
theorem jw_218 : (Jvm.Cond.lays "CoinNode$Machine" "CoinNode$Machine" "operations" "I") ∈ jws := jws_1 (List.mem_of_getElem? (i := 218) rfl) rfl
theorem jw_220 : (Jvm.Cond.laysFinal "CoinNode$Machine" "CoinNode$Machine" "parts" "[Z") ∈ jws := jws_1 (List.mem_of_getElem? (i := 220) rfl) rfl
theorem jw_222 : (Jvm.Cond.lays "CoinNode$Machine" "CoinNode$Machine" "depth" "I") ∈ jws := jws_1 (List.mem_of_getElem? (i := 222) rfl) rfl
theorem jw_224 : (Jvm.Cond.lays "CoinNode$Machine" "CoinNode$Machine" "closed" "I") ∈ jws := jws_1 (List.mem_of_getElem? (i := 224) rfl) rfl
theorem jw_226 : (Jvm.Cond.lays "CoinNode$Machine" "CoinNode$Machine" "signatures" "I") ∈ jws := jws_1 (List.mem_of_getElem? (i := 226) rfl) rfl
theorem jw_228 : (Jvm.Cond.lays "CoinNode$Machine" "CoinNode$Machine" "signatureAt" "I") ∈ jws := jws_1 (List.mem_of_getElem? (i := 228) rfl) rfl
theorem jw_230 : (Jvm.Cond.lays "CoinNode$Machine" "CoinNode$Machine" "keys" "I") ∈ jws := jws_1 (List.mem_of_getElem? (i := 230) rfl) rfl
theorem jw_232 : (Jvm.Cond.lays "CoinNode$Machine" "CoinNode$Machine" "keyAt" "I") ∈ jws := jws_1 (List.mem_of_getElem? (i := 232) rfl) rfl
theorem jw_234 : (Jvm.Cond.lays "CoinNode$Machine" "CoinNode$Machine" "operands" "I") ∈ jws := jws_1 (List.mem_of_getElem? (i := 234) rfl) rfl
theorem jw_236 : (Jvm.Cond.lays "CoinNode$Machine" "CoinNode$Machine" "mustFit" "Z") ∈ jws := jws_1 (List.mem_of_getElem? (i := 236) rfl) rfl
theorem jw_239 : (Jvm.Cond.arrayClass Jvm.ClassFile.FieldType.boolean) ∈ jws := jws_1 (List.mem_of_getElem? (i := 239) rfl) rfl
theorem jw_240 : (Jvm.Cond.fieldLink "CoinNode$Scripts" (25 : Nat) "CoinNode$Scripts" "hash" "LCoinNode$Hash;") ∈ jws := jws_2 (List.mem_of_getElem? (i := 0) rfl) rfl
theorem jw_241 : (Jvm.Cond.fieldLink "CoinNode$Scripts" (34 : Nat) "CoinNode$Scripts" "machine" "LCoinNode$Machine;") ∈ jws := jws_2 (List.mem_of_getElem? (i := 1) rfl) rfl
theorem jw_242 : (Jvm.Cond.fieldLink "CoinNode$Scripts" (12 : Nat) "CoinNode$Scripts" "signature" "LCoinNode$Signature;") ∈ jws := jws_2 (List.mem_of_getElem? (i := 2) rfl) rfl
theorem jw_243 : (Jvm.Cond.fieldLink "CoinNode$Scripts" (18 : Nat) "CoinNode$Scripts" "signed" "[B") ∈ jws := jws_2 (List.mem_of_getElem? (i := 3) rfl) rfl
theorem jw_244 : (Jvm.Cond.fieldLink "CoinNode$Scripts" (104 : Nat) "CoinNode$Scripts" "signedSize" "I") ∈ jws := jws_2 (List.mem_of_getElem? (i := 4) rfl) rfl
theorem jw_245 : (Jvm.Cond.fieldLink "CoinNode$Scripts" (22 : Nat) "CoinNode$Scripts" "name" "[B") ∈ jws := jws_2 (List.mem_of_getElem? (i := 5) rfl) rfl
theorem jw_246 : (Jvm.Cond.fieldLink "CoinNode$Scripts" (42 : Nat) "CoinNode$Scripts" "asked" "I") ∈ jws := jws_2 (List.mem_of_getElem? (i := 6) rfl) rfl
theorem jw_247 : (Jvm.Cond.fieldLink "CoinNode$Scripts" (38 : Nat) "CoinNode$Scripts" "most" "I") ∈ jws := jws_2 (List.mem_of_getElem? (i := 7) rfl) rfl
theorem jw_248 : (Jvm.Cond.laysFinal "CoinNode$Scripts" "CoinNode$Scripts" "hash" "LCoinNode$Hash;") ∈ jws := jws_2 (List.mem_of_getElem? (i := 8) rfl) rfl
theorem jw_250 : (Jvm.Cond.laysFinal "CoinNode$Scripts" "CoinNode$Scripts" "machine" "LCoinNode$Machine;") ∈ jws := jws_2 (List.mem_of_getElem? (i := 10) rfl) rfl
theorem jw_252 : (Jvm.Cond.laysFinal "CoinNode$Scripts" "CoinNode$Scripts" "signature" "LCoinNode$Signature;") ∈ jws := jws_2 (List.mem_of_getElem? (i := 12) rfl) rfl
theorem jw_254 : (Jvm.Cond.laysFinal "CoinNode$Scripts" "CoinNode$Scripts" "signed" "[B") ∈ jws := jws_2 (List.mem_of_getElem? (i := 14) rfl) rfl
theorem jw_256 : (Jvm.Cond.lays "CoinNode$Scripts" "CoinNode$Scripts" "signedSize" "I") ∈ jws := jws_2 (List.mem_of_getElem? (i := 16) rfl) rfl
theorem jw_258 : (Jvm.Cond.laysFinal "CoinNode$Scripts" "CoinNode$Scripts" "name" "[B") ∈ jws := jws_2 (List.mem_of_getElem? (i := 18) rfl) rfl
theorem jw_260 : (Jvm.Cond.lays "CoinNode$Scripts" "CoinNode$Scripts" "asked" "I") ∈ jws := jws_2 (List.mem_of_getElem? (i := 20) rfl) rfl
theorem jw_262 : (Jvm.Cond.lays "CoinNode$Scripts" "CoinNode$Scripts" "most" "I") ∈ jws := jws_2 (List.mem_of_getElem? (i := 22) rfl) rfl
theorem jw_265 : (Jvm.Cond.classLink "CoinNode" (47 : Nat) "CoinNode$Coins") ∈ jws := jws_2 (List.mem_of_getElem? (i := 25) rfl) rfl
theorem jw_266 : (Jvm.Cond.instantiable "CoinNode$Coins" (9 : Nat)) ∈ jws := jws_2 (List.mem_of_getElem? (i := 26) rfl) rfl
theorem jw_268 : (Jvm.Cond.instanceMethod ({ cls := "CoinNode$Coins", name := "<init>", desc := "()V" } : Jvm.MethodName)) ∈ jws := jws_2 (List.mem_of_getElem? (i := 28) rfl) rfl
theorem jw_269 : (Jvm.Cond.code ({ cls := "CoinNode$Coins", name := "<init>", desc := "()V" } : Jvm.MethodName) prog_4_method_1_code (1 : Nat) (Option.none : Option Jvm.ClassFile.FieldType)) ∈ jws := jws_2 (List.mem_of_getElem? (i := 29) rfl) rfl
theorem jw_270 : (Jvm.Cond.methodLink "CoinNode$Coins" (1 : Nat) ({ cls := "java/lang/Object", name := "<init>", desc := "()V" } : Jvm.MethodName)) ∈ jws := jws_2 (List.mem_of_getElem? (i := 30) rfl) rfl
theorem jw_271 : (Jvm.Cond.classLink "CoinNode$Coins" (9 : Nat) "CoinNode$Tx") ∈ jws := jws_2 (List.mem_of_getElem? (i := 31) rfl) rfl
theorem jw_273 : (Jvm.Cond.fieldLink "CoinNode$Coins" (11 : Nat) "CoinNode$Coins" "makers" "[LCoinNode$Tx;") ∈ jws := jws_2 (List.mem_of_getElem? (i := 33) rfl) rfl
theorem jw_274 : (Jvm.Cond.fieldLink "CoinNode$Coins" (15 : Nat) "CoinNode$Coins" "numbers" "[I") ∈ jws := jws_2 (List.mem_of_getElem? (i := 34) rfl) rfl
theorem jw_275 : (Jvm.Cond.fieldLink "CoinNode$Coins" (19 : Nat) "CoinNode$Coins" "heights" "[I") ∈ jws := jws_2 (List.mem_of_getElem? (i := 35) rfl) rfl
theorem jw_276 : (Jvm.Cond.fieldLink "CoinNode$Coins" (28 : Nat) "CoinNode$Coins" "many" "I") ∈ jws := jws_2 (List.mem_of_getElem? (i := 36) rfl) rfl
theorem jw_277 : (Jvm.Cond.fieldLink "CoinNode" (171 : Nat) "CoinNode$Coins" "many" "I") ∈ jws := jws_2 (List.mem_of_getElem? (i := 37) rfl) rfl
theorem jw_278 : (Jvm.Cond.fieldLink "CoinNode$Coins" (32 : Nat) "CoinNode$Coins" "spent" "I") ∈ jws := jws_2 (List.mem_of_getElem? (i := 38) rfl) rfl
theorem jw_279 : (Jvm.Cond.fieldLink "CoinNode$Coins" (35 : Nat) "CoinNode$Coins" "sum" "J") ∈ jws := jws_2 (List.mem_of_getElem? (i := 39) rfl) rfl
theorem jw_280 : (Jvm.Cond.fieldLink "CoinNode" (164 : Nat) "CoinNode$Coins" "sum" "J") ∈ jws := jws_2 (List.mem_of_getElem? (i := 40) rfl) rfl
theorem jw_281 : (Jvm.Cond.fieldLink "CoinNode$Coins" (22 : Nat) "CoinNode$Coins" "takenMakers" "[LCoinNode$Tx;") ∈ jws := jws_2 (List.mem_of_getElem? (i := 41) rfl) rfl
theorem jw_282 : (Jvm.Cond.fieldLink "CoinNode$Coins" (25 : Nat) "CoinNode$Coins" "takenNumbers" "[I") ∈ jws := jws_2 (List.mem_of_getElem? (i := 42) rfl) rfl
theorem jw_283 : (Jvm.Cond.fieldLink "CoinNode$Coins" (85 : Nat) "CoinNode$Coins" "takenSum" "J") ∈ jws := jws_2 (List.mem_of_getElem? (i := 43) rfl) rfl
theorem jw_284 : (Jvm.Cond.laysFinal "CoinNode$Coins" "CoinNode$Coins" "makers" "[LCoinNode$Tx;") ∈ jws := jws_2 (List.mem_of_getElem? (i := 44) rfl) rfl
theorem jw_286 : (Jvm.Cond.laysFinal "CoinNode$Coins" "CoinNode$Coins" "numbers" "[I") ∈ jws := jws_2 (List.mem_of_getElem? (i := 46) rfl) rfl
theorem jw_288 : (Jvm.Cond.laysFinal "CoinNode$Coins" "CoinNode$Coins" "heights" "[I") ∈ jws := jws_2 (List.mem_of_getElem? (i := 48) rfl) rfl
theorem jw_290 : (Jvm.Cond.lays "CoinNode$Coins" "CoinNode$Coins" "many" "I") ∈ jws := jws_2 (List.mem_of_getElem? (i := 50) rfl) rfl
theorem jw_292 : (Jvm.Cond.lays "CoinNode$Coins" "CoinNode$Coins" "spent" "I") ∈ jws := jws_2 (List.mem_of_getElem? (i := 52) rfl) rfl
theorem jw_294 : (Jvm.Cond.lays "CoinNode$Coins" "CoinNode$Coins" "sum" "J") ∈ jws := jws_2 (List.mem_of_getElem? (i := 54) rfl) rfl
theorem jw_296 : (Jvm.Cond.laysFinal "CoinNode$Coins" "CoinNode$Coins" "takenMakers" "[LCoinNode$Tx;") ∈ jws := jws_2 (List.mem_of_getElem? (i := 56) rfl) rfl
theorem jw_298 : (Jvm.Cond.laysFinal "CoinNode$Coins" "CoinNode$Coins" "takenNumbers" "[I") ∈ jws := jws_2 (List.mem_of_getElem? (i := 58) rfl) rfl
theorem jw_300 : (Jvm.Cond.lays "CoinNode$Coins" "CoinNode$Coins" "takenSum" "J") ∈ jws := jws_2 (List.mem_of_getElem? (i := 60) rfl) rfl
theorem jw_303 : (Jvm.Cond.classLink "CoinNode" (54 : Nat) "CoinNode$Chain") ∈ jws := jws_2 (List.mem_of_getElem? (i := 63) rfl) rfl
theorem jw_304 : (Jvm.Cond.instantiable "CoinNode$Chain" (17 : Nat)) ∈ jws := jws_2 (List.mem_of_getElem? (i := 64) rfl) rfl
theorem jw_305 : (Jvm.Cond.methodLink "CoinNode" (56 : Nat) ({ cls := "CoinNode$Chain", name := "<init>", desc := "(LCoinNode$Hash;LCoinNode$Coins;LCoinNode$Scripts;)V" } : Jvm.MethodName)) ∈ jws := jws_2 (List.mem_of_getElem? (i := 65) rfl) rfl
theorem jw_306 : (Jvm.Cond.instanceMethod ({ cls := "CoinNode$Chain", name := "<init>", desc := "(LCoinNode$Hash;LCoinNode$Coins;LCoinNode$Scripts;)V" } : Jvm.MethodName)) ∈ jws := jws_2 (List.mem_of_getElem? (i := 66) rfl) rfl
theorem jw_307 : (Jvm.Cond.code ({ cls := "CoinNode$Chain", name := "<init>", desc := "(LCoinNode$Hash;LCoinNode$Coins;LCoinNode$Scripts;)V" } : Jvm.MethodName) prog_3_method_1_code (6 : Nat) (Option.none : Option Jvm.ClassFile.FieldType)) ∈ jws := jws_2 (List.mem_of_getElem? (i := 67) rfl) rfl
theorem jw_308 : (Jvm.Cond.methodLink "CoinNode$Chain" (3 : Nat) ({ cls := "java/lang/Object", name := "<init>", desc := "()V" } : Jvm.MethodName)) ∈ jws := jws_2 (List.mem_of_getElem? (i := 68) rfl) rfl
theorem jw_309 : (Jvm.Cond.classLink "CoinNode$Chain" (11 : Nat) "CoinNode$Block") ∈ jws := jws_2 (List.mem_of_getElem? (i := 69) rfl) rfl
theorem jw_311 : (Jvm.Cond.constant "CoinNode$Chain" (59 : Nat) (1000000 : Int32)) ∈ jws := jws_2 (List.mem_of_getElem? (i := 71) rfl) rfl
theorem jw_312 : (Jvm.Cond.constant "CoinNode$Chain" (60 : Nat) (545259519 : Int32)) ∈ jws := jws_2 (List.mem_of_getElem? (i := 72) rfl) rfl
theorem jw_313 : (Jvm.Cond.instantiable "CoinNode$Block" (9 : Nat)) ∈ jws := jws_2 (List.mem_of_getElem? (i := 73) rfl) rfl
theorem jw_314 : (Jvm.Cond.methodLink "CoinNode$Chain" (61 : Nat) ({ cls := "CoinNode$Block", name := "<init>", desc := "([B)V" } : Jvm.MethodName)) ∈ jws := jws_2 (List.mem_of_getElem? (i := 74) rfl) rfl
theorem jw_315 : (Jvm.Cond.instanceMethod ({ cls := "CoinNode$Block", name := "<init>", desc := "([B)V" } : Jvm.MethodName)) ∈ jws := jws_2 (List.mem_of_getElem? (i := 75) rfl) rfl
theorem jw_316 : (Jvm.Cond.code ({ cls := "CoinNode$Block", name := "<init>", desc := "([B)V" } : Jvm.MethodName) prog_2_method_1_code (2 : Nat) (Option.none : Option Jvm.ClassFile.FieldType)) ∈ jws := jws_2 (List.mem_of_getElem? (i := 76) rfl) rfl
theorem jw_317 : (Jvm.Cond.methodLink "CoinNode$Block" (3 : Nat) ({ cls := "java/lang/Object", name := "<init>", desc := "()V" } : Jvm.MethodName)) ∈ jws := jws_2 (List.mem_of_getElem? (i := 77) rfl) rfl
theorem jw_318 : (Jvm.Cond.classLink "CoinNode$Block" (15 : Nat) "CoinNode$Tx") ∈ jws := jws_2 (List.mem_of_getElem? (i := 78) rfl) rfl
theorem jw_319 : (Jvm.Cond.methodLink "CoinNode$Block" (28 : Nat) ({ cls := "CoinNode$Tx", name := "low", desc := "([BI)I" } : Jvm.MethodName)) ∈ jws := jws_2 (List.mem_of_getElem? (i := 79) rfl) rfl
theorem jw_320 : (Jvm.Cond.static ({ cls := "CoinNode$Tx", name := "low", desc := "([BI)I" } : Jvm.MethodName)) ∈ jws := jws_2 (List.mem_of_getElem? (i := 80) rfl) rfl
theorem jw_321 : (Jvm.Cond.code ({ cls := "CoinNode$Tx", name := "low", desc := "([BI)I" } : Jvm.MethodName) prog_12_method_6_code (2 : Nat) (Option.some Jvm.ClassFile.FieldType.int)) ∈ jws := jws_2 (List.mem_of_getElem? (i := 81) rfl) rfl
theorem jw_322 : (Jvm.Cond.constantLong "CoinNode$Block" (32 : Nat) (4294967295 : Int64)) ∈ jws := jws_2 (List.mem_of_getElem? (i := 82) rfl) rfl
theorem jw_323 : (Jvm.Cond.fieldLink "CoinNode$Block" (25 : Nat) "CoinNode$Block" "row" "[B") ∈ jws := jws_2 (List.mem_of_getElem? (i := 83) rfl) rfl
theorem jw_324 : (Jvm.Cond.fieldLink "CoinNode$Chain" (89 : Nat) "CoinNode$Block" "row" "[B") ∈ jws := jws_2 (List.mem_of_getElem? (i := 84) rfl) rfl
theorem jw_325 : (Jvm.Cond.fieldLink "CoinNode" (220 : Nat) "CoinNode$Block" "row" "[B") ∈ jws := jws_2 (List.mem_of_getElem? (i := 85) rfl) rfl
theorem jw_326 : (Jvm.Cond.fieldLink "CoinNode$Block" (9 : Nat) "CoinNode$Block" "name" "[B") ∈ jws := jws_2 (List.mem_of_getElem? (i := 86) rfl) rfl
theorem jw_327 : (Jvm.Cond.fieldLink "CoinNode$Chain" (64 : Nat) "CoinNode$Block" "name" "[B") ∈ jws := jws_2 (List.mem_of_getElem? (i := 87) rfl) rfl
theorem jw_328 : (Jvm.Cond.fieldLink "CoinNode" (148 : Nat) "CoinNode$Block" "name" "[B") ∈ jws := jws_2 (List.mem_of_getElem? (i := 88) rfl) rfl
theorem jw_329 : (Jvm.Cond.fieldLink "CoinNode$Block" (38 : Nat) "CoinNode$Block" "bits" "I") ∈ jws := jws_2 (List.mem_of_getElem? (i := 89) rfl) rfl
theorem jw_330 : (Jvm.Cond.fieldLink "CoinNode$Chain" (99 : Nat) "CoinNode$Block" "bits" "I") ∈ jws := jws_2 (List.mem_of_getElem? (i := 90) rfl) rfl
theorem jw_331 : (Jvm.Cond.fieldLink "CoinNode$Block" (34 : Nat) "CoinNode$Block" "time" "J") ∈ jws := jws_2 (List.mem_of_getElem? (i := 91) rfl) rfl
theorem jw_332 : (Jvm.Cond.fieldLink "CoinNode$Chain" (106 : Nat) "CoinNode$Block" "time" "J") ∈ jws := jws_2 (List.mem_of_getElem? (i := 92) rfl) rfl
theorem jw_333 : (Jvm.Cond.fieldLink "CoinNode$Block" (17 : Nat) "CoinNode$Block" "txs" "[LCoinNode$Tx;") ∈ jws := jws_2 (List.mem_of_getElem? (i := 93) rfl) rfl
theorem jw_334 : (Jvm.Cond.fieldLink "CoinNode$Pool" (101 : Nat) "CoinNode$Block" "txs" "[LCoinNode$Tx;") ∈ jws := jws_2 (List.mem_of_getElem? (i := 94) rfl) rfl
theorem jw_335 : (Jvm.Cond.fieldLink "CoinNode$Coins" (63 : Nat) "CoinNode$Block" "txs" "[LCoinNode$Tx;") ∈ jws := jws_2 (List.mem_of_getElem? (i := 95) rfl) rfl
theorem jw_336 : (Jvm.Cond.fieldLink "CoinNode$Chain" (92 : Nat) "CoinNode$Block" "parent" "LCoinNode$Block;") ∈ jws := jws_2 (List.mem_of_getElem? (i := 96) rfl) rfl
theorem jw_337 : (Jvm.Cond.fieldLink "CoinNode$Chain" (78 : Nat) "CoinNode$Block" "height" "I") ∈ jws := jws_2 (List.mem_of_getElem? (i := 97) rfl) rfl
theorem jw_338 : (Jvm.Cond.fieldLink "CoinNode" (114 : Nat) "CoinNode$Block" "height" "I") ∈ jws := jws_2 (List.mem_of_getElem? (i := 98) rfl) rfl
theorem jw_339 : (Jvm.Cond.fieldLink "CoinNode$Coins" (68 : Nat) "CoinNode$Block" "height" "I") ∈ jws := jws_2 (List.mem_of_getElem? (i := 99) rfl) rfl
theorem jw_340 : (Jvm.Cond.fieldLink "CoinNode$Chain" (95 : Nat) "CoinNode$Block" "bad" "Z") ∈ jws := jws_2 (List.mem_of_getElem? (i := 100) rfl) rfl
theorem jw_341 : (Jvm.Cond.fieldLink "CoinNode$Block" (21 : Nat) "CoinNode$Block" "work" "[I") ∈ jws := jws_2 (List.mem_of_getElem? (i := 101) rfl) rfl
theorem jw_342 : (Jvm.Cond.fieldLink "CoinNode$Chain" (164 : Nat) "CoinNode$Block" "work" "[I") ∈ jws := jws_2 (List.mem_of_getElem? (i := 102) rfl) rfl
theorem jw_343 : (Jvm.Cond.laysFinal "CoinNode$Block" "CoinNode$Block" "row" "[B") ∈ jws := jws_2 (List.mem_of_getElem? (i := 103) rfl) rfl
theorem jw_345 : (Jvm.Cond.laysFinal "CoinNode$Block" "CoinNode$Block" "name" "[B") ∈ jws := jws_2 (List.mem_of_getElem? (i := 105) rfl) rfl
theorem jw_347 : (Jvm.Cond.laysFinal "CoinNode$Block" "CoinNode$Block" "bits" "I") ∈ jws := jws_2 (List.mem_of_getElem? (i := 107) rfl) rfl
theorem jw_349 : (Jvm.Cond.laysFinal "CoinNode$Block" "CoinNode$Block" "time" "J") ∈ jws := jws_2 (List.mem_of_getElem? (i := 109) rfl) rfl
theorem jw_351 : (Jvm.Cond.lays "CoinNode$Block" "CoinNode$Block" "txs" "[LCoinNode$Tx;") ∈ jws := jws_2 (List.mem_of_getElem? (i := 111) rfl) rfl
theorem jw_353 : (Jvm.Cond.lays "CoinNode$Block" "CoinNode$Block" "parent" "LCoinNode$Block;") ∈ jws := jws_2 (List.mem_of_getElem? (i := 113) rfl) rfl
theorem jw_355 : (Jvm.Cond.lays "CoinNode$Block" "CoinNode$Block" "height" "I") ∈ jws := jws_2 (List.mem_of_getElem? (i := 115) rfl) rfl
theorem jw_357 : (Jvm.Cond.lays "CoinNode$Block" "CoinNode$Block" "bad" "Z") ∈ jws := jws_2 (List.mem_of_getElem? (i := 117) rfl) rfl
theorem jw_359 : (Jvm.Cond.laysFinal "CoinNode$Block" "CoinNode$Block" "work" "[I") ∈ jws := jws_2 (List.mem_of_getElem? (i := 119) rfl) rfl
theorem jw_362 : (Jvm.Cond.methodLink "CoinNode$Chain" (65 : Nat) ({ cls := "CoinNode$Hash", name := "name", desc := "([BII[B)V" } : Jvm.MethodName)) ∈ jws := jws_2 (List.mem_of_getElem? (i := 122) rfl) rfl
theorem jw_363 : (Jvm.Cond.instanceMethod ({ cls := "CoinNode$Hash", name := "name", desc := "([BII[B)V" } : Jvm.MethodName)) ∈ jws := jws_2 (List.mem_of_getElem? (i := 123) rfl) rfl
theorem jw_364 : (Jvm.Cond.selects "CoinNode$Hash" ({ cls := "CoinNode$Hash", name := "name", desc := "([BII[B)V" } : Jvm.MethodName) ({ cls := "CoinNode$Hash", name := "name", desc := "([BII[B)V" } : Jvm.MethodName)) ∈ jws := jws_2 (List.mem_of_getElem? (i := 124) rfl) rfl
theorem jw_365 : (Jvm.Cond.code ({ cls := "CoinNode$Hash", name := "name", desc := "([BII[B)V" } : Jvm.MethodName) prog_5_method_5_code (5 : Nat) (Option.none : Option Jvm.ClassFile.FieldType)) ∈ jws := jws_2 (List.mem_of_getElem? (i := 125) rfl) rfl
theorem jw_366 : (Jvm.Cond.methodLink "CoinNode$Hash" (58 : Nat) ({ cls := "CoinNode$Hash", name := "take", desc := "([BII)V" } : Jvm.MethodName)) ∈ jws := jws_2 (List.mem_of_getElem? (i := 126) rfl) rfl
theorem jw_367 : (Jvm.Cond.instanceMethod ({ cls := "CoinNode$Hash", name := "take", desc := "([BII)V" } : Jvm.MethodName)) ∈ jws := jws_2 (List.mem_of_getElem? (i := 127) rfl) rfl
theorem jw_368 : (Jvm.Cond.selects "CoinNode$Hash" ({ cls := "CoinNode$Hash", name := "take", desc := "([BII)V" } : Jvm.MethodName) ({ cls := "CoinNode$Hash", name := "take", desc := "([BII)V" } : Jvm.MethodName)) ∈ jws := jws_2 (List.mem_of_getElem? (i := 128) rfl) rfl
theorem jw_369 : (Jvm.Cond.code ({ cls := "CoinNode$Hash", name := "take", desc := "([BII)V" } : Jvm.MethodName) prog_5_method_2_code (5 : Nat) (Option.none : Option Jvm.ClassFile.FieldType)) ∈ jws := jws_2 (List.mem_of_getElem? (i := 129) rfl) rfl
theorem jw_370 : (Jvm.Cond.methodLink "CoinNode$Hash" (32 : Nat) ({ cls := "java/lang/System", name := "arraycopy", desc := "(Ljava/lang/Object;ILjava/lang/Object;II)V" } : Jvm.MethodName)) ∈ jws := jws_2 (List.mem_of_getElem? (i := 130) rfl) rfl
theorem jw_371 : (Jvm.Cond.static ({ cls := "java/lang/System", name := "arraycopy", desc := "(Ljava/lang/Object;ILjava/lang/Object;II)V" } : Jvm.MethodName)) ∈ jws := jws_2 (List.mem_of_getElem? (i := 131) rfl) rfl
theorem jw_372 : (Jvm.Cond.native ({ cls := "java/lang/System", name := "arraycopy", desc := "(Ljava/lang/Object;ILjava/lang/Object;II)V" } : Jvm.MethodName)) ∈ jws := jws_2 (List.mem_of_getElem? (i := 132) rfl) rfl
theorem jw_373 : (Jvm.Cond.methodLink "CoinNode$Hash" (62 : Nat) ({ cls := "CoinNode$Hash", name := "digest", desc := "([B)V" } : Jvm.MethodName)) ∈ jws := jws_2 (List.mem_of_getElem? (i := 133) rfl) rfl
theorem jw_374 : (Jvm.Cond.instanceMethod ({ cls := "CoinNode$Hash", name := "digest", desc := "([B)V" } : Jvm.MethodName)) ∈ jws := jws_2 (List.mem_of_getElem? (i := 134) rfl) rfl
theorem jw_375 : (Jvm.Cond.selects "CoinNode$Hash" ({ cls := "CoinNode$Hash", name := "digest", desc := "([B)V" } : Jvm.MethodName) ({ cls := "CoinNode$Hash", name := "digest", desc := "([B)V" } : Jvm.MethodName)) ∈ jws := jws_2 (List.mem_of_getElem? (i := 135) rfl) rfl
theorem jw_376 : (Jvm.Cond.code ({ cls := "CoinNode$Hash", name := "digest", desc := "([B)V" } : Jvm.MethodName) prog_5_method_3_code (15 : Nat) (Option.none : Option Jvm.ClassFile.FieldType)) ∈ jws := jws_2 (List.mem_of_getElem? (i := 136) rfl) rfl
theorem jw_377 : (Jvm.Cond.fieldLink "CoinNode$Hash" (38 : Nat) "CoinNode$Hash" "START" "[I") ∈ jws := jws_2 (List.mem_of_getElem? (i := 137) rfl) rfl
theorem jw_379 : (Jvm.Cond.fieldLink "CoinNode$Hash" (41 : Nat) "CoinNode$Hash" "ROUNDS" "[I") ∈ jws := jws_2 (List.mem_of_getElem? (i := 139) rfl) rfl
theorem jw_381 : (Jvm.Cond.fieldLink "CoinNode$Chain" (47 : Nat) "CoinNode$Chain" "hash" "LCoinNode$Hash;") ∈ jws := jws_2 (List.mem_of_getElem? (i := 141) rfl) rfl
theorem jw_382 : (Jvm.Cond.fieldLink "CoinNode$Chain" (51 : Nat) "CoinNode$Chain" "coins" "LCoinNode$Coins;") ∈ jws := jws_2 (List.mem_of_getElem? (i := 142) rfl) rfl
theorem jw_383 : (Jvm.Cond.fieldLink "CoinNode$Chain" (55 : Nat) "CoinNode$Chain" "scripts" "LCoinNode$Scripts;") ∈ jws := jws_2 (List.mem_of_getElem? (i := 143) rfl) rfl
theorem jw_384 : (Jvm.Cond.fieldLink "CoinNode$Chain" (13 : Nat) "CoinNode$Chain" "known" "[LCoinNode$Block;") ∈ jws := jws_2 (List.mem_of_getElem? (i := 144) rfl) rfl
theorem jw_385 : (Jvm.Cond.fieldLink "CoinNode$Chain" (70 : Nat) "CoinNode$Chain" "many" "I") ∈ jws := jws_2 (List.mem_of_getElem? (i := 145) rfl) rfl
theorem jw_386 : (Jvm.Cond.fieldLink "CoinNode" (168 : Nat) "CoinNode$Chain" "many" "I") ∈ jws := jws_2 (List.mem_of_getElem? (i := 146) rfl) rfl
theorem jw_387 : (Jvm.Cond.fieldLink "CoinNode" (173 : Nat) "CoinNode$Chain" "bad" "I") ∈ jws := jws_2 (List.mem_of_getElem? (i := 147) rfl) rfl
theorem jw_388 : (Jvm.Cond.fieldLink "CoinNode$Chain" (181 : Nat) "CoinNode$Chain" "bad" "I") ∈ jws := jws_2 (List.mem_of_getElem? (i := 148) rfl) rfl
theorem jw_389 : (Jvm.Cond.fieldLink "CoinNode$Chain" (74 : Nat) "CoinNode$Chain" "tip" "LCoinNode$Block;") ∈ jws := jws_2 (List.mem_of_getElem? (i := 149) rfl) rfl
theorem jw_390 : (Jvm.Cond.fieldLink "CoinNode" (90 : Nat) "CoinNode$Chain" "tip" "LCoinNode$Block;") ∈ jws := jws_2 (List.mem_of_getElem? (i := 150) rfl) rfl
theorem jw_391 : (Jvm.Cond.fieldLink "CoinNode$Chain" (17 : Nat) "CoinNode$Chain" "line" "[LCoinNode$Block;") ∈ jws := jws_2 (List.mem_of_getElem? (i := 151) rfl) rfl
theorem jw_392 : (Jvm.Cond.fieldLink "CoinNode$Chain" (20 : Nat) "CoinNode$Chain" "way" "[LCoinNode$Block;") ∈ jws := jws_2 (List.mem_of_getElem? (i := 152) rfl) rfl
theorem jw_393 : (Jvm.Cond.fieldLink "CoinNode$Chain" (23 : Nat) "CoinNode$Chain" "left" "[LCoinNode$Block;") ∈ jws := jws_2 (List.mem_of_getElem? (i := 153) rfl) rfl
theorem jw_394 : (Jvm.Cond.fieldLink "CoinNode" (107 : Nat) "CoinNode$Chain" "left" "[LCoinNode$Block;") ∈ jws := jws_2 (List.mem_of_getElem? (i := 154) rfl) rfl
theorem jw_395 : (Jvm.Cond.fieldLink "CoinNode" (111 : Nat) "CoinNode$Chain" "leftMany" "I") ∈ jws := jws_2 (List.mem_of_getElem? (i := 155) rfl) rfl
theorem jw_396 : (Jvm.Cond.fieldLink "CoinNode$Chain" (133 : Nat) "CoinNode$Chain" "leftMany" "I") ∈ jws := jws_2 (List.mem_of_getElem? (i := 156) rfl) rfl
theorem jw_397 : (Jvm.Cond.fieldLink "CoinNode$Chain" (26 : Nat) "CoinNode$Chain" "target" "[I") ∈ jws := jws_2 (List.mem_of_getElem? (i := 157) rfl) rfl
theorem jw_398 : (Jvm.Cond.fieldLink "CoinNode$Chain" (30 : Nat) "CoinNode$Chain" "limit" "[I") ∈ jws := jws_2 (List.mem_of_getElem? (i := 158) rfl) rfl
theorem jw_399 : (Jvm.Cond.fieldLink "CoinNode$Chain" (33 : Nat) "CoinNode$Chain" "rest" "[I") ∈ jws := jws_2 (List.mem_of_getElem? (i := 159) rfl) rfl
theorem jw_400 : (Jvm.Cond.fieldLink "CoinNode$Chain" (36 : Nat) "CoinNode$Chain" "times" "[J") ∈ jws := jws_2 (List.mem_of_getElem? (i := 160) rfl) rfl
theorem jw_401 : (Jvm.Cond.fieldLink "CoinNode$Chain" (40 : Nat) "CoinNode$Chain" "names" "[B") ∈ jws := jws_2 (List.mem_of_getElem? (i := 161) rfl) rfl
theorem jw_402 : (Jvm.Cond.fieldLink "CoinNode$Chain" (44 : Nat) "CoinNode$Chain" "name" "[B") ∈ jws := jws_2 (List.mem_of_getElem? (i := 162) rfl) rfl
theorem jw_403 : (Jvm.Cond.laysFinal "CoinNode$Chain" "CoinNode$Chain" "hash" "LCoinNode$Hash;") ∈ jws := jws_2 (List.mem_of_getElem? (i := 163) rfl) rfl
theorem jw_405 : (Jvm.Cond.laysFinal "CoinNode$Chain" "CoinNode$Chain" "coins" "LCoinNode$Coins;") ∈ jws := jws_2 (List.mem_of_getElem? (i := 165) rfl) rfl
theorem jw_407 : (Jvm.Cond.laysFinal "CoinNode$Chain" "CoinNode$Chain" "scripts" "LCoinNode$Scripts;") ∈ jws := jws_2 (List.mem_of_getElem? (i := 167) rfl) rfl
theorem jw_409 : (Jvm.Cond.laysFinal "CoinNode$Chain" "CoinNode$Chain" "known" "[LCoinNode$Block;") ∈ jws := jws_2 (List.mem_of_getElem? (i := 169) rfl) rfl
theorem jw_411 : (Jvm.Cond.lays "CoinNode$Chain" "CoinNode$Chain" "many" "I") ∈ jws := jws_2 (List.mem_of_getElem? (i := 171) rfl) rfl
theorem jw_413 : (Jvm.Cond.lays "CoinNode$Chain" "CoinNode$Chain" "bad" "I") ∈ jws := jws_2 (List.mem_of_getElem? (i := 173) rfl) rfl
theorem jw_415 : (Jvm.Cond.lays "CoinNode$Chain" "CoinNode$Chain" "tip" "LCoinNode$Block;") ∈ jws := jws_2 (List.mem_of_getElem? (i := 175) rfl) rfl
theorem jw_417 : (Jvm.Cond.laysFinal "CoinNode$Chain" "CoinNode$Chain" "line" "[LCoinNode$Block;") ∈ jws := jws_2 (List.mem_of_getElem? (i := 177) rfl) rfl
theorem jw_419 : (Jvm.Cond.laysFinal "CoinNode$Chain" "CoinNode$Chain" "way" "[LCoinNode$Block;") ∈ jws := jws_2 (List.mem_of_getElem? (i := 179) rfl) rfl
theorem jw_421 : (Jvm.Cond.laysFinal "CoinNode$Chain" "CoinNode$Chain" "left" "[LCoinNode$Block;") ∈ jws := jws_2 (List.mem_of_getElem? (i := 181) rfl) rfl
theorem jw_423 : (Jvm.Cond.lays "CoinNode$Chain" "CoinNode$Chain" "leftMany" "I") ∈ jws := jws_2 (List.mem_of_getElem? (i := 183) rfl) rfl
theorem jw_425 : (Jvm.Cond.laysFinal "CoinNode$Chain" "CoinNode$Chain" "target" "[I") ∈ jws := jws_2 (List.mem_of_getElem? (i := 185) rfl) rfl
theorem jw_427 : (Jvm.Cond.laysFinal "CoinNode$Chain" "CoinNode$Chain" "limit" "[I") ∈ jws := jws_2 (List.mem_of_getElem? (i := 187) rfl) rfl
theorem jw_429 : (Jvm.Cond.laysFinal "CoinNode$Chain" "CoinNode$Chain" "rest" "[I") ∈ jws := jws_2 (List.mem_of_getElem? (i := 189) rfl) rfl
theorem jw_431 : (Jvm.Cond.laysFinal "CoinNode$Chain" "CoinNode$Chain" "times" "[J") ∈ jws := jws_2 (List.mem_of_getElem? (i := 191) rfl) rfl
theorem jw_433 : (Jvm.Cond.laysFinal "CoinNode$Chain" "CoinNode$Chain" "names" "[B") ∈ jws := jws_2 (List.mem_of_getElem? (i := 193) rfl) rfl
theorem jw_435 : (Jvm.Cond.laysFinal "CoinNode$Chain" "CoinNode$Chain" "name" "[B") ∈ jws := jws_2 (List.mem_of_getElem? (i := 195) rfl) rfl
theorem jw_438 : (Jvm.Cond.classLink "CoinNode" (63 : Nat) "CoinNode$Pool") ∈ jws := jws_2 (List.mem_of_getElem? (i := 198) rfl) rfl
theorem jw_439 : (Jvm.Cond.instantiable "CoinNode$Pool" (10 : Nat)) ∈ jws := jws_2 (List.mem_of_getElem? (i := 199) rfl) rfl
theorem jw_440 : (Jvm.Cond.methodLink "CoinNode" (65 : Nat) ({ cls := "CoinNode$Pool", name := "<init>", desc := "(LCoinNode$Coins;LCoinNode$Scripts;)V" } : Jvm.MethodName)) ∈ jws := jws_2 (List.mem_of_getElem? (i := 200) rfl) rfl
theorem jw_441 : (Jvm.Cond.instanceMethod ({ cls := "CoinNode$Pool", name := "<init>", desc := "(LCoinNode$Coins;LCoinNode$Scripts;)V" } : Jvm.MethodName)) ∈ jws := jws_2 (List.mem_of_getElem? (i := 201) rfl) rfl
theorem jw_442 : (Jvm.Cond.code ({ cls := "CoinNode$Pool", name := "<init>", desc := "(LCoinNode$Coins;LCoinNode$Scripts;)V" } : Jvm.MethodName) prog_8_method_1_code (3 : Nat) (Option.none : Option Jvm.ClassFile.FieldType)) ∈ jws := jws_2 (List.mem_of_getElem? (i := 202) rfl) rfl
theorem jw_443 : (Jvm.Cond.methodLink "CoinNode$Pool" (1 : Nat) ({ cls := "java/lang/Object", name := "<init>", desc := "()V" } : Jvm.MethodName)) ∈ jws := jws_2 (List.mem_of_getElem? (i := 203) rfl) rfl
theorem jw_444 : (Jvm.Cond.classLink "CoinNode$Pool" (9 : Nat) "CoinNode$Tx") ∈ jws := jws_2 (List.mem_of_getElem? (i := 204) rfl) rfl
theorem jw_445 : (Jvm.Cond.fieldLink "CoinNode$Pool" (33 : Nat) "CoinNode$Pool" "coins" "LCoinNode$Coins;") ∈ jws := jws_2 (List.mem_of_getElem? (i := 205) rfl) rfl
theorem jw_446 : (Jvm.Cond.fieldLink "CoinNode$Pool" (37 : Nat) "CoinNode$Pool" "scripts" "LCoinNode$Scripts;") ∈ jws := jws_2 (List.mem_of_getElem? (i := 206) rfl) rfl
theorem jw_447 : (Jvm.Cond.fieldLink "CoinNode$Pool" (11 : Nat) "CoinNode$Pool" "txs" "[LCoinNode$Tx;") ∈ jws := jws_2 (List.mem_of_getElem? (i := 207) rfl) rfl
theorem jw_448 : (Jvm.Cond.fieldLink "CoinNode$Pool" (15 : Nat) "CoinNode$Pool" "gains" "[J") ∈ jws := jws_2 (List.mem_of_getElem? (i := 208) rfl) rfl
theorem jw_449 : (Jvm.Cond.fieldLink "CoinNode$Pool" (41 : Nat) "CoinNode$Pool" "many" "I") ∈ jws := jws_2 (List.mem_of_getElem? (i := 209) rfl) rfl
theorem jw_450 : (Jvm.Cond.fieldLink "CoinNode" (172 : Nat) "CoinNode$Pool" "many" "I") ∈ jws := jws_2 (List.mem_of_getElem? (i := 210) rfl) rfl
theorem jw_451 : (Jvm.Cond.fieldLink "CoinNode$Pool" (19 : Nat) "CoinNode$Pool" "before" "[LCoinNode$Tx;") ∈ jws := jws_2 (List.mem_of_getElem? (i := 211) rfl) rfl
theorem jw_452 : (Jvm.Cond.fieldLink "CoinNode$Pool" (22 : Nat) "CoinNode$Pool" "kin" "[Z") ∈ jws := jws_2 (List.mem_of_getElem? (i := 212) rfl) rfl
theorem jw_453 : (Jvm.Cond.fieldLink "CoinNode$Pool" (26 : Nat) "CoinNode$Pool" "takenMakers" "[LCoinNode$Tx;") ∈ jws := jws_2 (List.mem_of_getElem? (i := 213) rfl) rfl
theorem jw_454 : (Jvm.Cond.fieldLink "CoinNode$Pool" (29 : Nat) "CoinNode$Pool" "takenNumbers" "[I") ∈ jws := jws_2 (List.mem_of_getElem? (i := 214) rfl) rfl
theorem jw_455 : (Jvm.Cond.fieldLink "CoinNode$Pool" (84 : Nat) "CoinNode$Pool" "takenSum" "J") ∈ jws := jws_2 (List.mem_of_getElem? (i := 215) rfl) rfl
theorem jw_456 : (Jvm.Cond.laysFinal "CoinNode$Pool" "CoinNode$Pool" "coins" "LCoinNode$Coins;") ∈ jws := jws_2 (List.mem_of_getElem? (i := 216) rfl) rfl
theorem jw_458 : (Jvm.Cond.laysFinal "CoinNode$Pool" "CoinNode$Pool" "scripts" "LCoinNode$Scripts;") ∈ jws := jws_2 (List.mem_of_getElem? (i := 218) rfl) rfl
theorem jw_460 : (Jvm.Cond.laysFinal "CoinNode$Pool" "CoinNode$Pool" "txs" "[LCoinNode$Tx;") ∈ jws := jws_2 (List.mem_of_getElem? (i := 220) rfl) rfl
theorem jw_462 : (Jvm.Cond.laysFinal "CoinNode$Pool" "CoinNode$Pool" "gains" "[J") ∈ jws := jws_2 (List.mem_of_getElem? (i := 222) rfl) rfl
theorem jw_464 : (Jvm.Cond.lays "CoinNode$Pool" "CoinNode$Pool" "many" "I") ∈ jws := jws_2 (List.mem_of_getElem? (i := 224) rfl) rfl
theorem jw_466 : (Jvm.Cond.laysFinal "CoinNode$Pool" "CoinNode$Pool" "before" "[LCoinNode$Tx;") ∈ jws := jws_2 (List.mem_of_getElem? (i := 226) rfl) rfl
theorem jw_468 : (Jvm.Cond.laysFinal "CoinNode$Pool" "CoinNode$Pool" "kin" "[Z") ∈ jws := jws_2 (List.mem_of_getElem? (i := 228) rfl) rfl
theorem jw_470 : (Jvm.Cond.laysFinal "CoinNode$Pool" "CoinNode$Pool" "takenMakers" "[LCoinNode$Tx;") ∈ jws := jws_2 (List.mem_of_getElem? (i := 230) rfl) rfl
theorem jw_472 : (Jvm.Cond.laysFinal "CoinNode$Pool" "CoinNode$Pool" "takenNumbers" "[I") ∈ jws := jws_2 (List.mem_of_getElem? (i := 232) rfl) rfl
theorem jw_474 : (Jvm.Cond.lays "CoinNode$Pool" "CoinNode$Pool" "takenSum" "J") ∈ jws := jws_2 (List.mem_of_getElem? (i := 234) rfl) rfl
theorem jw_477 : (Jvm.Cond.fieldLink "CoinNode" (9 : Nat) "CoinNode" "tape" "[B") ∈ jws := jws_2 (List.mem_of_getElem? (i := 237) rfl) rfl
theorem jw_478 : (Jvm.Cond.fieldLink "CoinNode" (72 : Nat) "CoinNode" "tapeSize" "I") ∈ jws := jws_2 (List.mem_of_getElem? (i := 238) rfl) rfl
theorem jw_479 : (Jvm.Cond.fieldLink "CoinNode" (13 : Nat) "CoinNode" "keyName" "[B") ∈ jws := jws_2 (List.mem_of_getElem? (i := 239) rfl) rfl
theorem jw_480 : (Jvm.Cond.fieldLink "CoinNode" (151 : Nat) "CoinNode" "keyIndex" "I") ∈ jws := jws_3 (List.mem_of_getElem? (i := 0) rfl) rfl
theorem jw_481 : (Jvm.Cond.fieldLink "CoinNode" (18 : Nat) "CoinNode" "boxes" "[[B") ∈ jws := jws_3 (List.mem_of_getElem? (i := 1) rfl) rfl
theorem jw_482 : (Jvm.Cond.fieldLink "CoinNode" (21 : Nat) "CoinNode" "boxStarts" "[I") ∈ jws := jws_3 (List.mem_of_getElem? (i := 2) rfl) rfl
theorem jw_483 : (Jvm.Cond.fieldLink "CoinNode" (25 : Nat) "CoinNode" "boxSizes" "[I") ∈ jws := jws_3 (List.mem_of_getElem? (i := 3) rfl) rfl
theorem jw_484 : (Jvm.Cond.fieldLink "CoinNode" (28 : Nat) "CoinNode" "frame" "[B") ∈ jws := jws_3 (List.mem_of_getElem? (i := 4) rfl) rfl
theorem jw_485 : (Jvm.Cond.fieldLink "CoinNode" (233 : Nat) "CoinNode" "frameSize" "I") ∈ jws := jws_3 (List.mem_of_getElem? (i := 5) rfl) rfl
theorem jw_486 : (Jvm.Cond.fieldLink "CoinNode" (34 : Nat) "CoinNode" "hash" "LCoinNode$Hash;") ∈ jws := jws_3 (List.mem_of_getElem? (i := 6) rfl) rfl
theorem jw_487 : (Jvm.Cond.fieldLink "CoinNode" (43 : Nat) "CoinNode" "scripts" "LCoinNode$Scripts;") ∈ jws := jws_3 (List.mem_of_getElem? (i := 7) rfl) rfl
theorem jw_488 : (Jvm.Cond.fieldLink "CoinNode" (50 : Nat) "CoinNode" "coins" "LCoinNode$Coins;") ∈ jws := jws_3 (List.mem_of_getElem? (i := 8) rfl) rfl
theorem jw_489 : (Jvm.Cond.fieldLink "CoinNode" (59 : Nat) "CoinNode" "chain" "LCoinNode$Chain;") ∈ jws := jws_3 (List.mem_of_getElem? (i := 9) rfl) rfl
theorem jw_490 : (Jvm.Cond.fieldLink "CoinNode" (68 : Nat) "CoinNode" "pool" "LCoinNode$Pool;") ∈ jws := jws_3 (List.mem_of_getElem? (i := 10) rfl) rfl
theorem jw_491 : (Jvm.Cond.laysFinal "CoinNode" "CoinNode" "tape" "[B") ∈ jws := jws_3 (List.mem_of_getElem? (i := 11) rfl) rfl
theorem jw_493 : (Jvm.Cond.lays "CoinNode" "CoinNode" "tapeSize" "I") ∈ jws := jws_3 (List.mem_of_getElem? (i := 13) rfl) rfl
theorem jw_495 : (Jvm.Cond.laysFinal "CoinNode" "CoinNode" "keyName" "[B") ∈ jws := jws_3 (List.mem_of_getElem? (i := 15) rfl) rfl
theorem jw_497 : (Jvm.Cond.lays "CoinNode" "CoinNode" "keyIndex" "I") ∈ jws := jws_3 (List.mem_of_getElem? (i := 17) rfl) rfl
theorem jw_499 : (Jvm.Cond.laysFinal "CoinNode" "CoinNode" "boxes" "[[B") ∈ jws := jws_3 (List.mem_of_getElem? (i := 19) rfl) rfl
theorem jw_501 : (Jvm.Cond.laysFinal "CoinNode" "CoinNode" "boxStarts" "[I") ∈ jws := jws_3 (List.mem_of_getElem? (i := 21) rfl) rfl
theorem jw_503 : (Jvm.Cond.laysFinal "CoinNode" "CoinNode" "boxSizes" "[I") ∈ jws := jws_3 (List.mem_of_getElem? (i := 23) rfl) rfl
theorem jw_505 : (Jvm.Cond.laysFinal "CoinNode" "CoinNode" "frame" "[B") ∈ jws := jws_3 (List.mem_of_getElem? (i := 25) rfl) rfl
theorem jw_507 : (Jvm.Cond.lays "CoinNode" "CoinNode" "frameSize" "I") ∈ jws := jws_3 (List.mem_of_getElem? (i := 27) rfl) rfl
theorem jw_509 : (Jvm.Cond.laysFinal "CoinNode" "CoinNode" "hash" "LCoinNode$Hash;") ∈ jws := jws_3 (List.mem_of_getElem? (i := 29) rfl) rfl
theorem jw_511 : (Jvm.Cond.laysFinal "CoinNode" "CoinNode" "scripts" "LCoinNode$Scripts;") ∈ jws := jws_3 (List.mem_of_getElem? (i := 31) rfl) rfl
theorem jw_513 : (Jvm.Cond.laysFinal "CoinNode" "CoinNode" "coins" "LCoinNode$Coins;") ∈ jws := jws_3 (List.mem_of_getElem? (i := 33) rfl) rfl
theorem jw_515 : (Jvm.Cond.laysFinal "CoinNode" "CoinNode" "chain" "LCoinNode$Chain;") ∈ jws := jws_3 (List.mem_of_getElem? (i := 35) rfl) rfl
theorem jw_517 : (Jvm.Cond.laysFinal "CoinNode" "CoinNode" "pool" "LCoinNode$Pool;") ∈ jws := jws_3 (List.mem_of_getElem? (i := 37) rfl) rfl
theorem jw_520 : (Jvm.Cond.methodLink "CoinNodeLaw" (212 : Nat) ({ cls := "CoinNodeLaw", name := "first", desc := "(LCoinNode;[I[JI)V" } : Jvm.MethodName)) ∈ jws := jws_3 (List.mem_of_getElem? (i := 40) rfl) rfl
theorem jw_521 : (Jvm.Cond.static ({ cls := "CoinNodeLaw", name := "first", desc := "(LCoinNode;[I[JI)V" } : Jvm.MethodName)) ∈ jws := jws_3 (List.mem_of_getElem? (i := 41) rfl) rfl
theorem jw_522 : (Jvm.Cond.code ({ cls := "CoinNodeLaw", name := "first", desc := "(LCoinNode;[I[JI)V" } : Jvm.MethodName) method_20_code (4 : Nat) (Option.none : Option Jvm.ClassFile.FieldType)) ∈ jws := jws_3 (List.mem_of_getElem? (i := 42) rfl) rfl
theorem jw_523 : (Jvm.Cond.methodLink "CoinNodeLaw" (105 : Nat) ({ cls := "CoinNodeLaw", name := "begin", desc := "([I)V" } : Jvm.MethodName)) ∈ jws := jws_3 (List.mem_of_getElem? (i := 43) rfl) rfl
theorem jw_524 : (Jvm.Cond.static ({ cls := "CoinNodeLaw", name := "begin", desc := "([I)V" } : Jvm.MethodName)) ∈ jws := jws_3 (List.mem_of_getElem? (i := 44) rfl) rfl
theorem jw_525 : (Jvm.Cond.code ({ cls := "CoinNodeLaw", name := "begin", desc := "([I)V" } : Jvm.MethodName) method_5_code (1 : Nat) (Option.none : Option Jvm.ClassFile.FieldType)) ∈ jws := jws_3 (List.mem_of_getElem? (i := 45) rfl) rfl
theorem jw_526 : (Jvm.Cond.constant "CoinNodeLaw" (81 : Nat) (1779033703 : Int32)) ∈ jws := jws_3 (List.mem_of_getElem? (i := 46) rfl) rfl
theorem jw_527 : (Jvm.Cond.constant "CoinNodeLaw" (82 : Nat) (-1150833019 : Int32)) ∈ jws := jws_3 (List.mem_of_getElem? (i := 47) rfl) rfl
theorem jw_528 : (Jvm.Cond.constant "CoinNodeLaw" (83 : Nat) (1013904242 : Int32)) ∈ jws := jws_3 (List.mem_of_getElem? (i := 48) rfl) rfl
theorem jw_529 : (Jvm.Cond.constant "CoinNodeLaw" (84 : Nat) (-1521486534 : Int32)) ∈ jws := jws_3 (List.mem_of_getElem? (i := 49) rfl) rfl
theorem jw_530 : (Jvm.Cond.constant "CoinNodeLaw" (85 : Nat) (1359893119 : Int32)) ∈ jws := jws_3 (List.mem_of_getElem? (i := 50) rfl) rfl
theorem jw_531 : (Jvm.Cond.constant "CoinNodeLaw" (86 : Nat) (-1694144372 : Int32)) ∈ jws := jws_3 (List.mem_of_getElem? (i := 51) rfl) rfl
theorem jw_532 : (Jvm.Cond.constant "CoinNodeLaw" (87 : Nat) (528734635 : Int32)) ∈ jws := jws_3 (List.mem_of_getElem? (i := 52) rfl) rfl
theorem jw_533 : (Jvm.Cond.constant "CoinNodeLaw" (88 : Nat) (1541459225 : Int32)) ∈ jws := jws_3 (List.mem_of_getElem? (i := 53) rfl) rfl
theorem jw_534 : (Jvm.Cond.constant "CoinNodeLaw" (140 : Nat) (1000000 : Int32)) ∈ jws := jws_3 (List.mem_of_getElem? (i := 54) rfl) rfl
theorem jw_535 : (Jvm.Cond.constant "CoinNodeLaw" (141 : Nat) (545259519 : Int32)) ∈ jws := jws_3 (List.mem_of_getElem? (i := 55) rfl) rfl
theorem jw_536 : (Jvm.Cond.methodLink "CoinNodeLaw" (142 : Nat) ({ cls := "CoinNodeLaw", name := "head", desc := "(LCoinNode;[I[JIIIII)Z" } : Jvm.MethodName)) ∈ jws := jws_3 (List.mem_of_getElem? (i := 56) rfl) rfl
theorem jw_537 : (Jvm.Cond.static ({ cls := "CoinNodeLaw", name := "head", desc := "(LCoinNode;[I[JIIIII)Z" } : Jvm.MethodName)) ∈ jws := jws_3 (List.mem_of_getElem? (i := 57) rfl) rfl
theorem jw_538 : (Jvm.Cond.code ({ cls := "CoinNodeLaw", name := "head", desc := "(LCoinNode;[I[JIIIII)Z" } : Jvm.MethodName) method_19_code (8 : Nat) (Option.some Jvm.ClassFile.FieldType.boolean)) ∈ jws := jws_3 (List.mem_of_getElem? (i := 58) rfl) rfl
theorem jw_539 : (Jvm.Cond.methodLink "CoinNodeLaw" (131 : Nat) ({ cls := "CoinNodeLaw", name := "low", desc := "(LCoinNode;[I[JJI)Z" } : Jvm.MethodName)) ∈ jws := jws_3 (List.mem_of_getElem? (i := 59) rfl) rfl
theorem jw_540 : (Jvm.Cond.static ({ cls := "CoinNodeLaw", name := "low", desc := "(LCoinNode;[I[JJI)Z" } : Jvm.MethodName)) ∈ jws := jws_3 (List.mem_of_getElem? (i := 60) rfl) rfl
theorem jw_541 : (Jvm.Cond.code ({ cls := "CoinNodeLaw", name := "low", desc := "(LCoinNode;[I[JJI)Z" } : Jvm.MethodName) method_12_code (8 : Nat) (Option.some Jvm.ClassFile.FieldType.boolean)) ∈ jws := jws_3 (List.mem_of_getElem? (i := 61) rfl) rfl
theorem jw_542 : (Jvm.Cond.methodLink "CoinNodeLaw" (123 : Nat) ({ cls := "CoinNodeLaw", name := "put", desc := "(LCoinNode;[I[JI)Z" } : Jvm.MethodName)) ∈ jws := jws_3 (List.mem_of_getElem? (i := 62) rfl) rfl
theorem jw_543 : (Jvm.Cond.static ({ cls := "CoinNodeLaw", name := "put", desc := "(LCoinNode;[I[JI)Z" } : Jvm.MethodName)) ∈ jws := jws_3 (List.mem_of_getElem? (i := 63) rfl) rfl
theorem jw_544 : (Jvm.Cond.code ({ cls := "CoinNodeLaw", name := "put", desc := "(LCoinNode;[I[JI)Z" } : Jvm.MethodName) method_11_code (8 : Nat) (Option.some Jvm.ClassFile.FieldType.boolean)) ∈ jws := jws_3 (List.mem_of_getElem? (i := 64) rfl) rfl
theorem jw_545 : (Jvm.Cond.methodLink "CoinNodeLaw" (93 : Nat) ({ cls := "CoinNodeLaw", name := "add", desc := "([I[JI)V" } : Jvm.MethodName)) ∈ jws := jws_3 (List.mem_of_getElem? (i := 65) rfl) rfl
theorem jw_546 : (Jvm.Cond.static ({ cls := "CoinNodeLaw", name := "add", desc := "([I[JI)V" } : Jvm.MethodName)) ∈ jws := jws_3 (List.mem_of_getElem? (i := 66) rfl) rfl
theorem jw_547 : (Jvm.Cond.code ({ cls := "CoinNodeLaw", name := "add", desc := "([I[JI)V" } : Jvm.MethodName) method_6_code (4 : Nat) (Option.none : Option Jvm.ClassFile.FieldType)) ∈ jws := jws_3 (List.mem_of_getElem? (i := 67) rfl) rfl
theorem jw_548 : (Jvm.Cond.methodLink "CoinNodeLaw" (89 : Nat) ({ cls := "CoinNodeLaw", name := "work", desc := "([I[J)V" } : Jvm.MethodName)) ∈ jws := jws_3 (List.mem_of_getElem? (i := 68) rfl) rfl
theorem jw_549 : (Jvm.Cond.static ({ cls := "CoinNodeLaw", name := "work", desc := "([I[J)V" } : Jvm.MethodName)) ∈ jws := jws_3 (List.mem_of_getElem? (i := 69) rfl) rfl
theorem jw_550 : (Jvm.Cond.code ({ cls := "CoinNodeLaw", name := "work", desc := "([I[J)V" } : Jvm.MethodName) method_4_code (9 : Nat) (Option.none : Option Jvm.ClassFile.FieldType)) ∈ jws := jws_3 (List.mem_of_getElem? (i := 70) rfl) rfl
theorem jw_551 : (Jvm.Cond.methodLink "CoinNodeLaw" (71 : Nat) ({ cls := "CoinNodeLaw", name := "right", desc := "(II)I" } : Jvm.MethodName)) ∈ jws := jws_3 (List.mem_of_getElem? (i := 71) rfl) rfl
theorem jw_552 : (Jvm.Cond.static ({ cls := "CoinNodeLaw", name := "right", desc := "(II)I" } : Jvm.MethodName)) ∈ jws := jws_3 (List.mem_of_getElem? (i := 72) rfl) rfl
theorem jw_553 : (Jvm.Cond.code ({ cls := "CoinNodeLaw", name := "right", desc := "(II)I" } : Jvm.MethodName) method_3_code (2 : Nat) (Option.some Jvm.ClassFile.FieldType.int)) ∈ jws := jws_3 (List.mem_of_getElem? (i := 73) rfl) rfl
theorem jw_554 : (Jvm.Cond.methodLink "CoinNodeLaw" (77 : Nat) ({ cls := "CoinNodeLaw", name := "constant", desc := "(I)I" } : Jvm.MethodName)) ∈ jws := jws_3 (List.mem_of_getElem? (i := 74) rfl) rfl
theorem jw_555 : (Jvm.Cond.static ({ cls := "CoinNodeLaw", name := "constant", desc := "(I)I" } : Jvm.MethodName)) ∈ jws := jws_3 (List.mem_of_getElem? (i := 75) rfl) rfl
theorem jw_556 : (Jvm.Cond.code ({ cls := "CoinNodeLaw", name := "constant", desc := "(I)I" } : Jvm.MethodName) method_2_code (1 : Nat) (Option.some Jvm.ClassFile.FieldType.int)) ∈ jws := jws_3 (List.mem_of_getElem? (i := 76) rfl) rfl
theorem jw_557 : (Jvm.Cond.constant "CoinNodeLaw" (7 : Nat) (1116352408 : Int32)) ∈ jws := jws_3 (List.mem_of_getElem? (i := 77) rfl) rfl
theorem jw_558 : (Jvm.Cond.constant "CoinNodeLaw" (8 : Nat) (1899447441 : Int32)) ∈ jws := jws_3 (List.mem_of_getElem? (i := 78) rfl) rfl
theorem jw_559 : (Jvm.Cond.constant "CoinNodeLaw" (9 : Nat) (-1245643825 : Int32)) ∈ jws := jws_3 (List.mem_of_getElem? (i := 79) rfl) rfl
theorem jw_560 : (Jvm.Cond.constant "CoinNodeLaw" (10 : Nat) (-373957723 : Int32)) ∈ jws := jws_3 (List.mem_of_getElem? (i := 80) rfl) rfl
theorem jw_561 : (Jvm.Cond.constant "CoinNodeLaw" (11 : Nat) (961987163 : Int32)) ∈ jws := jws_3 (List.mem_of_getElem? (i := 81) rfl) rfl
theorem jw_562 : (Jvm.Cond.constant "CoinNodeLaw" (12 : Nat) (1508970993 : Int32)) ∈ jws := jws_3 (List.mem_of_getElem? (i := 82) rfl) rfl
theorem jw_563 : (Jvm.Cond.constant "CoinNodeLaw" (13 : Nat) (-1841331548 : Int32)) ∈ jws := jws_3 (List.mem_of_getElem? (i := 83) rfl) rfl
theorem jw_564 : (Jvm.Cond.constant "CoinNodeLaw" (14 : Nat) (-1424204075 : Int32)) ∈ jws := jws_3 (List.mem_of_getElem? (i := 84) rfl) rfl
theorem jw_565 : (Jvm.Cond.constant "CoinNodeLaw" (15 : Nat) (-670586216 : Int32)) ∈ jws := jws_3 (List.mem_of_getElem? (i := 85) rfl) rfl
theorem jw_566 : (Jvm.Cond.constant "CoinNodeLaw" (16 : Nat) (310598401 : Int32)) ∈ jws := jws_3 (List.mem_of_getElem? (i := 86) rfl) rfl
theorem jw_567 : (Jvm.Cond.constant "CoinNodeLaw" (17 : Nat) (607225278 : Int32)) ∈ jws := jws_3 (List.mem_of_getElem? (i := 87) rfl) rfl
theorem jw_568 : (Jvm.Cond.constant "CoinNodeLaw" (18 : Nat) (1426881987 : Int32)) ∈ jws := jws_3 (List.mem_of_getElem? (i := 88) rfl) rfl
theorem jw_569 : (Jvm.Cond.constant "CoinNodeLaw" (19 : Nat) (1925078388 : Int32)) ∈ jws := jws_3 (List.mem_of_getElem? (i := 89) rfl) rfl
theorem jw_570 : (Jvm.Cond.constant "CoinNodeLaw" (20 : Nat) (-2132889090 : Int32)) ∈ jws := jws_3 (List.mem_of_getElem? (i := 90) rfl) rfl
theorem jw_571 : (Jvm.Cond.constant "CoinNodeLaw" (21 : Nat) (-1680079193 : Int32)) ∈ jws := jws_3 (List.mem_of_getElem? (i := 91) rfl) rfl
theorem jw_572 : (Jvm.Cond.constant "CoinNodeLaw" (22 : Nat) (-1046744716 : Int32)) ∈ jws := jws_3 (List.mem_of_getElem? (i := 92) rfl) rfl
theorem jw_573 : (Jvm.Cond.constant "CoinNodeLaw" (23 : Nat) (-459576895 : Int32)) ∈ jws := jws_3 (List.mem_of_getElem? (i := 93) rfl) rfl
theorem jw_574 : (Jvm.Cond.constant "CoinNodeLaw" (24 : Nat) (-272742522 : Int32)) ∈ jws := jws_3 (List.mem_of_getElem? (i := 94) rfl) rfl
theorem jw_575 : (Jvm.Cond.constant "CoinNodeLaw" (25 : Nat) (264347078 : Int32)) ∈ jws := jws_3 (List.mem_of_getElem? (i := 95) rfl) rfl
theorem jw_576 : (Jvm.Cond.constant "CoinNodeLaw" (26 : Nat) (604807628 : Int32)) ∈ jws := jws_3 (List.mem_of_getElem? (i := 96) rfl) rfl
theorem jw_577 : (Jvm.Cond.constant "CoinNodeLaw" (27 : Nat) (770255983 : Int32)) ∈ jws := jws_3 (List.mem_of_getElem? (i := 97) rfl) rfl
theorem jw_578 : (Jvm.Cond.constant "CoinNodeLaw" (28 : Nat) (1249150122 : Int32)) ∈ jws := jws_3 (List.mem_of_getElem? (i := 98) rfl) rfl
theorem jw_579 : (Jvm.Cond.constant "CoinNodeLaw" (29 : Nat) (1555081692 : Int32)) ∈ jws := jws_3 (List.mem_of_getElem? (i := 99) rfl) rfl
theorem jw_580 : (Jvm.Cond.constant "CoinNodeLaw" (30 : Nat) (1996064986 : Int32)) ∈ jws := jws_3 (List.mem_of_getElem? (i := 100) rfl) rfl
theorem jw_581 : (Jvm.Cond.constant "CoinNodeLaw" (31 : Nat) (-1740746414 : Int32)) ∈ jws := jws_3 (List.mem_of_getElem? (i := 101) rfl) rfl
theorem jw_582 : (Jvm.Cond.constant "CoinNodeLaw" (32 : Nat) (-1473132947 : Int32)) ∈ jws := jws_3 (List.mem_of_getElem? (i := 102) rfl) rfl
theorem jw_583 : (Jvm.Cond.constant "CoinNodeLaw" (33 : Nat) (-1341970488 : Int32)) ∈ jws := jws_3 (List.mem_of_getElem? (i := 103) rfl) rfl
theorem jw_584 : (Jvm.Cond.constant "CoinNodeLaw" (34 : Nat) (-1084653625 : Int32)) ∈ jws := jws_3 (List.mem_of_getElem? (i := 104) rfl) rfl
theorem jw_585 : (Jvm.Cond.constant "CoinNodeLaw" (35 : Nat) (-958395405 : Int32)) ∈ jws := jws_3 (List.mem_of_getElem? (i := 105) rfl) rfl
theorem jw_586 : (Jvm.Cond.constant "CoinNodeLaw" (36 : Nat) (-710438585 : Int32)) ∈ jws := jws_3 (List.mem_of_getElem? (i := 106) rfl) rfl
theorem jw_587 : (Jvm.Cond.constant "CoinNodeLaw" (37 : Nat) (113926993 : Int32)) ∈ jws := jws_3 (List.mem_of_getElem? (i := 107) rfl) rfl
theorem jw_588 : (Jvm.Cond.constant "CoinNodeLaw" (38 : Nat) (338241895 : Int32)) ∈ jws := jws_3 (List.mem_of_getElem? (i := 108) rfl) rfl
theorem jw_589 : (Jvm.Cond.constant "CoinNodeLaw" (39 : Nat) (666307205 : Int32)) ∈ jws := jws_3 (List.mem_of_getElem? (i := 109) rfl) rfl
theorem jw_590 : (Jvm.Cond.constant "CoinNodeLaw" (40 : Nat) (773529912 : Int32)) ∈ jws := jws_3 (List.mem_of_getElem? (i := 110) rfl) rfl
theorem jw_591 : (Jvm.Cond.constant "CoinNodeLaw" (41 : Nat) (1294757372 : Int32)) ∈ jws := jws_3 (List.mem_of_getElem? (i := 111) rfl) rfl
theorem jw_592 : (Jvm.Cond.constant "CoinNodeLaw" (42 : Nat) (1396182291 : Int32)) ∈ jws := jws_3 (List.mem_of_getElem? (i := 112) rfl) rfl
theorem jw_593 : (Jvm.Cond.constant "CoinNodeLaw" (43 : Nat) (1695183700 : Int32)) ∈ jws := jws_3 (List.mem_of_getElem? (i := 113) rfl) rfl
theorem jw_594 : (Jvm.Cond.constant "CoinNodeLaw" (44 : Nat) (1986661051 : Int32)) ∈ jws := jws_3 (List.mem_of_getElem? (i := 114) rfl) rfl
theorem jw_595 : (Jvm.Cond.constant "CoinNodeLaw" (45 : Nat) (-2117940946 : Int32)) ∈ jws := jws_3 (List.mem_of_getElem? (i := 115) rfl) rfl
theorem jw_596 : (Jvm.Cond.constant "CoinNodeLaw" (46 : Nat) (-1838011259 : Int32)) ∈ jws := jws_3 (List.mem_of_getElem? (i := 116) rfl) rfl
theorem jw_597 : (Jvm.Cond.constant "CoinNodeLaw" (47 : Nat) (-1564481375 : Int32)) ∈ jws := jws_3 (List.mem_of_getElem? (i := 117) rfl) rfl
theorem jw_598 : (Jvm.Cond.constant "CoinNodeLaw" (48 : Nat) (-1474664885 : Int32)) ∈ jws := jws_3 (List.mem_of_getElem? (i := 118) rfl) rfl
theorem jw_599 : (Jvm.Cond.constant "CoinNodeLaw" (49 : Nat) (-1035236496 : Int32)) ∈ jws := jws_3 (List.mem_of_getElem? (i := 119) rfl) rfl
theorem jw_600 : (Jvm.Cond.constant "CoinNodeLaw" (50 : Nat) (-949202525 : Int32)) ∈ jws := jws_3 (List.mem_of_getElem? (i := 120) rfl) rfl
theorem jw_601 : (Jvm.Cond.constant "CoinNodeLaw" (51 : Nat) (-778901479 : Int32)) ∈ jws := jws_3 (List.mem_of_getElem? (i := 121) rfl) rfl
theorem jw_602 : (Jvm.Cond.constant "CoinNodeLaw" (52 : Nat) (-694614492 : Int32)) ∈ jws := jws_3 (List.mem_of_getElem? (i := 122) rfl) rfl
theorem jw_603 : (Jvm.Cond.constant "CoinNodeLaw" (53 : Nat) (-200395387 : Int32)) ∈ jws := jws_3 (List.mem_of_getElem? (i := 123) rfl) rfl
theorem jw_604 : (Jvm.Cond.constant "CoinNodeLaw" (54 : Nat) (275423344 : Int32)) ∈ jws := jws_3 (List.mem_of_getElem? (i := 124) rfl) rfl
theorem jw_605 : (Jvm.Cond.constant "CoinNodeLaw" (55 : Nat) (430227734 : Int32)) ∈ jws := jws_3 (List.mem_of_getElem? (i := 125) rfl) rfl
theorem jw_606 : (Jvm.Cond.constant "CoinNodeLaw" (56 : Nat) (506948616 : Int32)) ∈ jws := jws_3 (List.mem_of_getElem? (i := 126) rfl) rfl
theorem jw_607 : (Jvm.Cond.constant "CoinNodeLaw" (57 : Nat) (659060556 : Int32)) ∈ jws := jws_3 (List.mem_of_getElem? (i := 127) rfl) rfl
theorem jw_608 : (Jvm.Cond.constant "CoinNodeLaw" (58 : Nat) (883997877 : Int32)) ∈ jws := jws_3 (List.mem_of_getElem? (i := 128) rfl) rfl
theorem jw_609 : (Jvm.Cond.constant "CoinNodeLaw" (59 : Nat) (958139571 : Int32)) ∈ jws := jws_3 (List.mem_of_getElem? (i := 129) rfl) rfl
theorem jw_610 : (Jvm.Cond.constant "CoinNodeLaw" (60 : Nat) (1322822218 : Int32)) ∈ jws := jws_3 (List.mem_of_getElem? (i := 130) rfl) rfl
theorem jw_611 : (Jvm.Cond.constant "CoinNodeLaw" (61 : Nat) (1537002063 : Int32)) ∈ jws := jws_3 (List.mem_of_getElem? (i := 131) rfl) rfl
theorem jw_612 : (Jvm.Cond.constant "CoinNodeLaw" (62 : Nat) (1747873779 : Int32)) ∈ jws := jws_3 (List.mem_of_getElem? (i := 132) rfl) rfl
theorem jw_613 : (Jvm.Cond.constant "CoinNodeLaw" (63 : Nat) (1955562222 : Int32)) ∈ jws := jws_3 (List.mem_of_getElem? (i := 133) rfl) rfl
theorem jw_614 : (Jvm.Cond.constant "CoinNodeLaw" (64 : Nat) (2024104815 : Int32)) ∈ jws := jws_3 (List.mem_of_getElem? (i := 134) rfl) rfl
theorem jw_615 : (Jvm.Cond.constant "CoinNodeLaw" (65 : Nat) (-2067236844 : Int32)) ∈ jws := jws_3 (List.mem_of_getElem? (i := 135) rfl) rfl
theorem jw_616 : (Jvm.Cond.constant "CoinNodeLaw" (66 : Nat) (-1933114872 : Int32)) ∈ jws := jws_3 (List.mem_of_getElem? (i := 136) rfl) rfl
theorem jw_617 : (Jvm.Cond.constant "CoinNodeLaw" (67 : Nat) (-1866530822 : Int32)) ∈ jws := jws_3 (List.mem_of_getElem? (i := 137) rfl) rfl
theorem jw_618 : (Jvm.Cond.constant "CoinNodeLaw" (68 : Nat) (-1538233109 : Int32)) ∈ jws := jws_3 (List.mem_of_getElem? (i := 138) rfl) rfl
theorem jw_619 : (Jvm.Cond.constant "CoinNodeLaw" (69 : Nat) (-1090935817 : Int32)) ∈ jws := jws_3 (List.mem_of_getElem? (i := 139) rfl) rfl
theorem jw_620 : (Jvm.Cond.constant "CoinNodeLaw" (70 : Nat) (-965641998 : Int32)) ∈ jws := jws_3 (List.mem_of_getElem? (i := 140) rfl) rfl
theorem jw_621 : (Jvm.Cond.constantLong "CoinNodeLaw" (97 : Nat) (4294967295 : Int64)) ∈ jws := jws_3 (List.mem_of_getElem? (i := 141) rfl) rfl
theorem jw_622 : (Jvm.Cond.constantLong "CoinNodeLaw" (111 : Nat) (255 : Int64)) ∈ jws := jws_3 (List.mem_of_getElem? (i := 142) rfl) rfl
theorem jw_623 : (Jvm.Cond.methodLink "CoinNodeLaw" (113 : Nat) ({ cls := "CoinNodeLaw", name := "fold", desc := "(JJ)J" } : Jvm.MethodName)) ∈ jws := jws_3 (List.mem_of_getElem? (i := 143) rfl) rfl
theorem jw_624 : (Jvm.Cond.static ({ cls := "CoinNodeLaw", name := "fold", desc := "(JJ)J" } : Jvm.MethodName)) ∈ jws := jws_3 (List.mem_of_getElem? (i := 144) rfl) rfl
theorem jw_625 : (Jvm.Cond.code ({ cls := "CoinNodeLaw", name := "fold", desc := "(JJ)J" } : Jvm.MethodName) method_10_code (4 : Nat) (Option.some Jvm.ClassFile.FieldType.long)) ∈ jws := jws_3 (List.mem_of_getElem? (i := 145) rfl) rfl
theorem jw_626 : (Jvm.Cond.constantLong "CoinNodeLaw" (109 : Nat) (1000003 : Int64)) ∈ jws := jws_3 (List.mem_of_getElem? (i := 146) rfl) rfl
theorem jw_627 : (Jvm.Cond.methodLink "CoinNodeLaw" (117 : Nat) ({ cls := "CoinNode", name := "feed", desc := "(IIIII)Z" } : Jvm.MethodName)) ∈ jws := jws_3 (List.mem_of_getElem? (i := 147) rfl) rfl
theorem jw_628 : (Jvm.Cond.instanceMethod ({ cls := "CoinNode", name := "feed", desc := "(IIIII)Z" } : Jvm.MethodName)) ∈ jws := jws_3 (List.mem_of_getElem? (i := 148) rfl) rfl
theorem jw_629 : (Jvm.Cond.selects "CoinNode" ({ cls := "CoinNode", name := "feed", desc := "(IIIII)Z" } : Jvm.MethodName) ({ cls := "CoinNode", name := "feed", desc := "(IIIII)Z" } : Jvm.MethodName)) ∈ jws := jws_3 (List.mem_of_getElem? (i := 149) rfl) rfl
theorem jw_630 : (Jvm.Cond.code ({ cls := "CoinNode", name := "feed", desc := "(IIIII)Z" } : Jvm.MethodName) prog_1_method_2_code (6 : Nat) (Option.some Jvm.ClassFile.FieldType.boolean)) ∈ jws := jws_3 (List.mem_of_getElem? (i := 150) rfl) rfl
theorem jw_631 : (Jvm.Cond.methodLink "CoinNode" (76 : Nat) ({ cls := "CoinNode", name := "layOnTape", desc := "(I)V" } : Jvm.MethodName)) ∈ jws := jws_3 (List.mem_of_getElem? (i := 151) rfl) rfl
theorem jw_633 : (Jvm.Cond.instanceMethod ({ cls := "CoinNode", name := "layOnTape", desc := "(I)V" } : Jvm.MethodName)) ∈ jws := jws_3 (List.mem_of_getElem? (i := 153) rfl) rfl
theorem jw_634 : (Jvm.Cond.code ({ cls := "CoinNode", name := "layOnTape", desc := "(I)V" } : Jvm.MethodName) prog_1_method_11_code (3 : Nat) (Option.none : Option Jvm.ClassFile.FieldType)) ∈ jws := jws_3 (List.mem_of_getElem? (i := 154) rfl) rfl
theorem jw_635 : (Jvm.Cond.methodLink "CoinNodeLaw" (135 : Nat) ({ cls := "CoinNodeLaw", name := "lay", desc := "(LCoinNode;[I[JI)Z" } : Jvm.MethodName)) ∈ jws := jws_3 (List.mem_of_getElem? (i := 155) rfl) rfl
theorem jw_636 : (Jvm.Cond.static ({ cls := "CoinNodeLaw", name := "lay", desc := "(LCoinNode;[I[JI)Z" } : Jvm.MethodName)) ∈ jws := jws_3 (List.mem_of_getElem? (i := 156) rfl) rfl
theorem jw_637 : (Jvm.Cond.code ({ cls := "CoinNodeLaw", name := "lay", desc := "(LCoinNode;[I[JI)Z" } : Jvm.MethodName) method_13_code (6 : Nat) (Option.some Jvm.ClassFile.FieldType.boolean)) ∈ jws := jws_3 (List.mem_of_getElem? (i := 157) rfl) rfl
theorem jw_638 : (Jvm.Cond.methodLink "CoinNodeLaw" (146 : Nat) ({ cls := "CoinNodeLaw", name := "name", desc := "([I[JI)V" } : Jvm.MethodName)) ∈ jws := jws_3 (List.mem_of_getElem? (i := 158) rfl) rfl
theorem jw_639 : (Jvm.Cond.static ({ cls := "CoinNodeLaw", name := "name", desc := "([I[JI)V" } : Jvm.MethodName)) ∈ jws := jws_3 (List.mem_of_getElem? (i := 159) rfl) rfl
theorem jw_640 : (Jvm.Cond.code ({ cls := "CoinNodeLaw", name := "name", desc := "([I[JI)V" } : Jvm.MethodName) method_9_code (4 : Nat) (Option.none : Option Jvm.ClassFile.FieldType)) ∈ jws := jws_3 (List.mem_of_getElem? (i := 160) rfl) rfl
theorem jw_641 : (Jvm.Cond.methodLink "CoinNodeLaw" (99 : Nat) ({ cls := "CoinNodeLaw", name := "end", desc := "([I[J)V" } : Jvm.MethodName)) ∈ jws := jws_3 (List.mem_of_getElem? (i := 161) rfl) rfl
theorem jw_642 : (Jvm.Cond.static ({ cls := "CoinNodeLaw", name := "end", desc := "([I[J)V" } : Jvm.MethodName)) ∈ jws := jws_3 (List.mem_of_getElem? (i := 162) rfl) rfl
theorem jw_643 : (Jvm.Cond.code ({ cls := "CoinNodeLaw", name := "end", desc := "([I[J)V" } : Jvm.MethodName) method_7_code (4 : Nat) (Option.none : Option Jvm.ClassFile.FieldType)) ∈ jws := jws_3 (List.mem_of_getElem? (i := 163) rfl) rfl
theorem jw_644 : (Jvm.Cond.methodLink "CoinNodeLaw" (102 : Nat) ({ cls := "CoinNodeLaw", name := "keep", desc := "([I[JI)V" } : Jvm.MethodName)) ∈ jws := jws_3 (List.mem_of_getElem? (i := 164) rfl) rfl
theorem jw_645 : (Jvm.Cond.static ({ cls := "CoinNodeLaw", name := "keep", desc := "([I[JI)V" } : Jvm.MethodName)) ∈ jws := jws_3 (List.mem_of_getElem? (i := 165) rfl) rfl
theorem jw_646 : (Jvm.Cond.code ({ cls := "CoinNodeLaw", name := "keep", desc := "([I[JI)V" } : Jvm.MethodName) method_8_code (4 : Nat) (Option.none : Option Jvm.ClassFile.FieldType)) ∈ jws := jws_3 (List.mem_of_getElem? (i := 166) rfl) rfl
theorem jw_647 : (Jvm.Cond.methodLink "CoinNodeLaw" (149 : Nat) ({ cls := "CoinNodeLaw", name := "note", desc := "([I[JI)V" } : Jvm.MethodName)) ∈ jws := jws_3 (List.mem_of_getElem? (i := 167) rfl) rfl
theorem jw_648 : (Jvm.Cond.static ({ cls := "CoinNodeLaw", name := "note", desc := "([I[JI)V" } : Jvm.MethodName)) ∈ jws := jws_3 (List.mem_of_getElem? (i := 168) rfl) rfl
theorem jw_649 : (Jvm.Cond.code ({ cls := "CoinNodeLaw", name := "note", desc := "([I[JI)V" } : Jvm.MethodName) method_22_code (4 : Nat) (Option.none : Option Jvm.ClassFile.FieldType)) ∈ jws := jws_3 (List.mem_of_getElem? (i := 169) rfl) rfl
theorem jw_650 : (Jvm.Cond.methodLink "CoinNodeLaw" (154 : Nat) ({ cls := "CoinNodeLaw", name := "isNoted", desc := "([I[JI)Z" } : Jvm.MethodName)) ∈ jws := jws_3 (List.mem_of_getElem? (i := 170) rfl) rfl
theorem jw_651 : (Jvm.Cond.static ({ cls := "CoinNodeLaw", name := "isNoted", desc := "([I[JI)Z" } : Jvm.MethodName)) ∈ jws := jws_3 (List.mem_of_getElem? (i := 171) rfl) rfl
theorem jw_652 : (Jvm.Cond.code ({ cls := "CoinNodeLaw", name := "isNoted", desc := "([I[JI)Z" } : Jvm.MethodName) method_21_code (5 : Nat) (Option.some Jvm.ClassFile.FieldType.boolean)) ∈ jws := jws_3 (List.mem_of_getElem? (i := 172) rfl) rfl
theorem jw_653 : (Jvm.Cond.constantLong "CoinNodeLaw" (152 : Nat) (2097151 : Int64)) ∈ jws := jws_3 (List.mem_of_getElem? (i := 173) rfl) rfl
theorem jw_654 : (Jvm.Cond.constantLong "CoinNodeLaw" (138 : Nat) (-1 : Int64)) ∈ jws := jws_3 (List.mem_of_getElem? (i := 174) rfl) rfl
theorem jw_655 : (Jvm.Cond.constantLong "CoinNodeLaw" (216 : Nat) (5000000000 : Int64)) ∈ jws := jws_3 (List.mem_of_getElem? (i := 175) rfl) rfl
theorem jw_656 : (Jvm.Cond.methodLink "CoinNodeLaw" (218 : Nat) ({ cls := "CoinNodeLaw", name := "block", desc := "(LCoinNode;[I[JIIIIIJ)Z" } : Jvm.MethodName)) ∈ jws := jws_3 (List.mem_of_getElem? (i := 176) rfl) rfl
theorem jw_657 : (Jvm.Cond.static ({ cls := "CoinNodeLaw", name := "block", desc := "(LCoinNode;[I[JIIIIIJ)Z" } : Jvm.MethodName)) ∈ jws := jws_3 (List.mem_of_getElem? (i := 177) rfl) rfl
theorem jw_658 : (Jvm.Cond.code ({ cls := "CoinNodeLaw", name := "block", desc := "(LCoinNode;[I[JIIIIIJ)Z" } : Jvm.MethodName) method_29_code (12 : Nat) (Option.some Jvm.ClassFile.FieldType.boolean)) ∈ jws := jws_3 (List.mem_of_getElem? (i := 178) rfl) rfl
theorem jw_659 : (Jvm.Cond.methodLink "CoinNodeLaw" (181 : Nat) ({ cls := "CoinNodeLaw", name := "tx", desc := "(LCoinNode;[I[JIIIJJ)Z" } : Jvm.MethodName)) ∈ jws := jws_3 (List.mem_of_getElem? (i := 179) rfl) rfl
theorem jw_660 : (Jvm.Cond.static ({ cls := "CoinNodeLaw", name := "tx", desc := "(LCoinNode;[I[JIIIJJ)Z" } : Jvm.MethodName)) ∈ jws := jws_3 (List.mem_of_getElem? (i := 180) rfl) rfl
theorem jw_661 : (Jvm.Cond.code ({ cls := "CoinNodeLaw", name := "tx", desc := "(LCoinNode;[I[JIIIJJ)Z" } : Jvm.MethodName) method_18_code (11 : Nat) (Option.some Jvm.ClassFile.FieldType.boolean)) ∈ jws := jws_3 (List.mem_of_getElem? (i := 181) rfl) rfl
theorem jw_662 : (Jvm.Cond.methodLink "CoinNodeLaw" (185 : Nat) ({ cls := "CoinNodeLaw", name := "mine", desc := "(LCoinNode;[I[JIIIIIZ)I" } : Jvm.MethodName)) ∈ jws := jws_3 (List.mem_of_getElem? (i := 182) rfl) rfl
theorem jw_663 : (Jvm.Cond.static ({ cls := "CoinNodeLaw", name := "mine", desc := "(LCoinNode;[I[JIIIIIZ)I" } : Jvm.MethodName)) ∈ jws := jws_3 (List.mem_of_getElem? (i := 183) rfl) rfl
theorem jw_664 : (Jvm.Cond.code ({ cls := "CoinNodeLaw", name := "mine", desc := "(LCoinNode;[I[JIIIIIZ)I" } : Jvm.MethodName) method_24_code (13 : Nat) (Option.some Jvm.ClassFile.FieldType.int)) ∈ jws := jws_3 (List.mem_of_getElem? (i := 184) rfl) rfl
theorem jw_665 : (Jvm.Cond.methodLink "CoinNodeLaw" (158 : Nat) ({ cls := "CoinNodeLaw", name := "byteAt", desc := "([II)I" } : Jvm.MethodName)) ∈ jws := jws_3 (List.mem_of_getElem? (i := 185) rfl) rfl
theorem jw_666 : (Jvm.Cond.static ({ cls := "CoinNodeLaw", name := "byteAt", desc := "([II)I" } : Jvm.MethodName)) ∈ jws := jws_3 (List.mem_of_getElem? (i := 186) rfl) rfl
theorem jw_667 : (Jvm.Cond.code ({ cls := "CoinNodeLaw", name := "byteAt", desc := "([II)I" } : Jvm.MethodName) method_23_code (2 : Nat) (Option.some Jvm.ClassFile.FieldType.int)) ∈ jws := jws_3 (List.mem_of_getElem? (i := 187) rfl) rfl
theorem jw_668 : (Jvm.Cond.constant "CoinNodeLaw" (162 : Nat) (8388607 : Int32)) ∈ jws := jws_3 (List.mem_of_getElem? (i := 188) rfl) rfl
theorem jw_669 : (Jvm.Cond.methodLink "CoinNodeLaw" (189 : Nat) ({ cls := "CoinNodeLaw", name := "open", desc := "(LCoinNode;[I[JI)Z" } : Jvm.MethodName)) ∈ jws := jws_3 (List.mem_of_getElem? (i := 189) rfl) rfl
theorem jw_670 : (Jvm.Cond.static ({ cls := "CoinNodeLaw", name := "open", desc := "(LCoinNode;[I[JI)Z" } : Jvm.MethodName)) ∈ jws := jws_3 (List.mem_of_getElem? (i := 190) rfl) rfl
theorem jw_671 : (Jvm.Cond.code ({ cls := "CoinNodeLaw", name := "open", desc := "(LCoinNode;[I[JI)Z" } : Jvm.MethodName) method_14_code (5 : Nat) (Option.some Jvm.ClassFile.FieldType.boolean)) ∈ jws := jws_3 (List.mem_of_getElem? (i := 191) rfl) rfl
theorem jw_672 : (Jvm.Cond.methodLink "CoinNodeLaw" (192 : Nat) ({ cls := "CoinNodeLaw", name := "send", desc := "(LCoinNode;[II)Z" } : Jvm.MethodName)) ∈ jws := jws_3 (List.mem_of_getElem? (i := 192) rfl) rfl
theorem jw_673 : (Jvm.Cond.static ({ cls := "CoinNodeLaw", name := "send", desc := "(LCoinNode;[II)Z" } : Jvm.MethodName)) ∈ jws := jws_3 (List.mem_of_getElem? (i := 193) rfl) rfl
theorem jw_674 : (Jvm.Cond.code ({ cls := "CoinNodeLaw", name := "send", desc := "(LCoinNode;[II)Z" } : Jvm.MethodName) method_15_code (4 : Nat) (Option.some Jvm.ClassFile.FieldType.boolean)) ∈ jws := jws_3 (List.mem_of_getElem? (i := 194) rfl) rfl
theorem jw_675 : (Jvm.Cond.methodLink "CoinNodeLaw" (127 : Nat) ({ cls := "CoinNode", name := "send", desc := "(II)Z" } : Jvm.MethodName)) ∈ jws := jws_3 (List.mem_of_getElem? (i := 195) rfl) rfl
theorem jw_676 : (Jvm.Cond.instanceMethod ({ cls := "CoinNode", name := "send", desc := "(II)Z" } : Jvm.MethodName)) ∈ jws := jws_3 (List.mem_of_getElem? (i := 196) rfl) rfl
theorem jw_677 : (Jvm.Cond.selects "CoinNode" ({ cls := "CoinNode", name := "send", desc := "(II)Z" } : Jvm.MethodName) ({ cls := "CoinNode", name := "send", desc := "(II)Z" } : Jvm.MethodName)) ∈ jws := jws_3 (List.mem_of_getElem? (i := 197) rfl) rfl
theorem jw_678 : (Jvm.Cond.code ({ cls := "CoinNode", name := "send", desc := "(II)Z" } : Jvm.MethodName) prog_1_method_3_code (7 : Nat) (Option.some Jvm.ClassFile.FieldType.boolean)) ∈ jws := jws_3 (List.mem_of_getElem? (i := 198) rfl) rfl
theorem jw_679 : (Jvm.Cond.methodLink "CoinNode" (80 : Nat) ({ cls := "java/util/Arrays", name := "copyOf", desc := "([BI)[B" } : Jvm.MethodName)) ∈ jws := jws_3 (List.mem_of_getElem? (i := 199) rfl) rfl
theorem jw_680 : (Jvm.Cond.static ({ cls := "java/util/Arrays", name := "copyOf", desc := "([BI)[B" } : Jvm.MethodName)) ∈ jws := jws_3 (List.mem_of_getElem? (i := 200) rfl) rfl
theorem jw_681 : (Jvm.Cond.code ({ cls := "java/util/Arrays", name := "copyOf", desc := "([BI)[B" } : Jvm.MethodName) prog_25_method_121_code (3 : Nat) (Option.some (Jvm.ClassFile.FieldType.array Jvm.ClassFile.FieldType.byte))) ∈ jws := jws_3 (List.mem_of_getElem? (i := 201) rfl) rfl
theorem jw_682 : (Jvm.Cond.methodLink "java/util/Arrays" (310 : Nat) ({ cls := "[B", name := "clone", desc := "()Ljava/lang/Object;" } : Jvm.MethodName)) ∈ jws := jws_3 (List.mem_of_getElem? (i := 202) rfl) rfl
theorem jw_683 : (Jvm.Cond.sameMethod "[B" "java/lang/Object" "clone" "()Ljava/lang/Object;") ∈ jws := jws_3 (List.mem_of_getElem? (i := 203) rfl) rfl
theorem jw_684 : (Jvm.Cond.native ({ cls := "java/lang/Object", name := "clone", desc := "()Ljava/lang/Object;" } : Jvm.MethodName)) ∈ jws := jws_3 (List.mem_of_getElem? (i := 204) rfl) rfl
theorem jw_685 : (Jvm.Cond.instanceMethod ({ cls := "java/lang/Object", name := "clone", desc := "()Ljava/lang/Object;" } : Jvm.MethodName)) ∈ jws := jws_3 (List.mem_of_getElem? (i := 205) rfl) rfl
theorem jw_686 : (Jvm.Cond.selects "[B" ({ cls := "[B", name := "clone", desc := "()Ljava/lang/Object;" } : Jvm.MethodName) ({ cls := "java/lang/Object", name := "clone", desc := "()Ljava/lang/Object;" } : Jvm.MethodName)) ∈ jws := jws_3 (List.mem_of_getElem? (i := 206) rfl) rfl
theorem jw_688 : (Jvm.Cond.classLink "java/util/Arrays" (311 : Nat) "[B") ∈ jws := jws_3 (List.mem_of_getElem? (i := 208) rfl) rfl
theorem jw_689 : (Jvm.Cond.methodLink "java/util/Arrays" (304 : Nat) ({ cls := "java/lang/Math", name := "min", desc := "(II)I" } : Jvm.MethodName)) ∈ jws := jws_3 (List.mem_of_getElem? (i := 209) rfl) rfl
theorem jw_690 : (Jvm.Cond.static ({ cls := "java/lang/Math", name := "min", desc := "(II)I" } : Jvm.MethodName)) ∈ jws := jws_3 (List.mem_of_getElem? (i := 210) rfl) rfl
theorem jw_691 : (Jvm.Cond.code ({ cls := "java/lang/Math", name := "min", desc := "(II)I" } : Jvm.MethodName) prog_23_method_69_code (2 : Nat) (Option.some Jvm.ClassFile.FieldType.int)) ∈ jws := jws_3 (List.mem_of_getElem? (i := 211) rfl) rfl
theorem jw_692 : (Jvm.Cond.methodLink "java/util/Arrays" (150 : Nat) ({ cls := "java/lang/System", name := "arraycopy", desc := "(Ljava/lang/Object;ILjava/lang/Object;II)V" } : Jvm.MethodName)) ∈ jws := jws_3 (List.mem_of_getElem? (i := 212) rfl) rfl
theorem jw_693 : (Jvm.Cond.methodLink "CoinNode" (86 : Nat) ({ cls := "CoinNode", name := "takeTransaction", desc := "(I[B)V" } : Jvm.MethodName)) ∈ jws := jws_3 (List.mem_of_getElem? (i := 213) rfl) rfl
theorem jw_695 : (Jvm.Cond.instanceMethod ({ cls := "CoinNode", name := "takeTransaction", desc := "(I[B)V" } : Jvm.MethodName)) ∈ jws := jws_3 (List.mem_of_getElem? (i := 215) rfl) rfl
theorem jw_696 : (Jvm.Cond.code ({ cls := "CoinNode", name := "takeTransaction", desc := "(I[B)V" } : Jvm.MethodName) prog_1_method_12_code (5 : Nat) (Option.none : Option Jvm.ClassFile.FieldType)) ∈ jws := jws_3 (List.mem_of_getElem? (i := 216) rfl) rfl
theorem jw_697 : (Jvm.Cond.methodLink "CoinNode" (180 : Nat) ({ cls := "CoinNode$Tx", name := "read", desc := "([BI)LCoinNode$Tx;" } : Jvm.MethodName)) ∈ jws := jws_3 (List.mem_of_getElem? (i := 217) rfl) rfl
theorem jw_698 : (Jvm.Cond.static ({ cls := "CoinNode$Tx", name := "read", desc := "([BI)LCoinNode$Tx;" } : Jvm.MethodName)) ∈ jws := jws_3 (List.mem_of_getElem? (i := 218) rfl) rfl
theorem jw_699 : (Jvm.Cond.code ({ cls := "CoinNode$Tx", name := "read", desc := "([BI)LCoinNode$Tx;" } : Jvm.MethodName) prog_12_method_2_code (4 : Nat) (Option.some (Jvm.ClassFile.FieldType.object "CoinNode$Tx"))) ∈ jws := jws_3 (List.mem_of_getElem? (i := 219) rfl) rfl
theorem jw_700 : (Jvm.Cond.classLink "CoinNode$Tx" (10 : Nat) "CoinNode$Tx") ∈ jws := jws_3 (List.mem_of_getElem? (i := 220) rfl) rfl
theorem jw_701 : (Jvm.Cond.instantiable "CoinNode$Tx" (8 : Nat)) ∈ jws := jws_3 (List.mem_of_getElem? (i := 221) rfl) rfl
theorem jw_702 : (Jvm.Cond.methodLink "CoinNode$Tx" (29 : Nat) ({ cls := "CoinNode$Tx", name := "<init>", desc := "([BI)V" } : Jvm.MethodName)) ∈ jws := jws_3 (List.mem_of_getElem? (i := 222) rfl) rfl
theorem jw_703 : (Jvm.Cond.instanceMethod ({ cls := "CoinNode$Tx", name := "<init>", desc := "([BI)V" } : Jvm.MethodName)) ∈ jws := jws_3 (List.mem_of_getElem? (i := 223) rfl) rfl
theorem jw_704 : (Jvm.Cond.code ({ cls := "CoinNode$Tx", name := "<init>", desc := "([BI)V" } : Jvm.MethodName) prog_12_method_1_code (3 : Nat) (Option.none : Option Jvm.ClassFile.FieldType)) ∈ jws := jws_3 (List.mem_of_getElem? (i := 224) rfl) rfl
theorem jw_705 : (Jvm.Cond.methodLink "CoinNode$Tx" (3 : Nat) ({ cls := "java/lang/Object", name := "<init>", desc := "()V" } : Jvm.MethodName)) ∈ jws := jws_3 (List.mem_of_getElem? (i := 225) rfl) rfl
theorem jw_706 : (Jvm.Cond.fieldLink "CoinNode$Tx" (22 : Nat) "CoinNode$Tx" "row" "[B") ∈ jws := jws_3 (List.mem_of_getElem? (i := 226) rfl) rfl
theorem jw_707 : (Jvm.Cond.fieldLink "CoinNode$Scripts" (58 : Nat) "CoinNode$Tx" "row" "[B") ∈ jws := jws_3 (List.mem_of_getElem? (i := 227) rfl) rfl
theorem jw_708 : (Jvm.Cond.fieldLink "CoinNode$Pool" (122 : Nat) "CoinNode$Tx" "row" "[B") ∈ jws := jws_3 (List.mem_of_getElem? (i := 228) rfl) rfl
theorem jw_709 : (Jvm.Cond.fieldLink "CoinNode$Coins" (95 : Nat) "CoinNode$Tx" "row" "[B") ∈ jws := jws_3 (List.mem_of_getElem? (i := 229) rfl) rfl
theorem jw_710 : (Jvm.Cond.fieldLink "CoinNode" (229 : Nat) "CoinNode$Tx" "row" "[B") ∈ jws := jws_3 (List.mem_of_getElem? (i := 230) rfl) rfl
theorem jw_711 : (Jvm.Cond.fieldLink "CoinNode$Tx" (25 : Nat) "CoinNode$Tx" "from" "I") ∈ jws := jws_3 (List.mem_of_getElem? (i := 231) rfl) rfl
theorem jw_712 : (Jvm.Cond.fieldLink "CoinNode$Scripts" (137 : Nat) "CoinNode$Tx" "from" "I") ∈ jws := jws_3 (List.mem_of_getElem? (i := 232) rfl) rfl
theorem jw_713 : (Jvm.Cond.fieldLink "CoinNode" (230 : Nat) "CoinNode$Tx" "from" "I") ∈ jws := jws_3 (List.mem_of_getElem? (i := 233) rfl) rfl
theorem jw_714 : (Jvm.Cond.fieldLink "CoinNode$Tx" (39 : Nat) "CoinNode$Tx" "size" "I") ∈ jws := jws_3 (List.mem_of_getElem? (i := 234) rfl) rfl
theorem jw_715 : (Jvm.Cond.fieldLink "CoinNode$Block" (53 : Nat) "CoinNode$Tx" "size" "I") ∈ jws := jws_3 (List.mem_of_getElem? (i := 235) rfl) rfl
theorem jw_716 : (Jvm.Cond.fieldLink "CoinNode$Scripts" (147 : Nat) "CoinNode$Tx" "size" "I") ∈ jws := jws_3 (List.mem_of_getElem? (i := 236) rfl) rfl
theorem jw_717 : (Jvm.Cond.fieldLink "CoinNode$Pool" (155 : Nat) "CoinNode$Tx" "size" "I") ∈ jws := jws_3 (List.mem_of_getElem? (i := 237) rfl) rfl
theorem jw_718 : (Jvm.Cond.fieldLink "CoinNode" (185 : Nat) "CoinNode$Tx" "size" "I") ∈ jws := jws_3 (List.mem_of_getElem? (i := 238) rfl) rfl
theorem jw_719 : (Jvm.Cond.fieldLink "CoinNode$Tx" (9 : Nat) "CoinNode$Tx" "name" "[B") ∈ jws := jws_3 (List.mem_of_getElem? (i := 239) rfl) rfl
theorem jw_720 : (Jvm.Cond.fieldLink "CoinNode$Block" (56 : Nat) "CoinNode$Tx" "name" "[B") ∈ jws := jws_4 (List.mem_of_getElem? (i := 0) rfl) rfl
theorem jw_721 : (Jvm.Cond.fieldLink "CoinNode$Pool" (45 : Nat) "CoinNode$Tx" "name" "[B") ∈ jws := jws_4 (List.mem_of_getElem? (i := 1) rfl) rfl
theorem jw_722 : (Jvm.Cond.fieldLink "CoinNode$Coins" (39 : Nat) "CoinNode$Tx" "name" "[B") ∈ jws := jws_4 (List.mem_of_getElem? (i := 2) rfl) rfl
theorem jw_723 : (Jvm.Cond.fieldLink "CoinNode" (188 : Nat) "CoinNode$Tx" "name" "[B") ∈ jws := jws_4 (List.mem_of_getElem? (i := 3) rfl) rfl
theorem jw_724 : (Jvm.Cond.fieldLink "CoinNode$Tx" (15 : Nat) "CoinNode$Tx" "inputs" "[I") ∈ jws := jws_4 (List.mem_of_getElem? (i := 4) rfl) rfl
theorem jw_725 : (Jvm.Cond.fieldLink "CoinNode$Scripts" (45 : Nat) "CoinNode$Tx" "inputs" "[I") ∈ jws := jws_4 (List.mem_of_getElem? (i := 5) rfl) rfl
theorem jw_726 : (Jvm.Cond.fieldLink "CoinNode$Block" (62 : Nat) "CoinNode$Tx" "inputs" "[I") ∈ jws := jws_4 (List.mem_of_getElem? (i := 6) rfl) rfl
theorem jw_727 : (Jvm.Cond.fieldLink "CoinNode$Pool" (115 : Nat) "CoinNode$Tx" "inputs" "[I") ∈ jws := jws_4 (List.mem_of_getElem? (i := 7) rfl) rfl
theorem jw_728 : (Jvm.Cond.fieldLink "CoinNode$Coins" (79 : Nat) "CoinNode$Tx" "inputs" "[I") ∈ jws := jws_4 (List.mem_of_getElem? (i := 8) rfl) rfl
theorem jw_729 : (Jvm.Cond.fieldLink "CoinNode$Tx" (19 : Nat) "CoinNode$Tx" "outputs" "[I") ∈ jws := jws_4 (List.mem_of_getElem? (i := 9) rfl) rfl
theorem jw_730 : (Jvm.Cond.fieldLink "CoinNode$Scripts" (134 : Nat) "CoinNode$Tx" "outputs" "[I") ∈ jws := jws_4 (List.mem_of_getElem? (i := 10) rfl) rfl
theorem jw_731 : (Jvm.Cond.fieldLink "CoinNode$Block" (92 : Nat) "CoinNode$Tx" "outputs" "[I") ∈ jws := jws_4 (List.mem_of_getElem? (i := 11) rfl) rfl
theorem jw_732 : (Jvm.Cond.fieldLink "CoinNode$Pool" (134 : Nat) "CoinNode$Tx" "outputs" "[I") ∈ jws := jws_4 (List.mem_of_getElem? (i := 12) rfl) rfl
theorem jw_733 : (Jvm.Cond.fieldLink "CoinNode$Coins" (111 : Nat) "CoinNode$Tx" "outputs" "[I") ∈ jws := jws_4 (List.mem_of_getElem? (i := 13) rfl) rfl
theorem jw_734 : (Jvm.Cond.fieldLink "CoinNode$Tx" (54 : Nat) "CoinNode$Tx" "sum" "J") ∈ jws := jws_4 (List.mem_of_getElem? (i := 14) rfl) rfl
theorem jw_735 : (Jvm.Cond.fieldLink "CoinNode$Pool" (88 : Nat) "CoinNode$Tx" "sum" "J") ∈ jws := jws_4 (List.mem_of_getElem? (i := 15) rfl) rfl
theorem jw_736 : (Jvm.Cond.fieldLink "CoinNode$Coins" (88 : Nat) "CoinNode$Tx" "sum" "J") ∈ jws := jws_4 (List.mem_of_getElem? (i := 16) rfl) rfl
theorem jw_737 : (Jvm.Cond.fieldLink "CoinNode$Block" (65 : Nat) "CoinNode$Tx" "hasRootInput" "Z") ∈ jws := jws_4 (List.mem_of_getElem? (i := 17) rfl) rfl
theorem jw_738 : (Jvm.Cond.fieldLink "CoinNode$Tx" (46 : Nat) "CoinNode$Tx" "hasRootInput" "Z") ∈ jws := jws_4 (List.mem_of_getElem? (i := 18) rfl) rfl
theorem jw_739 : (Jvm.Cond.fieldLink "CoinNode$Pool" (59 : Nat) "CoinNode$Tx" "hasRootInput" "Z") ∈ jws := jws_4 (List.mem_of_getElem? (i := 19) rfl) rfl
theorem jw_740 : (Jvm.Cond.fieldLink "CoinNode$Coins" (53 : Nat) "CoinNode$Tx" "hasRootInput" "Z") ∈ jws := jws_4 (List.mem_of_getElem? (i := 20) rfl) rfl
theorem jw_741 : (Jvm.Cond.laysFinal "CoinNode$Tx" "CoinNode$Tx" "row" "[B") ∈ jws := jws_4 (List.mem_of_getElem? (i := 21) rfl) rfl
theorem jw_743 : (Jvm.Cond.laysFinal "CoinNode$Tx" "CoinNode$Tx" "from" "I") ∈ jws := jws_4 (List.mem_of_getElem? (i := 23) rfl) rfl
theorem jw_745 : (Jvm.Cond.lays "CoinNode$Tx" "CoinNode$Tx" "size" "I") ∈ jws := jws_4 (List.mem_of_getElem? (i := 25) rfl) rfl
theorem jw_747 : (Jvm.Cond.laysFinal "CoinNode$Tx" "CoinNode$Tx" "name" "[B") ∈ jws := jws_4 (List.mem_of_getElem? (i := 27) rfl) rfl
theorem jw_749 : (Jvm.Cond.lays "CoinNode$Tx" "CoinNode$Tx" "inputs" "[I") ∈ jws := jws_4 (List.mem_of_getElem? (i := 29) rfl) rfl
theorem jw_751 : (Jvm.Cond.lays "CoinNode$Tx" "CoinNode$Tx" "outputs" "[I") ∈ jws := jws_4 (List.mem_of_getElem? (i := 31) rfl) rfl
theorem jw_753 : (Jvm.Cond.lays "CoinNode$Tx" "CoinNode$Tx" "sum" "J") ∈ jws := jws_4 (List.mem_of_getElem? (i := 33) rfl) rfl
theorem jw_755 : (Jvm.Cond.lays "CoinNode$Tx" "CoinNode$Tx" "hasRootInput" "Z") ∈ jws := jws_4 (List.mem_of_getElem? (i := 35) rfl) rfl
theorem jw_758 : (Jvm.Cond.methodLink "CoinNode$Tx" (32 : Nat) ({ cls := "CoinNode$Tx", name := "readInputs", desc := "(I)I" } : Jvm.MethodName)) ∈ jws := jws_4 (List.mem_of_getElem? (i := 38) rfl) rfl
theorem jw_760 : (Jvm.Cond.instanceMethod ({ cls := "CoinNode$Tx", name := "readInputs", desc := "(I)I" } : Jvm.MethodName)) ∈ jws := jws_4 (List.mem_of_getElem? (i := 40) rfl) rfl
theorem jw_761 : (Jvm.Cond.code ({ cls := "CoinNode$Tx", name := "readInputs", desc := "(I)I" } : Jvm.MethodName) prog_12_method_3_code (6 : Nat) (Option.some Jvm.ClassFile.FieldType.int)) ∈ jws := jws_4 (List.mem_of_getElem? (i := 41) rfl) rfl
theorem jw_762 : (Jvm.Cond.methodLink "CoinNode$Tx" (42 : Nat) ({ cls := "CoinNode$Tx", name := "sizeAt", desc := "([BII)I" } : Jvm.MethodName)) ∈ jws := jws_4 (List.mem_of_getElem? (i := 42) rfl) rfl
theorem jw_763 : (Jvm.Cond.static ({ cls := "CoinNode$Tx", name := "sizeAt", desc := "([BII)I" } : Jvm.MethodName)) ∈ jws := jws_4 (List.mem_of_getElem? (i := 43) rfl) rfl
theorem jw_764 : (Jvm.Cond.code ({ cls := "CoinNode$Tx", name := "sizeAt", desc := "([BII)I" } : Jvm.MethodName) prog_12_method_5_code (4 : Nat) (Option.some Jvm.ClassFile.FieldType.int)) ∈ jws := jws_4 (List.mem_of_getElem? (i := 44) rfl) rfl
theorem jw_765 : (Jvm.Cond.methodLink "CoinNode$Tx" (50 : Nat) ({ cls := "CoinNode$Tx", name := "isRootInput", desc := "(I)Z" } : Jvm.MethodName)) ∈ jws := jws_4 (List.mem_of_getElem? (i := 45) rfl) rfl
theorem jw_767 : (Jvm.Cond.instanceMethod ({ cls := "CoinNode$Tx", name := "isRootInput", desc := "(I)Z" } : Jvm.MethodName)) ∈ jws := jws_4 (List.mem_of_getElem? (i := 47) rfl) rfl
theorem jw_768 : (Jvm.Cond.code ({ cls := "CoinNode$Tx", name := "isRootInput", desc := "(I)Z" } : Jvm.MethodName) prog_12_method_12_code (4 : Nat) (Option.some Jvm.ClassFile.FieldType.boolean)) ∈ jws := jws_4 (List.mem_of_getElem? (i := 48) rfl) rfl
theorem jw_769 : (Jvm.Cond.methodLink "CoinNode$Tx" (36 : Nat) ({ cls := "CoinNode$Tx", name := "readOutputs", desc := "(I)I" } : Jvm.MethodName)) ∈ jws := jws_4 (List.mem_of_getElem? (i := 49) rfl) rfl
theorem jw_771 : (Jvm.Cond.instanceMethod ({ cls := "CoinNode$Tx", name := "readOutputs", desc := "(I)I" } : Jvm.MethodName)) ∈ jws := jws_4 (List.mem_of_getElem? (i := 51) rfl) rfl
theorem jw_772 : (Jvm.Cond.code ({ cls := "CoinNode$Tx", name := "readOutputs", desc := "(I)I" } : Jvm.MethodName) prog_12_method_4_code (6 : Nat) (Option.some Jvm.ClassFile.FieldType.int)) ∈ jws := jws_4 (List.mem_of_getElem? (i := 52) rfl) rfl
theorem jw_773 : (Jvm.Cond.methodLink "CoinNode$Tx" (58 : Nat) ({ cls := "CoinNode$Tx", name := "worth", desc := "(I)J" } : Jvm.MethodName)) ∈ jws := jws_4 (List.mem_of_getElem? (i := 53) rfl) rfl
theorem jw_774 : (Jvm.Cond.instanceMethod ({ cls := "CoinNode$Tx", name := "worth", desc := "(I)J" } : Jvm.MethodName)) ∈ jws := jws_4 (List.mem_of_getElem? (i := 54) rfl) rfl
theorem jw_775 : (Jvm.Cond.selects "CoinNode$Tx" ({ cls := "CoinNode$Tx", name := "worth", desc := "(I)J" } : Jvm.MethodName) ({ cls := "CoinNode$Tx", name := "worth", desc := "(I)J" } : Jvm.MethodName)) ∈ jws := jws_4 (List.mem_of_getElem? (i := 55) rfl) rfl
theorem jw_776 : (Jvm.Cond.code ({ cls := "CoinNode$Tx", name := "worth", desc := "(I)J" } : Jvm.MethodName) prog_12_method_8_code (3 : Nat) (Option.some Jvm.ClassFile.FieldType.long)) ∈ jws := jws_4 (List.mem_of_getElem? (i := 56) rfl) rfl
theorem jw_777 : (Jvm.Cond.methodLink "CoinNode$Tx" (62 : Nat) ({ cls := "CoinNode$Tx", name := "low", desc := "([BI)I" } : Jvm.MethodName)) ∈ jws := jws_4 (List.mem_of_getElem? (i := 57) rfl) rfl
theorem jw_778 : (Jvm.Cond.constantLong "CoinNode$Tx" (66 : Nat) (4294967295 : Int64)) ∈ jws := jws_4 (List.mem_of_getElem? (i := 58) rfl) rfl
theorem jw_779 : (Jvm.Cond.methodLink "CoinNode" (134 : Nat) ({ cls := "CoinNode", name := "answerVerdict", desc := "(II[B)V" } : Jvm.MethodName)) ∈ jws := jws_4 (List.mem_of_getElem? (i := 59) rfl) rfl
theorem jw_781 : (Jvm.Cond.instanceMethod ({ cls := "CoinNode", name := "answerVerdict", desc := "(II[B)V" } : Jvm.MethodName)) ∈ jws := jws_4 (List.mem_of_getElem? (i := 61) rfl) rfl
theorem jw_782 : (Jvm.Cond.code ({ cls := "CoinNode", name := "answerVerdict", desc := "(II[B)V" } : Jvm.MethodName) prog_1_method_14_code (5 : Nat) (Option.none : Option Jvm.ClassFile.FieldType)) ∈ jws := jws_4 (List.mem_of_getElem? (i := 62) rfl) rfl
theorem jw_783 : (Jvm.Cond.methodLink "CoinNode" (202 : Nat) ({ cls := "CoinNode", name := "begin", desc := "(I)V" } : Jvm.MethodName)) ∈ jws := jws_4 (List.mem_of_getElem? (i := 63) rfl) rfl
theorem jw_785 : (Jvm.Cond.instanceMethod ({ cls := "CoinNode", name := "begin", desc := "(I)V" } : Jvm.MethodName)) ∈ jws := jws_4 (List.mem_of_getElem? (i := 65) rfl) rfl
theorem jw_786 : (Jvm.Cond.code ({ cls := "CoinNode", name := "begin", desc := "(I)V" } : Jvm.MethodName) prog_1_method_21_code (2 : Nat) (Option.none : Option Jvm.ClassFile.FieldType)) ∈ jws := jws_4 (List.mem_of_getElem? (i := 66) rfl) rfl
theorem jw_787 : (Jvm.Cond.methodLink "CoinNode" (205 : Nat) ({ cls := "CoinNode", name := "put", desc := "(I)V" } : Jvm.MethodName)) ∈ jws := jws_4 (List.mem_of_getElem? (i := 67) rfl) rfl
theorem jw_789 : (Jvm.Cond.instanceMethod ({ cls := "CoinNode", name := "put", desc := "(I)V" } : Jvm.MethodName)) ∈ jws := jws_4 (List.mem_of_getElem? (i := 69) rfl) rfl
theorem jw_790 : (Jvm.Cond.code ({ cls := "CoinNode", name := "put", desc := "(I)V" } : Jvm.MethodName) prog_1_method_22_code (2 : Nat) (Option.none : Option Jvm.ClassFile.FieldType)) ∈ jws := jws_4 (List.mem_of_getElem? (i := 70) rfl) rfl
theorem jw_791 : (Jvm.Cond.methodLink "CoinNode" (208 : Nat) ({ cls := "CoinNode", name := "post", desc := "(I)V" } : Jvm.MethodName)) ∈ jws := jws_4 (List.mem_of_getElem? (i := 71) rfl) rfl
theorem jw_793 : (Jvm.Cond.instanceMethod ({ cls := "CoinNode", name := "post", desc := "(I)V" } : Jvm.MethodName)) ∈ jws := jws_4 (List.mem_of_getElem? (i := 73) rfl) rfl
theorem jw_794 : (Jvm.Cond.code ({ cls := "CoinNode", name := "post", desc := "(I)V" } : Jvm.MethodName) prog_1_method_24_code (5 : Nat) (Option.none : Option Jvm.ClassFile.FieldType)) ∈ jws := jws_4 (List.mem_of_getElem? (i := 74) rfl) rfl
theorem jw_795 : (Jvm.Cond.methodLink "CoinNode" (189 : Nat) ({ cls := "CoinNode$Hash", name := "name", desc := "([BII[B)V" } : Jvm.MethodName)) ∈ jws := jws_4 (List.mem_of_getElem? (i := 75) rfl) rfl
theorem jw_796 : (Jvm.Cond.methodLink "CoinNode" (192 : Nat) ({ cls := "CoinNode$Pool", name := "offer", desc := "(LCoinNode$Tx;IZ)I" } : Jvm.MethodName)) ∈ jws := jws_4 (List.mem_of_getElem? (i := 76) rfl) rfl
theorem jw_797 : (Jvm.Cond.instanceMethod ({ cls := "CoinNode$Pool", name := "offer", desc := "(LCoinNode$Tx;IZ)I" } : Jvm.MethodName)) ∈ jws := jws_4 (List.mem_of_getElem? (i := 77) rfl) rfl
theorem jw_798 : (Jvm.Cond.selects "CoinNode$Pool" ({ cls := "CoinNode$Pool", name := "offer", desc := "(LCoinNode$Tx;IZ)I" } : Jvm.MethodName) ({ cls := "CoinNode$Pool", name := "offer", desc := "(LCoinNode$Tx;IZ)I" } : Jvm.MethodName)) ∈ jws := jws_4 (List.mem_of_getElem? (i := 78) rfl) rfl
theorem jw_799 : (Jvm.Cond.code ({ cls := "CoinNode$Pool", name := "offer", desc := "(LCoinNode$Tx;IZ)I" } : Jvm.MethodName) prog_8_method_4_code (5 : Nat) (Option.some Jvm.ClassFile.FieldType.int)) ∈ jws := jws_4 (List.mem_of_getElem? (i := 79) rfl) rfl
theorem jw_800 : (Jvm.Cond.methodLink "CoinNode$Pool" (55 : Nat) ({ cls := "CoinNode$Tx", name := "fault", desc := "()I" } : Jvm.MethodName)) ∈ jws := jws_4 (List.mem_of_getElem? (i := 80) rfl) rfl
theorem jw_801 : (Jvm.Cond.instanceMethod ({ cls := "CoinNode$Tx", name := "fault", desc := "()I" } : Jvm.MethodName)) ∈ jws := jws_4 (List.mem_of_getElem? (i := 81) rfl) rfl
theorem jw_802 : (Jvm.Cond.selects "CoinNode$Tx" ({ cls := "CoinNode$Tx", name := "fault", desc := "()I" } : Jvm.MethodName) ({ cls := "CoinNode$Tx", name := "fault", desc := "()I" } : Jvm.MethodName)) ∈ jws := jws_4 (List.mem_of_getElem? (i := 82) rfl) rfl
theorem jw_803 : (Jvm.Cond.code ({ cls := "CoinNode$Tx", name := "fault", desc := "()I" } : Jvm.MethodName) prog_12_method_14_code (3 : Nat) (Option.some Jvm.ClassFile.FieldType.int)) ∈ jws := jws_4 (List.mem_of_getElem? (i := 83) rfl) rfl
theorem jw_804 : (Jvm.Cond.methodLink "CoinNode$Tx" (70 : Nat) ({ cls := "CoinNode$Tx", name := "isTooMuch", desc := "()Z" } : Jvm.MethodName)) ∈ jws := jws_4 (List.mem_of_getElem? (i := 84) rfl) rfl
theorem jw_805 : (Jvm.Cond.instanceMethod ({ cls := "CoinNode$Tx", name := "isTooMuch", desc := "()Z" } : Jvm.MethodName)) ∈ jws := jws_4 (List.mem_of_getElem? (i := 85) rfl) rfl
theorem jw_806 : (Jvm.Cond.selects "CoinNode$Tx" ({ cls := "CoinNode$Tx", name := "isTooMuch", desc := "()Z" } : Jvm.MethodName) ({ cls := "CoinNode$Tx", name := "isTooMuch", desc := "()Z" } : Jvm.MethodName)) ∈ jws := jws_4 (List.mem_of_getElem? (i := 86) rfl) rfl
theorem jw_807 : (Jvm.Cond.code ({ cls := "CoinNode$Tx", name := "isTooMuch", desc := "()Z" } : Jvm.MethodName) prog_12_method_13_code (6 : Nat) (Option.some Jvm.ClassFile.FieldType.boolean)) ∈ jws := jws_4 (List.mem_of_getElem? (i := 87) rfl) rfl
theorem jw_808 : (Jvm.Cond.constantLong "CoinNode$Tx" (68 : Nat) (2100000000000000 : Int64)) ∈ jws := jws_4 (List.mem_of_getElem? (i := 88) rfl) rfl
theorem jw_809 : (Jvm.Cond.methodLink "CoinNode$Tx" (74 : Nat) ({ cls := "CoinNode$Tx", name := "index", desc := "(I)I" } : Jvm.MethodName)) ∈ jws := jws_4 (List.mem_of_getElem? (i := 89) rfl) rfl
theorem jw_810 : (Jvm.Cond.instanceMethod ({ cls := "CoinNode$Tx", name := "index", desc := "(I)I" } : Jvm.MethodName)) ∈ jws := jws_4 (List.mem_of_getElem? (i := 90) rfl) rfl
theorem jw_811 : (Jvm.Cond.selects "CoinNode$Tx" ({ cls := "CoinNode$Tx", name := "index", desc := "(I)I" } : Jvm.MethodName) ({ cls := "CoinNode$Tx", name := "index", desc := "(I)I" } : Jvm.MethodName)) ∈ jws := jws_4 (List.mem_of_getElem? (i := 91) rfl) rfl
theorem jw_812 : (Jvm.Cond.code ({ cls := "CoinNode$Tx", name := "index", desc := "(I)I" } : Jvm.MethodName) prog_12_method_7_code (2 : Nat) (Option.some Jvm.ClassFile.FieldType.int)) ∈ jws := jws_4 (List.mem_of_getElem? (i := 92) rfl) rfl
theorem jw_813 : (Jvm.Cond.methodLink "CoinNode$Tx" (77 : Nat) ({ cls := "CoinNode$Hash", name := "same", desc := "([BI[BI)Z" } : Jvm.MethodName)) ∈ jws := jws_4 (List.mem_of_getElem? (i := 93) rfl) rfl
theorem jw_814 : (Jvm.Cond.static ({ cls := "CoinNode$Hash", name := "same", desc := "([BI[BI)Z" } : Jvm.MethodName)) ∈ jws := jws_4 (List.mem_of_getElem? (i := 94) rfl) rfl
theorem jw_815 : (Jvm.Cond.code ({ cls := "CoinNode$Hash", name := "same", desc := "([BI[BI)Z" } : Jvm.MethodName) prog_5_method_6_code (5 : Nat) (Option.some Jvm.ClassFile.FieldType.boolean)) ∈ jws := jws_4 (List.mem_of_getElem? (i := 95) rfl) rfl
theorem jw_816 : (Jvm.Cond.methodLink "CoinNode$Pool" (63 : Nat) ({ cls := "CoinNode$Pool", name := "clash", desc := "(LCoinNode$Tx;)I" } : Jvm.MethodName)) ∈ jws := jws_4 (List.mem_of_getElem? (i := 96) rfl) rfl
theorem jw_818 : (Jvm.Cond.instanceMethod ({ cls := "CoinNode$Pool", name := "clash", desc := "(LCoinNode$Tx;)I" } : Jvm.MethodName)) ∈ jws := jws_4 (List.mem_of_getElem? (i := 98) rfl) rfl
theorem jw_819 : (Jvm.Cond.code ({ cls := "CoinNode$Pool", name := "clash", desc := "(LCoinNode$Tx;)I" } : Jvm.MethodName) prog_8_method_6_code (3 : Nat) (Option.some Jvm.ClassFile.FieldType.int)) ∈ jws := jws_4 (List.mem_of_getElem? (i := 99) rfl) rfl
theorem jw_820 : (Jvm.Cond.methodLink "CoinNode$Pool" (108 : Nat) ({ cls := "CoinNode$Pool", name := "find", desc := "([BI)LCoinNode$Tx;" } : Jvm.MethodName)) ∈ jws := jws_4 (List.mem_of_getElem? (i := 100) rfl) rfl
theorem jw_821 : (Jvm.Cond.instanceMethod ({ cls := "CoinNode$Pool", name := "find", desc := "([BI)LCoinNode$Tx;" } : Jvm.MethodName)) ∈ jws := jws_4 (List.mem_of_getElem? (i := 101) rfl) rfl
theorem jw_822 : (Jvm.Cond.selects "CoinNode$Pool" ({ cls := "CoinNode$Pool", name := "find", desc := "([BI)LCoinNode$Tx;" } : Jvm.MethodName) ({ cls := "CoinNode$Pool", name := "find", desc := "([BI)LCoinNode$Tx;" } : Jvm.MethodName)) ∈ jws := jws_4 (List.mem_of_getElem? (i := 102) rfl) rfl
theorem jw_823 : (Jvm.Cond.code ({ cls := "CoinNode$Pool", name := "find", desc := "([BI)LCoinNode$Tx;" } : Jvm.MethodName) prog_8_method_3_code (4 : Nat) (Option.some (Jvm.ClassFile.FieldType.object "CoinNode$Tx"))) ∈ jws := jws_4 (List.mem_of_getElem? (i := 103) rfl) rfl
theorem jw_824 : (Jvm.Cond.methodLink "CoinNode$Pool" (49 : Nat) ({ cls := "CoinNode$Hash", name := "same", desc := "([BI[BI)Z" } : Jvm.MethodName)) ∈ jws := jws_4 (List.mem_of_getElem? (i := 104) rfl) rfl
theorem jw_825 : (Jvm.Cond.methodLink "CoinNode$Pool" (112 : Nat) ({ cls := "CoinNode$Tx", name := "sharesKeyWith", desc := "(LCoinNode$Tx;)Z" } : Jvm.MethodName)) ∈ jws := jws_4 (List.mem_of_getElem? (i := 105) rfl) rfl
theorem jw_826 : (Jvm.Cond.instanceMethod ({ cls := "CoinNode$Tx", name := "sharesKeyWith", desc := "(LCoinNode$Tx;)Z" } : Jvm.MethodName)) ∈ jws := jws_4 (List.mem_of_getElem? (i := 106) rfl) rfl
theorem jw_827 : (Jvm.Cond.selects "CoinNode$Tx" ({ cls := "CoinNode$Tx", name := "sharesKeyWith", desc := "(LCoinNode$Tx;)Z" } : Jvm.MethodName) ({ cls := "CoinNode$Tx", name := "sharesKeyWith", desc := "(LCoinNode$Tx;)Z" } : Jvm.MethodName)) ∈ jws := jws_4 (List.mem_of_getElem? (i := 107) rfl) rfl
theorem jw_828 : (Jvm.Cond.code ({ cls := "CoinNode$Tx", name := "sharesKeyWith", desc := "(LCoinNode$Tx;)Z" } : Jvm.MethodName) prog_12_method_16_code (4 : Nat) (Option.some Jvm.ClassFile.FieldType.boolean)) ∈ jws := jws_4 (List.mem_of_getElem? (i := 108) rfl) rfl
theorem jw_829 : (Jvm.Cond.methodLink "CoinNode$Pool" (67 : Nat) ({ cls := "CoinNode$Pool", name := "take", desc := "(LCoinNode$Tx;I)I" } : Jvm.MethodName)) ∈ jws := jws_4 (List.mem_of_getElem? (i := 109) rfl) rfl
theorem jw_831 : (Jvm.Cond.instanceMethod ({ cls := "CoinNode$Pool", name := "take", desc := "(LCoinNode$Tx;I)I" } : Jvm.MethodName)) ∈ jws := jws_4 (List.mem_of_getElem? (i := 111) rfl) rfl
theorem jw_832 : (Jvm.Cond.code ({ cls := "CoinNode$Pool", name := "take", desc := "(LCoinNode$Tx;I)I" } : Jvm.MethodName) prog_8_method_7_code (8 : Nat) (Option.some Jvm.ClassFile.FieldType.int)) ∈ jws := jws_4 (List.mem_of_getElem? (i := 112) rfl) rfl
theorem jw_833 : (Jvm.Cond.methodLink "CoinNode$Pool" (118 : Nat) ({ cls := "CoinNode$Tx", name := "index", desc := "(I)I" } : Jvm.MethodName)) ∈ jws := jws_4 (List.mem_of_getElem? (i := 113) rfl) rfl
theorem jw_834 : (Jvm.Cond.methodLink "CoinNode$Pool" (125 : Nat) ({ cls := "CoinNode$Coins", name := "find", desc := "([BII)I" } : Jvm.MethodName)) ∈ jws := jws_4 (List.mem_of_getElem? (i := 114) rfl) rfl
theorem jw_835 : (Jvm.Cond.instanceMethod ({ cls := "CoinNode$Coins", name := "find", desc := "([BII)I" } : Jvm.MethodName)) ∈ jws := jws_4 (List.mem_of_getElem? (i := 115) rfl) rfl
theorem jw_836 : (Jvm.Cond.selects "CoinNode$Coins" ({ cls := "CoinNode$Coins", name := "find", desc := "([BII)I" } : Jvm.MethodName) ({ cls := "CoinNode$Coins", name := "find", desc := "([BII)I" } : Jvm.MethodName)) ∈ jws := jws_4 (List.mem_of_getElem? (i := 116) rfl) rfl
theorem jw_837 : (Jvm.Cond.code ({ cls := "CoinNode$Coins", name := "find", desc := "([BII)I" } : Jvm.MethodName) prog_4_method_3_code (5 : Nat) (Option.some Jvm.ClassFile.FieldType.int)) ∈ jws := jws_4 (List.mem_of_getElem? (i := 117) rfl) rfl
theorem jw_838 : (Jvm.Cond.methodLink "CoinNode$Coins" (43 : Nat) ({ cls := "CoinNode$Hash", name := "same", desc := "([BI[BI)Z" } : Jvm.MethodName)) ∈ jws := jws_4 (List.mem_of_getElem? (i := 118) rfl) rfl
theorem jw_839 : (Jvm.Cond.methodLink "CoinNode$Pool" (130 : Nat) ({ cls := "CoinNode$Coins", name := "maker", desc := "(I)LCoinNode$Tx;" } : Jvm.MethodName)) ∈ jws := jws_4 (List.mem_of_getElem? (i := 119) rfl) rfl
theorem jw_840 : (Jvm.Cond.instanceMethod ({ cls := "CoinNode$Coins", name := "maker", desc := "(I)LCoinNode$Tx;" } : Jvm.MethodName)) ∈ jws := jws_4 (List.mem_of_getElem? (i := 120) rfl) rfl
theorem jw_841 : (Jvm.Cond.selects "CoinNode$Coins" ({ cls := "CoinNode$Coins", name := "maker", desc := "(I)LCoinNode$Tx;" } : Jvm.MethodName) ({ cls := "CoinNode$Coins", name := "maker", desc := "(I)LCoinNode$Tx;" } : Jvm.MethodName)) ∈ jws := jws_4 (List.mem_of_getElem? (i := 121) rfl) rfl
theorem jw_842 : (Jvm.Cond.code ({ cls := "CoinNode$Coins", name := "maker", desc := "(I)LCoinNode$Tx;" } : Jvm.MethodName) prog_4_method_4_code (2 : Nat) (Option.some (Jvm.ClassFile.FieldType.object "CoinNode$Tx"))) ∈ jws := jws_4 (List.mem_of_getElem? (i := 122) rfl) rfl
theorem jw_843 : (Jvm.Cond.methodLink "CoinNode$Pool" (137 : Nat) ({ cls := "CoinNode$Coins", name := "isUnripe", desc := "(II)Z" } : Jvm.MethodName)) ∈ jws := jws_4 (List.mem_of_getElem? (i := 123) rfl) rfl
theorem jw_844 : (Jvm.Cond.instanceMethod ({ cls := "CoinNode$Coins", name := "isUnripe", desc := "(II)Z" } : Jvm.MethodName)) ∈ jws := jws_4 (List.mem_of_getElem? (i := 124) rfl) rfl
theorem jw_845 : (Jvm.Cond.selects "CoinNode$Coins" ({ cls := "CoinNode$Coins", name := "isUnripe", desc := "(II)Z" } : Jvm.MethodName) ({ cls := "CoinNode$Coins", name := "isUnripe", desc := "(II)Z" } : Jvm.MethodName)) ∈ jws := jws_4 (List.mem_of_getElem? (i := 125) rfl) rfl
theorem jw_846 : (Jvm.Cond.code ({ cls := "CoinNode$Coins", name := "isUnripe", desc := "(II)Z" } : Jvm.MethodName) prog_4_method_6_code (3 : Nat) (Option.some Jvm.ClassFile.FieldType.boolean)) ∈ jws := jws_4 (List.mem_of_getElem? (i := 126) rfl) rfl
theorem jw_847 : (Jvm.Cond.methodLink "CoinNode$Pool" (141 : Nat) ({ cls := "CoinNode$Tx", name := "worth", desc := "(I)J" } : Jvm.MethodName)) ∈ jws := jws_4 (List.mem_of_getElem? (i := 127) rfl) rfl
theorem jw_848 : (Jvm.Cond.methodLink "CoinNode$Pool" (71 : Nat) ({ cls := "CoinNode$Scripts", name := "begin", desc := "(I)V" } : Jvm.MethodName)) ∈ jws := jws_4 (List.mem_of_getElem? (i := 128) rfl) rfl
theorem jw_849 : (Jvm.Cond.instanceMethod ({ cls := "CoinNode$Scripts", name := "begin", desc := "(I)V" } : Jvm.MethodName)) ∈ jws := jws_4 (List.mem_of_getElem? (i := 129) rfl) rfl
theorem jw_850 : (Jvm.Cond.selects "CoinNode$Scripts" ({ cls := "CoinNode$Scripts", name := "begin", desc := "(I)V" } : Jvm.MethodName) ({ cls := "CoinNode$Scripts", name := "begin", desc := "(I)V" } : Jvm.MethodName)) ∈ jws := jws_4 (List.mem_of_getElem? (i := 130) rfl) rfl
theorem jw_851 : (Jvm.Cond.code ({ cls := "CoinNode$Scripts", name := "begin", desc := "(I)V" } : Jvm.MethodName) prog_9_method_2_code (2 : Nat) (Option.none : Option Jvm.ClassFile.FieldType)) ∈ jws := jws_4 (List.mem_of_getElem? (i := 131) rfl) rfl
theorem jw_852 : (Jvm.Cond.methodLink "CoinNode$Pool" (77 : Nat) ({ cls := "CoinNode$Scripts", name := "pass", desc := "(LCoinNode$Tx;[LCoinNode$Tx;[I)Z" } : Jvm.MethodName)) ∈ jws := jws_4 (List.mem_of_getElem? (i := 132) rfl) rfl
theorem jw_853 : (Jvm.Cond.instanceMethod ({ cls := "CoinNode$Scripts", name := "pass", desc := "(LCoinNode$Tx;[LCoinNode$Tx;[I)Z" } : Jvm.MethodName)) ∈ jws := jws_4 (List.mem_of_getElem? (i := 133) rfl) rfl
theorem jw_854 : (Jvm.Cond.selects "CoinNode$Scripts" ({ cls := "CoinNode$Scripts", name := "pass", desc := "(LCoinNode$Tx;[LCoinNode$Tx;[I)Z" } : Jvm.MethodName) ({ cls := "CoinNode$Scripts", name := "pass", desc := "(LCoinNode$Tx;[LCoinNode$Tx;[I)Z" } : Jvm.MethodName)) ∈ jws := jws_4 (List.mem_of_getElem? (i := 134) rfl) rfl
theorem jw_855 : (Jvm.Cond.code ({ cls := "CoinNode$Scripts", name := "pass", desc := "(LCoinNode$Tx;[LCoinNode$Tx;[I)Z" } : Jvm.MethodName) prog_9_method_3_code (9 : Nat) (Option.some Jvm.ClassFile.FieldType.boolean)) ∈ jws := jws_4 (List.mem_of_getElem? (i := 135) rfl) rfl
theorem jw_856 : (Jvm.Cond.methodLink "CoinNode$Scripts" (51 : Nat) ({ cls := "CoinNode$Tx", name := "outputScript", desc := "(I)I" } : Jvm.MethodName)) ∈ jws := jws_4 (List.mem_of_getElem? (i := 136) rfl) rfl
theorem jw_857 : (Jvm.Cond.instanceMethod ({ cls := "CoinNode$Tx", name := "outputScript", desc := "(I)I" } : Jvm.MethodName)) ∈ jws := jws_4 (List.mem_of_getElem? (i := 137) rfl) rfl
theorem jw_858 : (Jvm.Cond.selects "CoinNode$Tx" ({ cls := "CoinNode$Tx", name := "outputScript", desc := "(I)I" } : Jvm.MethodName) ({ cls := "CoinNode$Tx", name := "outputScript", desc := "(I)I" } : Jvm.MethodName)) ∈ jws := jws_4 (List.mem_of_getElem? (i := 138) rfl) rfl
theorem jw_859 : (Jvm.Cond.code ({ cls := "CoinNode$Tx", name := "outputScript", desc := "(I)I" } : Jvm.MethodName) prog_12_method_10_code (2 : Nat) (Option.some Jvm.ClassFile.FieldType.int)) ∈ jws := jws_4 (List.mem_of_getElem? (i := 139) rfl) rfl
theorem jw_860 : (Jvm.Cond.methodLink "CoinNode$Scripts" (55 : Nat) ({ cls := "CoinNode$Machine", name := "clear", desc := "()V" } : Jvm.MethodName)) ∈ jws := jws_4 (List.mem_of_getElem? (i := 140) rfl) rfl
theorem jw_861 : (Jvm.Cond.instanceMethod ({ cls := "CoinNode$Machine", name := "clear", desc := "()V" } : Jvm.MethodName)) ∈ jws := jws_4 (List.mem_of_getElem? (i := 141) rfl) rfl
theorem jw_862 : (Jvm.Cond.selects "CoinNode$Machine" ({ cls := "CoinNode$Machine", name := "clear", desc := "()V" } : Jvm.MethodName) ({ cls := "CoinNode$Machine", name := "clear", desc := "()V" } : Jvm.MethodName)) ∈ jws := jws_4 (List.mem_of_getElem? (i := 142) rfl) rfl
theorem jw_863 : (Jvm.Cond.code ({ cls := "CoinNode$Machine", name := "clear", desc := "()V" } : Jvm.MethodName) prog_6_method_2_code (1 : Nat) (Option.none : Option Jvm.ClassFile.FieldType)) ∈ jws := jws_4 (List.mem_of_getElem? (i := 143) rfl) rfl
theorem jw_864 : (Jvm.Cond.methodLink "CoinNode$Scripts" (61 : Nat) ({ cls := "CoinNode$Tx", name := "inputScript", desc := "(I)I" } : Jvm.MethodName)) ∈ jws := jws_4 (List.mem_of_getElem? (i := 144) rfl) rfl
theorem jw_865 : (Jvm.Cond.instanceMethod ({ cls := "CoinNode$Tx", name := "inputScript", desc := "(I)I" } : Jvm.MethodName)) ∈ jws := jws_4 (List.mem_of_getElem? (i := 145) rfl) rfl
theorem jw_866 : (Jvm.Cond.selects "CoinNode$Tx" ({ cls := "CoinNode$Tx", name := "inputScript", desc := "(I)I" } : Jvm.MethodName) ({ cls := "CoinNode$Tx", name := "inputScript", desc := "(I)I" } : Jvm.MethodName)) ∈ jws := jws_4 (List.mem_of_getElem? (i := 146) rfl) rfl
theorem jw_867 : (Jvm.Cond.code ({ cls := "CoinNode$Tx", name := "inputScript", desc := "(I)I" } : Jvm.MethodName) prog_12_method_9_code (2 : Nat) (Option.some Jvm.ClassFile.FieldType.int)) ∈ jws := jws_4 (List.mem_of_getElem? (i := 147) rfl) rfl
theorem jw_868 : (Jvm.Cond.methodLink "CoinNode$Scripts" (64 : Nat) ({ cls := "CoinNode$Tx", name := "scriptSize", desc := "(I)I" } : Jvm.MethodName)) ∈ jws := jws_4 (List.mem_of_getElem? (i := 148) rfl) rfl
theorem jw_869 : (Jvm.Cond.instanceMethod ({ cls := "CoinNode$Tx", name := "scriptSize", desc := "(I)I" } : Jvm.MethodName)) ∈ jws := jws_4 (List.mem_of_getElem? (i := 149) rfl) rfl
theorem jw_870 : (Jvm.Cond.selects "CoinNode$Tx" ({ cls := "CoinNode$Tx", name := "scriptSize", desc := "(I)I" } : Jvm.MethodName) ({ cls := "CoinNode$Tx", name := "scriptSize", desc := "(I)I" } : Jvm.MethodName)) ∈ jws := jws_4 (List.mem_of_getElem? (i := 150) rfl) rfl
theorem jw_871 : (Jvm.Cond.code ({ cls := "CoinNode$Tx", name := "scriptSize", desc := "(I)I" } : Jvm.MethodName) prog_12_method_11_code (2 : Nat) (Option.some Jvm.ClassFile.FieldType.int)) ∈ jws := jws_4 (List.mem_of_getElem? (i := 151) rfl) rfl
theorem jw_872 : (Jvm.Cond.methodLink "CoinNode$Scripts" (67 : Nat) ({ cls := "CoinNode$Machine", name := "open", desc := "([BII)V" } : Jvm.MethodName)) ∈ jws := jws_4 (List.mem_of_getElem? (i := 152) rfl) rfl
theorem jw_873 : (Jvm.Cond.instanceMethod ({ cls := "CoinNode$Machine", name := "open", desc := "([BII)V" } : Jvm.MethodName)) ∈ jws := jws_4 (List.mem_of_getElem? (i := 153) rfl) rfl
theorem jw_874 : (Jvm.Cond.selects "CoinNode$Machine" ({ cls := "CoinNode$Machine", name := "open", desc := "([BII)V" } : Jvm.MethodName) ({ cls := "CoinNode$Machine", name := "open", desc := "([BII)V" } : Jvm.MethodName)) ∈ jws := jws_4 (List.mem_of_getElem? (i := 154) rfl) rfl
theorem jw_875 : (Jvm.Cond.code ({ cls := "CoinNode$Machine", name := "open", desc := "([BII)V" } : Jvm.MethodName) prog_6_method_4_code (4 : Nat) (Option.none : Option Jvm.ClassFile.FieldType)) ∈ jws := jws_4 (List.mem_of_getElem? (i := 155) rfl) rfl
theorem jw_876 : (Jvm.Cond.methodLink "CoinNode$Scripts" (71 : Nat) ({ cls := "CoinNode$Machine", name := "run", desc := "()I" } : Jvm.MethodName)) ∈ jws := jws_4 (List.mem_of_getElem? (i := 156) rfl) rfl
theorem jw_877 : (Jvm.Cond.instanceMethod ({ cls := "CoinNode$Machine", name := "run", desc := "()I" } : Jvm.MethodName)) ∈ jws := jws_4 (List.mem_of_getElem? (i := 157) rfl) rfl
theorem jw_878 : (Jvm.Cond.selects "CoinNode$Machine" ({ cls := "CoinNode$Machine", name := "run", desc := "()I" } : Jvm.MethodName) ({ cls := "CoinNode$Machine", name := "run", desc := "()I" } : Jvm.MethodName)) ∈ jws := jws_4 (List.mem_of_getElem? (i := 158) rfl) rfl
theorem jw_879 : (Jvm.Cond.code ({ cls := "CoinNode$Machine", name := "run", desc := "()I" } : Jvm.MethodName) prog_6_method_6_code (3 : Nat) (Option.some Jvm.ClassFile.FieldType.int)) ∈ jws := jws_4 (List.mem_of_getElem? (i := 159) rfl) rfl
theorem jw_880 : (Jvm.Cond.methodLink "CoinNode$Machine" (75 : Nat) ({ cls := "CoinNode$Machine", name := "push", desc := "(I)V" } : Jvm.MethodName)) ∈ jws := jws_4 (List.mem_of_getElem? (i := 160) rfl) rfl
theorem jw_882 : (Jvm.Cond.instanceMethod ({ cls := "CoinNode$Machine", name := "push", desc := "(I)V" } : Jvm.MethodName)) ∈ jws := jws_4 (List.mem_of_getElem? (i := 162) rfl) rfl
theorem jw_883 : (Jvm.Cond.code ({ cls := "CoinNode$Machine", name := "push", desc := "(I)V" } : Jvm.MethodName) prog_6_method_8_code (4 : Nat) (Option.none : Option Jvm.ClassFile.FieldType)) ∈ jws := jws_4 (List.mem_of_getElem? (i := 163) rfl) rfl
theorem jw_884 : (Jvm.Cond.methodLink "CoinNode$Machine" (113 : Nat) ({ cls := "CoinNode$Stack", name := "put", desc := "([BII)V" } : Jvm.MethodName)) ∈ jws := jws_4 (List.mem_of_getElem? (i := 164) rfl) rfl
theorem jw_885 : (Jvm.Cond.instanceMethod ({ cls := "CoinNode$Stack", name := "put", desc := "([BII)V" } : Jvm.MethodName)) ∈ jws := jws_4 (List.mem_of_getElem? (i := 165) rfl) rfl
theorem jw_886 : (Jvm.Cond.selects "CoinNode$Stack" ({ cls := "CoinNode$Stack", name := "put", desc := "([BII)V" } : Jvm.MethodName) ({ cls := "CoinNode$Stack", name := "put", desc := "([BII)V" } : Jvm.MethodName)) ∈ jws := jws_4 (List.mem_of_getElem? (i := 166) rfl) rfl
theorem jw_887 : (Jvm.Cond.code ({ cls := "CoinNode$Stack", name := "put", desc := "([BII)V" } : Jvm.MethodName) prog_11_method_2_code (4 : Nat) (Option.none : Option Jvm.ClassFile.FieldType)) ∈ jws := jws_4 (List.mem_of_getElem? (i := 167) rfl) rfl
theorem jw_888 : (Jvm.Cond.methodLink "CoinNode$Stack" (22 : Nat) ({ cls := "java/lang/System", name := "arraycopy", desc := "(Ljava/lang/Object;ILjava/lang/Object;II)V" } : Jvm.MethodName)) ∈ jws := jws_4 (List.mem_of_getElem? (i := 168) rfl) rfl
theorem jw_889 : (Jvm.Cond.methodLink "CoinNode$Machine" (79 : Nat) ({ cls := "CoinNode$Machine", name := "part", desc := "(I)V" } : Jvm.MethodName)) ∈ jws := jws_4 (List.mem_of_getElem? (i := 169) rfl) rfl
theorem jw_891 : (Jvm.Cond.instanceMethod ({ cls := "CoinNode$Machine", name := "part", desc := "(I)V" } : Jvm.MethodName)) ∈ jws := jws_4 (List.mem_of_getElem? (i := 171) rfl) rfl
theorem jw_892 : (Jvm.Cond.code ({ cls := "CoinNode$Machine", name := "part", desc := "(I)V" } : Jvm.MethodName) prog_6_method_9_code (3 : Nat) (Option.none : Option Jvm.ClassFile.FieldType)) ∈ jws := jws_4 (List.mem_of_getElem? (i := 172) rfl) rfl
theorem jw_893 : (Jvm.Cond.methodLink "CoinNode$Machine" (116 : Nat) ({ cls := "CoinNode$Machine", name := "has", desc := "(I)Z" } : Jvm.MethodName)) ∈ jws := jws_4 (List.mem_of_getElem? (i := 173) rfl) rfl
theorem jw_895 : (Jvm.Cond.instanceMethod ({ cls := "CoinNode$Machine", name := "has", desc := "(I)Z" } : Jvm.MethodName)) ∈ jws := jws_4 (List.mem_of_getElem? (i := 175) rfl) rfl
theorem jw_896 : (Jvm.Cond.code ({ cls := "CoinNode$Machine", name := "has", desc := "(I)Z" } : Jvm.MethodName) prog_6_method_7_code (2 : Nat) (Option.some Jvm.ClassFile.FieldType.boolean)) ∈ jws := jws_4 (List.mem_of_getElem? (i := 176) rfl) rfl
theorem jw_897 : (Jvm.Cond.methodLink "CoinNode$Machine" (71 : Nat) ({ cls := "CoinNode$Stack", name := "isTrue", desc := "(I)Z" } : Jvm.MethodName)) ∈ jws := jws_4 (List.mem_of_getElem? (i := 177) rfl) rfl
theorem jw_898 : (Jvm.Cond.instanceMethod ({ cls := "CoinNode$Stack", name := "isTrue", desc := "(I)Z" } : Jvm.MethodName)) ∈ jws := jws_4 (List.mem_of_getElem? (i := 178) rfl) rfl
theorem jw_899 : (Jvm.Cond.selects "CoinNode$Stack" ({ cls := "CoinNode$Stack", name := "isTrue", desc := "(I)Z" } : Jvm.MethodName) ({ cls := "CoinNode$Stack", name := "isTrue", desc := "(I)Z" } : Jvm.MethodName)) ∈ jws := jws_4 (List.mem_of_getElem? (i := 179) rfl) rfl
theorem jw_900 : (Jvm.Cond.code ({ cls := "CoinNode$Stack", name := "isTrue", desc := "(I)Z" } : Jvm.MethodName) prog_11_method_7_code (5 : Nat) (Option.some Jvm.ClassFile.FieldType.boolean)) ∈ jws := jws_4 (List.mem_of_getElem? (i := 180) rfl) rfl
theorem jw_901 : (Jvm.Cond.methodLink "CoinNode$Machine" (119 : Nat) ({ cls := "CoinNode$Stack", name := "drop", desc := "(I)V" } : Jvm.MethodName)) ∈ jws := jws_4 (List.mem_of_getElem? (i := 181) rfl) rfl
theorem jw_902 : (Jvm.Cond.instanceMethod ({ cls := "CoinNode$Stack", name := "drop", desc := "(I)V" } : Jvm.MethodName)) ∈ jws := jws_4 (List.mem_of_getElem? (i := 182) rfl) rfl
theorem jw_903 : (Jvm.Cond.selects "CoinNode$Stack" ({ cls := "CoinNode$Stack", name := "drop", desc := "(I)V" } : Jvm.MethodName) ({ cls := "CoinNode$Stack", name := "drop", desc := "(I)V" } : Jvm.MethodName)) ∈ jws := jws_4 (List.mem_of_getElem? (i := 183) rfl) rfl
theorem jw_904 : (Jvm.Cond.code ({ cls := "CoinNode$Stack", name := "drop", desc := "(I)V" } : Jvm.MethodName) prog_11_method_9_code (2 : Nat) (Option.none : Option Jvm.ClassFile.FieldType)) ∈ jws := jws_4 (List.mem_of_getElem? (i := 184) rfl) rfl
theorem jw_905 : (Jvm.Cond.methodLink "CoinNode$Stack" (34 : Nat) ({ cls := "java/lang/Math", name := "max", desc := "(II)I" } : Jvm.MethodName)) ∈ jws := jws_4 (List.mem_of_getElem? (i := 185) rfl) rfl
theorem jw_906 : (Jvm.Cond.static ({ cls := "java/lang/Math", name := "max", desc := "(II)I" } : Jvm.MethodName)) ∈ jws := jws_4 (List.mem_of_getElem? (i := 186) rfl) rfl
theorem jw_907 : (Jvm.Cond.code ({ cls := "java/lang/Math", name := "max", desc := "(II)I" } : Jvm.MethodName) prog_23_method_65_code (2 : Nat) (Option.some Jvm.ClassFile.FieldType.int)) ∈ jws := jws_4 (List.mem_of_getElem? (i := 187) rfl) rfl
theorem jw_908 : (Jvm.Cond.methodLink "CoinNode$Machine" (82 : Nat) ({ cls := "CoinNode$Machine", name := "small", desc := "(I)V" } : Jvm.MethodName)) ∈ jws := jws_4 (List.mem_of_getElem? (i := 188) rfl) rfl
theorem jw_910 : (Jvm.Cond.instanceMethod ({ cls := "CoinNode$Machine", name := "small", desc := "(I)V" } : Jvm.MethodName)) ∈ jws := jws_4 (List.mem_of_getElem? (i := 190) rfl) rfl
theorem jw_911 : (Jvm.Cond.code ({ cls := "CoinNode$Machine", name := "small", desc := "(I)V" } : Jvm.MethodName) prog_6_method_10_code (2 : Nat) (Option.none : Option Jvm.ClassFile.FieldType)) ∈ jws := jws_4 (List.mem_of_getElem? (i := 191) rfl) rfl
theorem jw_912 : (Jvm.Cond.constantLong "CoinNode$Machine" (122 : Nat) (-1 : Int64)) ∈ jws := jws_4 (List.mem_of_getElem? (i := 192) rfl) rfl
theorem jw_913 : (Jvm.Cond.methodLink "CoinNode$Machine" (124 : Nat) ({ cls := "CoinNode$Stack", name := "putNumber", desc := "(J)V" } : Jvm.MethodName)) ∈ jws := jws_4 (List.mem_of_getElem? (i := 193) rfl) rfl
theorem jw_914 : (Jvm.Cond.instanceMethod ({ cls := "CoinNode$Stack", name := "putNumber", desc := "(J)V" } : Jvm.MethodName)) ∈ jws := jws_4 (List.mem_of_getElem? (i := 194) rfl) rfl
theorem jw_915 : (Jvm.Cond.selects "CoinNode$Stack" ({ cls := "CoinNode$Stack", name := "putNumber", desc := "(J)V" } : Jvm.MethodName) ({ cls := "CoinNode$Stack", name := "putNumber", desc := "(J)V" } : Jvm.MethodName)) ∈ jws := jws_4 (List.mem_of_getElem? (i := 195) rfl) rfl
theorem jw_916 : (Jvm.Cond.code ({ cls := "CoinNode$Stack", name := "putNumber", desc := "(J)V" } : Jvm.MethodName) prog_11_method_4_code (8 : Nat) (Option.none : Option Jvm.ClassFile.FieldType)) ∈ jws := jws_4 (List.mem_of_getElem? (i := 196) rfl) rfl
theorem jw_917 : (Jvm.Cond.methodLink "CoinNode$Stack" (28 : Nat) ({ cls := "java/lang/Math", name := "abs", desc := "(J)J" } : Jvm.MethodName)) ∈ jws := jws_4 (List.mem_of_getElem? (i := 197) rfl) rfl
theorem jw_918 : (Jvm.Cond.static ({ cls := "java/lang/Math", name := "abs", desc := "(J)J" } : Jvm.MethodName)) ∈ jws := jws_4 (List.mem_of_getElem? (i := 198) rfl) rfl
theorem jw_919 : (Jvm.Cond.code ({ cls := "java/lang/Math", name := "abs", desc := "(J)J" } : Jvm.MethodName) prog_23_method_61_code (2 : Nat) (Option.some Jvm.ClassFile.FieldType.long)) ∈ jws := jws_4 (List.mem_of_getElem? (i := 199) rfl) rfl
theorem jw_920 : (Jvm.Cond.methodLink "CoinNode$Machine" (85 : Nat) ({ cls := "CoinNode$Machine", name := "pass", desc := "(I)V" } : Jvm.MethodName)) ∈ jws := jws_4 (List.mem_of_getElem? (i := 200) rfl) rfl
theorem jw_922 : (Jvm.Cond.instanceMethod ({ cls := "CoinNode$Machine", name := "pass", desc := "(I)V" } : Jvm.MethodName)) ∈ jws := jws_4 (List.mem_of_getElem? (i := 202) rfl) rfl
theorem jw_923 : (Jvm.Cond.code ({ cls := "CoinNode$Machine", name := "pass", desc := "(I)V" } : Jvm.MethodName) prog_6_method_11_code (2 : Nat) (Option.none : Option Jvm.ClassFile.FieldType)) ∈ jws := jws_4 (List.mem_of_getElem? (i := 203) rfl) rfl
theorem jw_924 : (Jvm.Cond.methodLink "CoinNode$Machine" (128 : Nat) ({ cls := "CoinNode$Stack", name := "putCopy", desc := "(LCoinNode$Stack;I)V" } : Jvm.MethodName)) ∈ jws := jws_4 (List.mem_of_getElem? (i := 204) rfl) rfl
theorem jw_925 : (Jvm.Cond.instanceMethod ({ cls := "CoinNode$Stack", name := "putCopy", desc := "(LCoinNode$Stack;I)V" } : Jvm.MethodName)) ∈ jws := jws_4 (List.mem_of_getElem? (i := 205) rfl) rfl
theorem jw_926 : (Jvm.Cond.selects "CoinNode$Stack" ({ cls := "CoinNode$Stack", name := "putCopy", desc := "(LCoinNode$Stack;I)V" } : Jvm.MethodName) ({ cls := "CoinNode$Stack", name := "putCopy", desc := "(LCoinNode$Stack;I)V" } : Jvm.MethodName)) ∈ jws := jws_4 (List.mem_of_getElem? (i := 206) rfl) rfl
theorem jw_927 : (Jvm.Cond.code ({ cls := "CoinNode$Stack", name := "putCopy", desc := "(LCoinNode$Stack;I)V" } : Jvm.MethodName) prog_11_method_3_code (3 : Nat) (Option.none : Option Jvm.ClassFile.FieldType)) ∈ jws := jws_4 (List.mem_of_getElem? (i := 207) rfl) rfl
theorem jw_928 : (Jvm.Cond.methodLink "CoinNode$Machine" (88 : Nat) ({ cls := "CoinNode$Machine", name := "arrange", desc := "(I)V" } : Jvm.MethodName)) ∈ jws := jws_4 (List.mem_of_getElem? (i := 208) rfl) rfl
theorem jw_930 : (Jvm.Cond.instanceMethod ({ cls := "CoinNode$Machine", name := "arrange", desc := "(I)V" } : Jvm.MethodName)) ∈ jws := jws_4 (List.mem_of_getElem? (i := 210) rfl) rfl
theorem jw_931 : (Jvm.Cond.code ({ cls := "CoinNode$Machine", name := "arrange", desc := "(I)V" } : Jvm.MethodName) prog_6_method_12_code (4 : Nat) (Option.none : Option Jvm.ClassFile.FieldType)) ∈ jws := jws_4 (List.mem_of_getElem? (i := 211) rfl) rfl
theorem jw_932 : (Jvm.Cond.methodLink "CoinNode$Machine" (132 : Nat) ({ cls := "CoinNode$Stack", name := "isNumber", desc := "(I)Z" } : Jvm.MethodName)) ∈ jws := jws_4 (List.mem_of_getElem? (i := 212) rfl) rfl
theorem jw_933 : (Jvm.Cond.instanceMethod ({ cls := "CoinNode$Stack", name := "isNumber", desc := "(I)Z" } : Jvm.MethodName)) ∈ jws := jws_4 (List.mem_of_getElem? (i := 213) rfl) rfl
theorem jw_934 : (Jvm.Cond.selects "CoinNode$Stack" ({ cls := "CoinNode$Stack", name := "isNumber", desc := "(I)Z" } : Jvm.MethodName) ({ cls := "CoinNode$Stack", name := "isNumber", desc := "(I)Z" } : Jvm.MethodName)) ∈ jws := jws_4 (List.mem_of_getElem? (i := 214) rfl) rfl
theorem jw_935 : (Jvm.Cond.code ({ cls := "CoinNode$Stack", name := "isNumber", desc := "(I)Z" } : Jvm.MethodName) prog_11_method_5_code (2 : Nat) (Option.some Jvm.ClassFile.FieldType.boolean)) ∈ jws := jws_4 (List.mem_of_getElem? (i := 215) rfl) rfl
theorem jw_936 : (Jvm.Cond.methodLink "CoinNode$Machine" (135 : Nat) ({ cls := "CoinNode$Stack", name := "number", desc := "(I)J" } : Jvm.MethodName)) ∈ jws := jws_4 (List.mem_of_getElem? (i := 216) rfl) rfl
theorem jw_937 : (Jvm.Cond.instanceMethod ({ cls := "CoinNode$Stack", name := "number", desc := "(I)J" } : Jvm.MethodName)) ∈ jws := jws_4 (List.mem_of_getElem? (i := 217) rfl) rfl
theorem jw_938 : (Jvm.Cond.selects "CoinNode$Stack" ({ cls := "CoinNode$Stack", name := "number", desc := "(I)J" } : Jvm.MethodName) ({ cls := "CoinNode$Stack", name := "number", desc := "(I)J" } : Jvm.MethodName)) ∈ jws := jws_4 (List.mem_of_getElem? (i := 218) rfl) rfl
theorem jw_939 : (Jvm.Cond.code ({ cls := "CoinNode$Stack", name := "number", desc := "(I)J" } : Jvm.MethodName) prog_11_method_6_code (8 : Nat) (Option.some Jvm.ClassFile.FieldType.long)) ∈ jws := jws_4 (List.mem_of_getElem? (i := 219) rfl) rfl
theorem jw_940 : (Jvm.Cond.methodLink "CoinNode$Machine" (139 : Nat) ({ cls := "CoinNode$Stack", name := "lift", desc := "(I)V" } : Jvm.MethodName)) ∈ jws := jws_4 (List.mem_of_getElem? (i := 220) rfl) rfl
theorem jw_941 : (Jvm.Cond.instanceMethod ({ cls := "CoinNode$Stack", name := "lift", desc := "(I)V" } : Jvm.MethodName)) ∈ jws := jws_4 (List.mem_of_getElem? (i := 221) rfl) rfl
theorem jw_942 : (Jvm.Cond.selects "CoinNode$Stack" ({ cls := "CoinNode$Stack", name := "lift", desc := "(I)V" } : Jvm.MethodName) ({ cls := "CoinNode$Stack", name := "lift", desc := "(I)V" } : Jvm.MethodName)) ∈ jws := jws_4 (List.mem_of_getElem? (i := 222) rfl) rfl
theorem jw_943 : (Jvm.Cond.code ({ cls := "CoinNode$Stack", name := "lift", desc := "(I)V" } : Jvm.MethodName) prog_11_method_10_code (5 : Nat) (Option.none : Option Jvm.ClassFile.FieldType)) ∈ jws := jws_4 (List.mem_of_getElem? (i := 223) rfl) rfl
theorem jw_944 : (Jvm.Cond.methodLink "CoinNode$Machine" (91 : Nat) ({ cls := "CoinNode$Machine", name := "move", desc := "(I)V" } : Jvm.MethodName)) ∈ jws := jws_4 (List.mem_of_getElem? (i := 224) rfl) rfl
theorem jw_946 : (Jvm.Cond.instanceMethod ({ cls := "CoinNode$Machine", name := "move", desc := "(I)V" } : Jvm.MethodName)) ∈ jws := jws_4 (List.mem_of_getElem? (i := 226) rfl) rfl
theorem jw_947 : (Jvm.Cond.code ({ cls := "CoinNode$Machine", name := "move", desc := "(I)V" } : Jvm.MethodName) prog_6_method_13_code (6 : Nat) (Option.none : Option Jvm.ClassFile.FieldType)) ∈ jws := jws_4 (List.mem_of_getElem? (i := 227) rfl) rfl
theorem jw_948 : (Jvm.Cond.fieldLink "CoinNode$Machine" (146 : Nat) "CoinNode$Machine" "MOVES" "[I") ∈ jws := jws_4 (List.mem_of_getElem? (i := 228) rfl) rfl
theorem jw_950 : (Jvm.Cond.methodLink "CoinNode$Machine" (94 : Nat) ({ cls := "CoinNode$Machine", name := "compare", desc := "(I)V" } : Jvm.MethodName)) ∈ jws := jws_4 (List.mem_of_getElem? (i := 230) rfl) rfl
theorem jw_952 : (Jvm.Cond.instanceMethod ({ cls := "CoinNode$Machine", name := "compare", desc := "(I)V" } : Jvm.MethodName)) ∈ jws := jws_4 (List.mem_of_getElem? (i := 232) rfl) rfl
theorem jw_953 : (Jvm.Cond.code ({ cls := "CoinNode$Machine", name := "compare", desc := "(I)V" } : Jvm.MethodName) prog_6_method_14_code (3 : Nat) (Option.none : Option Jvm.ClassFile.FieldType)) ∈ jws := jws_4 (List.mem_of_getElem? (i := 233) rfl) rfl
theorem jw_954 : (Jvm.Cond.methodLink "CoinNode$Machine" (149 : Nat) ({ cls := "CoinNode$Stack", name := "isTopTwice", desc := "()Z" } : Jvm.MethodName)) ∈ jws := jws_4 (List.mem_of_getElem? (i := 234) rfl) rfl
theorem jw_955 : (Jvm.Cond.instanceMethod ({ cls := "CoinNode$Stack", name := "isTopTwice", desc := "()Z" } : Jvm.MethodName)) ∈ jws := jws_4 (List.mem_of_getElem? (i := 235) rfl) rfl
theorem jw_956 : (Jvm.Cond.selects "CoinNode$Stack" ({ cls := "CoinNode$Stack", name := "isTopTwice", desc := "()Z" } : Jvm.MethodName) ({ cls := "CoinNode$Stack", name := "isTopTwice", desc := "()Z" } : Jvm.MethodName)) ∈ jws := jws_4 (List.mem_of_getElem? (i := 236) rfl) rfl
theorem jw_957 : (Jvm.Cond.code ({ cls := "CoinNode$Stack", name := "isTopTwice", desc := "()Z" } : Jvm.MethodName) prog_11_method_8_code (2 : Nat) (Option.some Jvm.ClassFile.FieldType.boolean)) ∈ jws := jws_4 (List.mem_of_getElem? (i := 237) rfl) rfl
theorem jw_958 : (Jvm.Cond.methodLink "CoinNode$Machine" (97 : Nat) ({ cls := "CoinNode$Machine", name := "calculate", desc := "(I)V" } : Jvm.MethodName)) ∈ jws := jws_4 (List.mem_of_getElem? (i := 238) rfl) rfl
theorem jw_960 : (Jvm.Cond.instanceMethod ({ cls := "CoinNode$Machine", name := "calculate", desc := "(I)V" } : Jvm.MethodName)) ∈ jws := jws_5 (List.mem_of_getElem? (i := 0) rfl) rfl
theorem jw_961 : (Jvm.Cond.code ({ cls := "CoinNode$Machine", name := "calculate", desc := "(I)V" } : Jvm.MethodName) prog_6_method_15_code (9 : Nat) (Option.none : Option Jvm.ClassFile.FieldType)) ∈ jws := jws_5 (List.mem_of_getElem? (i := 1) rfl) rfl
theorem jw_962 : (Jvm.Cond.methodLink "CoinNode$Machine" (153 : Nat) ({ cls := "CoinNode$Machine", name := "ofOne", desc := "(IJ)J" } : Jvm.MethodName)) ∈ jws := jws_5 (List.mem_of_getElem? (i := 2) rfl) rfl
theorem jw_963 : (Jvm.Cond.static ({ cls := "CoinNode$Machine", name := "ofOne", desc := "(IJ)J" } : Jvm.MethodName)) ∈ jws := jws_5 (List.mem_of_getElem? (i := 3) rfl) rfl
theorem jw_964 : (Jvm.Cond.code ({ cls := "CoinNode$Machine", name := "ofOne", desc := "(IJ)J" } : Jvm.MethodName) prog_6_method_16_code (3 : Nat) (Option.some Jvm.ClassFile.FieldType.long)) ∈ jws := jws_5 (List.mem_of_getElem? (i := 4) rfl) rfl
theorem jw_965 : (Jvm.Cond.methodLink "CoinNode$Machine" (161 : Nat) ({ cls := "java/lang/Math", name := "abs", desc := "(J)J" } : Jvm.MethodName)) ∈ jws := jws_5 (List.mem_of_getElem? (i := 5) rfl) rfl
theorem jw_966 : (Jvm.Cond.methodLink "CoinNode$Machine" (157 : Nat) ({ cls := "CoinNode$Machine", name := "ofTwo", desc := "(IJJ)J" } : Jvm.MethodName)) ∈ jws := jws_5 (List.mem_of_getElem? (i := 6) rfl) rfl
theorem jw_967 : (Jvm.Cond.static ({ cls := "CoinNode$Machine", name := "ofTwo", desc := "(IJJ)J" } : Jvm.MethodName)) ∈ jws := jws_5 (List.mem_of_getElem? (i := 7) rfl) rfl
theorem jw_968 : (Jvm.Cond.code ({ cls := "CoinNode$Machine", name := "ofTwo", desc := "(IJJ)J" } : Jvm.MethodName) prog_6_method_17_code (5 : Nat) (Option.some Jvm.ClassFile.FieldType.long)) ∈ jws := jws_5 (List.mem_of_getElem? (i := 8) rfl) rfl
theorem jw_969 : (Jvm.Cond.methodLink "CoinNode$Machine" (167 : Nat) ({ cls := "java/lang/Math", name := "min", desc := "(JJ)J" } : Jvm.MethodName)) ∈ jws := jws_5 (List.mem_of_getElem? (i := 9) rfl) rfl
theorem jw_970 : (Jvm.Cond.static ({ cls := "java/lang/Math", name := "min", desc := "(JJ)J" } : Jvm.MethodName)) ∈ jws := jws_5 (List.mem_of_getElem? (i := 10) rfl) rfl
theorem jw_971 : (Jvm.Cond.code ({ cls := "java/lang/Math", name := "min", desc := "(JJ)J" } : Jvm.MethodName) prog_23_method_70_code (4 : Nat) (Option.some Jvm.ClassFile.FieldType.long)) ∈ jws := jws_5 (List.mem_of_getElem? (i := 11) rfl) rfl
theorem jw_972 : (Jvm.Cond.methodLink "CoinNode$Machine" (171 : Nat) ({ cls := "java/lang/Math", name := "max", desc := "(JJ)J" } : Jvm.MethodName)) ∈ jws := jws_5 (List.mem_of_getElem? (i := 12) rfl) rfl
theorem jw_973 : (Jvm.Cond.static ({ cls := "java/lang/Math", name := "max", desc := "(JJ)J" } : Jvm.MethodName)) ∈ jws := jws_5 (List.mem_of_getElem? (i := 13) rfl) rfl
theorem jw_974 : (Jvm.Cond.code ({ cls := "java/lang/Math", name := "max", desc := "(JJ)J" } : Jvm.MethodName) prog_23_method_66_code (4 : Nat) (Option.some Jvm.ClassFile.FieldType.long)) ∈ jws := jws_5 (List.mem_of_getElem? (i := 14) rfl) rfl
theorem jw_975 : (Jvm.Cond.methodLink "CoinNode$Machine" (100 : Nat) ({ cls := "CoinNode$Machine", name := "digest", desc := "(I)V" } : Jvm.MethodName)) ∈ jws := jws_5 (List.mem_of_getElem? (i := 15) rfl) rfl
theorem jw_977 : (Jvm.Cond.instanceMethod ({ cls := "CoinNode$Machine", name := "digest", desc := "(I)V" } : Jvm.MethodName)) ∈ jws := jws_5 (List.mem_of_getElem? (i := 17) rfl) rfl
theorem jw_978 : (Jvm.Cond.code ({ cls := "CoinNode$Machine", name := "digest", desc := "(I)V" } : Jvm.MethodName) prog_6_method_18_code (3 : Nat) (Option.none : Option Jvm.ClassFile.FieldType)) ∈ jws := jws_5 (List.mem_of_getElem? (i := 18) rfl) rfl
theorem jw_979 : (Jvm.Cond.methodLink "CoinNode$Machine" (178 : Nat) ({ cls := "CoinNode$Hash", name := "take", desc := "([BII)V" } : Jvm.MethodName)) ∈ jws := jws_5 (List.mem_of_getElem? (i := 19) rfl) rfl
theorem jw_980 : (Jvm.Cond.methodLink "CoinNode$Machine" (183 : Nat) ({ cls := "CoinNode$Hash", name := "digest", desc := "([B)V" } : Jvm.MethodName)) ∈ jws := jws_5 (List.mem_of_getElem? (i := 20) rfl) rfl
theorem jw_981 : (Jvm.Cond.methodLink "CoinNode$Machine" (186 : Nat) ({ cls := "CoinNode$Hash", name := "ripe", desc := "([B)V" } : Jvm.MethodName)) ∈ jws := jws_5 (List.mem_of_getElem? (i := 21) rfl) rfl
theorem jw_982 : (Jvm.Cond.instanceMethod ({ cls := "CoinNode$Hash", name := "ripe", desc := "([B)V" } : Jvm.MethodName)) ∈ jws := jws_5 (List.mem_of_getElem? (i := 22) rfl) rfl
theorem jw_983 : (Jvm.Cond.selects "CoinNode$Hash" ({ cls := "CoinNode$Hash", name := "ripe", desc := "([B)V" } : Jvm.MethodName) ({ cls := "CoinNode$Hash", name := "ripe", desc := "([B)V" } : Jvm.MethodName)) ∈ jws := jws_5 (List.mem_of_getElem? (i := 23) rfl) rfl
theorem jw_984 : (Jvm.Cond.code ({ cls := "CoinNode$Hash", name := "ripe", desc := "([B)V" } : Jvm.MethodName) prog_5_method_4_code (15 : Nat) (Option.none : Option Jvm.ClassFile.FieldType)) ∈ jws := jws_5 (List.mem_of_getElem? (i := 24) rfl) rfl
theorem jw_985 : (Jvm.Cond.constant "CoinNode$Hash" (44 : Nat) (1732584193 : Int32)) ∈ jws := jws_5 (List.mem_of_getElem? (i := 25) rfl) rfl
theorem jw_986 : (Jvm.Cond.constant "CoinNode$Hash" (45 : Nat) (-271733879 : Int32)) ∈ jws := jws_5 (List.mem_of_getElem? (i := 26) rfl) rfl
theorem jw_987 : (Jvm.Cond.constant "CoinNode$Hash" (46 : Nat) (-1732584194 : Int32)) ∈ jws := jws_5 (List.mem_of_getElem? (i := 27) rfl) rfl
theorem jw_988 : (Jvm.Cond.constant "CoinNode$Hash" (47 : Nat) (271733878 : Int32)) ∈ jws := jws_5 (List.mem_of_getElem? (i := 28) rfl) rfl
theorem jw_989 : (Jvm.Cond.constant "CoinNode$Hash" (48 : Nat) (-1009589776 : Int32)) ∈ jws := jws_5 (List.mem_of_getElem? (i := 29) rfl) rfl
theorem jw_990 : (Jvm.Cond.fieldLink "CoinNode$Hash" (49 : Nat) "CoinNode$Hash" "WORD" "[I") ∈ jws := jws_5 (List.mem_of_getElem? (i := 30) rfl) rfl
theorem jw_992 : (Jvm.Cond.fieldLink "CoinNode$Hash" (52 : Nat) "CoinNode$Hash" "ADDED" "[I") ∈ jws := jws_5 (List.mem_of_getElem? (i := 32) rfl) rfl
theorem jw_994 : (Jvm.Cond.fieldLink "CoinNode$Hash" (55 : Nat) "CoinNode$Hash" "TURN" "[I") ∈ jws := jws_5 (List.mem_of_getElem? (i := 34) rfl) rfl
theorem jw_996 : (Jvm.Cond.methodLink "CoinNode$Machine" (103 : Nat) ({ cls := "CoinNode$Machine", name := "ask", desc := "(I)V" } : Jvm.MethodName)) ∈ jws := jws_5 (List.mem_of_getElem? (i := 36) rfl) rfl
theorem jw_998 : (Jvm.Cond.instanceMethod ({ cls := "CoinNode$Machine", name := "ask", desc := "(I)V" } : Jvm.MethodName)) ∈ jws := jws_5 (List.mem_of_getElem? (i := 38) rfl) rfl
theorem jw_999 : (Jvm.Cond.code ({ cls := "CoinNode$Machine", name := "ask", desc := "(I)V" } : Jvm.MethodName) prog_6_method_19_code (2 : Nat) (Option.none : Option Jvm.ClassFile.FieldType)) ∈ jws := jws_5 (List.mem_of_getElem? (i := 39) rfl) rfl
theorem jw_1000 : (Jvm.Cond.constantLong "CoinNode$Machine" (204 : Nat) (8 : Int64)) ∈ jws := jws_5 (List.mem_of_getElem? (i := 40) rfl) rfl
theorem jw_1001 : (Jvm.Cond.methodLink "CoinNode$Machine" (109 : Nat) ({ cls := "CoinNode$Machine", name := "finish", desc := "(Z)V" } : Jvm.MethodName)) ∈ jws := jws_5 (List.mem_of_getElem? (i := 41) rfl) rfl
theorem jw_1003 : (Jvm.Cond.instanceMethod ({ cls := "CoinNode$Machine", name := "finish", desc := "(Z)V" } : Jvm.MethodName)) ∈ jws := jws_5 (List.mem_of_getElem? (i := 43) rfl) rfl
theorem jw_1004 : (Jvm.Cond.code ({ cls := "CoinNode$Machine", name := "finish", desc := "(Z)V" } : Jvm.MethodName) prog_6_method_21_code (2 : Nat) (Option.none : Option Jvm.ClassFile.FieldType)) ∈ jws := jws_5 (List.mem_of_getElem? (i := 44) rfl) rfl
theorem jw_1005 : (Jvm.Cond.methodLink "CoinNode$Scripts" (78 : Nat) ({ cls := "CoinNode$Machine", name := "signature", desc := "()[B" } : Jvm.MethodName)) ∈ jws := jws_5 (List.mem_of_getElem? (i := 45) rfl) rfl
theorem jw_1006 : (Jvm.Cond.instanceMethod ({ cls := "CoinNode$Machine", name := "signature", desc := "()[B" } : Jvm.MethodName)) ∈ jws := jws_5 (List.mem_of_getElem? (i := 46) rfl) rfl
theorem jw_1007 : (Jvm.Cond.selects "CoinNode$Machine" ({ cls := "CoinNode$Machine", name := "signature", desc := "()[B" } : Jvm.MethodName) ({ cls := "CoinNode$Machine", name := "signature", desc := "()[B" } : Jvm.MethodName)) ∈ jws := jws_5 (List.mem_of_getElem? (i := 47) rfl) rfl
theorem jw_1008 : (Jvm.Cond.code ({ cls := "CoinNode$Machine", name := "signature", desc := "()[B" } : Jvm.MethodName) prog_6_method_22_code (1 : Nat) (Option.some (Jvm.ClassFile.FieldType.array Jvm.ClassFile.FieldType.byte))) ∈ jws := jws_5 (List.mem_of_getElem? (i := 48) rfl) rfl
theorem jw_1009 : (Jvm.Cond.methodLink "CoinNode$Scripts" (81 : Nat) ({ cls := "CoinNode$Machine", name := "signatureSize", desc := "()I" } : Jvm.MethodName)) ∈ jws := jws_5 (List.mem_of_getElem? (i := 49) rfl) rfl
theorem jw_1010 : (Jvm.Cond.instanceMethod ({ cls := "CoinNode$Machine", name := "signatureSize", desc := "()I" } : Jvm.MethodName)) ∈ jws := jws_5 (List.mem_of_getElem? (i := 50) rfl) rfl
theorem jw_1011 : (Jvm.Cond.selects "CoinNode$Machine" ({ cls := "CoinNode$Machine", name := "signatureSize", desc := "()I" } : Jvm.MethodName) ({ cls := "CoinNode$Machine", name := "signatureSize", desc := "()I" } : Jvm.MethodName)) ∈ jws := jws_5 (List.mem_of_getElem? (i := 51) rfl) rfl
theorem jw_1012 : (Jvm.Cond.code ({ cls := "CoinNode$Machine", name := "signatureSize", desc := "()I" } : Jvm.MethodName) prog_6_method_23_code (1 : Nat) (Option.some Jvm.ClassFile.FieldType.int)) ∈ jws := jws_5 (List.mem_of_getElem? (i := 52) rfl) rfl
theorem jw_1013 : (Jvm.Cond.methodLink "CoinNode$Scripts" (84 : Nat) ({ cls := "CoinNode$Signature", name := "setSignature", desc := "([BI)Z" } : Jvm.MethodName)) ∈ jws := jws_5 (List.mem_of_getElem? (i := 53) rfl) rfl
theorem jw_1014 : (Jvm.Cond.instanceMethod ({ cls := "CoinNode$Signature", name := "setSignature", desc := "([BI)Z" } : Jvm.MethodName)) ∈ jws := jws_5 (List.mem_of_getElem? (i := 54) rfl) rfl
theorem jw_1015 : (Jvm.Cond.selects "CoinNode$Signature" ({ cls := "CoinNode$Signature", name := "setSignature", desc := "([BI)Z" } : Jvm.MethodName) ({ cls := "CoinNode$Signature", name := "setSignature", desc := "([BI)Z" } : Jvm.MethodName)) ∈ jws := jws_5 (List.mem_of_getElem? (i := 55) rfl) rfl
theorem jw_1016 : (Jvm.Cond.code ({ cls := "CoinNode$Signature", name := "setSignature", desc := "([BI)Z" } : Jvm.MethodName) prog_10_method_2_code (5 : Nat) (Option.some Jvm.ClassFile.FieldType.boolean)) ∈ jws := jws_5 (List.mem_of_getElem? (i := 56) rfl) rfl
theorem jw_1017 : (Jvm.Cond.methodLink "CoinNode$Signature" (70 : Nat) ({ cls := "CoinNode$Signature", name := "setNumber", desc := "([I[BII)Z" } : Jvm.MethodName)) ∈ jws := jws_5 (List.mem_of_getElem? (i := 57) rfl) rfl
theorem jw_1018 : (Jvm.Cond.static ({ cls := "CoinNode$Signature", name := "setNumber", desc := "([I[BII)Z" } : Jvm.MethodName)) ∈ jws := jws_5 (List.mem_of_getElem? (i := 58) rfl) rfl
theorem jw_1019 : (Jvm.Cond.code ({ cls := "CoinNode$Signature", name := "setNumber", desc := "([I[BII)Z" } : Jvm.MethodName) prog_10_method_3_code (5 : Nat) (Option.some Jvm.ClassFile.FieldType.boolean)) ∈ jws := jws_5 (List.mem_of_getElem? (i := 59) rfl) rfl
theorem jw_1020 : (Jvm.Cond.methodLink "CoinNode$Signature" (74 : Nat) ({ cls := "CoinNode$Signature", name := "set", desc := "([I[BII)V" } : Jvm.MethodName)) ∈ jws := jws_5 (List.mem_of_getElem? (i := 60) rfl) rfl
theorem jw_1021 : (Jvm.Cond.static ({ cls := "CoinNode$Signature", name := "set", desc := "([I[BII)V" } : Jvm.MethodName)) ∈ jws := jws_5 (List.mem_of_getElem? (i := 61) rfl) rfl
theorem jw_1022 : (Jvm.Cond.code ({ cls := "CoinNode$Signature", name := "set", desc := "([I[BII)V" } : Jvm.MethodName) prog_10_method_8_code (6 : Nat) (Option.none : Option Jvm.ClassFile.FieldType)) ∈ jws := jws_5 (List.mem_of_getElem? (i := 62) rfl) rfl
theorem jw_1023 : (Jvm.Cond.methodLink "CoinNode$Signature" (172 : Nat) ({ cls := "java/util/Arrays", name := "fill", desc := "([II)V" } : Jvm.MethodName)) ∈ jws := jws_5 (List.mem_of_getElem? (i := 63) rfl) rfl
theorem jw_1024 : (Jvm.Cond.static ({ cls := "java/util/Arrays", name := "fill", desc := "([II)V" } : Jvm.MethodName)) ∈ jws := jws_5 (List.mem_of_getElem? (i := 64) rfl) rfl
theorem jw_1025 : (Jvm.Cond.code ({ cls := "java/util/Arrays", name := "fill", desc := "([II)V" } : Jvm.MethodName) prog_25_method_103_code (4 : Nat) (Option.none : Option Jvm.ClassFile.FieldType)) ∈ jws := jws_5 (List.mem_of_getElem? (i := 65) rfl) rfl
theorem jw_1026 : (Jvm.Cond.methodLink "CoinNode$Signature" (78 : Nat) ({ cls := "CoinNode$Signature", name := "isNothing", desc := "([I)Z" } : Jvm.MethodName)) ∈ jws := jws_5 (List.mem_of_getElem? (i := 66) rfl) rfl
theorem jw_1027 : (Jvm.Cond.static ({ cls := "CoinNode$Signature", name := "isNothing", desc := "([I)Z" } : Jvm.MethodName)) ∈ jws := jws_5 (List.mem_of_getElem? (i := 67) rfl) rfl
theorem jw_1028 : (Jvm.Cond.code ({ cls := "CoinNode$Signature", name := "isNothing", desc := "([I)Z" } : Jvm.MethodName) prog_10_method_9_code (3 : Nat) (Option.some Jvm.ClassFile.FieldType.boolean)) ∈ jws := jws_5 (List.mem_of_getElem? (i := 68) rfl) rfl
theorem jw_1029 : (Jvm.Cond.fieldLink "CoinNode$Signature" (82 : Nat) "CoinNode$Signature" "ORDER" "[I") ∈ jws := jws_5 (List.mem_of_getElem? (i := 69) rfl) rfl
theorem jw_1031 : (Jvm.Cond.methodLink "CoinNode$Signature" (85 : Nat) ({ cls := "CoinNode$Signature", name := "isBelow", desc := "([I[I)Z" } : Jvm.MethodName)) ∈ jws := jws_5 (List.mem_of_getElem? (i := 71) rfl) rfl
theorem jw_1032 : (Jvm.Cond.static ({ cls := "CoinNode$Signature", name := "isBelow", desc := "([I[I)Z" } : Jvm.MethodName)) ∈ jws := jws_5 (List.mem_of_getElem? (i := 72) rfl) rfl
theorem jw_1033 : (Jvm.Cond.code ({ cls := "CoinNode$Signature", name := "isBelow", desc := "([I[I)Z" } : Jvm.MethodName) prog_10_method_10_code (3 : Nat) (Option.some Jvm.ClassFile.FieldType.boolean)) ∈ jws := jws_5 (List.mem_of_getElem? (i := 73) rfl) rfl
theorem jw_1034 : (Jvm.Cond.methodLink "CoinNode$Signature" (178 : Nat) ({ cls := "java/lang/Math", name := "min", desc := "(II)I" } : Jvm.MethodName)) ∈ jws := jws_5 (List.mem_of_getElem? (i := 74) rfl) rfl
theorem jw_1035 : (Jvm.Cond.constantLong "CoinNode$Signature" (170 : Nat) (4294967295 : Int64)) ∈ jws := jws_5 (List.mem_of_getElem? (i := 75) rfl) rfl
theorem jw_1036 : (Jvm.Cond.methodLink "CoinNode$Scripts" (88 : Nat) ({ cls := "CoinNode$Machine", name := "publicKey", desc := "()[B" } : Jvm.MethodName)) ∈ jws := jws_5 (List.mem_of_getElem? (i := 76) rfl) rfl
theorem jw_1037 : (Jvm.Cond.instanceMethod ({ cls := "CoinNode$Machine", name := "publicKey", desc := "()[B" } : Jvm.MethodName)) ∈ jws := jws_5 (List.mem_of_getElem? (i := 77) rfl) rfl
theorem jw_1038 : (Jvm.Cond.selects "CoinNode$Machine" ({ cls := "CoinNode$Machine", name := "publicKey", desc := "()[B" } : Jvm.MethodName) ({ cls := "CoinNode$Machine", name := "publicKey", desc := "()[B" } : Jvm.MethodName)) ∈ jws := jws_5 (List.mem_of_getElem? (i := 78) rfl) rfl
theorem jw_1039 : (Jvm.Cond.code ({ cls := "CoinNode$Machine", name := "publicKey", desc := "()[B" } : Jvm.MethodName) prog_6_method_24_code (1 : Nat) (Option.some (Jvm.ClassFile.FieldType.array Jvm.ClassFile.FieldType.byte))) ∈ jws := jws_5 (List.mem_of_getElem? (i := 79) rfl) rfl
theorem jw_1040 : (Jvm.Cond.methodLink "CoinNode$Scripts" (91 : Nat) ({ cls := "CoinNode$Machine", name := "publicKeySize", desc := "()I" } : Jvm.MethodName)) ∈ jws := jws_5 (List.mem_of_getElem? (i := 80) rfl) rfl
theorem jw_1041 : (Jvm.Cond.instanceMethod ({ cls := "CoinNode$Machine", name := "publicKeySize", desc := "()I" } : Jvm.MethodName)) ∈ jws := jws_5 (List.mem_of_getElem? (i := 81) rfl) rfl
theorem jw_1042 : (Jvm.Cond.selects "CoinNode$Machine" ({ cls := "CoinNode$Machine", name := "publicKeySize", desc := "()I" } : Jvm.MethodName) ({ cls := "CoinNode$Machine", name := "publicKeySize", desc := "()I" } : Jvm.MethodName)) ∈ jws := jws_5 (List.mem_of_getElem? (i := 82) rfl) rfl
theorem jw_1043 : (Jvm.Cond.code ({ cls := "CoinNode$Machine", name := "publicKeySize", desc := "()I" } : Jvm.MethodName) prog_6_method_25_code (1 : Nat) (Option.some Jvm.ClassFile.FieldType.int)) ∈ jws := jws_5 (List.mem_of_getElem? (i := 83) rfl) rfl
theorem jw_1044 : (Jvm.Cond.methodLink "CoinNode$Scripts" (94 : Nat) ({ cls := "CoinNode$Signature", name := "setKey", desc := "([BI)Z" } : Jvm.MethodName)) ∈ jws := jws_5 (List.mem_of_getElem? (i := 84) rfl) rfl
theorem jw_1045 : (Jvm.Cond.instanceMethod ({ cls := "CoinNode$Signature", name := "setKey", desc := "([BI)Z" } : Jvm.MethodName)) ∈ jws := jws_5 (List.mem_of_getElem? (i := 85) rfl) rfl
theorem jw_1046 : (Jvm.Cond.selects "CoinNode$Signature" ({ cls := "CoinNode$Signature", name := "setKey", desc := "([BI)Z" } : Jvm.MethodName) ({ cls := "CoinNode$Signature", name := "setKey", desc := "([BI)Z" } : Jvm.MethodName)) ∈ jws := jws_5 (List.mem_of_getElem? (i := 86) rfl) rfl
theorem jw_1047 : (Jvm.Cond.code ({ cls := "CoinNode$Signature", name := "setKey", desc := "([BI)Z" } : Jvm.MethodName) prog_10_method_4_code (9 : Nat) (Option.some Jvm.ClassFile.FieldType.boolean)) ∈ jws := jws_5 (List.mem_of_getElem? (i := 87) rfl) rfl
theorem jw_1048 : (Jvm.Cond.methodLink "CoinNode$Signature" (92 : Nat) ({ cls := "CoinNode$Signature", name := "spread", desc := "([I[J)V" } : Jvm.MethodName)) ∈ jws := jws_5 (List.mem_of_getElem? (i := 88) rfl) rfl
theorem jw_1049 : (Jvm.Cond.static ({ cls := "CoinNode$Signature", name := "spread", desc := "([I[J)V" } : Jvm.MethodName)) ∈ jws := jws_5 (List.mem_of_getElem? (i := 89) rfl) rfl
theorem jw_1050 : (Jvm.Cond.code ({ cls := "CoinNode$Signature", name := "spread", desc := "([I[J)V" } : Jvm.MethodName) prog_10_method_11_code (9 : Nat) (Option.none : Option Jvm.ClassFile.FieldType)) ∈ jws := jws_5 (List.mem_of_getElem? (i := 90) rfl) rfl
theorem jw_1051 : (Jvm.Cond.constantLong "CoinNode$Signature" (182 : Nat) (67108863 : Int64)) ∈ jws := jws_5 (List.mem_of_getElem? (i := 91) rfl) rfl
theorem jw_1052 : (Jvm.Cond.fieldLink "CoinNode$Signature" (96 : Nat) "CoinNode$Signature" "PRIME" "[I") ∈ jws := jws_5 (List.mem_of_getElem? (i := 92) rfl) rfl
theorem jw_1054 : (Jvm.Cond.methodLink "CoinNode$Signature" (99 : Nat) ({ cls := "CoinNode$Point", name := "multiply", desc := "([J[J[J)V" } : Jvm.MethodName)) ∈ jws := jws_5 (List.mem_of_getElem? (i := 94) rfl) rfl
theorem jw_1055 : (Jvm.Cond.static ({ cls := "CoinNode$Point", name := "multiply", desc := "([J[J[J)V" } : Jvm.MethodName)) ∈ jws := jws_5 (List.mem_of_getElem? (i := 95) rfl) rfl
theorem jw_1056 : (Jvm.Cond.code ({ cls := "CoinNode$Point", name := "multiply", desc := "([J[J[J)V" } : Jvm.MethodName) prog_7_method_10_code (67 : Nat) (Option.none : Option Jvm.ClassFile.FieldType)) ∈ jws := jws_5 (List.mem_of_getElem? (i := 96) rfl) rfl
theorem jw_1057 : (Jvm.Cond.constantLong "CoinNode$Point" (67 : Nat) (67108863 : Int64)) ∈ jws := jws_5 (List.mem_of_getElem? (i := 97) rfl) rfl
theorem jw_1058 : (Jvm.Cond.constantLong "CoinNode$Point" (69 : Nat) (15632 : Int64)) ∈ jws := jws_5 (List.mem_of_getElem? (i := 98) rfl) rfl
theorem jw_1059 : (Jvm.Cond.constantLong "CoinNode$Point" (71 : Nat) (1024 : Int64)) ∈ jws := jws_5 (List.mem_of_getElem? (i := 99) rfl) rfl
theorem jw_1060 : (Jvm.Cond.constantLong "CoinNode$Signature" (103 : Nat) (7 : Int64)) ∈ jws := jws_5 (List.mem_of_getElem? (i := 100) rfl) rfl
theorem jw_1061 : (Jvm.Cond.methodLink "CoinNode$Signature" (107 : Nat) ({ cls := "CoinNode$Point", name := "root", desc := "([J[J[[J)V" } : Jvm.MethodName)) ∈ jws := jws_5 (List.mem_of_getElem? (i := 101) rfl) rfl
theorem jw_1062 : (Jvm.Cond.static ({ cls := "CoinNode$Point", name := "root", desc := "([J[J[[J)V" } : Jvm.MethodName)) ∈ jws := jws_5 (List.mem_of_getElem? (i := 102) rfl) rfl
theorem jw_1063 : (Jvm.Cond.code ({ cls := "CoinNode$Point", name := "root", desc := "([J[J[[J)V" } : Jvm.MethodName) prog_7_method_6_code (6 : Nat) (Option.none : Option Jvm.ClassFile.FieldType)) ∈ jws := jws_5 (List.mem_of_getElem? (i := 103) rfl) rfl
theorem jw_1064 : (Jvm.Cond.methodLink "CoinNode$Point" (35 : Nat) ({ cls := "CoinNode$Point", name := "mix", desc := "([J[JJ[JJ)V" } : Jvm.MethodName)) ∈ jws := jws_5 (List.mem_of_getElem? (i := 104) rfl) rfl
theorem jw_1065 : (Jvm.Cond.static ({ cls := "CoinNode$Point", name := "mix", desc := "([J[JJ[JJ)V" } : Jvm.MethodName)) ∈ jws := jws_5 (List.mem_of_getElem? (i := 105) rfl) rfl
theorem jw_1066 : (Jvm.Cond.code ({ cls := "CoinNode$Point", name := "mix", desc := "([J[JJ[JJ)V" } : Jvm.MethodName) prog_7_method_7_code (8 : Nat) (Option.none : Option Jvm.ClassFile.FieldType)) ∈ jws := jws_5 (List.mem_of_getElem? (i := 106) rfl) rfl
theorem jw_1067 : (Jvm.Cond.fieldLink "CoinNode$Point" (63 : Nat) "CoinNode$Point" "ROOT" "[I") ∈ jws := jws_5 (List.mem_of_getElem? (i := 107) rfl) rfl
theorem jw_1069 : (Jvm.Cond.methodLink "CoinNode$Point" (29 : Nat) ({ cls := "CoinNode$Point", name := "multiply", desc := "([J[J[J)V" } : Jvm.MethodName)) ∈ jws := jws_5 (List.mem_of_getElem? (i := 109) rfl) rfl
theorem jw_1070 : (Jvm.Cond.constantLong "CoinNode$Signature" (111 : Nat) (-1 : Int64)) ∈ jws := jws_5 (List.mem_of_getElem? (i := 110) rfl) rfl
theorem jw_1071 : (Jvm.Cond.methodLink "CoinNode$Signature" (113 : Nat) ({ cls := "CoinNode$Point", name := "mix", desc := "([J[JJ[JJ)V" } : Jvm.MethodName)) ∈ jws := jws_5 (List.mem_of_getElem? (i := 111) rfl) rfl
theorem jw_1072 : (Jvm.Cond.methodLink "CoinNode$Signature" (117 : Nat) ({ cls := "CoinNode$Point", name := "normalize", desc := "([J)Z" } : Jvm.MethodName)) ∈ jws := jws_5 (List.mem_of_getElem? (i := 112) rfl) rfl
theorem jw_1073 : (Jvm.Cond.static ({ cls := "CoinNode$Point", name := "normalize", desc := "([J)Z" } : Jvm.MethodName)) ∈ jws := jws_5 (List.mem_of_getElem? (i := 113) rfl) rfl
theorem jw_1074 : (Jvm.Cond.code ({ cls := "CoinNode$Point", name := "normalize", desc := "([J)Z" } : Jvm.MethodName) prog_7_method_9_code (6 : Nat) (Option.some Jvm.ClassFile.FieldType.boolean)) ∈ jws := jws_5 (List.mem_of_getElem? (i := 114) rfl) rfl
theorem jw_1075 : (Jvm.Cond.constantLong "CoinNode$Point" (73 : Nat) (4194303 : Int64)) ∈ jws := jws_5 (List.mem_of_getElem? (i := 115) rfl) rfl
theorem jw_1076 : (Jvm.Cond.constantLong "CoinNode$Point" (75 : Nat) (977 : Int64)) ∈ jws := jws_5 (List.mem_of_getElem? (i := 116) rfl) rfl
theorem jw_1077 : (Jvm.Cond.constantLong "CoinNode$Point" (77 : Nat) (64 : Int64)) ∈ jws := jws_5 (List.mem_of_getElem? (i := 117) rfl) rfl
theorem jw_1078 : (Jvm.Cond.methodLink "CoinNode$Signature" (121 : Nat) ({ cls := "CoinNode$Point", name := "unit", desc := "()V" } : Jvm.MethodName)) ∈ jws := jws_5 (List.mem_of_getElem? (i := 118) rfl) rfl
theorem jw_1079 : (Jvm.Cond.instanceMethod ({ cls := "CoinNode$Point", name := "unit", desc := "()V" } : Jvm.MethodName)) ∈ jws := jws_5 (List.mem_of_getElem? (i := 119) rfl) rfl
theorem jw_1080 : (Jvm.Cond.selects "CoinNode$Point" ({ cls := "CoinNode$Point", name := "unit", desc := "()V" } : Jvm.MethodName) ({ cls := "CoinNode$Point", name := "unit", desc := "()V" } : Jvm.MethodName)) ∈ jws := jws_5 (List.mem_of_getElem? (i := 120) rfl) rfl
theorem jw_1081 : (Jvm.Cond.code ({ cls := "CoinNode$Point", name := "unit", desc := "()V" } : Jvm.MethodName) prog_7_method_2_code (1 : Nat) (Option.none : Option Jvm.ClassFile.FieldType)) ∈ jws := jws_5 (List.mem_of_getElem? (i := 121) rfl) rfl
theorem jw_1082 : (Jvm.Cond.methodLink "CoinNode$Point" (23 : Nat) ({ cls := "java/util/Arrays", name := "fill", desc := "([JJ)V" } : Jvm.MethodName)) ∈ jws := jws_5 (List.mem_of_getElem? (i := 122) rfl) rfl
theorem jw_1083 : (Jvm.Cond.static ({ cls := "java/util/Arrays", name := "fill", desc := "([JJ)V" } : Jvm.MethodName)) ∈ jws := jws_5 (List.mem_of_getElem? (i := 123) rfl) rfl
theorem jw_1084 : (Jvm.Cond.code ({ cls := "java/util/Arrays", name := "fill", desc := "([JJ)V" } : Jvm.MethodName) prog_25_method_101_code (5 : Nat) (Option.none : Option Jvm.ClassFile.FieldType)) ∈ jws := jws_5 (List.mem_of_getElem? (i := 124) rfl) rfl
theorem jw_1085 : (Jvm.Cond.methodLink "CoinNode$Signature" (124 : Nat) ({ cls := "CoinNode$Point", name := "set", desc := "(LCoinNode$Point;Z)V" } : Jvm.MethodName)) ∈ jws := jws_5 (List.mem_of_getElem? (i := 125) rfl) rfl
theorem jw_1086 : (Jvm.Cond.instanceMethod ({ cls := "CoinNode$Point", name := "set", desc := "(LCoinNode$Point;Z)V" } : Jvm.MethodName)) ∈ jws := jws_5 (List.mem_of_getElem? (i := 126) rfl) rfl
theorem jw_1087 : (Jvm.Cond.selects "CoinNode$Point" ({ cls := "CoinNode$Point", name := "set", desc := "(LCoinNode$Point;Z)V" } : Jvm.MethodName) ({ cls := "CoinNode$Point", name := "set", desc := "(LCoinNode$Point;Z)V" } : Jvm.MethodName)) ∈ jws := jws_5 (List.mem_of_getElem? (i := 127) rfl) rfl
theorem jw_1088 : (Jvm.Cond.code ({ cls := "CoinNode$Point", name := "set", desc := "(LCoinNode$Point;Z)V" } : Jvm.MethodName) prog_7_method_3_code (4 : Nat) (Option.none : Option Jvm.ClassFile.FieldType)) ∈ jws := jws_5 (List.mem_of_getElem? (i := 128) rfl) rfl
theorem jw_1089 : (Jvm.Cond.methodLink "CoinNode$Signature" (127 : Nat) ({ cls := "CoinNode$Point", name := "twice", desc := "([[J)V" } : Jvm.MethodName)) ∈ jws := jws_5 (List.mem_of_getElem? (i := 129) rfl) rfl
theorem jw_1090 : (Jvm.Cond.instanceMethod ({ cls := "CoinNode$Point", name := "twice", desc := "([[J)V" } : Jvm.MethodName)) ∈ jws := jws_5 (List.mem_of_getElem? (i := 130) rfl) rfl
theorem jw_1091 : (Jvm.Cond.selects "CoinNode$Point" ({ cls := "CoinNode$Point", name := "twice", desc := "([[J)V" } : Jvm.MethodName) ({ cls := "CoinNode$Point", name := "twice", desc := "([[J)V" } : Jvm.MethodName)) ∈ jws := jws_5 (List.mem_of_getElem? (i := 131) rfl) rfl
theorem jw_1092 : (Jvm.Cond.code ({ cls := "CoinNode$Point", name := "twice", desc := "([[J)V" } : Jvm.MethodName) prog_7_method_4_code (6 : Nat) (Option.none : Option Jvm.ClassFile.FieldType)) ∈ jws := jws_5 (List.mem_of_getElem? (i := 132) rfl) rfl
theorem jw_1093 : (Jvm.Cond.constantLong "CoinNode$Point" (33 : Nat) (2 : Int64)) ∈ jws := jws_5 (List.mem_of_getElem? (i := 133) rfl) rfl
theorem jw_1094 : (Jvm.Cond.constantLong "CoinNode$Point" (39 : Nat) (9 : Int64)) ∈ jws := jws_5 (List.mem_of_getElem? (i := 134) rfl) rfl
theorem jw_1095 : (Jvm.Cond.constantLong "CoinNode$Point" (41 : Nat) (-8 : Int64)) ∈ jws := jws_5 (List.mem_of_getElem? (i := 135) rfl) rfl
theorem jw_1096 : (Jvm.Cond.methodLink "CoinNode$Point" (43 : Nat) ({ cls := "CoinNode$Point", name := "settle", desc := "([J)V" } : Jvm.MethodName)) ∈ jws := jws_5 (List.mem_of_getElem? (i := 136) rfl) rfl
theorem jw_1097 : (Jvm.Cond.static ({ cls := "CoinNode$Point", name := "settle", desc := "([J)V" } : Jvm.MethodName)) ∈ jws := jws_5 (List.mem_of_getElem? (i := 137) rfl) rfl
theorem jw_1098 : (Jvm.Cond.code ({ cls := "CoinNode$Point", name := "settle", desc := "([J)V" } : Jvm.MethodName) prog_7_method_8_code (3 : Nat) (Option.none : Option Jvm.ClassFile.FieldType)) ∈ jws := jws_5 (List.mem_of_getElem? (i := 138) rfl) rfl
theorem jw_1099 : (Jvm.Cond.constantLong "CoinNode$Point" (47 : Nat) (4 : Int64)) ∈ jws := jws_5 (List.mem_of_getElem? (i := 139) rfl) rfl
theorem jw_1100 : (Jvm.Cond.constantLong "CoinNode$Point" (49 : Nat) (-1 : Int64)) ∈ jws := jws_5 (List.mem_of_getElem? (i := 140) rfl) rfl
theorem jw_1101 : (Jvm.Cond.constantLong "CoinNode$Point" (51 : Nat) (3 : Int64)) ∈ jws := jws_5 (List.mem_of_getElem? (i := 141) rfl) rfl
theorem jw_1102 : (Jvm.Cond.methodLink "CoinNode$Signature" (130 : Nat) ({ cls := "CoinNode$Point", name := "add", desc := "(LCoinNode$Point;Z[[J)Z" } : Jvm.MethodName)) ∈ jws := jws_5 (List.mem_of_getElem? (i := 142) rfl) rfl
theorem jw_1103 : (Jvm.Cond.instanceMethod ({ cls := "CoinNode$Point", name := "add", desc := "(LCoinNode$Point;Z[[J)Z" } : Jvm.MethodName)) ∈ jws := jws_5 (List.mem_of_getElem? (i := 143) rfl) rfl
theorem jw_1104 : (Jvm.Cond.selects "CoinNode$Point" ({ cls := "CoinNode$Point", name := "add", desc := "(LCoinNode$Point;Z[[J)Z" } : Jvm.MethodName) ({ cls := "CoinNode$Point", name := "add", desc := "(LCoinNode$Point;Z[[J)Z" } : Jvm.MethodName)) ∈ jws := jws_5 (List.mem_of_getElem? (i := 144) rfl) rfl
theorem jw_1105 : (Jvm.Cond.code ({ cls := "CoinNode$Point", name := "add", desc := "(LCoinNode$Point;Z[[J)Z" } : Jvm.MethodName) prog_7_method_5_code (10 : Nat) (Option.some Jvm.ClassFile.FieldType.boolean)) ∈ jws := jws_5 (List.mem_of_getElem? (i := 145) rfl) rfl
theorem jw_1106 : (Jvm.Cond.methodLink "CoinNode$Point" (53 : Nat) ({ cls := "CoinNode$Point", name := "set", desc := "(LCoinNode$Point;Z)V" } : Jvm.MethodName)) ∈ jws := jws_5 (List.mem_of_getElem? (i := 146) rfl) rfl
theorem jw_1107 : (Jvm.Cond.methodLink "CoinNode$Point" (57 : Nat) ({ cls := "CoinNode$Point", name := "normalize", desc := "([J)Z" } : Jvm.MethodName)) ∈ jws := jws_5 (List.mem_of_getElem? (i := 147) rfl) rfl
theorem jw_1108 : (Jvm.Cond.constantLong "CoinNode$Point" (61 : Nat) (-2 : Int64)) ∈ jws := jws_5 (List.mem_of_getElem? (i := 148) rfl) rfl
theorem jw_1109 : (Jvm.Cond.methodLink "CoinNode$Scripts" (100 : Nat) ({ cls := "CoinNode$Scripts", name := "write", desc := "(LCoinNode$Tx;ILCoinNode$Tx;II)V" } : Jvm.MethodName)) ∈ jws := jws_5 (List.mem_of_getElem? (i := 149) rfl) rfl
theorem jw_1111 : (Jvm.Cond.instanceMethod ({ cls := "CoinNode$Scripts", name := "write", desc := "(LCoinNode$Tx;ILCoinNode$Tx;II)V" } : Jvm.MethodName)) ∈ jws := jws_5 (List.mem_of_getElem? (i := 151) rfl) rfl
theorem jw_1112 : (Jvm.Cond.code ({ cls := "CoinNode$Scripts", name := "write", desc := "(LCoinNode$Tx;ILCoinNode$Tx;II)V" } : Jvm.MethodName) prog_9_method_4_code (11 : Nat) (Option.none : Option Jvm.ClassFile.FieldType)) ∈ jws := jws_5 (List.mem_of_getElem? (i := 152) rfl) rfl
theorem jw_1113 : (Jvm.Cond.methodLink "CoinNode$Scripts" (140 : Nat) ({ cls := "CoinNode$Scripts", name := "put", desc := "([BII)V" } : Jvm.MethodName)) ∈ jws := jws_5 (List.mem_of_getElem? (i := 153) rfl) rfl
theorem jw_1115 : (Jvm.Cond.instanceMethod ({ cls := "CoinNode$Scripts", name := "put", desc := "([BII)V" } : Jvm.MethodName)) ∈ jws := jws_5 (List.mem_of_getElem? (i := 155) rfl) rfl
theorem jw_1116 : (Jvm.Cond.code ({ cls := "CoinNode$Scripts", name := "put", desc := "([BII)V" } : Jvm.MethodName) prog_9_method_5_code (4 : Nat) (Option.none : Option Jvm.ClassFile.FieldType)) ∈ jws := jws_5 (List.mem_of_getElem? (i := 156) rfl) rfl
theorem jw_1117 : (Jvm.Cond.methodLink "CoinNode$Scripts" (150 : Nat) ({ cls := "java/lang/System", name := "arraycopy", desc := "(Ljava/lang/Object;ILjava/lang/Object;II)V" } : Jvm.MethodName)) ∈ jws := jws_5 (List.mem_of_getElem? (i := 157) rfl) rfl
theorem jw_1118 : (Jvm.Cond.methodLink "CoinNode$Scripts" (143 : Nat) ({ cls := "CoinNode$Scripts", name := "fill", desc := "(II)V" } : Jvm.MethodName)) ∈ jws := jws_5 (List.mem_of_getElem? (i := 158) rfl) rfl
theorem jw_1120 : (Jvm.Cond.instanceMethod ({ cls := "CoinNode$Scripts", name := "fill", desc := "(II)V" } : Jvm.MethodName)) ∈ jws := jws_5 (List.mem_of_getElem? (i := 160) rfl) rfl
theorem jw_1121 : (Jvm.Cond.code ({ cls := "CoinNode$Scripts", name := "fill", desc := "(II)V" } : Jvm.MethodName) prog_9_method_6_code (4 : Nat) (Option.none : Option Jvm.ClassFile.FieldType)) ∈ jws := jws_5 (List.mem_of_getElem? (i := 161) rfl) rfl
theorem jw_1122 : (Jvm.Cond.methodLink "CoinNode$Scripts" (107 : Nat) ({ cls := "CoinNode$Hash", name := "name", desc := "([BII[B)V" } : Jvm.MethodName)) ∈ jws := jws_5 (List.mem_of_getElem? (i := 162) rfl) rfl
theorem jw_1123 : (Jvm.Cond.methodLink "CoinNode$Scripts" (112 : Nat) ({ cls := "CoinNode$Signature", name := "setBase", desc := "()V" } : Jvm.MethodName)) ∈ jws := jws_5 (List.mem_of_getElem? (i := 163) rfl) rfl
theorem jw_1124 : (Jvm.Cond.instanceMethod ({ cls := "CoinNode$Signature", name := "setBase", desc := "()V" } : Jvm.MethodName)) ∈ jws := jws_5 (List.mem_of_getElem? (i := 164) rfl) rfl
theorem jw_1125 : (Jvm.Cond.selects "CoinNode$Signature" ({ cls := "CoinNode$Signature", name := "setBase", desc := "()V" } : Jvm.MethodName) ({ cls := "CoinNode$Signature", name := "setBase", desc := "()V" } : Jvm.MethodName)) ∈ jws := jws_5 (List.mem_of_getElem? (i := 165) rfl) rfl
theorem jw_1126 : (Jvm.Cond.code ({ cls := "CoinNode$Signature", name := "setBase", desc := "()V" } : Jvm.MethodName) prog_10_method_5_code (2 : Nat) (Option.none : Option Jvm.ClassFile.FieldType)) ∈ jws := jws_5 (List.mem_of_getElem? (i := 166) rfl) rfl
theorem jw_1127 : (Jvm.Cond.fieldLink "CoinNode$Signature" (138 : Nat) "CoinNode$Signature" "BASE_X" "[I") ∈ jws := jws_5 (List.mem_of_getElem? (i := 167) rfl) rfl
theorem jw_1129 : (Jvm.Cond.fieldLink "CoinNode$Signature" (141 : Nat) "CoinNode$Signature" "BASE_Y" "[I") ∈ jws := jws_5 (List.mem_of_getElem? (i := 169) rfl) rfl
theorem jw_1131 : (Jvm.Cond.methodLink "CoinNode$Scripts" (115 : Nat) ({ cls := "CoinNode$Signature", name := "holds", desc := "([BZ)Z" } : Jvm.MethodName)) ∈ jws := jws_5 (List.mem_of_getElem? (i := 171) rfl) rfl
theorem jw_1132 : (Jvm.Cond.instanceMethod ({ cls := "CoinNode$Signature", name := "holds", desc := "([BZ)Z" } : Jvm.MethodName)) ∈ jws := jws_5 (List.mem_of_getElem? (i := 172) rfl) rfl
theorem jw_1133 : (Jvm.Cond.selects "CoinNode$Signature" ({ cls := "CoinNode$Signature", name := "holds", desc := "([BZ)Z" } : Jvm.MethodName) ({ cls := "CoinNode$Signature", name := "holds", desc := "([BZ)Z" } : Jvm.MethodName)) ∈ jws := jws_5 (List.mem_of_getElem? (i := 173) rfl) rfl
theorem jw_1134 : (Jvm.Cond.code ({ cls := "CoinNode$Signature", name := "holds", desc := "([BZ)Z" } : Jvm.MethodName) prog_10_method_6_code (8 : Nat) (Option.some Jvm.ClassFile.FieldType.boolean)) ∈ jws := jws_5 (List.mem_of_getElem? (i := 174) rfl) rfl
theorem jw_1135 : (Jvm.Cond.methodLink "CoinNode$Signature" (144 : Nat) ({ cls := "CoinNode$Signature", name := "invert", desc := "([I)V" } : Jvm.MethodName)) ∈ jws := jws_5 (List.mem_of_getElem? (i := 175) rfl) rfl
theorem jw_1137 : (Jvm.Cond.instanceMethod ({ cls := "CoinNode$Signature", name := "invert", desc := "([I)V" } : Jvm.MethodName)) ∈ jws := jws_5 (List.mem_of_getElem? (i := 177) rfl) rfl
theorem jw_1138 : (Jvm.Cond.code ({ cls := "CoinNode$Signature", name := "invert", desc := "([I)V" } : Jvm.MethodName) prog_10_method_13_code (4 : Nat) (Option.none : Option Jvm.ClassFile.FieldType)) ∈ jws := jws_5 (List.mem_of_getElem? (i := 178) rfl) rfl
theorem jw_1139 : (Jvm.Cond.methodLink "CoinNode$Signature" (148 : Nat) ({ cls := "CoinNode$Signature", name := "multiply", desc := "([I[I[I)V" } : Jvm.MethodName)) ∈ jws := jws_5 (List.mem_of_getElem? (i := 179) rfl) rfl
theorem jw_1141 : (Jvm.Cond.instanceMethod ({ cls := "CoinNode$Signature", name := "multiply", desc := "([I[I[I)V" } : Jvm.MethodName)) ∈ jws := jws_5 (List.mem_of_getElem? (i := 181) rfl) rfl
theorem jw_1142 : (Jvm.Cond.code ({ cls := "CoinNode$Signature", name := "multiply", desc := "([I[I[I)V" } : Jvm.MethodName) prog_10_method_12_code (12 : Nat) (Option.none : Option Jvm.ClassFile.FieldType)) ∈ jws := jws_5 (List.mem_of_getElem? (i := 182) rfl) rfl
theorem jw_1143 : (Jvm.Cond.fieldLink "CoinNode$Signature" (184 : Nat) "CoinNode$Signature" "OVER" "[I") ∈ jws := jws_5 (List.mem_of_getElem? (i := 183) rfl) rfl
theorem jw_1145 : (Jvm.Cond.methodLink "CoinNode$Signature" (187 : Nat) ({ cls := "java/lang/System", name := "arraycopy", desc := "(Ljava/lang/Object;ILjava/lang/Object;II)V" } : Jvm.MethodName)) ∈ jws := jws_5 (List.mem_of_getElem? (i := 185) rfl) rfl
theorem jw_1146 : (Jvm.Cond.methodLink "CoinNode$Signature" (151 : Nat) ({ cls := "CoinNode$Signature", name := "setDigits", desc := "([I[I)V" } : Jvm.MethodName)) ∈ jws := jws_5 (List.mem_of_getElem? (i := 186) rfl) rfl
theorem jw_1147 : (Jvm.Cond.static ({ cls := "CoinNode$Signature", name := "setDigits", desc := "([I[I)V" } : Jvm.MethodName)) ∈ jws := jws_5 (List.mem_of_getElem? (i := 187) rfl) rfl
theorem jw_1148 : (Jvm.Cond.code ({ cls := "CoinNode$Signature", name := "setDigits", desc := "([I[I)V" } : Jvm.MethodName) prog_10_method_14_code (9 : Nat) (Option.none : Option Jvm.ClassFile.FieldType)) ∈ jws := jws_5 (List.mem_of_getElem? (i := 188) rfl) rfl
theorem jw_1149 : (Jvm.Cond.methodLink "CoinNode$Signature" (158 : Nat) ({ cls := "java/lang/Math", name := "abs", desc := "(I)I" } : Jvm.MethodName)) ∈ jws := jws_5 (List.mem_of_getElem? (i := 189) rfl) rfl
theorem jw_1150 : (Jvm.Cond.static ({ cls := "java/lang/Math", name := "abs", desc := "(I)I" } : Jvm.MethodName)) ∈ jws := jws_5 (List.mem_of_getElem? (i := 190) rfl) rfl
theorem jw_1151 : (Jvm.Cond.code ({ cls := "java/lang/Math", name := "abs", desc := "(I)I" } : Jvm.MethodName) prog_23_method_59_code (1 : Nat) (Option.some Jvm.ClassFile.FieldType.int)) ∈ jws := jws_5 (List.mem_of_getElem? (i := 191) rfl) rfl
theorem jw_1152 : (Jvm.Cond.methodLink "CoinNode$Signature" (164 : Nat) ({ cls := "CoinNode$Signature", name := "isAtX", desc := "()Z" } : Jvm.MethodName)) ∈ jws := jws_5 (List.mem_of_getElem? (i := 192) rfl) rfl
theorem jw_1154 : (Jvm.Cond.instanceMethod ({ cls := "CoinNode$Signature", name := "isAtX", desc := "()Z" } : Jvm.MethodName)) ∈ jws := jws_5 (List.mem_of_getElem? (i := 194) rfl) rfl
theorem jw_1155 : (Jvm.Cond.code ({ cls := "CoinNode$Signature", name := "isAtX", desc := "()Z" } : Jvm.MethodName) prog_10_method_7_code (5 : Nat) (Option.some Jvm.ClassFile.FieldType.boolean)) ∈ jws := jws_5 (List.mem_of_getElem? (i := 195) rfl) rfl
theorem jw_1156 : (Jvm.Cond.methodLink "CoinNode$Scripts" (119 : Nat) ({ cls := "CoinNode$Machine", name := "answer", desc := "(Z)V" } : Jvm.MethodName)) ∈ jws := jws_5 (List.mem_of_getElem? (i := 196) rfl) rfl
theorem jw_1157 : (Jvm.Cond.instanceMethod ({ cls := "CoinNode$Machine", name := "answer", desc := "(Z)V" } : Jvm.MethodName)) ∈ jws := jws_5 (List.mem_of_getElem? (i := 197) rfl) rfl
theorem jw_1158 : (Jvm.Cond.selects "CoinNode$Machine" ({ cls := "CoinNode$Machine", name := "answer", desc := "(Z)V" } : Jvm.MethodName) ({ cls := "CoinNode$Machine", name := "answer", desc := "(Z)V" } : Jvm.MethodName)) ∈ jws := jws_5 (List.mem_of_getElem? (i := 198) rfl) rfl
theorem jw_1159 : (Jvm.Cond.code ({ cls := "CoinNode$Machine", name := "answer", desc := "(Z)V" } : Jvm.MethodName) prog_6_method_20_code (2 : Nat) (Option.none : Option Jvm.ClassFile.FieldType)) ∈ jws := jws_5 (List.mem_of_getElem? (i := 199) rfl) rfl
theorem jw_1160 : (Jvm.Cond.methodLink "CoinNode$Scripts" (127 : Nat) ({ cls := "CoinNode$Machine", name := "openLast", desc := "([BII)V" } : Jvm.MethodName)) ∈ jws := jws_5 (List.mem_of_getElem? (i := 200) rfl) rfl
theorem jw_1161 : (Jvm.Cond.instanceMethod ({ cls := "CoinNode$Machine", name := "openLast", desc := "([BII)V" } : Jvm.MethodName)) ∈ jws := jws_5 (List.mem_of_getElem? (i := 201) rfl) rfl
theorem jw_1162 : (Jvm.Cond.selects "CoinNode$Machine" ({ cls := "CoinNode$Machine", name := "openLast", desc := "([BII)V" } : Jvm.MethodName) ({ cls := "CoinNode$Machine", name := "openLast", desc := "([BII)V" } : Jvm.MethodName)) ∈ jws := jws_5 (List.mem_of_getElem? (i := 202) rfl) rfl
theorem jw_1163 : (Jvm.Cond.code ({ cls := "CoinNode$Machine", name := "openLast", desc := "([BII)V" } : Jvm.MethodName) prog_6_method_3_code (4 : Nat) (Option.none : Option Jvm.ClassFile.FieldType)) ∈ jws := jws_5 (List.mem_of_getElem? (i := 203) rfl) rfl
theorem jw_1164 : (Jvm.Cond.methodLink "CoinNode$Machine" (49 : Nat) ({ cls := "CoinNode$Machine", name := "open", desc := "([BII)V" } : Jvm.MethodName)) ∈ jws := jws_5 (List.mem_of_getElem? (i := 204) rfl) rfl
theorem jw_1165 : (Jvm.Cond.methodLink "CoinNode$Scripts" (130 : Nat) ({ cls := "CoinNode$Machine", name := "isHappy", desc := "()Z" } : Jvm.MethodName)) ∈ jws := jws_5 (List.mem_of_getElem? (i := 205) rfl) rfl
theorem jw_1166 : (Jvm.Cond.instanceMethod ({ cls := "CoinNode$Machine", name := "isHappy", desc := "()Z" } : Jvm.MethodName)) ∈ jws := jws_5 (List.mem_of_getElem? (i := 206) rfl) rfl
theorem jw_1167 : (Jvm.Cond.selects "CoinNode$Machine" ({ cls := "CoinNode$Machine", name := "isHappy", desc := "()Z" } : Jvm.MethodName) ({ cls := "CoinNode$Machine", name := "isHappy", desc := "()Z" } : Jvm.MethodName)) ∈ jws := jws_5 (List.mem_of_getElem? (i := 207) rfl) rfl
theorem jw_1168 : (Jvm.Cond.code ({ cls := "CoinNode$Machine", name := "isHappy", desc := "()Z" } : Jvm.MethodName) prog_6_method_5_code (1 : Nat) (Option.some Jvm.ClassFile.FieldType.boolean)) ∈ jws := jws_5 (List.mem_of_getElem? (i := 208) rfl) rfl
theorem jw_1169 : (Jvm.Cond.methodLink "CoinNode$Pool" (81 : Nat) ({ cls := "CoinNode$Pool", name := "knot", desc := "(LCoinNode$Tx;)I" } : Jvm.MethodName)) ∈ jws := jws_5 (List.mem_of_getElem? (i := 209) rfl) rfl
theorem jw_1171 : (Jvm.Cond.instanceMethod ({ cls := "CoinNode$Pool", name := "knot", desc := "(LCoinNode$Tx;)I" } : Jvm.MethodName)) ∈ jws := jws_5 (List.mem_of_getElem? (i := 211) rfl) rfl
theorem jw_1172 : (Jvm.Cond.code ({ cls := "CoinNode$Pool", name := "knot", desc := "(LCoinNode$Tx;)I" } : Jvm.MethodName) prog_8_method_8_code (4 : Nat) (Option.some Jvm.ClassFile.FieldType.int)) ∈ jws := jws_5 (List.mem_of_getElem? (i := 212) rfl) rfl
theorem jw_1173 : (Jvm.Cond.methodLink "CoinNode$Pool" (145 : Nat) ({ cls := "CoinNode$Tx", name := "missesOutputOf", desc := "(LCoinNode$Tx;)Z" } : Jvm.MethodName)) ∈ jws := jws_5 (List.mem_of_getElem? (i := 213) rfl) rfl
theorem jw_1174 : (Jvm.Cond.instanceMethod ({ cls := "CoinNode$Tx", name := "missesOutputOf", desc := "(LCoinNode$Tx;)Z" } : Jvm.MethodName)) ∈ jws := jws_5 (List.mem_of_getElem? (i := 214) rfl) rfl
theorem jw_1175 : (Jvm.Cond.selects "CoinNode$Tx" ({ cls := "CoinNode$Tx", name := "missesOutputOf", desc := "(LCoinNode$Tx;)Z" } : Jvm.MethodName) ({ cls := "CoinNode$Tx", name := "missesOutputOf", desc := "(LCoinNode$Tx;)Z" } : Jvm.MethodName)) ∈ jws := jws_5 (List.mem_of_getElem? (i := 215) rfl) rfl
theorem jw_1176 : (Jvm.Cond.code ({ cls := "CoinNode$Tx", name := "missesOutputOf", desc := "(LCoinNode$Tx;)Z" } : Jvm.MethodName) prog_12_method_17_code (4 : Nat) (Option.some Jvm.ClassFile.FieldType.boolean)) ∈ jws := jws_5 (List.mem_of_getElem? (i := 216) rfl) rfl
theorem jw_1177 : (Jvm.Cond.methodLink "CoinNode$Pool" (148 : Nat) ({ cls := "CoinNode$Pool", name := "markKin", desc := "(LCoinNode$Tx;)V" } : Jvm.MethodName)) ∈ jws := jws_5 (List.mem_of_getElem? (i := 217) rfl) rfl
theorem jw_1179 : (Jvm.Cond.instanceMethod ({ cls := "CoinNode$Pool", name := "markKin", desc := "(LCoinNode$Tx;)V" } : Jvm.MethodName)) ∈ jws := jws_5 (List.mem_of_getElem? (i := 219) rfl) rfl
theorem jw_1180 : (Jvm.Cond.code ({ cls := "CoinNode$Pool", name := "markKin", desc := "(LCoinNode$Tx;)V" } : Jvm.MethodName) prog_8_method_9_code (6 : Nat) (Option.none : Option Jvm.ClassFile.FieldType)) ∈ jws := jws_5 (List.mem_of_getElem? (i := 220) rfl) rfl
theorem jw_1181 : (Jvm.Cond.methodLink "CoinNode$Pool" (152 : Nat) ({ cls := "CoinNode$Tx", name := "spendsOf", desc := "(LCoinNode$Tx;)Z" } : Jvm.MethodName)) ∈ jws := jws_5 (List.mem_of_getElem? (i := 221) rfl) rfl
theorem jw_1182 : (Jvm.Cond.instanceMethod ({ cls := "CoinNode$Tx", name := "spendsOf", desc := "(LCoinNode$Tx;)Z" } : Jvm.MethodName)) ∈ jws := jws_5 (List.mem_of_getElem? (i := 222) rfl) rfl
theorem jw_1183 : (Jvm.Cond.selects "CoinNode$Tx" ({ cls := "CoinNode$Tx", name := "spendsOf", desc := "(LCoinNode$Tx;)Z" } : Jvm.MethodName) ({ cls := "CoinNode$Tx", name := "spendsOf", desc := "(LCoinNode$Tx;)Z" } : Jvm.MethodName)) ∈ jws := jws_5 (List.mem_of_getElem? (i := 223) rfl) rfl
theorem jw_1184 : (Jvm.Cond.code ({ cls := "CoinNode$Tx", name := "spendsOf", desc := "(LCoinNode$Tx;)Z" } : Jvm.MethodName) prog_12_method_15_code (3 : Nat) (Option.some Jvm.ClassFile.FieldType.boolean)) ∈ jws := jws_5 (List.mem_of_getElem? (i := 224) rfl) rfl
theorem jw_1185 : (Jvm.Cond.methodLink "CoinNode$Pool" (91 : Nat) ({ cls := "CoinNode$Pool", name := "dropLeast", desc := "(LCoinNode$Tx;)Z" } : Jvm.MethodName)) ∈ jws := jws_5 (List.mem_of_getElem? (i := 225) rfl) rfl
theorem jw_1187 : (Jvm.Cond.instanceMethod ({ cls := "CoinNode$Pool", name := "dropLeast", desc := "(LCoinNode$Tx;)Z" } : Jvm.MethodName)) ∈ jws := jws_5 (List.mem_of_getElem? (i := 227) rfl) rfl
theorem jw_1188 : (Jvm.Cond.code ({ cls := "CoinNode$Pool", name := "dropLeast", desc := "(LCoinNode$Tx;)Z" } : Jvm.MethodName) prog_8_method_10_code (13 : Nat) (Option.some Jvm.ClassFile.FieldType.boolean)) ∈ jws := jws_5 (List.mem_of_getElem? (i := 228) rfl) rfl
theorem jw_1189 : (Jvm.Cond.methodLink "CoinNode$Pool" (158 : Nat) ({ cls := "CoinNode$Pool", name := "isDearer", desc := "(JJJJ)Z" } : Jvm.MethodName)) ∈ jws := jws_5 (List.mem_of_getElem? (i := 229) rfl) rfl
theorem jw_1190 : (Jvm.Cond.static ({ cls := "CoinNode$Pool", name := "isDearer", desc := "(JJJJ)Z" } : Jvm.MethodName)) ∈ jws := jws_5 (List.mem_of_getElem? (i := 230) rfl) rfl
theorem jw_1191 : (Jvm.Cond.code ({ cls := "CoinNode$Pool", name := "isDearer", desc := "(JJJJ)Z" } : Jvm.MethodName) prog_8_method_11_code (12 : Nat) (Option.some Jvm.ClassFile.FieldType.boolean)) ∈ jws := jws_5 (List.mem_of_getElem? (i := 231) rfl) rfl
theorem jw_1192 : (Jvm.Cond.methodLink "CoinNode" (196 : Nat) ({ cls := "CoinNode", name := "tellOthers", desc := "(II[B)V" } : Jvm.MethodName)) ∈ jws := jws_5 (List.mem_of_getElem? (i := 232) rfl) rfl
theorem jw_1194 : (Jvm.Cond.instanceMethod ({ cls := "CoinNode", name := "tellOthers", desc := "(II[B)V" } : Jvm.MethodName)) ∈ jws := jws_5 (List.mem_of_getElem? (i := 234) rfl) rfl
theorem jw_1195 : (Jvm.Cond.code ({ cls := "CoinNode", name := "tellOthers", desc := "(II[B)V" } : Jvm.MethodName) prog_1_method_15_code (5 : Nat) (Option.none : Option Jvm.ClassFile.FieldType)) ∈ jws := jws_5 (List.mem_of_getElem? (i := 235) rfl) rfl
theorem jw_1196 : (Jvm.Cond.methodLink "CoinNode" (211 : Nat) ({ cls := "CoinNode", name := "put", desc := "([BII)V" } : Jvm.MethodName)) ∈ jws := jws_5 (List.mem_of_getElem? (i := 236) rfl) rfl
theorem jw_1198 : (Jvm.Cond.instanceMethod ({ cls := "CoinNode", name := "put", desc := "([BII)V" } : Jvm.MethodName)) ∈ jws := jws_5 (List.mem_of_getElem? (i := 238) rfl) rfl
theorem jw_1199 : (Jvm.Cond.code ({ cls := "CoinNode", name := "put", desc := "([BII)V" } : Jvm.MethodName) prog_1_method_23_code (4 : Nat) (Option.none : Option Jvm.ClassFile.FieldType)) ∈ jws := jws_5 (List.mem_of_getElem? (i := 239) rfl) rfl
theorem jw_1200 : (Jvm.Cond.methodLink "CoinNode" (236 : Nat) ({ cls := "java/lang/System", name := "arraycopy", desc := "(Ljava/lang/Object;ILjava/lang/Object;II)V" } : Jvm.MethodName)) ∈ jws := jws_6 (List.mem_of_getElem? (i := 0) rfl) rfl
theorem jw_1201 : (Jvm.Cond.methodLink "CoinNode" (94 : Nat) ({ cls := "CoinNode$Block", name := "read", desc := "([BLCoinNode$Hash;)LCoinNode$Block;" } : Jvm.MethodName)) ∈ jws := jws_6 (List.mem_of_getElem? (i := 1) rfl) rfl
theorem jw_1202 : (Jvm.Cond.static ({ cls := "CoinNode$Block", name := "read", desc := "([BLCoinNode$Hash;)LCoinNode$Block;" } : Jvm.MethodName)) ∈ jws := jws_6 (List.mem_of_getElem? (i := 2) rfl) rfl
theorem jw_1203 : (Jvm.Cond.code ({ cls := "CoinNode$Block", name := "read", desc := "([BLCoinNode$Hash;)LCoinNode$Block;" } : Jvm.MethodName) prog_2_method_2_code (7 : Nat) (Option.some (Jvm.ClassFile.FieldType.object "CoinNode$Block"))) ∈ jws := jws_6 (List.mem_of_getElem? (i := 3) rfl) rfl
theorem jw_1204 : (Jvm.Cond.methodLink "CoinNode$Block" (42 : Nat) ({ cls := "CoinNode$Tx", name := "sizeAt", desc := "([BII)I" } : Jvm.MethodName)) ∈ jws := jws_6 (List.mem_of_getElem? (i := 4) rfl) rfl
theorem jw_1205 : (Jvm.Cond.classLink "CoinNode$Block" (10 : Nat) "CoinNode$Block") ∈ jws := jws_6 (List.mem_of_getElem? (i := 5) rfl) rfl
theorem jw_1206 : (Jvm.Cond.methodLink "CoinNode$Block" (46 : Nat) ({ cls := "CoinNode$Block", name := "<init>", desc := "([B)V" } : Jvm.MethodName)) ∈ jws := jws_6 (List.mem_of_getElem? (i := 6) rfl) rfl
theorem jw_1207 : (Jvm.Cond.methodLink "CoinNode$Block" (49 : Nat) ({ cls := "CoinNode$Tx", name := "read", desc := "([BI)LCoinNode$Tx;" } : Jvm.MethodName)) ∈ jws := jws_6 (List.mem_of_getElem? (i := 7) rfl) rfl
theorem jw_1208 : (Jvm.Cond.methodLink "CoinNode$Block" (57 : Nat) ({ cls := "CoinNode$Hash", name := "name", desc := "([BII[B)V" } : Jvm.MethodName)) ∈ jws := jws_6 (List.mem_of_getElem? (i := 8) rfl) rfl
theorem jw_1209 : (Jvm.Cond.methodLink "CoinNode" (100 : Nat) ({ cls := "CoinNode$Chain", name := "refusal", desc := "(LCoinNode$Block;)I" } : Jvm.MethodName)) ∈ jws := jws_6 (List.mem_of_getElem? (i := 9) rfl) rfl
theorem jw_1210 : (Jvm.Cond.instanceMethod ({ cls := "CoinNode$Chain", name := "refusal", desc := "(LCoinNode$Block;)I" } : Jvm.MethodName)) ∈ jws := jws_6 (List.mem_of_getElem? (i := 10) rfl) rfl
theorem jw_1211 : (Jvm.Cond.selects "CoinNode$Chain" ({ cls := "CoinNode$Chain", name := "refusal", desc := "(LCoinNode$Block;)I" } : Jvm.MethodName) ({ cls := "CoinNode$Chain", name := "refusal", desc := "(LCoinNode$Block;)I" } : Jvm.MethodName)) ∈ jws := jws_6 (List.mem_of_getElem? (i := 11) rfl) rfl
theorem jw_1212 : (Jvm.Cond.code ({ cls := "CoinNode$Chain", name := "refusal", desc := "(LCoinNode$Block;)I" } : Jvm.MethodName) prog_3_method_4_code (3 : Nat) (Option.some Jvm.ClassFile.FieldType.int)) ∈ jws := jws_6 (List.mem_of_getElem? (i := 12) rfl) rfl
theorem jw_1213 : (Jvm.Cond.methodLink "CoinNode$Chain" (85 : Nat) ({ cls := "CoinNode$Chain", name := "find", desc := "([BI)LCoinNode$Block;" } : Jvm.MethodName)) ∈ jws := jws_6 (List.mem_of_getElem? (i := 13) rfl) rfl
theorem jw_1214 : (Jvm.Cond.instanceMethod ({ cls := "CoinNode$Chain", name := "find", desc := "([BI)LCoinNode$Block;" } : Jvm.MethodName)) ∈ jws := jws_6 (List.mem_of_getElem? (i := 14) rfl) rfl
theorem jw_1215 : (Jvm.Cond.selects "CoinNode$Chain" ({ cls := "CoinNode$Chain", name := "find", desc := "([BI)LCoinNode$Block;" } : Jvm.MethodName) ({ cls := "CoinNode$Chain", name := "find", desc := "([BI)LCoinNode$Block;" } : Jvm.MethodName)) ∈ jws := jws_6 (List.mem_of_getElem? (i := 15) rfl) rfl
theorem jw_1216 : (Jvm.Cond.code ({ cls := "CoinNode$Chain", name := "find", desc := "([BI)LCoinNode$Block;" } : Jvm.MethodName) prog_3_method_3_code (4 : Nat) (Option.some (Jvm.ClassFile.FieldType.object "CoinNode$Block"))) ∈ jws := jws_6 (List.mem_of_getElem? (i := 16) rfl) rfl
theorem jw_1217 : (Jvm.Cond.methodLink "CoinNode$Chain" (81 : Nat) ({ cls := "CoinNode$Hash", name := "same", desc := "([BI[BI)Z" } : Jvm.MethodName)) ∈ jws := jws_6 (List.mem_of_getElem? (i := 17) rfl) rfl
theorem jw_1218 : (Jvm.Cond.methodLink "CoinNode$Chain" (102 : Nat) ({ cls := "CoinNode$Chain", name := "bitsBehind", desc := "(LCoinNode$Block;)I" } : Jvm.MethodName)) ∈ jws := jws_6 (List.mem_of_getElem? (i := 18) rfl) rfl
theorem jw_1220 : (Jvm.Cond.instanceMethod ({ cls := "CoinNode$Chain", name := "bitsBehind", desc := "(LCoinNode$Block;)I" } : Jvm.MethodName)) ∈ jws := jws_6 (List.mem_of_getElem? (i := 20) rfl) rfl
theorem jw_1221 : (Jvm.Cond.code ({ cls := "CoinNode$Chain", name := "bitsBehind", desc := "(LCoinNode$Block;)I" } : Jvm.MethodName) prog_3_method_12_code (8 : Nat) (Option.some Jvm.ClassFile.FieldType.int)) ∈ jws := jws_6 (List.mem_of_getElem? (i := 21) rfl) rfl
theorem jw_1222 : (Jvm.Cond.constantLong "CoinNode$Chain" (183 : Nat) (1200 : Int64)) ∈ jws := jws_6 (List.mem_of_getElem? (i := 22) rfl) rfl
theorem jw_1223 : (Jvm.Cond.constantLong "CoinNode$Chain" (185 : Nat) (19200 : Int64)) ∈ jws := jws_6 (List.mem_of_getElem? (i := 23) rfl) rfl
theorem jw_1224 : (Jvm.Cond.methodLink "CoinNode$Chain" (187 : Nat) ({ cls := "java/lang/Math", name := "min", desc := "(JJ)J" } : Jvm.MethodName)) ∈ jws := jws_6 (List.mem_of_getElem? (i := 24) rfl) rfl
theorem jw_1225 : (Jvm.Cond.methodLink "CoinNode$Chain" (193 : Nat) ({ cls := "java/lang/Math", name := "max", desc := "(JJ)J" } : Jvm.MethodName)) ∈ jws := jws_6 (List.mem_of_getElem? (i := 25) rfl) rfl
theorem jw_1226 : (Jvm.Cond.methodLink "CoinNode$Chain" (114 : Nat) ({ cls := "CoinNode$Chain", name := "setTarget", desc := "([II)V" } : Jvm.MethodName)) ∈ jws := jws_6 (List.mem_of_getElem? (i := 26) rfl) rfl
theorem jw_1227 : (Jvm.Cond.static ({ cls := "CoinNode$Chain", name := "setTarget", desc := "([II)V" } : Jvm.MethodName)) ∈ jws := jws_6 (List.mem_of_getElem? (i := 27) rfl) rfl
theorem jw_1228 : (Jvm.Cond.code ({ cls := "CoinNode$Chain", name := "setTarget", desc := "([II)V" } : Jvm.MethodName) prog_3_method_15_code (6 : Nat) (Option.none : Option Jvm.ClassFile.FieldType)) ∈ jws := jws_6 (List.mem_of_getElem? (i := 28) rfl) rfl
theorem jw_1229 : (Jvm.Cond.constant "CoinNode$Chain" (209 : Nat) (8388607 : Int32)) ∈ jws := jws_6 (List.mem_of_getElem? (i := 29) rfl) rfl
theorem jw_1230 : (Jvm.Cond.methodLink "CoinNode$Chain" (210 : Nat) ({ cls := "java/util/Arrays", name := "fill", desc := "([II)V" } : Jvm.MethodName)) ∈ jws := jws_6 (List.mem_of_getElem? (i := 30) rfl) rfl
theorem jw_1231 : (Jvm.Cond.constantLong "CoinNode$Chain" (196 : Nat) (4294967295 : Int64)) ∈ jws := jws_6 (List.mem_of_getElem? (i := 31) rfl) rfl
theorem jw_1232 : (Jvm.Cond.constantLong "CoinNode$Chain" (198 : Nat) (4800 : Int64)) ∈ jws := jws_6 (List.mem_of_getElem? (i := 32) rfl) rfl
theorem jw_1233 : (Jvm.Cond.methodLink "CoinNode$Chain" (167 : Nat) ({ cls := "CoinNode$Chain", name := "compare", desc := "([I[I)I" } : Jvm.MethodName)) ∈ jws := jws_6 (List.mem_of_getElem? (i := 33) rfl) rfl
theorem jw_1234 : (Jvm.Cond.static ({ cls := "CoinNode$Chain", name := "compare", desc := "([I[I)I" } : Jvm.MethodName)) ∈ jws := jws_6 (List.mem_of_getElem? (i := 34) rfl) rfl
theorem jw_1235 : (Jvm.Cond.code ({ cls := "CoinNode$Chain", name := "compare", desc := "([I[I)I" } : Jvm.MethodName) prog_3_method_16_code (3 : Nat) (Option.some Jvm.ClassFile.FieldType.int)) ∈ jws := jws_6 (List.mem_of_getElem? (i := 35) rfl) rfl
theorem jw_1236 : (Jvm.Cond.methodLink "CoinNode$Chain" (215 : Nat) ({ cls := "java/lang/Math", name := "min", desc := "(II)I" } : Jvm.MethodName)) ∈ jws := jws_6 (List.mem_of_getElem? (i := 36) rfl) rfl
theorem jw_1237 : (Jvm.Cond.methodLink "CoinNode$Chain" (200 : Nat) ({ cls := "CoinNode$Chain", name := "compact", desc := "([I)I" } : Jvm.MethodName)) ∈ jws := jws_6 (List.mem_of_getElem? (i := 37) rfl) rfl
theorem jw_1238 : (Jvm.Cond.static ({ cls := "CoinNode$Chain", name := "compact", desc := "([I)I" } : Jvm.MethodName)) ∈ jws := jws_6 (List.mem_of_getElem? (i := 38) rfl) rfl
theorem jw_1239 : (Jvm.Cond.code ({ cls := "CoinNode$Chain", name := "compact", desc := "([I)I" } : Jvm.MethodName) prog_3_method_13_code (3 : Nat) (Option.some Jvm.ClassFile.FieldType.int)) ∈ jws := jws_6 (List.mem_of_getElem? (i := 39) rfl) rfl
theorem jw_1240 : (Jvm.Cond.methodLink "CoinNode$Chain" (204 : Nat) ({ cls := "CoinNode$Chain", name := "byteOf", desc := "([II)I" } : Jvm.MethodName)) ∈ jws := jws_6 (List.mem_of_getElem? (i := 40) rfl) rfl
theorem jw_1241 : (Jvm.Cond.static ({ cls := "CoinNode$Chain", name := "byteOf", desc := "([II)I" } : Jvm.MethodName)) ∈ jws := jws_6 (List.mem_of_getElem? (i := 41) rfl) rfl
theorem jw_1242 : (Jvm.Cond.code ({ cls := "CoinNode$Chain", name := "byteOf", desc := "([II)I" } : Jvm.MethodName) prog_3_method_14_code (2 : Nat) (Option.some Jvm.ClassFile.FieldType.int)) ∈ jws := jws_6 (List.mem_of_getElem? (i := 42) rfl) rfl
theorem jw_1243 : (Jvm.Cond.constant "CoinNode$Chain" (208 : Nat) (8388608 : Int32)) ∈ jws := jws_6 (List.mem_of_getElem? (i := 43) rfl) rfl
theorem jw_1244 : (Jvm.Cond.methodLink "CoinNode$Chain" (110 : Nat) ({ cls := "CoinNode$Chain", name := "median", desc := "(LCoinNode$Block;)J" } : Jvm.MethodName)) ∈ jws := jws_6 (List.mem_of_getElem? (i := 44) rfl) rfl
theorem jw_1246 : (Jvm.Cond.instanceMethod ({ cls := "CoinNode$Chain", name := "median", desc := "(LCoinNode$Block;)J" } : Jvm.MethodName)) ∈ jws := jws_6 (List.mem_of_getElem? (i := 46) rfl) rfl
theorem jw_1247 : (Jvm.Cond.code ({ cls := "CoinNode$Chain", name := "median", desc := "(LCoinNode$Block;)J" } : Jvm.MethodName) prog_3_method_11_code (5 : Nat) (Option.some Jvm.ClassFile.FieldType.long)) ∈ jws := jws_6 (List.mem_of_getElem? (i := 47) rfl) rfl
theorem jw_1248 : (Jvm.Cond.methodLink "CoinNode$Chain" (118 : Nat) ({ cls := "CoinNode$Chain", name := "isAbove", desc := "([B[I)Z" } : Jvm.MethodName)) ∈ jws := jws_6 (List.mem_of_getElem? (i := 48) rfl) rfl
theorem jw_1249 : (Jvm.Cond.static ({ cls := "CoinNode$Chain", name := "isAbove", desc := "([B[I)Z" } : Jvm.MethodName)) ∈ jws := jws_6 (List.mem_of_getElem? (i := 49) rfl) rfl
theorem jw_1250 : (Jvm.Cond.code ({ cls := "CoinNode$Chain", name := "isAbove", desc := "([B[I)Z" } : Jvm.MethodName) prog_3_method_17_code (5 : Nat) (Option.some Jvm.ClassFile.FieldType.boolean)) ∈ jws := jws_6 (List.mem_of_getElem? (i := 50) rfl) rfl
theorem jw_1251 : (Jvm.Cond.methodLink "CoinNode$Chain" (122 : Nat) ({ cls := "CoinNode$Block", name := "isShaped", desc := "()Z" } : Jvm.MethodName)) ∈ jws := jws_6 (List.mem_of_getElem? (i := 51) rfl) rfl
theorem jw_1252 : (Jvm.Cond.instanceMethod ({ cls := "CoinNode$Block", name := "isShaped", desc := "()Z" } : Jvm.MethodName)) ∈ jws := jws_6 (List.mem_of_getElem? (i := 52) rfl) rfl
theorem jw_1253 : (Jvm.Cond.selects "CoinNode$Block" ({ cls := "CoinNode$Block", name := "isShaped", desc := "()Z" } : Jvm.MethodName) ({ cls := "CoinNode$Block", name := "isShaped", desc := "()Z" } : Jvm.MethodName)) ∈ jws := jws_6 (List.mem_of_getElem? (i := 53) rfl) rfl
theorem jw_1254 : (Jvm.Cond.code ({ cls := "CoinNode$Block", name := "isShaped", desc := "()Z" } : Jvm.MethodName) prog_2_method_3_code (3 : Nat) (Option.some Jvm.ClassFile.FieldType.boolean)) ∈ jws := jws_6 (List.mem_of_getElem? (i := 54) rfl) rfl
theorem jw_1255 : (Jvm.Cond.methodLink "CoinNode$Block" (69 : Nat) ({ cls := "CoinNode$Tx", name := "inputScript", desc := "(I)I" } : Jvm.MethodName)) ∈ jws := jws_6 (List.mem_of_getElem? (i := 55) rfl) rfl
theorem jw_1256 : (Jvm.Cond.methodLink "CoinNode$Block" (73 : Nat) ({ cls := "CoinNode$Tx", name := "scriptSize", desc := "(I)I" } : Jvm.MethodName)) ∈ jws := jws_6 (List.mem_of_getElem? (i := 56) rfl) rfl
theorem jw_1257 : (Jvm.Cond.methodLink "CoinNode$Chain" (126 : Nat) ({ cls := "CoinNode$Block", name := "isRooted", desc := "([B[BLCoinNode$Hash;)Z" } : Jvm.MethodName)) ∈ jws := jws_6 (List.mem_of_getElem? (i := 57) rfl) rfl
theorem jw_1258 : (Jvm.Cond.instanceMethod ({ cls := "CoinNode$Block", name := "isRooted", desc := "([B[BLCoinNode$Hash;)Z" } : Jvm.MethodName)) ∈ jws := jws_6 (List.mem_of_getElem? (i := 58) rfl) rfl
theorem jw_1259 : (Jvm.Cond.selects "CoinNode$Block" ({ cls := "CoinNode$Block", name := "isRooted", desc := "([B[BLCoinNode$Hash;)Z" } : Jvm.MethodName) ({ cls := "CoinNode$Block", name := "isRooted", desc := "([B[BLCoinNode$Hash;)Z" } : Jvm.MethodName)) ∈ jws := jws_6 (List.mem_of_getElem? (i := 59) rfl) rfl
theorem jw_1260 : (Jvm.Cond.code ({ cls := "CoinNode$Block", name := "isRooted", desc := "([B[BLCoinNode$Hash;)Z" } : Jvm.MethodName) prog_2_method_4_code (9 : Nat) (Option.some Jvm.ClassFile.FieldType.boolean)) ∈ jws := jws_6 (List.mem_of_getElem? (i := 60) rfl) rfl
theorem jw_1261 : (Jvm.Cond.methodLink "CoinNode$Block" (76 : Nat) ({ cls := "java/lang/Math", name := "min", desc := "(II)I" } : Jvm.MethodName)) ∈ jws := jws_6 (List.mem_of_getElem? (i := 61) rfl) rfl
theorem jw_1262 : (Jvm.Cond.methodLink "CoinNode$Block" (82 : Nat) ({ cls := "java/lang/System", name := "arraycopy", desc := "(Ljava/lang/Object;ILjava/lang/Object;II)V" } : Jvm.MethodName)) ∈ jws := jws_6 (List.mem_of_getElem? (i := 62) rfl) rfl
theorem jw_1263 : (Jvm.Cond.methodLink "CoinNode$Block" (88 : Nat) ({ cls := "CoinNode$Hash", name := "same", desc := "([BI[BI)Z" } : Jvm.MethodName)) ∈ jws := jws_6 (List.mem_of_getElem? (i := 63) rfl) rfl
theorem jw_1264 : (Jvm.Cond.methodLink "CoinNode$Chain" (130 : Nat) ({ cls := "CoinNode$Block", name := "isFaulty", desc := "()Z" } : Jvm.MethodName)) ∈ jws := jws_6 (List.mem_of_getElem? (i := 64) rfl) rfl
theorem jw_1265 : (Jvm.Cond.instanceMethod ({ cls := "CoinNode$Block", name := "isFaulty", desc := "()Z" } : Jvm.MethodName)) ∈ jws := jws_6 (List.mem_of_getElem? (i := 65) rfl) rfl
theorem jw_1266 : (Jvm.Cond.selects "CoinNode$Block" ({ cls := "CoinNode$Block", name := "isFaulty", desc := "()Z" } : Jvm.MethodName) ({ cls := "CoinNode$Block", name := "isFaulty", desc := "()Z" } : Jvm.MethodName)) ∈ jws := jws_6 (List.mem_of_getElem? (i := 66) rfl) rfl
theorem jw_1267 : (Jvm.Cond.code ({ cls := "CoinNode$Block", name := "isFaulty", desc := "()Z" } : Jvm.MethodName) prog_2_method_5_code (4 : Nat) (Option.some Jvm.ClassFile.FieldType.boolean)) ∈ jws := jws_6 (List.mem_of_getElem? (i := 67) rfl) rfl
theorem jw_1268 : (Jvm.Cond.methodLink "CoinNode$Block" (95 : Nat) ({ cls := "CoinNode$Tx", name := "isTooMuch", desc := "()Z" } : Jvm.MethodName)) ∈ jws := jws_6 (List.mem_of_getElem? (i := 68) rfl) rfl
theorem jw_1269 : (Jvm.Cond.methodLink "CoinNode$Block" (99 : Nat) ({ cls := "CoinNode$Tx", name := "fault", desc := "()I" } : Jvm.MethodName)) ∈ jws := jws_6 (List.mem_of_getElem? (i := 69) rfl) rfl
theorem jw_1270 : (Jvm.Cond.methodLink "CoinNode" (104 : Nat) ({ cls := "CoinNode$Chain", name := "adopt", desc := "(LCoinNode$Block;)I" } : Jvm.MethodName)) ∈ jws := jws_6 (List.mem_of_getElem? (i := 70) rfl) rfl
theorem jw_1271 : (Jvm.Cond.instanceMethod ({ cls := "CoinNode$Chain", name := "adopt", desc := "(LCoinNode$Block;)I" } : Jvm.MethodName)) ∈ jws := jws_6 (List.mem_of_getElem? (i := 71) rfl) rfl
theorem jw_1272 : (Jvm.Cond.selects "CoinNode$Chain" ({ cls := "CoinNode$Chain", name := "adopt", desc := "(LCoinNode$Block;)I" } : Jvm.MethodName) ({ cls := "CoinNode$Chain", name := "adopt", desc := "(LCoinNode$Block;)I" } : Jvm.MethodName)) ∈ jws := jws_6 (List.mem_of_getElem? (i := 72) rfl) rfl
theorem jw_1273 : (Jvm.Cond.code ({ cls := "CoinNode$Chain", name := "adopt", desc := "(LCoinNode$Block;)I" } : Jvm.MethodName) prog_3_method_5_code (9 : Nat) (Option.some Jvm.ClassFile.FieldType.int)) ∈ jws := jws_6 (List.mem_of_getElem? (i := 73) rfl) rfl
theorem jw_1274 : (Jvm.Cond.methodLink "CoinNode$Chain" (136 : Nat) ({ cls := "CoinNode$Chain", name := "setWork", desc := "(LCoinNode$Block;)V" } : Jvm.MethodName)) ∈ jws := jws_6 (List.mem_of_getElem? (i := 74) rfl) rfl
theorem jw_1276 : (Jvm.Cond.instanceMethod ({ cls := "CoinNode$Chain", name := "setWork", desc := "(LCoinNode$Block;)V" } : Jvm.MethodName)) ∈ jws := jws_6 (List.mem_of_getElem? (i := 76) rfl) rfl
theorem jw_1277 : (Jvm.Cond.code ({ cls := "CoinNode$Chain", name := "setWork", desc := "(LCoinNode$Block;)V" } : Jvm.MethodName) prog_3_method_18_code (7 : Nat) (Option.none : Option Jvm.ClassFile.FieldType)) ∈ jws := jws_6 (List.mem_of_getElem? (i := 77) rfl) rfl
theorem jw_1278 : (Jvm.Cond.methodLink "CoinNode$Chain" (140 : Nat) ({ cls := "CoinNode$Chain", name := "best", desc := "()LCoinNode$Block;" } : Jvm.MethodName)) ∈ jws := jws_6 (List.mem_of_getElem? (i := 78) rfl) rfl
theorem jw_1280 : (Jvm.Cond.instanceMethod ({ cls := "CoinNode$Chain", name := "best", desc := "()LCoinNode$Block;" } : Jvm.MethodName)) ∈ jws := jws_6 (List.mem_of_getElem? (i := 80) rfl) rfl
theorem jw_1281 : (Jvm.Cond.code ({ cls := "CoinNode$Chain", name := "best", desc := "()LCoinNode$Block;" } : Jvm.MethodName) prog_3_method_6_code (5 : Nat) (Option.some (Jvm.ClassFile.FieldType.object "CoinNode$Block"))) ∈ jws := jws_6 (List.mem_of_getElem? (i := 81) rfl) rfl
theorem jw_1282 : (Jvm.Cond.methodLink "CoinNode$Chain" (144 : Nat) ({ cls := "CoinNode$Chain", name := "layWay", desc := "(LCoinNode$Block;)I" } : Jvm.MethodName)) ∈ jws := jws_6 (List.mem_of_getElem? (i := 82) rfl) rfl
theorem jw_1284 : (Jvm.Cond.instanceMethod ({ cls := "CoinNode$Chain", name := "layWay", desc := "(LCoinNode$Block;)I" } : Jvm.MethodName)) ∈ jws := jws_6 (List.mem_of_getElem? (i := 84) rfl) rfl
theorem jw_1285 : (Jvm.Cond.code ({ cls := "CoinNode$Chain", name := "layWay", desc := "(LCoinNode$Block;)I" } : Jvm.MethodName) prog_3_method_7_code (4 : Nat) (Option.some Jvm.ClassFile.FieldType.int)) ∈ jws := jws_6 (List.mem_of_getElem? (i := 85) rfl) rfl
theorem jw_1286 : (Jvm.Cond.methodLink "CoinNode$Chain" (171 : Nat) ({ cls := "CoinNode$Chain", name := "at", desc := "(I)LCoinNode$Block;" } : Jvm.MethodName)) ∈ jws := jws_6 (List.mem_of_getElem? (i := 86) rfl) rfl
theorem jw_1287 : (Jvm.Cond.instanceMethod ({ cls := "CoinNode$Chain", name := "at", desc := "(I)LCoinNode$Block;" } : Jvm.MethodName)) ∈ jws := jws_6 (List.mem_of_getElem? (i := 87) rfl) rfl
theorem jw_1288 : (Jvm.Cond.selects "CoinNode$Chain" ({ cls := "CoinNode$Chain", name := "at", desc := "(I)LCoinNode$Block;" } : Jvm.MethodName) ({ cls := "CoinNode$Chain", name := "at", desc := "(I)LCoinNode$Block;" } : Jvm.MethodName)) ∈ jws := jws_6 (List.mem_of_getElem? (i := 88) rfl) rfl
theorem jw_1289 : (Jvm.Cond.code ({ cls := "CoinNode$Chain", name := "at", desc := "(I)LCoinNode$Block;" } : Jvm.MethodName) prog_3_method_2_code (2 : Nat) (Option.some (Jvm.ClassFile.FieldType.object "CoinNode$Block"))) ∈ jws := jws_6 (List.mem_of_getElem? (i := 89) rfl) rfl
theorem jw_1290 : (Jvm.Cond.methodLink "CoinNode$Chain" (147 : Nat) ({ cls := "CoinNode$Chain", name := "replay", desc := "(I)V" } : Jvm.MethodName)) ∈ jws := jws_6 (List.mem_of_getElem? (i := 90) rfl) rfl
theorem jw_1292 : (Jvm.Cond.instanceMethod ({ cls := "CoinNode$Chain", name := "replay", desc := "(I)V" } : Jvm.MethodName)) ∈ jws := jws_6 (List.mem_of_getElem? (i := 92) rfl) rfl
theorem jw_1293 : (Jvm.Cond.code ({ cls := "CoinNode$Chain", name := "replay", desc := "(I)V" } : Jvm.MethodName) prog_3_method_8_code (3 : Nat) (Option.none : Option Jvm.ClassFile.FieldType)) ∈ jws := jws_6 (List.mem_of_getElem? (i := 93) rfl) rfl
theorem jw_1294 : (Jvm.Cond.methodLink "CoinNode$Chain" (175 : Nat) ({ cls := "CoinNode$Coins", name := "clear", desc := "()V" } : Jvm.MethodName)) ∈ jws := jws_6 (List.mem_of_getElem? (i := 94) rfl) rfl
theorem jw_1295 : (Jvm.Cond.instanceMethod ({ cls := "CoinNode$Coins", name := "clear", desc := "()V" } : Jvm.MethodName)) ∈ jws := jws_6 (List.mem_of_getElem? (i := 95) rfl) rfl
theorem jw_1296 : (Jvm.Cond.selects "CoinNode$Coins" ({ cls := "CoinNode$Coins", name := "clear", desc := "()V" } : Jvm.MethodName) ({ cls := "CoinNode$Coins", name := "clear", desc := "()V" } : Jvm.MethodName)) ∈ jws := jws_6 (List.mem_of_getElem? (i := 96) rfl) rfl
theorem jw_1297 : (Jvm.Cond.code ({ cls := "CoinNode$Coins", name := "clear", desc := "()V" } : Jvm.MethodName) prog_4_method_2_code (1 : Nat) (Option.none : Option Jvm.ClassFile.FieldType)) ∈ jws := jws_6 (List.mem_of_getElem? (i := 97) rfl) rfl
theorem jw_1298 : (Jvm.Cond.methodLink "CoinNode$Chain" (178 : Nat) ({ cls := "CoinNode$Coins", name := "apply", desc := "(LCoinNode$Block;)V" } : Jvm.MethodName)) ∈ jws := jws_6 (List.mem_of_getElem? (i := 98) rfl) rfl
theorem jw_1299 : (Jvm.Cond.instanceMethod ({ cls := "CoinNode$Coins", name := "apply", desc := "(LCoinNode$Block;)V" } : Jvm.MethodName)) ∈ jws := jws_6 (List.mem_of_getElem? (i := 99) rfl) rfl
theorem jw_1300 : (Jvm.Cond.selects "CoinNode$Coins" ({ cls := "CoinNode$Coins", name := "apply", desc := "(LCoinNode$Block;)V" } : Jvm.MethodName) ({ cls := "CoinNode$Coins", name := "apply", desc := "(LCoinNode$Block;)V" } : Jvm.MethodName)) ∈ jws := jws_6 (List.mem_of_getElem? (i := 100) rfl) rfl
theorem jw_1301 : (Jvm.Cond.code ({ cls := "CoinNode$Coins", name := "apply", desc := "(LCoinNode$Block;)V" } : Jvm.MethodName) prog_4_method_8_code (3 : Nat) (Option.none : Option Jvm.ClassFile.FieldType)) ∈ jws := jws_6 (List.mem_of_getElem? (i := 101) rfl) rfl
theorem jw_1302 : (Jvm.Cond.methodLink "CoinNode$Coins" (89 : Nat) ({ cls := "CoinNode$Coins", name := "change", desc := "(LCoinNode$Tx;IZ)V" } : Jvm.MethodName)) ∈ jws := jws_6 (List.mem_of_getElem? (i := 102) rfl) rfl
theorem jw_1304 : (Jvm.Cond.instanceMethod ({ cls := "CoinNode$Coins", name := "change", desc := "(LCoinNode$Tx;IZ)V" } : Jvm.MethodName)) ∈ jws := jws_6 (List.mem_of_getElem? (i := 104) rfl) rfl
theorem jw_1305 : (Jvm.Cond.code ({ cls := "CoinNode$Coins", name := "change", desc := "(LCoinNode$Tx;IZ)V" } : Jvm.MethodName) prog_4_method_11_code (6 : Nat) (Option.none : Option Jvm.ClassFile.FieldType)) ∈ jws := jws_6 (List.mem_of_getElem? (i := 105) rfl) rfl
theorem jw_1306 : (Jvm.Cond.methodLink "CoinNode$Coins" (98 : Nat) ({ cls := "CoinNode$Tx", name := "index", desc := "(I)I" } : Jvm.MethodName)) ∈ jws := jws_6 (List.mem_of_getElem? (i := 106) rfl) rfl
theorem jw_1307 : (Jvm.Cond.methodLink "CoinNode$Coins" (102 : Nat) ({ cls := "CoinNode$Coins", name := "find", desc := "([BII)I" } : Jvm.MethodName)) ∈ jws := jws_6 (List.mem_of_getElem? (i := 107) rfl) rfl
theorem jw_1308 : (Jvm.Cond.methodLink "CoinNode$Coins" (49 : Nat) ({ cls := "CoinNode$Tx", name := "worth", desc := "(I)J" } : Jvm.MethodName)) ∈ jws := jws_6 (List.mem_of_getElem? (i := 108) rfl) rfl
theorem jw_1309 : (Jvm.Cond.methodLink "CoinNode$Chain" (151 : Nat) ({ cls := "CoinNode$Coins", name := "judge", desc := "(LCoinNode$Block;LCoinNode$Scripts;)I" } : Jvm.MethodName)) ∈ jws := jws_6 (List.mem_of_getElem? (i := 109) rfl) rfl
theorem jw_1310 : (Jvm.Cond.instanceMethod ({ cls := "CoinNode$Coins", name := "judge", desc := "(LCoinNode$Block;LCoinNode$Scripts;)I" } : Jvm.MethodName)) ∈ jws := jws_6 (List.mem_of_getElem? (i := 110) rfl) rfl
theorem jw_1311 : (Jvm.Cond.selects "CoinNode$Coins" ({ cls := "CoinNode$Coins", name := "judge", desc := "(LCoinNode$Block;LCoinNode$Scripts;)I" } : Jvm.MethodName) ({ cls := "CoinNode$Coins", name := "judge", desc := "(LCoinNode$Block;LCoinNode$Scripts;)I" } : Jvm.MethodName)) ∈ jws := jws_6 (List.mem_of_getElem? (i := 111) rfl) rfl
theorem jw_1312 : (Jvm.Cond.code ({ cls := "CoinNode$Coins", name := "judge", desc := "(LCoinNode$Block;LCoinNode$Scripts;)I" } : Jvm.MethodName) prog_4_method_7_code (8 : Nat) (Option.some Jvm.ClassFile.FieldType.int)) ∈ jws := jws_6 (List.mem_of_getElem? (i := 112) rfl) rfl
theorem jw_1313 : (Jvm.Cond.methodLink "CoinNode$Coins" (57 : Nat) ({ cls := "CoinNode$Scripts", name := "begin", desc := "(I)V" } : Jvm.MethodName)) ∈ jws := jws_6 (List.mem_of_getElem? (i := 113) rfl) rfl
theorem jw_1314 : (Jvm.Cond.methodLink "CoinNode$Coins" (71 : Nat) ({ cls := "CoinNode$Coins", name := "take", desc := "(LCoinNode$Tx;I)I" } : Jvm.MethodName)) ∈ jws := jws_6 (List.mem_of_getElem? (i := 114) rfl) rfl
theorem jw_1316 : (Jvm.Cond.instanceMethod ({ cls := "CoinNode$Coins", name := "take", desc := "(LCoinNode$Tx;I)I" } : Jvm.MethodName)) ∈ jws := jws_6 (List.mem_of_getElem? (i := 116) rfl) rfl
theorem jw_1317 : (Jvm.Cond.code ({ cls := "CoinNode$Coins", name := "take", desc := "(LCoinNode$Tx;I)I" } : Jvm.MethodName) prog_4_method_9_code (6 : Nat) (Option.some Jvm.ClassFile.FieldType.int)) ∈ jws := jws_6 (List.mem_of_getElem? (i := 117) rfl) rfl
theorem jw_1318 : (Jvm.Cond.methodLink "CoinNode$Coins" (106 : Nat) ({ cls := "CoinNode$Coins", name := "isUnripe", desc := "(II)Z" } : Jvm.MethodName)) ∈ jws := jws_6 (List.mem_of_getElem? (i := 118) rfl) rfl
theorem jw_1319 : (Jvm.Cond.methodLink "CoinNode$Coins" (110 : Nat) ({ cls := "CoinNode$Coins", name := "worth", desc := "(I)J" } : Jvm.MethodName)) ∈ jws := jws_6 (List.mem_of_getElem? (i := 119) rfl) rfl
theorem jw_1320 : (Jvm.Cond.instanceMethod ({ cls := "CoinNode$Coins", name := "worth", desc := "(I)J" } : Jvm.MethodName)) ∈ jws := jws_6 (List.mem_of_getElem? (i := 120) rfl) rfl
theorem jw_1321 : (Jvm.Cond.selects "CoinNode$Coins" ({ cls := "CoinNode$Coins", name := "worth", desc := "(I)J" } : Jvm.MethodName) ({ cls := "CoinNode$Coins", name := "worth", desc := "(I)J" } : Jvm.MethodName)) ∈ jws := jws_6 (List.mem_of_getElem? (i := 121) rfl) rfl
theorem jw_1322 : (Jvm.Cond.code ({ cls := "CoinNode$Coins", name := "worth", desc := "(I)J" } : Jvm.MethodName) prog_4_method_5_code (2 : Nat) (Option.some Jvm.ClassFile.FieldType.long)) ∈ jws := jws_6 (List.mem_of_getElem? (i := 122) rfl) rfl
theorem jw_1323 : (Jvm.Cond.methodLink "CoinNode$Coins" (75 : Nat) ({ cls := "CoinNode$Scripts", name := "pass", desc := "(LCoinNode$Tx;[LCoinNode$Tx;[I)Z" } : Jvm.MethodName)) ∈ jws := jws_6 (List.mem_of_getElem? (i := 123) rfl) rfl
theorem jw_1324 : (Jvm.Cond.methodLink "CoinNode$Coins" (82 : Nat) ({ cls := "CoinNode$Coins", name := "faultOfMaking", desc := "(LCoinNode$Tx;I)I" } : Jvm.MethodName)) ∈ jws := jws_6 (List.mem_of_getElem? (i := 124) rfl) rfl
theorem jw_1326 : (Jvm.Cond.instanceMethod ({ cls := "CoinNode$Coins", name := "faultOfMaking", desc := "(LCoinNode$Tx;I)I" } : Jvm.MethodName)) ∈ jws := jws_6 (List.mem_of_getElem? (i := 126) rfl) rfl
theorem jw_1327 : (Jvm.Cond.code ({ cls := "CoinNode$Coins", name := "faultOfMaking", desc := "(LCoinNode$Tx;I)I" } : Jvm.MethodName) prog_4_method_10_code (4 : Nat) (Option.some Jvm.ClassFile.FieldType.int)) ∈ jws := jws_6 (List.mem_of_getElem? (i := 127) rfl) rfl
theorem jw_1328 : (Jvm.Cond.constantLong "CoinNode$Coins" (93 : Nat) (5000000000 : Int64)) ∈ jws := jws_6 (List.mem_of_getElem? (i := 128) rfl) rfl
theorem jw_1329 : (Jvm.Cond.methodLink "CoinNode$Chain" (157 : Nat) ({ cls := "CoinNode$Chain", name := "move", desc := "(ILCoinNode$Block;)V" } : Jvm.MethodName)) ∈ jws := jws_6 (List.mem_of_getElem? (i := 129) rfl) rfl
theorem jw_1331 : (Jvm.Cond.instanceMethod ({ cls := "CoinNode$Chain", name := "move", desc := "(ILCoinNode$Block;)V" } : Jvm.MethodName)) ∈ jws := jws_6 (List.mem_of_getElem? (i := 131) rfl) rfl
theorem jw_1332 : (Jvm.Cond.code ({ cls := "CoinNode$Chain", name := "move", desc := "(ILCoinNode$Block;)V" } : Jvm.MethodName) prog_3_method_9_code (4 : Nat) (Option.none : Option Jvm.ClassFile.FieldType)) ∈ jws := jws_6 (List.mem_of_getElem? (i := 132) rfl) rfl
theorem jw_1333 : (Jvm.Cond.methodLink "CoinNode$Chain" (161 : Nat) ({ cls := "CoinNode$Chain", name := "condemn", desc := "(LCoinNode$Block;)V" } : Jvm.MethodName)) ∈ jws := jws_6 (List.mem_of_getElem? (i := 133) rfl) rfl
theorem jw_1335 : (Jvm.Cond.instanceMethod ({ cls := "CoinNode$Chain", name := "condemn", desc := "(LCoinNode$Block;)V" } : Jvm.MethodName)) ∈ jws := jws_6 (List.mem_of_getElem? (i := 135) rfl) rfl
theorem jw_1336 : (Jvm.Cond.code ({ cls := "CoinNode$Chain", name := "condemn", desc := "(LCoinNode$Block;)V" } : Jvm.MethodName) prog_3_method_10_code (4 : Nat) (Option.none : Option Jvm.ClassFile.FieldType)) ∈ jws := jws_6 (List.mem_of_getElem? (i := 136) rfl) rfl
theorem jw_1337 : (Jvm.Cond.methodLink "CoinNode" (117 : Nat) ({ cls := "CoinNode$Pool", name := "makeAnew", desc := "([LCoinNode$Block;II)V" } : Jvm.MethodName)) ∈ jws := jws_6 (List.mem_of_getElem? (i := 137) rfl) rfl
theorem jw_1338 : (Jvm.Cond.instanceMethod ({ cls := "CoinNode$Pool", name := "makeAnew", desc := "([LCoinNode$Block;II)V" } : Jvm.MethodName)) ∈ jws := jws_6 (List.mem_of_getElem? (i := 138) rfl) rfl
theorem jw_1339 : (Jvm.Cond.selects "CoinNode$Pool" ({ cls := "CoinNode$Pool", name := "makeAnew", desc := "([LCoinNode$Block;II)V" } : Jvm.MethodName) ({ cls := "CoinNode$Pool", name := "makeAnew", desc := "([LCoinNode$Block;II)V" } : Jvm.MethodName)) ∈ jws := jws_6 (List.mem_of_getElem? (i := 139) rfl) rfl
theorem jw_1340 : (Jvm.Cond.code ({ cls := "CoinNode$Pool", name := "makeAnew", desc := "([LCoinNode$Block;II)V" } : Jvm.MethodName) prog_8_method_5_code (7 : Nat) (Option.none : Option Jvm.ClassFile.FieldType)) ∈ jws := jws_6 (List.mem_of_getElem? (i := 140) rfl) rfl
theorem jw_1341 : (Jvm.Cond.methodLink "CoinNode$Pool" (95 : Nat) ({ cls := "java/lang/System", name := "arraycopy", desc := "(Ljava/lang/Object;ILjava/lang/Object;II)V" } : Jvm.MethodName)) ∈ jws := jws_6 (List.mem_of_getElem? (i := 141) rfl) rfl
theorem jw_1342 : (Jvm.Cond.methodLink "CoinNode$Pool" (104 : Nat) ({ cls := "CoinNode$Pool", name := "offer", desc := "(LCoinNode$Tx;IZ)I" } : Jvm.MethodName)) ∈ jws := jws_6 (List.mem_of_getElem? (i := 142) rfl) rfl
theorem jw_1343 : (Jvm.Cond.methodLink "CoinNode" (121 : Nat) ({ cls := "CoinNode", name := "answerBlock", desc := "(ILCoinNode$Block;IZ)V" } : Jvm.MethodName)) ∈ jws := jws_6 (List.mem_of_getElem? (i := 143) rfl) rfl
theorem jw_1345 : (Jvm.Cond.instanceMethod ({ cls := "CoinNode", name := "answerBlock", desc := "(ILCoinNode$Block;IZ)V" } : Jvm.MethodName)) ∈ jws := jws_6 (List.mem_of_getElem? (i := 145) rfl) rfl
theorem jw_1346 : (Jvm.Cond.code ({ cls := "CoinNode", name := "answerBlock", desc := "(ILCoinNode$Block;IZ)V" } : Jvm.MethodName) prog_1_method_13_code (5 : Nat) (Option.none : Option Jvm.ClassFile.FieldType)) ∈ jws := jws_6 (List.mem_of_getElem? (i := 146) rfl) rfl
theorem jw_1347 : (Jvm.Cond.methodLink "CoinNode" (199 : Nat) ({ cls := "CoinNode", name := "askWhatIsBehind", desc := "(I)V" } : Jvm.MethodName)) ∈ jws := jws_6 (List.mem_of_getElem? (i := 147) rfl) rfl
theorem jw_1349 : (Jvm.Cond.instanceMethod ({ cls := "CoinNode", name := "askWhatIsBehind", desc := "(I)V" } : Jvm.MethodName)) ∈ jws := jws_6 (List.mem_of_getElem? (i := 149) rfl) rfl
theorem jw_1350 : (Jvm.Cond.code ({ cls := "CoinNode", name := "askWhatIsBehind", desc := "(I)V" } : Jvm.MethodName) prog_1_method_16_code (7 : Nat) (Option.none : Option Jvm.ClassFile.FieldType)) ∈ jws := jws_6 (List.mem_of_getElem? (i := 150) rfl) rfl
theorem jw_1351 : (Jvm.Cond.methodLink "CoinNode" (144 : Nat) ({ cls := "CoinNode$Chain", name := "at", desc := "(I)LCoinNode$Block;" } : Jvm.MethodName)) ∈ jws := jws_6 (List.mem_of_getElem? (i := 151) rfl) rfl
theorem jw_1352 : (Jvm.Cond.methodLink "CoinNode" (214 : Nat) ({ cls := "java/lang/Math", name := "max", desc := "(II)I" } : Jvm.MethodName)) ∈ jws := jws_6 (List.mem_of_getElem? (i := 152) rfl) rfl
theorem jw_1353 : (Jvm.Cond.methodLink "CoinNode" (125 : Nat) ({ cls := "CoinNode", name := "answerWhatIsBehind", desc := "(I[B)V" } : Jvm.MethodName)) ∈ jws := jws_6 (List.mem_of_getElem? (i := 153) rfl) rfl
theorem jw_1355 : (Jvm.Cond.instanceMethod ({ cls := "CoinNode", name := "answerWhatIsBehind", desc := "(I[B)V" } : Jvm.MethodName)) ∈ jws := jws_6 (List.mem_of_getElem? (i := 155) rfl) rfl
theorem jw_1356 : (Jvm.Cond.code ({ cls := "CoinNode", name := "answerWhatIsBehind", desc := "(I[B)V" } : Jvm.MethodName) prog_1_method_17_code (8 : Nat) (Option.none : Option Jvm.ClassFile.FieldType)) ∈ jws := jws_6 (List.mem_of_getElem? (i := 156) rfl) rfl
theorem jw_1357 : (Jvm.Cond.methodLink "CoinNode" (217 : Nat) ({ cls := "CoinNode$Chain", name := "find", desc := "([BI)LCoinNode$Block;" } : Jvm.MethodName)) ∈ jws := jws_6 (List.mem_of_getElem? (i := 157) rfl) rfl
theorem jw_1358 : (Jvm.Cond.methodLink "CoinNode" (138 : Nat) ({ cls := "java/lang/Math", name := "min", desc := "(II)I" } : Jvm.MethodName)) ∈ jws := jws_6 (List.mem_of_getElem? (i := 158) rfl) rfl
theorem jw_1359 : (Jvm.Cond.methodLink "CoinNode" (128 : Nat) ({ cls := "CoinNode", name := "answerGive", desc := "(I[B)V" } : Jvm.MethodName)) ∈ jws := jws_6 (List.mem_of_getElem? (i := 159) rfl) rfl
theorem jw_1361 : (Jvm.Cond.instanceMethod ({ cls := "CoinNode", name := "answerGive", desc := "(I[B)V" } : Jvm.MethodName)) ∈ jws := jws_6 (List.mem_of_getElem? (i := 161) rfl) rfl
theorem jw_1362 : (Jvm.Cond.code ({ cls := "CoinNode", name := "answerGive", desc := "(I[B)V" } : Jvm.MethodName) prog_1_method_18_code (6 : Nat) (Option.none : Option Jvm.ClassFile.FieldType)) ∈ jws := jws_6 (List.mem_of_getElem? (i := 162) rfl) rfl
theorem jw_1363 : (Jvm.Cond.methodLink "CoinNode" (223 : Nat) ({ cls := "CoinNode", name := "isList", desc := "([B)Z" } : Jvm.MethodName)) ∈ jws := jws_6 (List.mem_of_getElem? (i := 163) rfl) rfl
theorem jw_1364 : (Jvm.Cond.static ({ cls := "CoinNode", name := "isList", desc := "([B)Z" } : Jvm.MethodName)) ∈ jws := jws_6 (List.mem_of_getElem? (i := 164) rfl) rfl
theorem jw_1365 : (Jvm.Cond.code ({ cls := "CoinNode", name := "isList", desc := "([B)Z" } : Jvm.MethodName) prog_1_method_20_code (3 : Nat) (Option.some Jvm.ClassFile.FieldType.boolean)) ∈ jws := jws_6 (List.mem_of_getElem? (i := 165) rfl) rfl
theorem jw_1366 : (Jvm.Cond.methodLink "CoinNode" (227 : Nat) ({ cls := "CoinNode$Pool", name := "find", desc := "([BI)LCoinNode$Tx;" } : Jvm.MethodName)) ∈ jws := jws_6 (List.mem_of_getElem? (i := 166) rfl) rfl
theorem jw_1367 : (Jvm.Cond.methodLink "CoinNode" (131 : Nat) ({ cls := "CoinNode", name := "answerIHave", desc := "(I[B)V" } : Jvm.MethodName)) ∈ jws := jws_6 (List.mem_of_getElem? (i := 167) rfl) rfl
theorem jw_1369 : (Jvm.Cond.instanceMethod ({ cls := "CoinNode", name := "answerIHave", desc := "(I[B)V" } : Jvm.MethodName)) ∈ jws := jws_6 (List.mem_of_getElem? (i := 169) rfl) rfl
theorem jw_1370 : (Jvm.Cond.code ({ cls := "CoinNode", name := "answerIHave", desc := "(I[B)V" } : Jvm.MethodName) prog_1_method_19_code (6 : Nat) (Option.none : Option Jvm.ClassFile.FieldType)) ∈ jws := jws_6 (List.mem_of_getElem? (i := 170) rfl) rfl
theorem jw_1371 : (Jvm.Cond.methodLink "CoinNodeLaw" (165 : Nat) ({ cls := "CoinNode", name := "fetch", desc := "(I)J" } : Jvm.MethodName)) ∈ jws := jws_6 (List.mem_of_getElem? (i := 171) rfl) rfl
theorem jw_1372 : (Jvm.Cond.instanceMethod ({ cls := "CoinNode", name := "fetch", desc := "(I)J" } : Jvm.MethodName)) ∈ jws := jws_6 (List.mem_of_getElem? (i := 172) rfl) rfl
theorem jw_1373 : (Jvm.Cond.selects "CoinNode" ({ cls := "CoinNode", name := "fetch", desc := "(I)J" } : Jvm.MethodName) ({ cls := "CoinNode", name := "fetch", desc := "(I)J" } : Jvm.MethodName)) ∈ jws := jws_6 (List.mem_of_getElem? (i := 173) rfl) rfl
theorem jw_1374 : (Jvm.Cond.code ({ cls := "CoinNode", name := "fetch", desc := "(I)J" } : Jvm.MethodName) prog_1_method_4_code (8 : Nat) (Option.some Jvm.ClassFile.FieldType.long)) ∈ jws := jws_6 (List.mem_of_getElem? (i := 174) rfl) rfl
theorem jw_1375 : (Jvm.Cond.constantLong "CoinNodeLaw" (221 : Nat) (3 : Int64)) ∈ jws := jws_6 (List.mem_of_getElem? (i := 175) rfl) rfl
theorem jw_1376 : (Jvm.Cond.constantLong "CoinNodeLaw" (223 : Nat) (16777215 : Int64)) ∈ jws := jws_6 (List.mem_of_getElem? (i := 176) rfl) rfl
theorem jw_1377 : (Jvm.Cond.methodLink "CoinNodeLaw" (195 : Nat) ({ cls := "CoinNode", name := "block", desc := "(II)J" } : Jvm.MethodName)) ∈ jws := jws_6 (List.mem_of_getElem? (i := 177) rfl) rfl
theorem jw_1378 : (Jvm.Cond.instanceMethod ({ cls := "CoinNode", name := "block", desc := "(II)J" } : Jvm.MethodName)) ∈ jws := jws_6 (List.mem_of_getElem? (i := 178) rfl) rfl
theorem jw_1379 : (Jvm.Cond.selects "CoinNode" ({ cls := "CoinNode", name := "block", desc := "(II)J" } : Jvm.MethodName) ({ cls := "CoinNode", name := "block", desc := "(II)J" } : Jvm.MethodName)) ∈ jws := jws_6 (List.mem_of_getElem? (i := 179) rfl) rfl
theorem jw_1380 : (Jvm.Cond.code ({ cls := "CoinNode", name := "block", desc := "(II)J" } : Jvm.MethodName) prog_1_method_5_code (7 : Nat) (Option.some Jvm.ClassFile.FieldType.long)) ∈ jws := jws_6 (List.mem_of_getElem? (i := 180) rfl) rfl
theorem jw_1381 : (Jvm.Cond.methodLink "CoinNodeLaw" (225 : Nat) ({ cls := "CoinNode", name := "count", desc := "(I)I" } : Jvm.MethodName)) ∈ jws := jws_6 (List.mem_of_getElem? (i := 181) rfl) rfl
theorem jw_1382 : (Jvm.Cond.instanceMethod ({ cls := "CoinNode", name := "count", desc := "(I)I" } : Jvm.MethodName)) ∈ jws := jws_6 (List.mem_of_getElem? (i := 182) rfl) rfl
theorem jw_1383 : (Jvm.Cond.selects "CoinNode" ({ cls := "CoinNode", name := "count", desc := "(I)I" } : Jvm.MethodName) ({ cls := "CoinNode", name := "count", desc := "(I)I" } : Jvm.MethodName)) ∈ jws := jws_6 (List.mem_of_getElem? (i := 183) rfl) rfl
theorem jw_1384 : (Jvm.Cond.code ({ cls := "CoinNode", name := "count", desc := "(I)I" } : Jvm.MethodName) prog_1_method_9_code (2 : Nat) (Option.some Jvm.ClassFile.FieldType.int)) ∈ jws := jws_6 (List.mem_of_getElem? (i := 184) rfl) rfl
theorem jw_1385 : (Jvm.Cond.methodLink "CoinNodeLaw" (228 : Nat) ({ cls := "CoinNodeLaw", name := "answer", desc := "(LCoinNode;I)J" } : Jvm.MethodName)) ∈ jws := jws_6 (List.mem_of_getElem? (i := 185) rfl) rfl
theorem jw_1386 : (Jvm.Cond.static ({ cls := "CoinNodeLaw", name := "answer", desc := "(LCoinNode;I)J" } : Jvm.MethodName)) ∈ jws := jws_6 (List.mem_of_getElem? (i := 186) rfl) rfl
theorem jw_1387 : (Jvm.Cond.code ({ cls := "CoinNodeLaw", name := "answer", desc := "(LCoinNode;I)J" } : Jvm.MethodName) method_25_code (9 : Nat) (Option.some Jvm.ClassFile.FieldType.long)) ∈ jws := jws_6 (List.mem_of_getElem? (i := 187) rfl) rfl
theorem jw_1388 : (Jvm.Cond.constantLong "CoinNodeLaw" (163 : Nat) (7 : Int64)) ∈ jws := jws_6 (List.mem_of_getElem? (i := 188) rfl) rfl
theorem jw_1389 : (Jvm.Cond.methodLink "CoinNodeLaw" (232 : Nat) ({ cls := "CoinNodeLaw", name := "verdict", desc := "(I[JI)J" } : Jvm.MethodName)) ∈ jws := jws_6 (List.mem_of_getElem? (i := 189) rfl) rfl
theorem jw_1390 : (Jvm.Cond.static ({ cls := "CoinNodeLaw", name := "verdict", desc := "(I[JI)J" } : Jvm.MethodName)) ∈ jws := jws_6 (List.mem_of_getElem? (i := 190) rfl) rfl
theorem jw_1391 : (Jvm.Cond.code ({ cls := "CoinNodeLaw", name := "verdict", desc := "(I[JI)J" } : Jvm.MethodName) method_27_code (3 : Nat) (Option.some Jvm.ClassFile.FieldType.long)) ∈ jws := jws_6 (List.mem_of_getElem? (i := 191) rfl) rfl
theorem jw_1392 : (Jvm.Cond.constantLong "CoinNodeLaw" (169 : Nat) (34 : Int64)) ∈ jws := jws_6 (List.mem_of_getElem? (i := 192) rfl) rfl
theorem jw_1393 : (Jvm.Cond.constantLong "CoinNodeLaw" (171 : Nat) (8 : Int64)) ∈ jws := jws_6 (List.mem_of_getElem? (i := 193) rfl) rfl
theorem jw_1394 : (Jvm.Cond.methodLink "CoinNodeLaw" (173 : Nat) ({ cls := "CoinNodeLaw", name := "named", desc := "(J[JI)J" } : Jvm.MethodName)) ∈ jws := jws_6 (List.mem_of_getElem? (i := 194) rfl) rfl
theorem jw_1395 : (Jvm.Cond.static ({ cls := "CoinNodeLaw", name := "named", desc := "(J[JI)J" } : Jvm.MethodName)) ∈ jws := jws_6 (List.mem_of_getElem? (i := 195) rfl) rfl
theorem jw_1396 : (Jvm.Cond.code ({ cls := "CoinNodeLaw", name := "named", desc := "(J[JI)J" } : Jvm.MethodName) method_26_code (5 : Nat) (Option.some Jvm.ClassFile.FieldType.long)) ∈ jws := jws_6 (List.mem_of_getElem? (i := 196) rfl) rfl
theorem jw_1397 : (Jvm.Cond.methodLink "CoinNodeLaw" (236 : Nat) ({ cls := "CoinNodeLaw", name := "copy", desc := "([JII)V" } : Jvm.MethodName)) ∈ jws := jws_6 (List.mem_of_getElem? (i := 197) rfl) rfl
theorem jw_1398 : (Jvm.Cond.static ({ cls := "CoinNodeLaw", name := "copy", desc := "([JII)V" } : Jvm.MethodName)) ∈ jws := jws_6 (List.mem_of_getElem? (i := 198) rfl) rfl
theorem jw_1399 : (Jvm.Cond.code ({ cls := "CoinNodeLaw", name := "copy", desc := "([JII)V" } : Jvm.MethodName) method_32_code (4 : Nat) (Option.none : Option Jvm.ClassFile.FieldType)) ∈ jws := jws_6 (List.mem_of_getElem? (i := 199) rfl) rfl
theorem jw_1400 : (Jvm.Cond.methodLink "CoinNodeLaw" (240 : Nat) ({ cls := "CoinNodeLaw", name := "have", desc := "(I[JI)J" } : Jvm.MethodName)) ∈ jws := jws_6 (List.mem_of_getElem? (i := 200) rfl) rfl
theorem jw_1401 : (Jvm.Cond.static ({ cls := "CoinNodeLaw", name := "have", desc := "(I[JI)J" } : Jvm.MethodName)) ∈ jws := jws_6 (List.mem_of_getElem? (i := 201) rfl) rfl
theorem jw_1402 : (Jvm.Cond.code ({ cls := "CoinNodeLaw", name := "have", desc := "(I[JI)J" } : Jvm.MethodName) method_28_code (3 : Nat) (Option.some Jvm.ClassFile.FieldType.long)) ∈ jws := jws_6 (List.mem_of_getElem? (i := 202) rfl) rfl
theorem jw_1403 : (Jvm.Cond.constantLong "CoinNodeLaw" (177 : Nat) (35 : Int64)) ∈ jws := jws_6 (List.mem_of_getElem? (i := 203) rfl) rfl
theorem jw_1404 : (Jvm.Cond.constantLong "CoinNodeLaw" (179 : Nat) (6 : Int64)) ∈ jws := jws_6 (List.mem_of_getElem? (i := 204) rfl) rfl
theorem jw_1405 : (Jvm.Cond.methodLink "CoinNodeLaw" (243 : Nat) ({ cls := "CoinNode", name := "total", desc := "()J" } : Jvm.MethodName)) ∈ jws := jws_6 (List.mem_of_getElem? (i := 205) rfl) rfl
theorem jw_1406 : (Jvm.Cond.instanceMethod ({ cls := "CoinNode", name := "total", desc := "()J" } : Jvm.MethodName)) ∈ jws := jws_6 (List.mem_of_getElem? (i := 206) rfl) rfl
theorem jw_1407 : (Jvm.Cond.selects "CoinNode" ({ cls := "CoinNode", name := "total", desc := "()J" } : Jvm.MethodName) ({ cls := "CoinNode", name := "total", desc := "()J" } : Jvm.MethodName)) ∈ jws := jws_6 (List.mem_of_getElem? (i := 207) rfl) rfl
theorem jw_1408 : (Jvm.Cond.code ({ cls := "CoinNode", name := "total", desc := "()J" } : Jvm.MethodName) prog_1_method_8_code (1 : Nat) (Option.some Jvm.ClassFile.FieldType.long)) ∈ jws := jws_6 (List.mem_of_getElem? (i := 208) rfl) rfl
theorem jw_1409 : (Jvm.Cond.methodLink "CoinNodeLaw" (246 : Nat) ({ cls := "CoinNodeLaw", name := "isAt", desc := "(LCoinNode;[JII)Z" } : Jvm.MethodName)) ∈ jws := jws_6 (List.mem_of_getElem? (i := 209) rfl) rfl
theorem jw_1410 : (Jvm.Cond.static ({ cls := "CoinNodeLaw", name := "isAt", desc := "(LCoinNode;[JII)Z" } : Jvm.MethodName)) ∈ jws := jws_6 (List.mem_of_getElem? (i := 210) rfl) rfl
theorem jw_1411 : (Jvm.Cond.code ({ cls := "CoinNodeLaw", name := "isAt", desc := "(LCoinNode;[JII)Z" } : Jvm.MethodName) method_30_code (4 : Nat) (Option.some Jvm.ClassFile.FieldType.boolean)) ∈ jws := jws_6 (List.mem_of_getElem? (i := 211) rfl) rfl
theorem jw_1412 : (Jvm.Cond.methodLink "CoinNodeLaw" (250 : Nat) ({ cls := "CoinNodeLaw", name := "coin", desc := "(LCoinNode;[JII)J" } : Jvm.MethodName)) ∈ jws := jws_6 (List.mem_of_getElem? (i := 212) rfl) rfl
theorem jw_1413 : (Jvm.Cond.static ({ cls := "CoinNodeLaw", name := "coin", desc := "(LCoinNode;[JII)J" } : Jvm.MethodName)) ∈ jws := jws_6 (List.mem_of_getElem? (i := 213) rfl) rfl
theorem jw_1414 : (Jvm.Cond.code ({ cls := "CoinNodeLaw", name := "coin", desc := "(LCoinNode;[JII)J" } : Jvm.MethodName) method_31_code (4 : Nat) (Option.some Jvm.ClassFile.FieldType.long)) ∈ jws := jws_6 (List.mem_of_getElem? (i := 214) rfl) rfl
theorem jw_1415 : (Jvm.Cond.methodLink "CoinNodeLaw" (199 : Nat) ({ cls := "CoinNode", name := "key", desc := "(JJJJI)V" } : Jvm.MethodName)) ∈ jws := jws_6 (List.mem_of_getElem? (i := 215) rfl) rfl
theorem jw_1416 : (Jvm.Cond.instanceMethod ({ cls := "CoinNode", name := "key", desc := "(JJJJI)V" } : Jvm.MethodName)) ∈ jws := jws_6 (List.mem_of_getElem? (i := 216) rfl) rfl
theorem jw_1417 : (Jvm.Cond.selects "CoinNode" ({ cls := "CoinNode", name := "key", desc := "(JJJJI)V" } : Jvm.MethodName) ({ cls := "CoinNode", name := "key", desc := "(JJJJI)V" } : Jvm.MethodName)) ∈ jws := jws_6 (List.mem_of_getElem? (i := 217) rfl) rfl
theorem jw_1418 : (Jvm.Cond.code ({ cls := "CoinNode", name := "key", desc := "(JJJJI)V" } : Jvm.MethodName) prog_1_method_6_code (12 : Nat) (Option.none : Option Jvm.ClassFile.FieldType)) ∈ jws := jws_6 (List.mem_of_getElem? (i := 218) rfl) rfl
theorem jw_1419 : (Jvm.Cond.methodLink "CoinNodeLaw" (203 : Nat) ({ cls := "CoinNode", name := "value", desc := "()J" } : Jvm.MethodName)) ∈ jws := jws_6 (List.mem_of_getElem? (i := 219) rfl) rfl
theorem jw_1420 : (Jvm.Cond.instanceMethod ({ cls := "CoinNode", name := "value", desc := "()J" } : Jvm.MethodName)) ∈ jws := jws_6 (List.mem_of_getElem? (i := 220) rfl) rfl
theorem jw_1421 : (Jvm.Cond.selects "CoinNode" ({ cls := "CoinNode", name := "value", desc := "()J" } : Jvm.MethodName) ({ cls := "CoinNode", name := "value", desc := "()J" } : Jvm.MethodName)) ∈ jws := jws_6 (List.mem_of_getElem? (i := 221) rfl) rfl
theorem jw_1422 : (Jvm.Cond.code ({ cls := "CoinNode", name := "value", desc := "()J" } : Jvm.MethodName) prog_1_method_7_code (2 : Nat) (Option.some Jvm.ClassFile.FieldType.long)) ∈ jws := jws_6 (List.mem_of_getElem? (i := 222) rfl) rfl
theorem jw_1423 : (Jvm.Cond.methodLink "CoinNode" (154 : Nat) ({ cls := "CoinNode$Coins", name := "find", desc := "([BII)I" } : Jvm.MethodName)) ∈ jws := jws_6 (List.mem_of_getElem? (i := 223) rfl) rfl
theorem jw_1424 : (Jvm.Cond.constantLong "CoinNode" (158 : Nat) (-1 : Int64)) ∈ jws := jws_6 (List.mem_of_getElem? (i := 224) rfl) rfl
theorem jw_1425 : (Jvm.Cond.methodLink "CoinNode" (160 : Nat) ({ cls := "CoinNode$Coins", name := "worth", desc := "(I)J" } : Jvm.MethodName)) ∈ jws := jws_6 (List.mem_of_getElem? (i := 225) rfl) rfl
def jnF : List (String × Nat × String × String × String × String) := []
def jnM : List (String × Nat × MethodName × String) := [("CoinNode", 33, ⟨"CoinNode$Hash", "<init>", "()V"⟩, "CoinNode"), ("CoinNode$Signature", 58, ⟨"CoinNode$Point", "<init>", "()V"⟩, "CoinNode"), ("CoinNode$Machine", 13, ⟨"CoinNode$Stack", "<init>", "()V"⟩, "CoinNode"), ("CoinNode", 49, ⟨"CoinNode$Coins", "<init>", "()V"⟩, "CoinNode")]
def jnA : List FieldType := [(Jvm.ClassFile.FieldType.array Jvm.ClassFile.FieldType.byte), (Jvm.ClassFile.FieldType.array Jvm.ClassFile.FieldType.int), (Jvm.ClassFile.FieldType.array Jvm.ClassFile.FieldType.long), (Jvm.ClassFile.FieldType.object "CoinNode$Point"), (Jvm.ClassFile.FieldType.object "CoinNode$Tx"), (Jvm.ClassFile.FieldType.object "CoinNode$Block")]
