/-! The words of the tables, by their places. -/
def jpriv : List MethodName := [⟨"CoinNode", "layOnTape", "(I)V"⟩, ⟨"CoinNode", "takeTransaction", "(I[B)V"⟩, ⟨"CoinNode$Tx", "readInputs", "(I)I"⟩, ⟨"CoinNode$Tx", "isRootInput", "(I)Z"⟩, ⟨"CoinNode$Tx", "readOutputs", "(I)I"⟩, ⟨"CoinNode", "answerVerdict", "(II[B)V"⟩, ⟨"CoinNode", "begin", "(I)V"⟩, ⟨"CoinNode", "put", "(I)V"⟩, ⟨"CoinNode", "post", "(I)V"⟩, ⟨"CoinNode$Pool", "clash", "(LCoinNode$Tx;)I"⟩, ⟨"CoinNode$Pool", "take", "(LCoinNode$Tx;I)I"⟩, ⟨"CoinNode$Machine", "push", "(I)V"⟩, ⟨"CoinNode$Machine", "part", "(I)V"⟩, ⟨"CoinNode$Machine", "has", "(I)Z"⟩, ⟨"CoinNode$Machine", "small", "(I)V"⟩, ⟨"CoinNode$Machine", "pass", "(I)V"⟩, ⟨"CoinNode$Machine", "arrange", "(I)V"⟩, ⟨"CoinNode$Machine", "move", "(I)V"⟩, ⟨"CoinNode$Machine", "compare", "(I)V"⟩, ⟨"CoinNode$Machine", "calculate", "(I)V"⟩, ⟨"CoinNode$Machine", "digest", "(I)V"⟩, ⟨"CoinNode$Machine", "ask", "(I)V"⟩, ⟨"CoinNode$Machine", "finish", "(Z)V"⟩, ⟨"CoinNode$Scripts", "write", "(LCoinNode$Tx;ILCoinNode$Tx;II)V"⟩, ⟨"CoinNode$Scripts", "put", "([BII)V"⟩, ⟨"CoinNode$Scripts", "fill", "(II)V"⟩, ⟨"CoinNode$Signature", "invert", "([I)V"⟩, ⟨"CoinNode$Signature", "multiply", "([I[I[I)V"⟩, ⟨"CoinNode$Signature", "isAtX", "()Z"⟩, ⟨"CoinNode$Pool", "knot", "(LCoinNode$Tx;)I"⟩, ⟨"CoinNode$Pool", "markKin", "(LCoinNode$Tx;)V"⟩, ⟨"CoinNode$Pool", "dropLeast", "(LCoinNode$Tx;)Z"⟩, ⟨"CoinNode", "tellOthers", "(II[B)V"⟩, ⟨"CoinNode", "put", "([BII)V"⟩, ⟨"CoinNode$Chain", "bitsBehind", "(LCoinNode$Block;)I"⟩, ⟨"CoinNode$Chain", "median", "(LCoinNode$Block;)J"⟩, ⟨"CoinNode$Chain", "setWork", "(LCoinNode$Block;)V"⟩, ⟨"CoinNode$Chain", "best", "()LCoinNode$Block;"⟩, ⟨"CoinNode$Chain", "layWay", "(LCoinNode$Block;)I"⟩, ⟨"CoinNode$Chain", "replay", "(I)V"⟩, ⟨"CoinNode$Coins", "change", "(LCoinNode$Tx;IZ)V"⟩, ⟨"CoinNode$Coins", "take", "(LCoinNode$Tx;I)I"⟩, ⟨"CoinNode$Coins", "faultOfMaking", "(LCoinNode$Tx;I)I"⟩, ⟨"CoinNode$Chain", "move", "(ILCoinNode$Block;)V"⟩, ⟨"CoinNode$Chain", "condemn", "(LCoinNode$Block;)V"⟩, ⟨"CoinNode", "answerBlock", "(ILCoinNode$Block;IZ)V"⟩, ⟨"CoinNode", "askWhatIsBehind", "(I)V"⟩, ⟨"CoinNode", "answerWhatIsBehind", "(I[B)V"⟩, ⟨"CoinNode", "answerGive", "(I[B)V"⟩, ⟨"CoinNode", "answerIHave", "(I[B)V"⟩, ⟨"CoinNodeModel$Points", "write", "(IJJJJ)V"⟩, ⟨"CoinNodeModel$Points", "nothing", "(I)V"⟩, ⟨"CoinNodeModel$Tree", "join", "(IJJ)V"⟩, ⟨"CoinNodeModel$Tree", "quotient", "()V"⟩, ⟨"CoinNodeModel", "write", "(I)V"⟩, ⟨"CoinNodeModel", "message", "(II)V"⟩, ⟨"CoinNodeModel", "comes", "([BIIZ)I"⟩, ⟨"CoinNodeModel", "need", "(I)V"⟩, ⟨"CoinNodeModel", "height", "(I)I"⟩, ⟨"CoinNodeModel$Tree", "isBlock", "(I)Z"⟩, ⟨"CoinNodeModel", "openBlock", "(I)V"⟩, ⟨"CoinNodeModel", "open", "([BII)Z"⟩, ⟨"CoinNodeModel$Tx", "pass", "(I)V"⟩, ⟨"CoinNodeModel$Tx", "size", "(I)I"⟩, ⟨"CoinNodeModel$Tx", "low", "(I)J"⟩, ⟨"CoinNodeModel", "apply", "(IZ)V"⟩, ⟨"CoinNodeModel", "coin", "([BIJ)I"⟩, ⟨"CoinNodeModel", "dropCoin", "(I)V"⟩, ⟨"CoinNodeModel", "nameOf", "(LCoinNodeModel$Tx;[BI)V"⟩, ⟨"CoinNodeModel", "inPool", "([BI)I"⟩, ⟨"CoinNodeModel", "spends", "(I[BIJ)Z"⟩, ⟨"CoinNodeModel", "find", "([BIJ)J"⟩, ⟨"CoinNodeModel", "openPool", "(I)V"⟩, ⟨"CoinNodeModel", "fails", "(LCoinNodeModel$Tx;I[BII)Z"⟩, ⟨"CoinNodeModel$Scripts", "next", "(I)I"⟩, ⟨"CoinNodeModel$Scripts", "isDone", "()Z"⟩, ⟨"CoinNodeModel$Scripts", "fails", "(I)V"⟩, ⟨"CoinNodeModel$Scripts", "pushes", "(IIZ)I"⟩, ⟨"CoinNodeModel$Scripts", "flow", "(I)V"⟩, ⟨"CoinNodeModel$Scripts", "has", "(I)Z"⟩, ⟨"CoinNodeModel$Scripts", "isTrueRow", "(I)Z"⟩, ⟨"CoinNodeModel$Scripts", "pushNumber", "(J)V"⟩, ⟨"CoinNodeModel$Scripts", "operation", "(I)V"⟩, ⟨"CoinNodeModel$Scripts", "moves", "(I)V"⟩, ⟨"CoinNodeModel$Scripts", "copy", "(II)V"⟩, ⟨"CoinNodeModel$Scripts", "push", "(I)V"⟩, ⟨"CoinNodeModel$Scripts", "again", "(III)V"⟩, ⟨"CoinNodeModel$Scripts", "turn", "(II)V"⟩, ⟨"CoinNodeModel$Scripts", "top", "(I)I"⟩, ⟨"CoinNodeModel$Scripts", "takeOut", "(I)V"⟩, ⟨"CoinNodeModel$Scripts", "pick", "(Z)V"⟩, ⟨"CoinNodeModel$Scripts", "reads", "(I)Z"⟩, ⟨"CoinNodeModel$Scripts", "equal", "(Z)V"⟩, ⟨"CoinNodeModel$Scripts", "isSame", "(II)Z"⟩, ⟨"CoinNodeModel$Scripts", "pushTruth", "(Z)V"⟩, ⟨"CoinNodeModel$Scripts", "mustBeTrue", "()V"⟩, ⟨"CoinNodeModel$Scripts", "numberOfOne", "(I)V"⟩, ⟨"CoinNodeModel$Scripts", "numberOfTwo", "(I)V"⟩, ⟨"CoinNodeModel$Scripts", "digest", "(I)V"⟩, ⟨"CoinNodeModel$Scripts", "digested", "(IZ)V"⟩, ⟨"CoinNodeModel$Hashes", "step", "(III)V"⟩, ⟨"CoinNodeModel$Scripts", "one", "(Z)V"⟩, ⟨"CoinNodeModel$Scripts", "fit", "(II)Z"⟩, ⟨"CoinNodeModel$Points", "read", "(III)V"⟩, ⟨"CoinNodeModel$Points", "compare", "(II)I"⟩, ⟨"CoinNodeModel$Points", "curve", "(II)V"⟩, ⟨"CoinNodeModel$Points", "multiply", "(IIII)V"⟩, ⟨"CoinNodeModel$Points", "carry", "()V"⟩, ⟨"CoinNodeModel$Points", "isWide", "()Z"⟩, ⟨"CoinNodeModel$Points", "fold", "(I)V"⟩, ⟨"CoinNodeModel$Points", "add", "(III)V"⟩, ⟨"CoinNodeModel$Points", "plus", "(IIII)V"⟩, ⟨"CoinNodeModel$Points", "copy", "(II)V"⟩, ⟨"CoinNodeModel$Points", "roots", "(II)Z"⟩, ⟨"CoinNodeModel$Points", "power", "(III)V"⟩, ⟨"CoinNodeModel$Points", "bit", "(II)Z"⟩, ⟨"CoinNodeModel$Points", "isOdd", "(I)Z"⟩, ⟨"CoinNodeModel$Points", "minus", "(IIII)V"⟩, ⟨"CoinNodeModel$Points", "isPoint", "(II)Z"⟩, ⟨"CoinNodeModel$Points", "numberEnd", "(II)I"⟩, ⟨"CoinNodeModel$Signing", "write", "(I)V"⟩, ⟨"CoinNodeModel$Signing", "copy", "([BII)V"⟩, ⟨"CoinNodeModel$Signing", "fill", "(II)V"⟩, ⟨"CoinNodeModel$Signing", "word", "(I)J"⟩, ⟨"CoinNodeModel$Points", "isNothing", "(I)Z"⟩, ⟨"CoinNodeModel$Points", "divide", "(IIII)V"⟩, ⟨"CoinNodeModel$Points", "multiple", "(I)V"⟩, ⟨"CoinNodeModel$Points", "isNone", "(I)Z"⟩, ⟨"CoinNodeModel$Points", "twice", "(I)V"⟩, ⟨"CoinNodeModel$Points", "copyPoint", "(II)V"⟩, ⟨"CoinNodeModel$Points", "join", "(II)V"⟩, ⟨"CoinNodeModel$Points", "load", "(II)V"⟩, ⟨"CoinNodeModel$Scripts", "several", "(Z)V"⟩, ⟨"CoinNodeModel", "lacks", "()Z"⟩, ⟨"CoinNodeModel", "hangsOnItself", "()Z"⟩, ⟨"CoinNodeModel", "family", "([BI)V"⟩, ⟨"CoinNodeModel", "hangs", "(I[BI)Z"⟩, ⟨"CoinNodeModel", "evict", "()V"⟩, ⟨"CoinNodeModel", "verdict", "(II[BI)V"⟩, ⟨"CoinNodeModel", "begin", "(I)V"⟩, ⟨"CoinNodeModel", "put", "(I)V"⟩, ⟨"CoinNodeModel", "tell", "(I)V"⟩, ⟨"CoinNodeModel", "tellOthers", "(II[BI)V"⟩, ⟨"CoinNodeModel", "copy", "([BII)V"⟩, ⟨"CoinNodeModel", "arrives", "(I)I"⟩, ⟨"CoinNodeModel", "known", "([BI)I"⟩, ⟨"CoinNodeModel", "head", "(II)J"⟩, ⟨"CoinNodeModel$Tree", "scale", "(JJ)V"⟩, ⟨"CoinNodeModel", "isAbove", "(J)Z"⟩, ⟨"CoinNodeModel", "isFramed", "()Z"⟩, ⟨"CoinNodeModel", "isRooted", "()Z"⟩, ⟨"CoinNodeModel", "isFaulty", "()Z"⟩, ⟨"CoinNodeModel", "choose", "()V"⟩, ⟨"CoinNodeModel", "look", "(I)I"⟩, ⟨"CoinNodeModel", "parent", "(I)I"⟩, ⟨"CoinNodeModel", "keep", "()V"⟩, ⟨"CoinNodeModel", "faultOf", "(I)I"⟩, ⟨"CoinNodeModel", "wrong", "(I)I"⟩, ⟨"CoinNodeModel", "back", "()V"⟩, ⟨"CoinNodeModel", "renew", "(I)V"⟩, ⟨"CoinNodeModel", "askBehind", "(I)V"⟩, ⟨"CoinNodeModel", "isList", "(IIII)Z"⟩, ⟨"CoinNodeModel", "heads", "(II)V"⟩, ⟨"CoinNodeModel", "give", "(II)V"⟩, ⟨"CoinNodeModel", "want", "(II)V"⟩]
def jsel (y : MethodName) : Cond := .selects y.cls y y
def jws : List Cond := tables_1.filter goodWord ++ jpriv.map jsel
theorem jws_t {w : Cond} {i : Nat} (h : tables_1[i]? = some w) (hg : goodWord w = true) : w ∈ jws := List.mem_append_left _ (List.mem_filter.mpr ⟨List.mem_of_getElem? h, hg⟩)
theorem jws_1 {w : Cond} (h : w ∈ tables_1_1) (hg : goodWord w = true) : w ∈ jws := List.mem_append_left _ (List.mem_filter.mpr ⟨List.mem_append_left _ h, hg⟩)
theorem jws_2 {w : Cond} (h : w ∈ tables_1_2) (hg : goodWord w = true) : w ∈ jws := List.mem_append_left _ (List.mem_filter.mpr ⟨List.mem_append_right _ (List.mem_append_left _ h), hg⟩)
theorem jws_3 {w : Cond} (h : w ∈ tables_1_3) (hg : goodWord w = true) : w ∈ jws := List.mem_append_left _ (List.mem_filter.mpr ⟨List.mem_append_right _ (List.mem_append_right _ (List.mem_append_left _ h)), hg⟩)
theorem jws_4 {w : Cond} (h : w ∈ tables_1_4) (hg : goodWord w = true) : w ∈ jws := List.mem_append_left _ (List.mem_filter.mpr ⟨List.mem_append_right _ (List.mem_append_right _ (List.mem_append_right _ (List.mem_append_left _ h))), hg⟩)
theorem jws_5 {w : Cond} (h : w ∈ tables_1_5) (hg : goodWord w = true) : w ∈ jws := List.mem_append_left _ (List.mem_filter.mpr ⟨List.mem_append_right _ (List.mem_append_right _ (List.mem_append_right _ (List.mem_append_right _ (List.mem_append_left _ h)))), hg⟩)
theorem jws_6 {w : Cond} (h : w ∈ tables_1_6) (hg : goodWord w = true) : w ∈ jws := List.mem_append_left _ (List.mem_filter.mpr ⟨List.mem_append_right _ (List.mem_append_right _ (List.mem_append_right _ (List.mem_append_right _ (List.mem_append_right _ (List.mem_append_left _ h))))), hg⟩)
theorem jws_7 {w : Cond} (h : w ∈ tables_1_7) (hg : goodWord w = true) : w ∈ jws := List.mem_append_left _ (List.mem_filter.mpr ⟨List.mem_append_right _ (List.mem_append_right _ (List.mem_append_right _ (List.mem_append_right _ (List.mem_append_right _ (List.mem_append_right _ (List.mem_append_left _ h)))))), hg⟩)
theorem jws_8 {w : Cond} (h : w ∈ tables_1_8) (hg : goodWord w = true) : w ∈ jws := List.mem_append_left _ (List.mem_filter.mpr ⟨List.mem_append_right _ (List.mem_append_right _ (List.mem_append_right _ (List.mem_append_right _ (List.mem_append_right _ (List.mem_append_right _ (List.mem_append_right _ (List.mem_append_left _ h))))))), hg⟩)
theorem jws_9 {w : Cond} (h : w ∈ tables_1_9) (hg : goodWord w = true) : w ∈ jws := List.mem_append_left _ (List.mem_filter.mpr ⟨List.mem_append_right _ (List.mem_append_right _ (List.mem_append_right _ (List.mem_append_right _ (List.mem_append_right _ (List.mem_append_right _ (List.mem_append_right _ (List.mem_append_right _ (List.mem_append_left _ h)))))))), hg⟩)
theorem jws_10 {w : Cond} (h : w ∈ tables_1_10) (hg : goodWord w = true) : w ∈ jws := List.mem_append_left _ (List.mem_filter.mpr ⟨List.mem_append_right _ (List.mem_append_right _ (List.mem_append_right _ (List.mem_append_right _ (List.mem_append_right _ (List.mem_append_right _ (List.mem_append_right _ (List.mem_append_right _ (List.mem_append_right _ (List.mem_append_left _ h))))))))), hg⟩)
theorem jws_11 {w : Cond} (h : w ∈ tables_1_11) (hg : goodWord w = true) : w ∈ jws := List.mem_append_left _ (List.mem_filter.mpr ⟨List.mem_append_right _ (List.mem_append_right _ (List.mem_append_right _ (List.mem_append_right _ (List.mem_append_right _ (List.mem_append_right _ (List.mem_append_right _ (List.mem_append_right _ (List.mem_append_right _ (List.mem_append_right _ (h)))))))))), hg⟩)
theorem jws_p {y : MethodName} {i : Nat} (h : jpriv[i]? = some y) : jsel y ∈ jws := List.mem_append_right _ (List.mem_map.mpr ⟨y, List.mem_of_getElem? h, rfl⟩)
theorem jws_good : ∀ w ∈ jws, goodWord w = true := by
  intro w hw
  rcases List.mem_append.mp hw with h | h
  · exact (List.mem_filter.mp h).2
  · obtain ⟨y, -, rfl⟩ := List.mem_map.mp h
    rfl
theorem jw_0 : (Jvm.Cond.initialized "CoinNodeLaw") ∈ jws := jws_1 (List.mem_of_getElem? (i := 0) rfl) rfl
theorem jw_1 : (Jvm.Cond.initialized "CoinNode") ∈ jws := jws_1 (List.mem_of_getElem? (i := 1) rfl) rfl
theorem jw_2 : (Jvm.Cond.initialized "CoinNode$Hash") ∈ jws := jws_1 (List.mem_of_getElem? (i := 2) rfl) rfl
theorem jw_3 : (Jvm.Cond.initialized "CoinNode$Scripts") ∈ jws := jws_1 (List.mem_of_getElem? (i := 3) rfl) rfl
theorem jw_4 : (Jvm.Cond.initialized "CoinNode$Signature") ∈ jws := jws_1 (List.mem_of_getElem? (i := 4) rfl) rfl
theorem jw_5 : (Jvm.Cond.initialized "CoinNode$Point") ∈ jws := jws_1 (List.mem_of_getElem? (i := 5) rfl) rfl
theorem jw_6 : (Jvm.Cond.initialized "CoinNode$Machine") ∈ jws := jws_1 (List.mem_of_getElem? (i := 6) rfl) rfl
theorem jw_7 : (Jvm.Cond.initialized "CoinNode$Stack") ∈ jws := jws_1 (List.mem_of_getElem? (i := 7) rfl) rfl
theorem jw_8 : (Jvm.Cond.initialized "CoinNode$Coins") ∈ jws := jws_1 (List.mem_of_getElem? (i := 8) rfl) rfl
theorem jw_9 : (Jvm.Cond.initialized "CoinNode$Chain") ∈ jws := jws_1 (List.mem_of_getElem? (i := 9) rfl) rfl
theorem jw_10 : (Jvm.Cond.initialized "CoinNode$Block") ∈ jws := jws_1 (List.mem_of_getElem? (i := 10) rfl) rfl
theorem jw_11 : (Jvm.Cond.initialized "CoinNode$Tx") ∈ jws := jws_1 (List.mem_of_getElem? (i := 11) rfl) rfl
theorem jw_12 : (Jvm.Cond.initialized "java/lang/System") ∈ jws := jws_1 (List.mem_of_getElem? (i := 12) rfl) rfl
theorem jw_13 : (Jvm.Cond.initialized "CoinNode$Pool") ∈ jws := jws_1 (List.mem_of_getElem? (i := 13) rfl) rfl
theorem jw_14 : (Jvm.Cond.initialized "CoinNodeModel") ∈ jws := jws_1 (List.mem_of_getElem? (i := 14) rfl) rfl
theorem jw_15 : (Jvm.Cond.initialized "CoinNodeModel$Hashes") ∈ jws := jws_1 (List.mem_of_getElem? (i := 15) rfl) rfl
theorem jw_16 : (Jvm.Cond.initialized "CoinNodeModel$Signing") ∈ jws := jws_1 (List.mem_of_getElem? (i := 16) rfl) rfl
theorem jw_17 : (Jvm.Cond.initialized "CoinNodeModel$Points") ∈ jws := jws_1 (List.mem_of_getElem? (i := 17) rfl) rfl
theorem jw_18 : (Jvm.Cond.initialized "CoinNodeModel$Scripts") ∈ jws := jws_1 (List.mem_of_getElem? (i := 18) rfl) rfl
theorem jw_19 : (Jvm.Cond.initialized "CoinNodeModel$Tree") ∈ jws := jws_1 (List.mem_of_getElem? (i := 19) rfl) rfl
theorem jw_20 : (Jvm.Cond.initialized "CoinNodeModel$Tx") ∈ jws := jws_1 (List.mem_of_getElem? (i := 20) rfl) rfl
theorem jw_21 : (Jvm.Cond.initialized "java/util/Arrays") ∈ jws := jws_1 (List.mem_of_getElem? (i := 21) rfl) rfl
theorem jw_22 : (Jvm.Cond.initialized "java/lang/Math") ∈ jws := jws_1 (List.mem_of_getElem? (i := 22) rfl) rfl
theorem jw_23 : (Jvm.Cond.classLink "CoinNodeLaw" (7 : Nat) "CoinNode") ∈ jws := jws_1 (List.mem_of_getElem? (i := 23) rfl) rfl
theorem jw_24 : (Jvm.Cond.instantiable "CoinNode" (14 : Nat)) ∈ jws := jws_1 (List.mem_of_getElem? (i := 24) rfl) rfl
theorem jw_25 : (Jvm.Cond.methodLink "CoinNodeLaw" (9 : Nat) ({ cls := "CoinNode", name := "<init>", desc := "()V" } : Jvm.MethodName)) ∈ jws := jws_1 (List.mem_of_getElem? (i := 25) rfl) rfl
theorem jw_26 : (Jvm.Cond.instanceMethod ({ cls := "CoinNode", name := "<init>", desc := "()V" } : Jvm.MethodName)) ∈ jws := jws_1 (List.mem_of_getElem? (i := 26) rfl) rfl
theorem jw_27 : (Jvm.Cond.code ({ cls := "CoinNode", name := "<init>", desc := "()V" } : Jvm.MethodName) prog_1_method_1_code (1 : Nat) (Option.none : Option Jvm.ClassFile.FieldType)) ∈ jws := jws_1 (List.mem_of_getElem? (i := 27) rfl) rfl
theorem jw_28 : (Jvm.Cond.methodLink "CoinNode" (1 : Nat) ({ cls := "java/lang/Object", name := "<init>", desc := "()V" } : Jvm.MethodName)) ∈ jws := jws_1 (List.mem_of_getElem? (i := 28) rfl) rfl
theorem jw_29 : (Jvm.Cond.instanceMethod ({ cls := "java/lang/Object", name := "<init>", desc := "()V" } : Jvm.MethodName)) ∈ jws := jws_1 (List.mem_of_getElem? (i := 29) rfl) rfl
theorem jw_30 : (Jvm.Cond.code ({ cls := "java/lang/Object", name := "<init>", desc := "()V" } : Jvm.MethodName) object_method_1_code (1 : Nat) (Option.none : Option Jvm.ClassFile.FieldType)) ∈ jws := jws_1 (List.mem_of_getElem? (i := 30) rfl) rfl
theorem jw_31 : (Jvm.Cond.classLink "CoinNode" (16 : Nat) "[[B") ∈ jws := jws_1 (List.mem_of_getElem? (i := 31) rfl) rfl
theorem jw_33 : (Jvm.Cond.classLink "CoinNode" (31 : Nat) "CoinNode$Hash") ∈ jws := jws_1 (List.mem_of_getElem? (i := 33) rfl) rfl
theorem jw_34 : (Jvm.Cond.instantiable "CoinNode$Hash" (6 : Nat)) ∈ jws := jws_1 (List.mem_of_getElem? (i := 34) rfl) rfl
theorem jw_36 : (Jvm.Cond.instanceMethod ({ cls := "CoinNode$Hash", name := "<init>", desc := "()V" } : Jvm.MethodName)) ∈ jws := jws_1 (List.mem_of_getElem? (i := 36) rfl) rfl
theorem jw_37 : (Jvm.Cond.code ({ cls := "CoinNode$Hash", name := "<init>", desc := "()V" } : Jvm.MethodName) prog_5_method_1_code (1 : Nat) (Option.none : Option Jvm.ClassFile.FieldType)) ∈ jws := jws_1 (List.mem_of_getElem? (i := 37) rfl) rfl
theorem jw_38 : (Jvm.Cond.methodLink "CoinNode$Hash" (3 : Nat) ({ cls := "java/lang/Object", name := "<init>", desc := "()V" } : Jvm.MethodName)) ∈ jws := jws_1 (List.mem_of_getElem? (i := 38) rfl) rfl
theorem jw_39 : (Jvm.Cond.fieldLink "CoinNode$Hash" (11 : Nat) "CoinNode$Hash" "ready" "[B") ∈ jws := jws_1 (List.mem_of_getElem? (i := 39) rfl) rfl
theorem jw_40 : (Jvm.Cond.fieldLink "CoinNode$Hash" (28 : Nat) "CoinNode$Hash" "readySize" "I") ∈ jws := jws_1 (List.mem_of_getElem? (i := 40) rfl) rfl
theorem jw_41 : (Jvm.Cond.fieldLink "CoinNode$Hash" (15 : Nat) "CoinNode$Hash" "state" "[I") ∈ jws := jws_1 (List.mem_of_getElem? (i := 41) rfl) rfl
theorem jw_42 : (Jvm.Cond.fieldLink "CoinNode$Hash" (19 : Nat) "CoinNode$Hash" "words" "[I") ∈ jws := jws_1 (List.mem_of_getElem? (i := 42) rfl) rfl
theorem jw_43 : (Jvm.Cond.fieldLink "CoinNode$Hash" (22 : Nat) "CoinNode$Hash" "line" "[I") ∈ jws := jws_1 (List.mem_of_getElem? (i := 43) rfl) rfl
theorem jw_44 : (Jvm.Cond.fieldLink "CoinNode$Hash" (25 : Nat) "CoinNode$Hash" "between" "[B") ∈ jws := jws_1 (List.mem_of_getElem? (i := 44) rfl) rfl
theorem jw_45 : (Jvm.Cond.laysFinal "CoinNode$Hash" "CoinNode$Hash" "ready" "[B") ∈ jws := jws_1 (List.mem_of_getElem? (i := 45) rfl) rfl
theorem jw_47 : (Jvm.Cond.lays "CoinNode$Hash" "CoinNode$Hash" "readySize" "I") ∈ jws := jws_1 (List.mem_of_getElem? (i := 47) rfl) rfl
theorem jw_49 : (Jvm.Cond.laysFinal "CoinNode$Hash" "CoinNode$Hash" "state" "[I") ∈ jws := jws_1 (List.mem_of_getElem? (i := 49) rfl) rfl
theorem jw_51 : (Jvm.Cond.laysFinal "CoinNode$Hash" "CoinNode$Hash" "words" "[I") ∈ jws := jws_1 (List.mem_of_getElem? (i := 51) rfl) rfl
theorem jw_53 : (Jvm.Cond.laysFinal "CoinNode$Hash" "CoinNode$Hash" "line" "[I") ∈ jws := jws_1 (List.mem_of_getElem? (i := 53) rfl) rfl
theorem jw_55 : (Jvm.Cond.laysFinal "CoinNode$Hash" "CoinNode$Hash" "between" "[B") ∈ jws := jws_1 (List.mem_of_getElem? (i := 55) rfl) rfl
theorem jw_58 : (Jvm.Cond.arrayClass Jvm.ClassFile.FieldType.byte) ∈ jws := jws_1 (List.mem_of_getElem? (i := 58) rfl) rfl
theorem jw_59 : (Jvm.Cond.arrayClass Jvm.ClassFile.FieldType.int) ∈ jws := jws_1 (List.mem_of_getElem? (i := 59) rfl) rfl
theorem jw_60 : (Jvm.Cond.classLink "CoinNode" (38 : Nat) "CoinNode$Scripts") ∈ jws := jws_1 (List.mem_of_getElem? (i := 60) rfl) rfl
theorem jw_61 : (Jvm.Cond.instantiable "CoinNode$Scripts" (8 : Nat)) ∈ jws := jws_1 (List.mem_of_getElem? (i := 61) rfl) rfl
theorem jw_62 : (Jvm.Cond.methodLink "CoinNode" (40 : Nat) ({ cls := "CoinNode$Scripts", name := "<init>", desc := "(LCoinNode$Hash;)V" } : Jvm.MethodName)) ∈ jws := jws_1 (List.mem_of_getElem? (i := 62) rfl) rfl
theorem jw_63 : (Jvm.Cond.instanceMethod ({ cls := "CoinNode$Scripts", name := "<init>", desc := "(LCoinNode$Hash;)V" } : Jvm.MethodName)) ∈ jws := jws_1 (List.mem_of_getElem? (i := 63) rfl) rfl
theorem jw_64 : (Jvm.Cond.code ({ cls := "CoinNode$Scripts", name := "<init>", desc := "(LCoinNode$Hash;)V" } : Jvm.MethodName) prog_9_method_1_code (2 : Nat) (Option.none : Option Jvm.ClassFile.FieldType)) ∈ jws := jws_1 (List.mem_of_getElem? (i := 64) rfl) rfl
theorem jw_65 : (Jvm.Cond.methodLink "CoinNode$Scripts" (3 : Nat) ({ cls := "java/lang/Object", name := "<init>", desc := "()V" } : Jvm.MethodName)) ∈ jws := jws_1 (List.mem_of_getElem? (i := 65) rfl) rfl
theorem jw_66 : (Jvm.Cond.classLink "CoinNode$Scripts" (9 : Nat) "CoinNode$Signature") ∈ jws := jws_1 (List.mem_of_getElem? (i := 66) rfl) rfl
theorem jw_67 : (Jvm.Cond.instantiable "CoinNode$Signature" (17 : Nat)) ∈ jws := jws_1 (List.mem_of_getElem? (i := 67) rfl) rfl
theorem jw_68 : (Jvm.Cond.methodLink "CoinNode$Scripts" (11 : Nat) ({ cls := "CoinNode$Signature", name := "<init>", desc := "()V" } : Jvm.MethodName)) ∈ jws := jws_1 (List.mem_of_getElem? (i := 68) rfl) rfl
theorem jw_69 : (Jvm.Cond.instanceMethod ({ cls := "CoinNode$Signature", name := "<init>", desc := "()V" } : Jvm.MethodName)) ∈ jws := jws_1 (List.mem_of_getElem? (i := 69) rfl) rfl
theorem jw_70 : (Jvm.Cond.code ({ cls := "CoinNode$Signature", name := "<init>", desc := "()V" } : Jvm.MethodName) prog_10_method_1_code (2 : Nat) (Option.none : Option Jvm.ClassFile.FieldType)) ∈ jws := jws_1 (List.mem_of_getElem? (i := 70) rfl) rfl
theorem jw_71 : (Jvm.Cond.methodLink "CoinNode$Signature" (3 : Nat) ({ cls := "java/lang/Object", name := "<init>", desc := "()V" } : Jvm.MethodName)) ∈ jws := jws_1 (List.mem_of_getElem? (i := 71) rfl) rfl
theorem jw_72 : (Jvm.Cond.classLink "CoinNode$Signature" (33 : Nat) "[[I") ∈ jws := jws_1 (List.mem_of_getElem? (i := 72) rfl) rfl
theorem jw_74 : (Jvm.Cond.classLink "CoinNode$Signature" (38 : Nat) "[[J") ∈ jws := jws_1 (List.mem_of_getElem? (i := 74) rfl) rfl
theorem jw_76 : (Jvm.Cond.classLink "CoinNode$Signature" (49 : Nat) "CoinNode$Point") ∈ jws := jws_1 (List.mem_of_getElem? (i := 76) rfl) rfl
theorem jw_78 : (Jvm.Cond.instantiable "CoinNode$Point" (4 : Nat)) ∈ jws := jws_1 (List.mem_of_getElem? (i := 78) rfl) rfl
theorem jw_80 : (Jvm.Cond.instanceMethod ({ cls := "CoinNode$Point", name := "<init>", desc := "()V" } : Jvm.MethodName)) ∈ jws := jws_1 (List.mem_of_getElem? (i := 80) rfl) rfl
theorem jw_81 : (Jvm.Cond.code ({ cls := "CoinNode$Point", name := "<init>", desc := "()V" } : Jvm.MethodName) prog_7_method_1_code (1 : Nat) (Option.none : Option Jvm.ClassFile.FieldType)) ∈ jws := jws_1 (List.mem_of_getElem? (i := 81) rfl) rfl
theorem jw_82 : (Jvm.Cond.methodLink "CoinNode$Point" (1 : Nat) ({ cls := "java/lang/Object", name := "<init>", desc := "()V" } : Jvm.MethodName)) ∈ jws := jws_1 (List.mem_of_getElem? (i := 82) rfl) rfl
theorem jw_83 : (Jvm.Cond.fieldLink "CoinNode$Point" (7 : Nat) "CoinNode$Point" "x" "[J") ∈ jws := jws_1 (List.mem_of_getElem? (i := 83) rfl) rfl
theorem jw_84 : (Jvm.Cond.fieldLink "CoinNode$Signature" (89 : Nat) "CoinNode$Point" "x" "[J") ∈ jws := jws_1 (List.mem_of_getElem? (i := 84) rfl) rfl
theorem jw_85 : (Jvm.Cond.fieldLink "CoinNode$Point" (13 : Nat) "CoinNode$Point" "y" "[J") ∈ jws := jws_1 (List.mem_of_getElem? (i := 85) rfl) rfl
theorem jw_86 : (Jvm.Cond.fieldLink "CoinNode$Signature" (105 : Nat) "CoinNode$Point" "y" "[J") ∈ jws := jws_1 (List.mem_of_getElem? (i := 86) rfl) rfl
theorem jw_87 : (Jvm.Cond.fieldLink "CoinNode$Point" (16 : Nat) "CoinNode$Point" "z" "[J") ∈ jws := jws_1 (List.mem_of_getElem? (i := 87) rfl) rfl
theorem jw_88 : (Jvm.Cond.fieldLink "CoinNode$Signature" (168 : Nat) "CoinNode$Point" "z" "[J") ∈ jws := jws_1 (List.mem_of_getElem? (i := 88) rfl) rfl
theorem jw_89 : (Jvm.Cond.fieldLink "CoinNode$Point" (19 : Nat) "CoinNode$Point" "isNone" "Z") ∈ jws := jws_1 (List.mem_of_getElem? (i := 89) rfl) rfl
theorem jw_90 : (Jvm.Cond.fieldLink "CoinNode$Signature" (155 : Nat) "CoinNode$Point" "isNone" "Z") ∈ jws := jws_1 (List.mem_of_getElem? (i := 90) rfl) rfl
theorem jw_91 : (Jvm.Cond.laysFinal "CoinNode$Point" "CoinNode$Point" "x" "[J") ∈ jws := jws_1 (List.mem_of_getElem? (i := 91) rfl) rfl
theorem jw_93 : (Jvm.Cond.laysFinal "CoinNode$Point" "CoinNode$Point" "y" "[J") ∈ jws := jws_1 (List.mem_of_getElem? (i := 93) rfl) rfl
theorem jw_95 : (Jvm.Cond.laysFinal "CoinNode$Point" "CoinNode$Point" "z" "[J") ∈ jws := jws_1 (List.mem_of_getElem? (i := 95) rfl) rfl
theorem jw_97 : (Jvm.Cond.lays "CoinNode$Point" "CoinNode$Point" "isNone" "Z") ∈ jws := jws_1 (List.mem_of_getElem? (i := 97) rfl) rfl
theorem jw_100 : (Jvm.Cond.arrayClass Jvm.ClassFile.FieldType.long) ∈ jws := jws_1 (List.mem_of_getElem? (i := 100) rfl) rfl
theorem jw_101 : (Jvm.Cond.fieldLink "CoinNode$Signature" (66 : Nat) "CoinNode$Signature" "kind" "I") ∈ jws := jws_1 (List.mem_of_getElem? (i := 101) rfl) rfl
theorem jw_102 : (Jvm.Cond.fieldLink "CoinNode$Scripts" (97 : Nat) "CoinNode$Signature" "kind" "I") ∈ jws := jws_1 (List.mem_of_getElem? (i := 102) rfl) rfl
theorem jw_103 : (Jvm.Cond.fieldLink "CoinNode$Signature" (9 : Nat) "CoinNode$Signature" "r" "[I") ∈ jws := jws_1 (List.mem_of_getElem? (i := 103) rfl) rfl
theorem jw_104 : (Jvm.Cond.fieldLink "CoinNode$Signature" (15 : Nat) "CoinNode$Signature" "s" "[I") ∈ jws := jws_1 (List.mem_of_getElem? (i := 104) rfl) rfl
theorem jw_105 : (Jvm.Cond.fieldLink "CoinNode$Signature" (18 : Nat) "CoinNode$Signature" "x" "[I") ∈ jws := jws_1 (List.mem_of_getElem? (i := 105) rfl) rfl
theorem jw_106 : (Jvm.Cond.fieldLink "CoinNode$Signature" (21 : Nat) "CoinNode$Signature" "y" "[I") ∈ jws := jws_1 (List.mem_of_getElem? (i := 106) rfl) rfl
theorem jw_107 : (Jvm.Cond.fieldLink "CoinNode$Signature" (24 : Nat) "CoinNode$Signature" "z" "[I") ∈ jws := jws_1 (List.mem_of_getElem? (i := 107) rfl) rfl
theorem jw_108 : (Jvm.Cond.fieldLink "CoinNode$Signature" (27 : Nat) "CoinNode$Signature" "wide" "[I") ∈ jws := jws_1 (List.mem_of_getElem? (i := 108) rfl) rfl
theorem jw_109 : (Jvm.Cond.fieldLink "CoinNode$Signature" (30 : Nat) "CoinNode$Signature" "high" "[I") ∈ jws := jws_1 (List.mem_of_getElem? (i := 109) rfl) rfl
theorem jw_110 : (Jvm.Cond.fieldLink "CoinNode$Signature" (35 : Nat) "CoinNode$Signature" "powers" "[[I") ∈ jws := jws_1 (List.mem_of_getElem? (i := 110) rfl) rfl
theorem jw_111 : (Jvm.Cond.fieldLink "CoinNode$Signature" (40 : Nat) "CoinNode$Signature" "work" "[[J") ∈ jws := jws_1 (List.mem_of_getElem? (i := 111) rfl) rfl
theorem jw_112 : (Jvm.Cond.fieldLink "CoinNode$Signature" (43 : Nat) "CoinNode$Signature" "baseDigits" "[I") ∈ jws := jws_1 (List.mem_of_getElem? (i := 112) rfl) rfl
theorem jw_113 : (Jvm.Cond.fieldLink "CoinNode$Signature" (46 : Nat) "CoinNode$Signature" "keyDigits" "[I") ∈ jws := jws_1 (List.mem_of_getElem? (i := 113) rfl) rfl
theorem jw_114 : (Jvm.Cond.fieldLink "CoinNode$Signature" (51 : Nat) "CoinNode$Signature" "baseOdds" "[LCoinNode$Point;") ∈ jws := jws_1 (List.mem_of_getElem? (i := 114) rfl) rfl
theorem jw_115 : (Jvm.Cond.fieldLink "CoinNode$Signature" (55 : Nat) "CoinNode$Signature" "keyOdds" "[LCoinNode$Point;") ∈ jws := jws_1 (List.mem_of_getElem? (i := 115) rfl) rfl
theorem jw_116 : (Jvm.Cond.fieldLink "CoinNode$Signature" (59 : Nat) "CoinNode$Signature" "twice" "LCoinNode$Point;") ∈ jws := jws_1 (List.mem_of_getElem? (i := 116) rfl) rfl
theorem jw_117 : (Jvm.Cond.fieldLink "CoinNode$Signature" (63 : Nat) "CoinNode$Signature" "sum" "LCoinNode$Point;") ∈ jws := jws_1 (List.mem_of_getElem? (i := 117) rfl) rfl
theorem jw_118 : (Jvm.Cond.fieldLink "CoinNode$Signature" (134 : Nat) "CoinNode$Signature" "hasBase" "Z") ∈ jws := jws_1 (List.mem_of_getElem? (i := 118) rfl) rfl
theorem jw_119 : (Jvm.Cond.lays "CoinNode$Signature" "CoinNode$Signature" "kind" "I") ∈ jws := jws_1 (List.mem_of_getElem? (i := 119) rfl) rfl
theorem jw_121 : (Jvm.Cond.laysFinal "CoinNode$Signature" "CoinNode$Signature" "r" "[I") ∈ jws := jws_1 (List.mem_of_getElem? (i := 121) rfl) rfl
theorem jw_123 : (Jvm.Cond.laysFinal "CoinNode$Signature" "CoinNode$Signature" "s" "[I") ∈ jws := jws_1 (List.mem_of_getElem? (i := 123) rfl) rfl
theorem jw_125 : (Jvm.Cond.laysFinal "CoinNode$Signature" "CoinNode$Signature" "x" "[I") ∈ jws := jws_1 (List.mem_of_getElem? (i := 125) rfl) rfl
theorem jw_127 : (Jvm.Cond.laysFinal "CoinNode$Signature" "CoinNode$Signature" "y" "[I") ∈ jws := jws_1 (List.mem_of_getElem? (i := 127) rfl) rfl
theorem jw_129 : (Jvm.Cond.laysFinal "CoinNode$Signature" "CoinNode$Signature" "z" "[I") ∈ jws := jws_1 (List.mem_of_getElem? (i := 129) rfl) rfl
theorem jw_131 : (Jvm.Cond.laysFinal "CoinNode$Signature" "CoinNode$Signature" "wide" "[I") ∈ jws := jws_1 (List.mem_of_getElem? (i := 131) rfl) rfl
theorem jw_133 : (Jvm.Cond.laysFinal "CoinNode$Signature" "CoinNode$Signature" "high" "[I") ∈ jws := jws_1 (List.mem_of_getElem? (i := 133) rfl) rfl
theorem jw_135 : (Jvm.Cond.laysFinal "CoinNode$Signature" "CoinNode$Signature" "powers" "[[I") ∈ jws := jws_1 (List.mem_of_getElem? (i := 135) rfl) rfl
theorem jw_137 : (Jvm.Cond.laysFinal "CoinNode$Signature" "CoinNode$Signature" "work" "[[J") ∈ jws := jws_1 (List.mem_of_getElem? (i := 137) rfl) rfl
theorem jw_139 : (Jvm.Cond.laysFinal "CoinNode$Signature" "CoinNode$Signature" "baseDigits" "[I") ∈ jws := jws_1 (List.mem_of_getElem? (i := 139) rfl) rfl
theorem jw_141 : (Jvm.Cond.laysFinal "CoinNode$Signature" "CoinNode$Signature" "keyDigits" "[I") ∈ jws := jws_1 (List.mem_of_getElem? (i := 141) rfl) rfl
theorem jw_143 : (Jvm.Cond.laysFinal "CoinNode$Signature" "CoinNode$Signature" "baseOdds" "[LCoinNode$Point;") ∈ jws := jws_1 (List.mem_of_getElem? (i := 143) rfl) rfl
theorem jw_145 : (Jvm.Cond.laysFinal "CoinNode$Signature" "CoinNode$Signature" "keyOdds" "[LCoinNode$Point;") ∈ jws := jws_1 (List.mem_of_getElem? (i := 145) rfl) rfl
theorem jw_147 : (Jvm.Cond.laysFinal "CoinNode$Signature" "CoinNode$Signature" "twice" "LCoinNode$Point;") ∈ jws := jws_1 (List.mem_of_getElem? (i := 147) rfl) rfl
theorem jw_149 : (Jvm.Cond.laysFinal "CoinNode$Signature" "CoinNode$Signature" "sum" "LCoinNode$Point;") ∈ jws := jws_1 (List.mem_of_getElem? (i := 149) rfl) rfl
theorem jw_151 : (Jvm.Cond.lays "CoinNode$Signature" "CoinNode$Signature" "hasBase" "Z") ∈ jws := jws_1 (List.mem_of_getElem? (i := 151) rfl) rfl
theorem jw_154 : (Jvm.Cond.classLink "CoinNode$Scripts" (29 : Nat) "CoinNode$Machine") ∈ jws := jws_1 (List.mem_of_getElem? (i := 154) rfl) rfl
theorem jw_155 : (Jvm.Cond.instantiable "CoinNode$Machine" (20 : Nat)) ∈ jws := jws_1 (List.mem_of_getElem? (i := 155) rfl) rfl
theorem jw_156 : (Jvm.Cond.methodLink "CoinNode$Scripts" (31 : Nat) ({ cls := "CoinNode$Machine", name := "<init>", desc := "(LCoinNode$Hash;)V" } : Jvm.MethodName)) ∈ jws := jws_1 (List.mem_of_getElem? (i := 156) rfl) rfl
theorem jw_157 : (Jvm.Cond.instanceMethod ({ cls := "CoinNode$Machine", name := "<init>", desc := "(LCoinNode$Hash;)V" } : Jvm.MethodName)) ∈ jws := jws_1 (List.mem_of_getElem? (i := 157) rfl) rfl
theorem jw_158 : (Jvm.Cond.code ({ cls := "CoinNode$Machine", name := "<init>", desc := "(LCoinNode$Hash;)V" } : Jvm.MethodName) prog_6_method_1_code (2 : Nat) (Option.none : Option Jvm.ClassFile.FieldType)) ∈ jws := jws_1 (List.mem_of_getElem? (i := 158) rfl) rfl
theorem jw_159 : (Jvm.Cond.methodLink "CoinNode$Machine" (5 : Nat) ({ cls := "java/lang/Object", name := "<init>", desc := "()V" } : Jvm.MethodName)) ∈ jws := jws_1 (List.mem_of_getElem? (i := 159) rfl) rfl
theorem jw_160 : (Jvm.Cond.classLink "CoinNode$Machine" (11 : Nat) "CoinNode$Stack") ∈ jws := jws_1 (List.mem_of_getElem? (i := 160) rfl) rfl
theorem jw_161 : (Jvm.Cond.instantiable "CoinNode$Stack" (3 : Nat)) ∈ jws := jws_1 (List.mem_of_getElem? (i := 161) rfl) rfl
theorem jw_163 : (Jvm.Cond.instanceMethod ({ cls := "CoinNode$Stack", name := "<init>", desc := "()V" } : Jvm.MethodName)) ∈ jws := jws_1 (List.mem_of_getElem? (i := 163) rfl) rfl
theorem jw_164 : (Jvm.Cond.code ({ cls := "CoinNode$Stack", name := "<init>", desc := "()V" } : Jvm.MethodName) prog_11_method_1_code (1 : Nat) (Option.none : Option Jvm.ClassFile.FieldType)) ∈ jws := jws_1 (List.mem_of_getElem? (i := 164) rfl) rfl
theorem jw_165 : (Jvm.Cond.methodLink "CoinNode$Stack" (1 : Nat) ({ cls := "java/lang/Object", name := "<init>", desc := "()V" } : Jvm.MethodName)) ∈ jws := jws_1 (List.mem_of_getElem? (i := 165) rfl) rfl
theorem jw_166 : (Jvm.Cond.classLink "CoinNode$Stack" (9 : Nat) "[[B") ∈ jws := jws_1 (List.mem_of_getElem? (i := 166) rfl) rfl
theorem jw_167 : (Jvm.Cond.fieldLink "CoinNode$Stack" (11 : Nat) "CoinNode$Stack" "rows" "[[B") ∈ jws := jws_1 (List.mem_of_getElem? (i := 167) rfl) rfl
theorem jw_168 : (Jvm.Cond.fieldLink "CoinNode$Machine" (174 : Nat) "CoinNode$Stack" "rows" "[[B") ∈ jws := jws_1 (List.mem_of_getElem? (i := 168) rfl) rfl
theorem jw_169 : (Jvm.Cond.fieldLink "CoinNode$Stack" (14 : Nat) "CoinNode$Stack" "sizes" "[I") ∈ jws := jws_1 (List.mem_of_getElem? (i := 169) rfl) rfl
theorem jw_170 : (Jvm.Cond.fieldLink "CoinNode$Machine" (142 : Nat) "CoinNode$Stack" "sizes" "[I") ∈ jws := jws_1 (List.mem_of_getElem? (i := 170) rfl) rfl
theorem jw_171 : (Jvm.Cond.fieldLink "CoinNode$Stack" (18 : Nat) "CoinNode$Stack" "height" "I") ∈ jws := jws_1 (List.mem_of_getElem? (i := 171) rfl) rfl
theorem jw_172 : (Jvm.Cond.fieldLink "CoinNode$Machine" (41 : Nat) "CoinNode$Stack" "height" "I") ∈ jws := jws_1 (List.mem_of_getElem? (i := 172) rfl) rfl
theorem jw_173 : (Jvm.Cond.laysFinal "CoinNode$Stack" "CoinNode$Stack" "rows" "[[B") ∈ jws := jws_1 (List.mem_of_getElem? (i := 173) rfl) rfl
theorem jw_175 : (Jvm.Cond.laysFinal "CoinNode$Stack" "CoinNode$Stack" "sizes" "[I") ∈ jws := jws_1 (List.mem_of_getElem? (i := 175) rfl) rfl
theorem jw_177 : (Jvm.Cond.lays "CoinNode$Stack" "CoinNode$Stack" "height" "I") ∈ jws := jws_1 (List.mem_of_getElem? (i := 177) rfl) rfl
theorem jw_180 : (Jvm.Cond.fieldLink "CoinNode$Machine" (37 : Nat) "CoinNode$Machine" "hash" "LCoinNode$Hash;") ∈ jws := jws_1 (List.mem_of_getElem? (i := 180) rfl) rfl
theorem jw_181 : (Jvm.Cond.fieldLink "CoinNode$Machine" (14 : Nat) "CoinNode$Machine" "stack" "LCoinNode$Stack;") ∈ jws := jws_1 (List.mem_of_getElem? (i := 181) rfl) rfl
theorem jw_182 : (Jvm.Cond.fieldLink "CoinNode$Machine" (20 : Nat) "CoinNode$Machine" "side" "LCoinNode$Stack;") ∈ jws := jws_1 (List.mem_of_getElem? (i := 182) rfl) rfl
theorem jw_183 : (Jvm.Cond.fieldLink "CoinNode$Machine" (23 : Nat) "CoinNode$Machine" "spare" "LCoinNode$Stack;") ∈ jws := jws_1 (List.mem_of_getElem? (i := 183) rfl) rfl
theorem jw_184 : (Jvm.Cond.fieldLink "CoinNode$Machine" (26 : Nat) "CoinNode$Machine" "made" "[B") ∈ jws := jws_1 (List.mem_of_getElem? (i := 184) rfl) rfl
theorem jw_185 : (Jvm.Cond.fieldLink "CoinNode$Machine" (30 : Nat) "CoinNode$Machine" "script" "[B") ∈ jws := jws_1 (List.mem_of_getElem? (i := 185) rfl) rfl
theorem jw_186 : (Jvm.Cond.fieldLink "CoinNode$Machine" (62 : Nat) "CoinNode$Machine" "at" "I") ∈ jws := jws_1 (List.mem_of_getElem? (i := 186) rfl) rfl
theorem jw_187 : (Jvm.Cond.fieldLink "CoinNode$Machine" (65 : Nat) "CoinNode$Machine" "end" "I") ∈ jws := jws_1 (List.mem_of_getElem? (i := 187) rfl) rfl
theorem jw_188 : (Jvm.Cond.fieldLink "CoinNode$Machine" (45 : Nat) "CoinNode$Machine" "isLast" "Z") ∈ jws := jws_1 (List.mem_of_getElem? (i := 188) rfl) rfl
theorem jw_189 : (Jvm.Cond.fieldLink "CoinNode$Scripts" (123 : Nat) "CoinNode$Machine" "isLast" "Z") ∈ jws := jws_1 (List.mem_of_getElem? (i := 189) rfl) rfl
theorem jw_190 : (Jvm.Cond.fieldLink "CoinNode$Scripts" (75 : Nat) "CoinNode$Machine" "status" "I") ∈ jws := jws_1 (List.mem_of_getElem? (i := 190) rfl) rfl
theorem jw_191 : (Jvm.Cond.fieldLink "CoinNode$Machine" (68 : Nat) "CoinNode$Machine" "status" "I") ∈ jws := jws_1 (List.mem_of_getElem? (i := 191) rfl) rfl
theorem jw_192 : (Jvm.Cond.fieldLink "CoinNode$Machine" (53 : Nat) "CoinNode$Machine" "operations" "I") ∈ jws := jws_1 (List.mem_of_getElem? (i := 192) rfl) rfl
theorem jw_193 : (Jvm.Cond.fieldLink "CoinNode$Machine" (33 : Nat) "CoinNode$Machine" "parts" "[Z") ∈ jws := jws_1 (List.mem_of_getElem? (i := 193) rfl) rfl
theorem jw_194 : (Jvm.Cond.fieldLink "CoinNode$Machine" (56 : Nat) "CoinNode$Machine" "depth" "I") ∈ jws := jws_1 (List.mem_of_getElem? (i := 194) rfl) rfl
theorem jw_195 : (Jvm.Cond.fieldLink "CoinNode$Machine" (59 : Nat) "CoinNode$Machine" "closed" "I") ∈ jws := jws_1 (List.mem_of_getElem? (i := 195) rfl) rfl
theorem jw_196 : (Jvm.Cond.fieldLink "CoinNode$Machine" (106 : Nat) "CoinNode$Machine" "signatures" "I") ∈ jws := jws_1 (List.mem_of_getElem? (i := 196) rfl) rfl
theorem jw_197 : (Jvm.Cond.fieldLink "CoinNode$Machine" (198 : Nat) "CoinNode$Machine" "signatureAt" "I") ∈ jws := jws_1 (List.mem_of_getElem? (i := 197) rfl) rfl
theorem jw_198 : (Jvm.Cond.fieldLink "CoinNode$Machine" (192 : Nat) "CoinNode$Machine" "keys" "I") ∈ jws := jws_1 (List.mem_of_getElem? (i := 198) rfl) rfl
theorem jw_199 : (Jvm.Cond.fieldLink "CoinNode$Machine" (195 : Nat) "CoinNode$Machine" "keyAt" "I") ∈ jws := jws_1 (List.mem_of_getElem? (i := 199) rfl) rfl
theorem jw_200 : (Jvm.Cond.fieldLink "CoinNode$Machine" (201 : Nat) "CoinNode$Machine" "operands" "I") ∈ jws := jws_1 (List.mem_of_getElem? (i := 200) rfl) rfl
theorem jw_201 : (Jvm.Cond.fieldLink "CoinNode$Machine" (189 : Nat) "CoinNode$Machine" "mustFit" "Z") ∈ jws := jws_1 (List.mem_of_getElem? (i := 201) rfl) rfl
theorem jw_202 : (Jvm.Cond.laysFinal "CoinNode$Machine" "CoinNode$Machine" "hash" "LCoinNode$Hash;") ∈ jws := jws_1 (List.mem_of_getElem? (i := 202) rfl) rfl
theorem jw_204 : (Jvm.Cond.laysFinal "CoinNode$Machine" "CoinNode$Machine" "stack" "LCoinNode$Stack;") ∈ jws := jws_1 (List.mem_of_getElem? (i := 204) rfl) rfl
theorem jw_206 : (Jvm.Cond.laysFinal "CoinNode$Machine" "CoinNode$Machine" "side" "LCoinNode$Stack;") ∈ jws := jws_1 (List.mem_of_getElem? (i := 206) rfl) rfl
theorem jw_208 : (Jvm.Cond.laysFinal "CoinNode$Machine" "CoinNode$Machine" "spare" "LCoinNode$Stack;") ∈ jws := jws_1 (List.mem_of_getElem? (i := 208) rfl) rfl
theorem jw_210 : (Jvm.Cond.laysFinal "CoinNode$Machine" "CoinNode$Machine" "made" "[B") ∈ jws := jws_1 (List.mem_of_getElem? (i := 210) rfl) rfl
theorem jw_212 : (Jvm.Cond.lays "CoinNode$Machine" "CoinNode$Machine" "script" "[B") ∈ jws := jws_1 (List.mem_of_getElem? (i := 212) rfl) rfl
theorem jw_214 : (Jvm.Cond.lays "CoinNode$Machine" "CoinNode$Machine" "at" "I") ∈ jws := jws_1 (List.mem_of_getElem? (i := 214) rfl) rfl
theorem jw_216 : (Jvm.Cond.lays "CoinNode$Machine" "CoinNode$Machine" "end" "I") ∈ jws := jws_1 (List.mem_of_getElem? (i := 216) rfl) rfl
theorem jw_218 : (Jvm.Cond.lays "CoinNode$Machine" "CoinNode$Machine" "isLast" "Z") ∈ jws := jws_1 (List.mem_of_getElem? (i := 218) rfl) rfl
theorem jw_220 : (Jvm.Cond.lays "CoinNode$Machine" "CoinNode$Machine" "status" "I") ∈ jws := jws_1 (List.mem_of_getElem? (i := 220) rfl) rfl
theorem jw_222 : (Jvm.Cond.lays "CoinNode$Machine" "CoinNode$Machine" "operations" "I") ∈ jws := jws_1 (List.mem_of_getElem? (i := 222) rfl) rfl
theorem jw_224 : (Jvm.Cond.laysFinal "CoinNode$Machine" "CoinNode$Machine" "parts" "[Z") ∈ jws := jws_1 (List.mem_of_getElem? (i := 224) rfl) rfl
theorem jw_226 : (Jvm.Cond.lays "CoinNode$Machine" "CoinNode$Machine" "depth" "I") ∈ jws := jws_1 (List.mem_of_getElem? (i := 226) rfl) rfl
theorem jw_228 : (Jvm.Cond.lays "CoinNode$Machine" "CoinNode$Machine" "closed" "I") ∈ jws := jws_1 (List.mem_of_getElem? (i := 228) rfl) rfl
theorem jw_230 : (Jvm.Cond.lays "CoinNode$Machine" "CoinNode$Machine" "signatures" "I") ∈ jws := jws_1 (List.mem_of_getElem? (i := 230) rfl) rfl
theorem jw_232 : (Jvm.Cond.lays "CoinNode$Machine" "CoinNode$Machine" "signatureAt" "I") ∈ jws := jws_1 (List.mem_of_getElem? (i := 232) rfl) rfl
theorem jw_234 : (Jvm.Cond.lays "CoinNode$Machine" "CoinNode$Machine" "keys" "I") ∈ jws := jws_1 (List.mem_of_getElem? (i := 234) rfl) rfl
theorem jw_236 : (Jvm.Cond.lays "CoinNode$Machine" "CoinNode$Machine" "keyAt" "I") ∈ jws := jws_1 (List.mem_of_getElem? (i := 236) rfl) rfl
theorem jw_238 : (Jvm.Cond.lays "CoinNode$Machine" "CoinNode$Machine" "operands" "I") ∈ jws := jws_1 (List.mem_of_getElem? (i := 238) rfl) rfl
theorem jw_240 : (Jvm.Cond.lays "CoinNode$Machine" "CoinNode$Machine" "mustFit" "Z") ∈ jws := jws_2 (List.mem_of_getElem? (i := 0) rfl) rfl
theorem jw_243 : (Jvm.Cond.arrayClass Jvm.ClassFile.FieldType.boolean) ∈ jws := jws_2 (List.mem_of_getElem? (i := 3) rfl) rfl
theorem jw_244 : (Jvm.Cond.fieldLink "CoinNode$Scripts" (25 : Nat) "CoinNode$Scripts" "hash" "LCoinNode$Hash;") ∈ jws := jws_2 (List.mem_of_getElem? (i := 4) rfl) rfl
theorem jw_245 : (Jvm.Cond.fieldLink "CoinNode$Scripts" (34 : Nat) "CoinNode$Scripts" "machine" "LCoinNode$Machine;") ∈ jws := jws_2 (List.mem_of_getElem? (i := 5) rfl) rfl
theorem jw_246 : (Jvm.Cond.fieldLink "CoinNode$Scripts" (12 : Nat) "CoinNode$Scripts" "signature" "LCoinNode$Signature;") ∈ jws := jws_2 (List.mem_of_getElem? (i := 6) rfl) rfl
theorem jw_247 : (Jvm.Cond.fieldLink "CoinNode$Scripts" (18 : Nat) "CoinNode$Scripts" "signed" "[B") ∈ jws := jws_2 (List.mem_of_getElem? (i := 7) rfl) rfl
theorem jw_248 : (Jvm.Cond.fieldLink "CoinNode$Scripts" (104 : Nat) "CoinNode$Scripts" "signedSize" "I") ∈ jws := jws_2 (List.mem_of_getElem? (i := 8) rfl) rfl
theorem jw_249 : (Jvm.Cond.fieldLink "CoinNode$Scripts" (22 : Nat) "CoinNode$Scripts" "name" "[B") ∈ jws := jws_2 (List.mem_of_getElem? (i := 9) rfl) rfl
theorem jw_250 : (Jvm.Cond.fieldLink "CoinNode$Scripts" (42 : Nat) "CoinNode$Scripts" "asked" "I") ∈ jws := jws_2 (List.mem_of_getElem? (i := 10) rfl) rfl
theorem jw_251 : (Jvm.Cond.fieldLink "CoinNode$Scripts" (38 : Nat) "CoinNode$Scripts" "most" "I") ∈ jws := jws_2 (List.mem_of_getElem? (i := 11) rfl) rfl
theorem jw_252 : (Jvm.Cond.laysFinal "CoinNode$Scripts" "CoinNode$Scripts" "hash" "LCoinNode$Hash;") ∈ jws := jws_2 (List.mem_of_getElem? (i := 12) rfl) rfl
theorem jw_254 : (Jvm.Cond.laysFinal "CoinNode$Scripts" "CoinNode$Scripts" "machine" "LCoinNode$Machine;") ∈ jws := jws_2 (List.mem_of_getElem? (i := 14) rfl) rfl
theorem jw_256 : (Jvm.Cond.laysFinal "CoinNode$Scripts" "CoinNode$Scripts" "signature" "LCoinNode$Signature;") ∈ jws := jws_2 (List.mem_of_getElem? (i := 16) rfl) rfl
theorem jw_258 : (Jvm.Cond.laysFinal "CoinNode$Scripts" "CoinNode$Scripts" "signed" "[B") ∈ jws := jws_2 (List.mem_of_getElem? (i := 18) rfl) rfl
theorem jw_260 : (Jvm.Cond.lays "CoinNode$Scripts" "CoinNode$Scripts" "signedSize" "I") ∈ jws := jws_2 (List.mem_of_getElem? (i := 20) rfl) rfl
theorem jw_262 : (Jvm.Cond.laysFinal "CoinNode$Scripts" "CoinNode$Scripts" "name" "[B") ∈ jws := jws_2 (List.mem_of_getElem? (i := 22) rfl) rfl
theorem jw_264 : (Jvm.Cond.lays "CoinNode$Scripts" "CoinNode$Scripts" "asked" "I") ∈ jws := jws_2 (List.mem_of_getElem? (i := 24) rfl) rfl
theorem jw_266 : (Jvm.Cond.lays "CoinNode$Scripts" "CoinNode$Scripts" "most" "I") ∈ jws := jws_2 (List.mem_of_getElem? (i := 26) rfl) rfl
theorem jw_269 : (Jvm.Cond.classLink "CoinNode" (47 : Nat) "CoinNode$Coins") ∈ jws := jws_2 (List.mem_of_getElem? (i := 29) rfl) rfl
theorem jw_270 : (Jvm.Cond.instantiable "CoinNode$Coins" (9 : Nat)) ∈ jws := jws_2 (List.mem_of_getElem? (i := 30) rfl) rfl
theorem jw_272 : (Jvm.Cond.instanceMethod ({ cls := "CoinNode$Coins", name := "<init>", desc := "()V" } : Jvm.MethodName)) ∈ jws := jws_2 (List.mem_of_getElem? (i := 32) rfl) rfl
theorem jw_273 : (Jvm.Cond.code ({ cls := "CoinNode$Coins", name := "<init>", desc := "()V" } : Jvm.MethodName) prog_4_method_1_code (1 : Nat) (Option.none : Option Jvm.ClassFile.FieldType)) ∈ jws := jws_2 (List.mem_of_getElem? (i := 33) rfl) rfl
theorem jw_274 : (Jvm.Cond.methodLink "CoinNode$Coins" (1 : Nat) ({ cls := "java/lang/Object", name := "<init>", desc := "()V" } : Jvm.MethodName)) ∈ jws := jws_2 (List.mem_of_getElem? (i := 34) rfl) rfl
theorem jw_275 : (Jvm.Cond.classLink "CoinNode$Coins" (9 : Nat) "CoinNode$Tx") ∈ jws := jws_2 (List.mem_of_getElem? (i := 35) rfl) rfl
theorem jw_277 : (Jvm.Cond.fieldLink "CoinNode$Coins" (11 : Nat) "CoinNode$Coins" "makers" "[LCoinNode$Tx;") ∈ jws := jws_2 (List.mem_of_getElem? (i := 37) rfl) rfl
theorem jw_278 : (Jvm.Cond.fieldLink "CoinNode$Coins" (15 : Nat) "CoinNode$Coins" "numbers" "[I") ∈ jws := jws_2 (List.mem_of_getElem? (i := 38) rfl) rfl
theorem jw_279 : (Jvm.Cond.fieldLink "CoinNode$Coins" (19 : Nat) "CoinNode$Coins" "heights" "[I") ∈ jws := jws_2 (List.mem_of_getElem? (i := 39) rfl) rfl
theorem jw_280 : (Jvm.Cond.fieldLink "CoinNode$Coins" (28 : Nat) "CoinNode$Coins" "many" "I") ∈ jws := jws_2 (List.mem_of_getElem? (i := 40) rfl) rfl
theorem jw_281 : (Jvm.Cond.fieldLink "CoinNode" (171 : Nat) "CoinNode$Coins" "many" "I") ∈ jws := jws_2 (List.mem_of_getElem? (i := 41) rfl) rfl
theorem jw_282 : (Jvm.Cond.fieldLink "CoinNode$Coins" (32 : Nat) "CoinNode$Coins" "spent" "I") ∈ jws := jws_2 (List.mem_of_getElem? (i := 42) rfl) rfl
theorem jw_283 : (Jvm.Cond.fieldLink "CoinNode$Coins" (35 : Nat) "CoinNode$Coins" "sum" "J") ∈ jws := jws_2 (List.mem_of_getElem? (i := 43) rfl) rfl
theorem jw_284 : (Jvm.Cond.fieldLink "CoinNode" (164 : Nat) "CoinNode$Coins" "sum" "J") ∈ jws := jws_2 (List.mem_of_getElem? (i := 44) rfl) rfl
theorem jw_285 : (Jvm.Cond.fieldLink "CoinNode$Coins" (22 : Nat) "CoinNode$Coins" "takenMakers" "[LCoinNode$Tx;") ∈ jws := jws_2 (List.mem_of_getElem? (i := 45) rfl) rfl
theorem jw_286 : (Jvm.Cond.fieldLink "CoinNode$Coins" (25 : Nat) "CoinNode$Coins" "takenNumbers" "[I") ∈ jws := jws_2 (List.mem_of_getElem? (i := 46) rfl) rfl
theorem jw_287 : (Jvm.Cond.fieldLink "CoinNode$Coins" (85 : Nat) "CoinNode$Coins" "takenSum" "J") ∈ jws := jws_2 (List.mem_of_getElem? (i := 47) rfl) rfl
theorem jw_288 : (Jvm.Cond.laysFinal "CoinNode$Coins" "CoinNode$Coins" "makers" "[LCoinNode$Tx;") ∈ jws := jws_2 (List.mem_of_getElem? (i := 48) rfl) rfl
theorem jw_290 : (Jvm.Cond.laysFinal "CoinNode$Coins" "CoinNode$Coins" "numbers" "[I") ∈ jws := jws_2 (List.mem_of_getElem? (i := 50) rfl) rfl
theorem jw_292 : (Jvm.Cond.laysFinal "CoinNode$Coins" "CoinNode$Coins" "heights" "[I") ∈ jws := jws_2 (List.mem_of_getElem? (i := 52) rfl) rfl
theorem jw_294 : (Jvm.Cond.lays "CoinNode$Coins" "CoinNode$Coins" "many" "I") ∈ jws := jws_2 (List.mem_of_getElem? (i := 54) rfl) rfl
theorem jw_296 : (Jvm.Cond.lays "CoinNode$Coins" "CoinNode$Coins" "spent" "I") ∈ jws := jws_2 (List.mem_of_getElem? (i := 56) rfl) rfl
theorem jw_298 : (Jvm.Cond.lays "CoinNode$Coins" "CoinNode$Coins" "sum" "J") ∈ jws := jws_2 (List.mem_of_getElem? (i := 58) rfl) rfl
theorem jw_300 : (Jvm.Cond.laysFinal "CoinNode$Coins" "CoinNode$Coins" "takenMakers" "[LCoinNode$Tx;") ∈ jws := jws_2 (List.mem_of_getElem? (i := 60) rfl) rfl
theorem jw_302 : (Jvm.Cond.laysFinal "CoinNode$Coins" "CoinNode$Coins" "takenNumbers" "[I") ∈ jws := jws_2 (List.mem_of_getElem? (i := 62) rfl) rfl
theorem jw_304 : (Jvm.Cond.lays "CoinNode$Coins" "CoinNode$Coins" "takenSum" "J") ∈ jws := jws_2 (List.mem_of_getElem? (i := 64) rfl) rfl
theorem jw_307 : (Jvm.Cond.classLink "CoinNode" (54 : Nat) "CoinNode$Chain") ∈ jws := jws_2 (List.mem_of_getElem? (i := 67) rfl) rfl
theorem jw_308 : (Jvm.Cond.instantiable "CoinNode$Chain" (17 : Nat)) ∈ jws := jws_2 (List.mem_of_getElem? (i := 68) rfl) rfl
theorem jw_309 : (Jvm.Cond.methodLink "CoinNode" (56 : Nat) ({ cls := "CoinNode$Chain", name := "<init>", desc := "(LCoinNode$Hash;LCoinNode$Coins;LCoinNode$Scripts;)V" } : Jvm.MethodName)) ∈ jws := jws_2 (List.mem_of_getElem? (i := 69) rfl) rfl
theorem jw_310 : (Jvm.Cond.instanceMethod ({ cls := "CoinNode$Chain", name := "<init>", desc := "(LCoinNode$Hash;LCoinNode$Coins;LCoinNode$Scripts;)V" } : Jvm.MethodName)) ∈ jws := jws_2 (List.mem_of_getElem? (i := 70) rfl) rfl
theorem jw_311 : (Jvm.Cond.code ({ cls := "CoinNode$Chain", name := "<init>", desc := "(LCoinNode$Hash;LCoinNode$Coins;LCoinNode$Scripts;)V" } : Jvm.MethodName) prog_3_method_1_code (6 : Nat) (Option.none : Option Jvm.ClassFile.FieldType)) ∈ jws := jws_2 (List.mem_of_getElem? (i := 71) rfl) rfl
theorem jw_312 : (Jvm.Cond.methodLink "CoinNode$Chain" (3 : Nat) ({ cls := "java/lang/Object", name := "<init>", desc := "()V" } : Jvm.MethodName)) ∈ jws := jws_2 (List.mem_of_getElem? (i := 72) rfl) rfl
theorem jw_313 : (Jvm.Cond.classLink "CoinNode$Chain" (11 : Nat) "CoinNode$Block") ∈ jws := jws_2 (List.mem_of_getElem? (i := 73) rfl) rfl
theorem jw_315 : (Jvm.Cond.constant "CoinNode$Chain" (59 : Nat) (1000000 : Int32)) ∈ jws := jws_2 (List.mem_of_getElem? (i := 75) rfl) rfl
theorem jw_316 : (Jvm.Cond.constant "CoinNode$Chain" (60 : Nat) (545259519 : Int32)) ∈ jws := jws_2 (List.mem_of_getElem? (i := 76) rfl) rfl
theorem jw_317 : (Jvm.Cond.instantiable "CoinNode$Block" (9 : Nat)) ∈ jws := jws_2 (List.mem_of_getElem? (i := 77) rfl) rfl
theorem jw_318 : (Jvm.Cond.methodLink "CoinNode$Chain" (61 : Nat) ({ cls := "CoinNode$Block", name := "<init>", desc := "([B)V" } : Jvm.MethodName)) ∈ jws := jws_2 (List.mem_of_getElem? (i := 78) rfl) rfl
theorem jw_319 : (Jvm.Cond.instanceMethod ({ cls := "CoinNode$Block", name := "<init>", desc := "([B)V" } : Jvm.MethodName)) ∈ jws := jws_2 (List.mem_of_getElem? (i := 79) rfl) rfl
theorem jw_320 : (Jvm.Cond.code ({ cls := "CoinNode$Block", name := "<init>", desc := "([B)V" } : Jvm.MethodName) prog_2_method_1_code (2 : Nat) (Option.none : Option Jvm.ClassFile.FieldType)) ∈ jws := jws_2 (List.mem_of_getElem? (i := 80) rfl) rfl
theorem jw_321 : (Jvm.Cond.methodLink "CoinNode$Block" (3 : Nat) ({ cls := "java/lang/Object", name := "<init>", desc := "()V" } : Jvm.MethodName)) ∈ jws := jws_2 (List.mem_of_getElem? (i := 81) rfl) rfl
theorem jw_322 : (Jvm.Cond.classLink "CoinNode$Block" (15 : Nat) "CoinNode$Tx") ∈ jws := jws_2 (List.mem_of_getElem? (i := 82) rfl) rfl
theorem jw_323 : (Jvm.Cond.methodLink "CoinNode$Block" (28 : Nat) ({ cls := "CoinNode$Tx", name := "low", desc := "([BI)I" } : Jvm.MethodName)) ∈ jws := jws_2 (List.mem_of_getElem? (i := 83) rfl) rfl
theorem jw_324 : (Jvm.Cond.static ({ cls := "CoinNode$Tx", name := "low", desc := "([BI)I" } : Jvm.MethodName)) ∈ jws := jws_2 (List.mem_of_getElem? (i := 84) rfl) rfl
theorem jw_325 : (Jvm.Cond.code ({ cls := "CoinNode$Tx", name := "low", desc := "([BI)I" } : Jvm.MethodName) prog_12_method_6_code (2 : Nat) (Option.some Jvm.ClassFile.FieldType.int)) ∈ jws := jws_2 (List.mem_of_getElem? (i := 85) rfl) rfl
theorem jw_326 : (Jvm.Cond.constantLong "CoinNode$Block" (32 : Nat) (4294967295 : Int64)) ∈ jws := jws_2 (List.mem_of_getElem? (i := 86) rfl) rfl
theorem jw_327 : (Jvm.Cond.fieldLink "CoinNode$Block" (25 : Nat) "CoinNode$Block" "row" "[B") ∈ jws := jws_2 (List.mem_of_getElem? (i := 87) rfl) rfl
theorem jw_328 : (Jvm.Cond.fieldLink "CoinNode$Chain" (89 : Nat) "CoinNode$Block" "row" "[B") ∈ jws := jws_2 (List.mem_of_getElem? (i := 88) rfl) rfl
theorem jw_329 : (Jvm.Cond.fieldLink "CoinNode" (220 : Nat) "CoinNode$Block" "row" "[B") ∈ jws := jws_2 (List.mem_of_getElem? (i := 89) rfl) rfl
theorem jw_330 : (Jvm.Cond.fieldLink "CoinNode$Block" (9 : Nat) "CoinNode$Block" "name" "[B") ∈ jws := jws_2 (List.mem_of_getElem? (i := 90) rfl) rfl
theorem jw_331 : (Jvm.Cond.fieldLink "CoinNode$Chain" (64 : Nat) "CoinNode$Block" "name" "[B") ∈ jws := jws_2 (List.mem_of_getElem? (i := 91) rfl) rfl
theorem jw_332 : (Jvm.Cond.fieldLink "CoinNode" (148 : Nat) "CoinNode$Block" "name" "[B") ∈ jws := jws_2 (List.mem_of_getElem? (i := 92) rfl) rfl
theorem jw_333 : (Jvm.Cond.fieldLink "CoinNode$Block" (38 : Nat) "CoinNode$Block" "bits" "I") ∈ jws := jws_2 (List.mem_of_getElem? (i := 93) rfl) rfl
theorem jw_334 : (Jvm.Cond.fieldLink "CoinNode$Chain" (99 : Nat) "CoinNode$Block" "bits" "I") ∈ jws := jws_2 (List.mem_of_getElem? (i := 94) rfl) rfl
theorem jw_335 : (Jvm.Cond.fieldLink "CoinNode$Block" (34 : Nat) "CoinNode$Block" "time" "J") ∈ jws := jws_2 (List.mem_of_getElem? (i := 95) rfl) rfl
theorem jw_336 : (Jvm.Cond.fieldLink "CoinNode$Chain" (106 : Nat) "CoinNode$Block" "time" "J") ∈ jws := jws_2 (List.mem_of_getElem? (i := 96) rfl) rfl
theorem jw_337 : (Jvm.Cond.fieldLink "CoinNode$Block" (17 : Nat) "CoinNode$Block" "txs" "[LCoinNode$Tx;") ∈ jws := jws_2 (List.mem_of_getElem? (i := 97) rfl) rfl
theorem jw_338 : (Jvm.Cond.fieldLink "CoinNode$Pool" (101 : Nat) "CoinNode$Block" "txs" "[LCoinNode$Tx;") ∈ jws := jws_2 (List.mem_of_getElem? (i := 98) rfl) rfl
theorem jw_339 : (Jvm.Cond.fieldLink "CoinNode$Coins" (63 : Nat) "CoinNode$Block" "txs" "[LCoinNode$Tx;") ∈ jws := jws_2 (List.mem_of_getElem? (i := 99) rfl) rfl
theorem jw_340 : (Jvm.Cond.fieldLink "CoinNode$Chain" (92 : Nat) "CoinNode$Block" "parent" "LCoinNode$Block;") ∈ jws := jws_2 (List.mem_of_getElem? (i := 100) rfl) rfl
theorem jw_341 : (Jvm.Cond.fieldLink "CoinNode$Chain" (78 : Nat) "CoinNode$Block" "height" "I") ∈ jws := jws_2 (List.mem_of_getElem? (i := 101) rfl) rfl
theorem jw_342 : (Jvm.Cond.fieldLink "CoinNode" (114 : Nat) "CoinNode$Block" "height" "I") ∈ jws := jws_2 (List.mem_of_getElem? (i := 102) rfl) rfl
theorem jw_343 : (Jvm.Cond.fieldLink "CoinNode$Coins" (68 : Nat) "CoinNode$Block" "height" "I") ∈ jws := jws_2 (List.mem_of_getElem? (i := 103) rfl) rfl
theorem jw_344 : (Jvm.Cond.fieldLink "CoinNode$Chain" (95 : Nat) "CoinNode$Block" "bad" "Z") ∈ jws := jws_2 (List.mem_of_getElem? (i := 104) rfl) rfl
theorem jw_345 : (Jvm.Cond.fieldLink "CoinNode$Block" (21 : Nat) "CoinNode$Block" "work" "[I") ∈ jws := jws_2 (List.mem_of_getElem? (i := 105) rfl) rfl
theorem jw_346 : (Jvm.Cond.fieldLink "CoinNode$Chain" (164 : Nat) "CoinNode$Block" "work" "[I") ∈ jws := jws_2 (List.mem_of_getElem? (i := 106) rfl) rfl
theorem jw_347 : (Jvm.Cond.laysFinal "CoinNode$Block" "CoinNode$Block" "row" "[B") ∈ jws := jws_2 (List.mem_of_getElem? (i := 107) rfl) rfl
theorem jw_349 : (Jvm.Cond.laysFinal "CoinNode$Block" "CoinNode$Block" "name" "[B") ∈ jws := jws_2 (List.mem_of_getElem? (i := 109) rfl) rfl
theorem jw_351 : (Jvm.Cond.laysFinal "CoinNode$Block" "CoinNode$Block" "bits" "I") ∈ jws := jws_2 (List.mem_of_getElem? (i := 111) rfl) rfl
theorem jw_353 : (Jvm.Cond.laysFinal "CoinNode$Block" "CoinNode$Block" "time" "J") ∈ jws := jws_2 (List.mem_of_getElem? (i := 113) rfl) rfl
theorem jw_355 : (Jvm.Cond.lays "CoinNode$Block" "CoinNode$Block" "txs" "[LCoinNode$Tx;") ∈ jws := jws_2 (List.mem_of_getElem? (i := 115) rfl) rfl
theorem jw_357 : (Jvm.Cond.lays "CoinNode$Block" "CoinNode$Block" "parent" "LCoinNode$Block;") ∈ jws := jws_2 (List.mem_of_getElem? (i := 117) rfl) rfl
theorem jw_359 : (Jvm.Cond.lays "CoinNode$Block" "CoinNode$Block" "height" "I") ∈ jws := jws_2 (List.mem_of_getElem? (i := 119) rfl) rfl
theorem jw_361 : (Jvm.Cond.lays "CoinNode$Block" "CoinNode$Block" "bad" "Z") ∈ jws := jws_2 (List.mem_of_getElem? (i := 121) rfl) rfl
theorem jw_363 : (Jvm.Cond.laysFinal "CoinNode$Block" "CoinNode$Block" "work" "[I") ∈ jws := jws_2 (List.mem_of_getElem? (i := 123) rfl) rfl
theorem jw_366 : (Jvm.Cond.methodLink "CoinNode$Chain" (65 : Nat) ({ cls := "CoinNode$Hash", name := "name", desc := "([BII[B)V" } : Jvm.MethodName)) ∈ jws := jws_2 (List.mem_of_getElem? (i := 126) rfl) rfl
theorem jw_367 : (Jvm.Cond.instanceMethod ({ cls := "CoinNode$Hash", name := "name", desc := "([BII[B)V" } : Jvm.MethodName)) ∈ jws := jws_2 (List.mem_of_getElem? (i := 127) rfl) rfl
theorem jw_368 : (Jvm.Cond.selects "CoinNode$Hash" ({ cls := "CoinNode$Hash", name := "name", desc := "([BII[B)V" } : Jvm.MethodName) ({ cls := "CoinNode$Hash", name := "name", desc := "([BII[B)V" } : Jvm.MethodName)) ∈ jws := jws_2 (List.mem_of_getElem? (i := 128) rfl) rfl
theorem jw_369 : (Jvm.Cond.code ({ cls := "CoinNode$Hash", name := "name", desc := "([BII[B)V" } : Jvm.MethodName) prog_5_method_5_code (5 : Nat) (Option.none : Option Jvm.ClassFile.FieldType)) ∈ jws := jws_2 (List.mem_of_getElem? (i := 129) rfl) rfl
theorem jw_370 : (Jvm.Cond.methodLink "CoinNode$Hash" (58 : Nat) ({ cls := "CoinNode$Hash", name := "take", desc := "([BII)V" } : Jvm.MethodName)) ∈ jws := jws_2 (List.mem_of_getElem? (i := 130) rfl) rfl
theorem jw_371 : (Jvm.Cond.instanceMethod ({ cls := "CoinNode$Hash", name := "take", desc := "([BII)V" } : Jvm.MethodName)) ∈ jws := jws_2 (List.mem_of_getElem? (i := 131) rfl) rfl
theorem jw_372 : (Jvm.Cond.selects "CoinNode$Hash" ({ cls := "CoinNode$Hash", name := "take", desc := "([BII)V" } : Jvm.MethodName) ({ cls := "CoinNode$Hash", name := "take", desc := "([BII)V" } : Jvm.MethodName)) ∈ jws := jws_2 (List.mem_of_getElem? (i := 132) rfl) rfl
theorem jw_373 : (Jvm.Cond.code ({ cls := "CoinNode$Hash", name := "take", desc := "([BII)V" } : Jvm.MethodName) prog_5_method_2_code (5 : Nat) (Option.none : Option Jvm.ClassFile.FieldType)) ∈ jws := jws_2 (List.mem_of_getElem? (i := 133) rfl) rfl
theorem jw_374 : (Jvm.Cond.methodLink "CoinNode$Hash" (32 : Nat) ({ cls := "java/lang/System", name := "arraycopy", desc := "(Ljava/lang/Object;ILjava/lang/Object;II)V" } : Jvm.MethodName)) ∈ jws := jws_2 (List.mem_of_getElem? (i := 134) rfl) rfl
theorem jw_375 : (Jvm.Cond.static ({ cls := "java/lang/System", name := "arraycopy", desc := "(Ljava/lang/Object;ILjava/lang/Object;II)V" } : Jvm.MethodName)) ∈ jws := jws_2 (List.mem_of_getElem? (i := 135) rfl) rfl
theorem jw_376 : (Jvm.Cond.native ({ cls := "java/lang/System", name := "arraycopy", desc := "(Ljava/lang/Object;ILjava/lang/Object;II)V" } : Jvm.MethodName)) ∈ jws := jws_2 (List.mem_of_getElem? (i := 136) rfl) rfl
theorem jw_377 : (Jvm.Cond.methodLink "CoinNode$Hash" (62 : Nat) ({ cls := "CoinNode$Hash", name := "digest", desc := "([B)V" } : Jvm.MethodName)) ∈ jws := jws_2 (List.mem_of_getElem? (i := 137) rfl) rfl
theorem jw_378 : (Jvm.Cond.instanceMethod ({ cls := "CoinNode$Hash", name := "digest", desc := "([B)V" } : Jvm.MethodName)) ∈ jws := jws_2 (List.mem_of_getElem? (i := 138) rfl) rfl
theorem jw_379 : (Jvm.Cond.selects "CoinNode$Hash" ({ cls := "CoinNode$Hash", name := "digest", desc := "([B)V" } : Jvm.MethodName) ({ cls := "CoinNode$Hash", name := "digest", desc := "([B)V" } : Jvm.MethodName)) ∈ jws := jws_2 (List.mem_of_getElem? (i := 139) rfl) rfl
theorem jw_380 : (Jvm.Cond.code ({ cls := "CoinNode$Hash", name := "digest", desc := "([B)V" } : Jvm.MethodName) prog_5_method_3_code (15 : Nat) (Option.none : Option Jvm.ClassFile.FieldType)) ∈ jws := jws_2 (List.mem_of_getElem? (i := 140) rfl) rfl
theorem jw_381 : (Jvm.Cond.fieldLink "CoinNode$Hash" (38 : Nat) "CoinNode$Hash" "START" "[I") ∈ jws := jws_2 (List.mem_of_getElem? (i := 141) rfl) rfl
theorem jw_383 : (Jvm.Cond.fieldLink "CoinNode$Hash" (41 : Nat) "CoinNode$Hash" "ROUNDS" "[I") ∈ jws := jws_2 (List.mem_of_getElem? (i := 143) rfl) rfl
theorem jw_385 : (Jvm.Cond.fieldLink "CoinNode$Chain" (47 : Nat) "CoinNode$Chain" "hash" "LCoinNode$Hash;") ∈ jws := jws_2 (List.mem_of_getElem? (i := 145) rfl) rfl
theorem jw_386 : (Jvm.Cond.fieldLink "CoinNode$Chain" (51 : Nat) "CoinNode$Chain" "coins" "LCoinNode$Coins;") ∈ jws := jws_2 (List.mem_of_getElem? (i := 146) rfl) rfl
theorem jw_387 : (Jvm.Cond.fieldLink "CoinNode$Chain" (55 : Nat) "CoinNode$Chain" "scripts" "LCoinNode$Scripts;") ∈ jws := jws_2 (List.mem_of_getElem? (i := 147) rfl) rfl
theorem jw_388 : (Jvm.Cond.fieldLink "CoinNode$Chain" (13 : Nat) "CoinNode$Chain" "known" "[LCoinNode$Block;") ∈ jws := jws_2 (List.mem_of_getElem? (i := 148) rfl) rfl
theorem jw_389 : (Jvm.Cond.fieldLink "CoinNode$Chain" (70 : Nat) "CoinNode$Chain" "many" "I") ∈ jws := jws_2 (List.mem_of_getElem? (i := 149) rfl) rfl
theorem jw_390 : (Jvm.Cond.fieldLink "CoinNode" (168 : Nat) "CoinNode$Chain" "many" "I") ∈ jws := jws_2 (List.mem_of_getElem? (i := 150) rfl) rfl
theorem jw_391 : (Jvm.Cond.fieldLink "CoinNode" (173 : Nat) "CoinNode$Chain" "bad" "I") ∈ jws := jws_2 (List.mem_of_getElem? (i := 151) rfl) rfl
theorem jw_392 : (Jvm.Cond.fieldLink "CoinNode$Chain" (181 : Nat) "CoinNode$Chain" "bad" "I") ∈ jws := jws_2 (List.mem_of_getElem? (i := 152) rfl) rfl
theorem jw_393 : (Jvm.Cond.fieldLink "CoinNode$Chain" (74 : Nat) "CoinNode$Chain" "tip" "LCoinNode$Block;") ∈ jws := jws_2 (List.mem_of_getElem? (i := 153) rfl) rfl
theorem jw_394 : (Jvm.Cond.fieldLink "CoinNode" (90 : Nat) "CoinNode$Chain" "tip" "LCoinNode$Block;") ∈ jws := jws_2 (List.mem_of_getElem? (i := 154) rfl) rfl
theorem jw_395 : (Jvm.Cond.fieldLink "CoinNode$Chain" (17 : Nat) "CoinNode$Chain" "line" "[LCoinNode$Block;") ∈ jws := jws_2 (List.mem_of_getElem? (i := 155) rfl) rfl
theorem jw_396 : (Jvm.Cond.fieldLink "CoinNode$Chain" (20 : Nat) "CoinNode$Chain" "way" "[LCoinNode$Block;") ∈ jws := jws_2 (List.mem_of_getElem? (i := 156) rfl) rfl
theorem jw_397 : (Jvm.Cond.fieldLink "CoinNode$Chain" (23 : Nat) "CoinNode$Chain" "left" "[LCoinNode$Block;") ∈ jws := jws_2 (List.mem_of_getElem? (i := 157) rfl) rfl
theorem jw_398 : (Jvm.Cond.fieldLink "CoinNode" (107 : Nat) "CoinNode$Chain" "left" "[LCoinNode$Block;") ∈ jws := jws_2 (List.mem_of_getElem? (i := 158) rfl) rfl
theorem jw_399 : (Jvm.Cond.fieldLink "CoinNode" (111 : Nat) "CoinNode$Chain" "leftMany" "I") ∈ jws := jws_2 (List.mem_of_getElem? (i := 159) rfl) rfl
theorem jw_400 : (Jvm.Cond.fieldLink "CoinNode$Chain" (133 : Nat) "CoinNode$Chain" "leftMany" "I") ∈ jws := jws_2 (List.mem_of_getElem? (i := 160) rfl) rfl
theorem jw_401 : (Jvm.Cond.fieldLink "CoinNode$Chain" (26 : Nat) "CoinNode$Chain" "target" "[I") ∈ jws := jws_2 (List.mem_of_getElem? (i := 161) rfl) rfl
theorem jw_402 : (Jvm.Cond.fieldLink "CoinNode$Chain" (30 : Nat) "CoinNode$Chain" "limit" "[I") ∈ jws := jws_2 (List.mem_of_getElem? (i := 162) rfl) rfl
theorem jw_403 : (Jvm.Cond.fieldLink "CoinNode$Chain" (33 : Nat) "CoinNode$Chain" "rest" "[I") ∈ jws := jws_2 (List.mem_of_getElem? (i := 163) rfl) rfl
theorem jw_404 : (Jvm.Cond.fieldLink "CoinNode$Chain" (36 : Nat) "CoinNode$Chain" "times" "[J") ∈ jws := jws_2 (List.mem_of_getElem? (i := 164) rfl) rfl
theorem jw_405 : (Jvm.Cond.fieldLink "CoinNode$Chain" (40 : Nat) "CoinNode$Chain" "names" "[B") ∈ jws := jws_2 (List.mem_of_getElem? (i := 165) rfl) rfl
theorem jw_406 : (Jvm.Cond.fieldLink "CoinNode$Chain" (44 : Nat) "CoinNode$Chain" "name" "[B") ∈ jws := jws_2 (List.mem_of_getElem? (i := 166) rfl) rfl
theorem jw_407 : (Jvm.Cond.laysFinal "CoinNode$Chain" "CoinNode$Chain" "hash" "LCoinNode$Hash;") ∈ jws := jws_2 (List.mem_of_getElem? (i := 167) rfl) rfl
theorem jw_409 : (Jvm.Cond.laysFinal "CoinNode$Chain" "CoinNode$Chain" "coins" "LCoinNode$Coins;") ∈ jws := jws_2 (List.mem_of_getElem? (i := 169) rfl) rfl
theorem jw_411 : (Jvm.Cond.laysFinal "CoinNode$Chain" "CoinNode$Chain" "scripts" "LCoinNode$Scripts;") ∈ jws := jws_2 (List.mem_of_getElem? (i := 171) rfl) rfl
theorem jw_413 : (Jvm.Cond.laysFinal "CoinNode$Chain" "CoinNode$Chain" "known" "[LCoinNode$Block;") ∈ jws := jws_2 (List.mem_of_getElem? (i := 173) rfl) rfl
theorem jw_415 : (Jvm.Cond.lays "CoinNode$Chain" "CoinNode$Chain" "many" "I") ∈ jws := jws_2 (List.mem_of_getElem? (i := 175) rfl) rfl
theorem jw_417 : (Jvm.Cond.lays "CoinNode$Chain" "CoinNode$Chain" "bad" "I") ∈ jws := jws_2 (List.mem_of_getElem? (i := 177) rfl) rfl
theorem jw_419 : (Jvm.Cond.lays "CoinNode$Chain" "CoinNode$Chain" "tip" "LCoinNode$Block;") ∈ jws := jws_2 (List.mem_of_getElem? (i := 179) rfl) rfl
theorem jw_421 : (Jvm.Cond.laysFinal "CoinNode$Chain" "CoinNode$Chain" "line" "[LCoinNode$Block;") ∈ jws := jws_2 (List.mem_of_getElem? (i := 181) rfl) rfl
theorem jw_423 : (Jvm.Cond.laysFinal "CoinNode$Chain" "CoinNode$Chain" "way" "[LCoinNode$Block;") ∈ jws := jws_2 (List.mem_of_getElem? (i := 183) rfl) rfl
theorem jw_425 : (Jvm.Cond.laysFinal "CoinNode$Chain" "CoinNode$Chain" "left" "[LCoinNode$Block;") ∈ jws := jws_2 (List.mem_of_getElem? (i := 185) rfl) rfl
theorem jw_427 : (Jvm.Cond.lays "CoinNode$Chain" "CoinNode$Chain" "leftMany" "I") ∈ jws := jws_2 (List.mem_of_getElem? (i := 187) rfl) rfl
theorem jw_429 : (Jvm.Cond.laysFinal "CoinNode$Chain" "CoinNode$Chain" "target" "[I") ∈ jws := jws_2 (List.mem_of_getElem? (i := 189) rfl) rfl
theorem jw_431 : (Jvm.Cond.laysFinal "CoinNode$Chain" "CoinNode$Chain" "limit" "[I") ∈ jws := jws_2 (List.mem_of_getElem? (i := 191) rfl) rfl
theorem jw_433 : (Jvm.Cond.laysFinal "CoinNode$Chain" "CoinNode$Chain" "rest" "[I") ∈ jws := jws_2 (List.mem_of_getElem? (i := 193) rfl) rfl
theorem jw_435 : (Jvm.Cond.laysFinal "CoinNode$Chain" "CoinNode$Chain" "times" "[J") ∈ jws := jws_2 (List.mem_of_getElem? (i := 195) rfl) rfl
theorem jw_437 : (Jvm.Cond.laysFinal "CoinNode$Chain" "CoinNode$Chain" "names" "[B") ∈ jws := jws_2 (List.mem_of_getElem? (i := 197) rfl) rfl
theorem jw_439 : (Jvm.Cond.laysFinal "CoinNode$Chain" "CoinNode$Chain" "name" "[B") ∈ jws := jws_2 (List.mem_of_getElem? (i := 199) rfl) rfl
theorem jw_442 : (Jvm.Cond.classLink "CoinNode" (63 : Nat) "CoinNode$Pool") ∈ jws := jws_2 (List.mem_of_getElem? (i := 202) rfl) rfl
theorem jw_443 : (Jvm.Cond.instantiable "CoinNode$Pool" (10 : Nat)) ∈ jws := jws_2 (List.mem_of_getElem? (i := 203) rfl) rfl
theorem jw_444 : (Jvm.Cond.methodLink "CoinNode" (65 : Nat) ({ cls := "CoinNode$Pool", name := "<init>", desc := "(LCoinNode$Coins;LCoinNode$Scripts;)V" } : Jvm.MethodName)) ∈ jws := jws_2 (List.mem_of_getElem? (i := 204) rfl) rfl
theorem jw_445 : (Jvm.Cond.instanceMethod ({ cls := "CoinNode$Pool", name := "<init>", desc := "(LCoinNode$Coins;LCoinNode$Scripts;)V" } : Jvm.MethodName)) ∈ jws := jws_2 (List.mem_of_getElem? (i := 205) rfl) rfl
theorem jw_446 : (Jvm.Cond.code ({ cls := "CoinNode$Pool", name := "<init>", desc := "(LCoinNode$Coins;LCoinNode$Scripts;)V" } : Jvm.MethodName) prog_8_method_1_code (3 : Nat) (Option.none : Option Jvm.ClassFile.FieldType)) ∈ jws := jws_2 (List.mem_of_getElem? (i := 206) rfl) rfl
theorem jw_447 : (Jvm.Cond.methodLink "CoinNode$Pool" (1 : Nat) ({ cls := "java/lang/Object", name := "<init>", desc := "()V" } : Jvm.MethodName)) ∈ jws := jws_2 (List.mem_of_getElem? (i := 207) rfl) rfl
theorem jw_448 : (Jvm.Cond.classLink "CoinNode$Pool" (9 : Nat) "CoinNode$Tx") ∈ jws := jws_2 (List.mem_of_getElem? (i := 208) rfl) rfl
theorem jw_449 : (Jvm.Cond.fieldLink "CoinNode$Pool" (33 : Nat) "CoinNode$Pool" "coins" "LCoinNode$Coins;") ∈ jws := jws_2 (List.mem_of_getElem? (i := 209) rfl) rfl
theorem jw_450 : (Jvm.Cond.fieldLink "CoinNode$Pool" (37 : Nat) "CoinNode$Pool" "scripts" "LCoinNode$Scripts;") ∈ jws := jws_2 (List.mem_of_getElem? (i := 210) rfl) rfl
theorem jw_451 : (Jvm.Cond.fieldLink "CoinNode$Pool" (11 : Nat) "CoinNode$Pool" "txs" "[LCoinNode$Tx;") ∈ jws := jws_2 (List.mem_of_getElem? (i := 211) rfl) rfl
theorem jw_452 : (Jvm.Cond.fieldLink "CoinNode$Pool" (15 : Nat) "CoinNode$Pool" "gains" "[J") ∈ jws := jws_2 (List.mem_of_getElem? (i := 212) rfl) rfl
theorem jw_453 : (Jvm.Cond.fieldLink "CoinNode$Pool" (41 : Nat) "CoinNode$Pool" "many" "I") ∈ jws := jws_2 (List.mem_of_getElem? (i := 213) rfl) rfl
theorem jw_454 : (Jvm.Cond.fieldLink "CoinNode" (172 : Nat) "CoinNode$Pool" "many" "I") ∈ jws := jws_2 (List.mem_of_getElem? (i := 214) rfl) rfl
theorem jw_455 : (Jvm.Cond.fieldLink "CoinNode$Pool" (19 : Nat) "CoinNode$Pool" "before" "[LCoinNode$Tx;") ∈ jws := jws_2 (List.mem_of_getElem? (i := 215) rfl) rfl
theorem jw_456 : (Jvm.Cond.fieldLink "CoinNode$Pool" (22 : Nat) "CoinNode$Pool" "kin" "[Z") ∈ jws := jws_2 (List.mem_of_getElem? (i := 216) rfl) rfl
theorem jw_457 : (Jvm.Cond.fieldLink "CoinNode$Pool" (26 : Nat) "CoinNode$Pool" "takenMakers" "[LCoinNode$Tx;") ∈ jws := jws_2 (List.mem_of_getElem? (i := 217) rfl) rfl
theorem jw_458 : (Jvm.Cond.fieldLink "CoinNode$Pool" (29 : Nat) "CoinNode$Pool" "takenNumbers" "[I") ∈ jws := jws_2 (List.mem_of_getElem? (i := 218) rfl) rfl
theorem jw_459 : (Jvm.Cond.fieldLink "CoinNode$Pool" (84 : Nat) "CoinNode$Pool" "takenSum" "J") ∈ jws := jws_2 (List.mem_of_getElem? (i := 219) rfl) rfl
theorem jw_460 : (Jvm.Cond.laysFinal "CoinNode$Pool" "CoinNode$Pool" "coins" "LCoinNode$Coins;") ∈ jws := jws_2 (List.mem_of_getElem? (i := 220) rfl) rfl
theorem jw_462 : (Jvm.Cond.laysFinal "CoinNode$Pool" "CoinNode$Pool" "scripts" "LCoinNode$Scripts;") ∈ jws := jws_2 (List.mem_of_getElem? (i := 222) rfl) rfl
theorem jw_464 : (Jvm.Cond.laysFinal "CoinNode$Pool" "CoinNode$Pool" "txs" "[LCoinNode$Tx;") ∈ jws := jws_2 (List.mem_of_getElem? (i := 224) rfl) rfl
theorem jw_466 : (Jvm.Cond.laysFinal "CoinNode$Pool" "CoinNode$Pool" "gains" "[J") ∈ jws := jws_2 (List.mem_of_getElem? (i := 226) rfl) rfl
theorem jw_468 : (Jvm.Cond.lays "CoinNode$Pool" "CoinNode$Pool" "many" "I") ∈ jws := jws_2 (List.mem_of_getElem? (i := 228) rfl) rfl
theorem jw_470 : (Jvm.Cond.laysFinal "CoinNode$Pool" "CoinNode$Pool" "before" "[LCoinNode$Tx;") ∈ jws := jws_2 (List.mem_of_getElem? (i := 230) rfl) rfl
theorem jw_472 : (Jvm.Cond.laysFinal "CoinNode$Pool" "CoinNode$Pool" "kin" "[Z") ∈ jws := jws_2 (List.mem_of_getElem? (i := 232) rfl) rfl
theorem jw_474 : (Jvm.Cond.laysFinal "CoinNode$Pool" "CoinNode$Pool" "takenMakers" "[LCoinNode$Tx;") ∈ jws := jws_2 (List.mem_of_getElem? (i := 234) rfl) rfl
theorem jw_476 : (Jvm.Cond.laysFinal "CoinNode$Pool" "CoinNode$Pool" "takenNumbers" "[I") ∈ jws := jws_2 (List.mem_of_getElem? (i := 236) rfl) rfl
theorem jw_478 : (Jvm.Cond.lays "CoinNode$Pool" "CoinNode$Pool" "takenSum" "J") ∈ jws := jws_2 (List.mem_of_getElem? (i := 238) rfl) rfl
theorem jw_481 : (Jvm.Cond.fieldLink "CoinNode" (9 : Nat) "CoinNode" "tape" "[B") ∈ jws := jws_3 (List.mem_of_getElem? (i := 1) rfl) rfl
theorem jw_482 : (Jvm.Cond.fieldLink "CoinNode" (72 : Nat) "CoinNode" "tapeSize" "I") ∈ jws := jws_3 (List.mem_of_getElem? (i := 2) rfl) rfl
theorem jw_483 : (Jvm.Cond.fieldLink "CoinNode" (13 : Nat) "CoinNode" "keyName" "[B") ∈ jws := jws_3 (List.mem_of_getElem? (i := 3) rfl) rfl
theorem jw_484 : (Jvm.Cond.fieldLink "CoinNode" (151 : Nat) "CoinNode" "keyIndex" "I") ∈ jws := jws_3 (List.mem_of_getElem? (i := 4) rfl) rfl
theorem jw_485 : (Jvm.Cond.fieldLink "CoinNode" (18 : Nat) "CoinNode" "boxes" "[[B") ∈ jws := jws_3 (List.mem_of_getElem? (i := 5) rfl) rfl
theorem jw_486 : (Jvm.Cond.fieldLink "CoinNode" (21 : Nat) "CoinNode" "boxStarts" "[I") ∈ jws := jws_3 (List.mem_of_getElem? (i := 6) rfl) rfl
theorem jw_487 : (Jvm.Cond.fieldLink "CoinNode" (25 : Nat) "CoinNode" "boxSizes" "[I") ∈ jws := jws_3 (List.mem_of_getElem? (i := 7) rfl) rfl
theorem jw_488 : (Jvm.Cond.fieldLink "CoinNode" (28 : Nat) "CoinNode" "frame" "[B") ∈ jws := jws_3 (List.mem_of_getElem? (i := 8) rfl) rfl
theorem jw_489 : (Jvm.Cond.fieldLink "CoinNode" (233 : Nat) "CoinNode" "frameSize" "I") ∈ jws := jws_3 (List.mem_of_getElem? (i := 9) rfl) rfl
theorem jw_490 : (Jvm.Cond.fieldLink "CoinNode" (34 : Nat) "CoinNode" "hash" "LCoinNode$Hash;") ∈ jws := jws_3 (List.mem_of_getElem? (i := 10) rfl) rfl
theorem jw_491 : (Jvm.Cond.fieldLink "CoinNode" (43 : Nat) "CoinNode" "scripts" "LCoinNode$Scripts;") ∈ jws := jws_3 (List.mem_of_getElem? (i := 11) rfl) rfl
theorem jw_492 : (Jvm.Cond.fieldLink "CoinNode" (50 : Nat) "CoinNode" "coins" "LCoinNode$Coins;") ∈ jws := jws_3 (List.mem_of_getElem? (i := 12) rfl) rfl
theorem jw_493 : (Jvm.Cond.fieldLink "CoinNode" (59 : Nat) "CoinNode" "chain" "LCoinNode$Chain;") ∈ jws := jws_3 (List.mem_of_getElem? (i := 13) rfl) rfl
theorem jw_494 : (Jvm.Cond.fieldLink "CoinNode" (68 : Nat) "CoinNode" "pool" "LCoinNode$Pool;") ∈ jws := jws_3 (List.mem_of_getElem? (i := 14) rfl) rfl
theorem jw_495 : (Jvm.Cond.laysFinal "CoinNode" "CoinNode" "tape" "[B") ∈ jws := jws_3 (List.mem_of_getElem? (i := 15) rfl) rfl
theorem jw_497 : (Jvm.Cond.lays "CoinNode" "CoinNode" "tapeSize" "I") ∈ jws := jws_3 (List.mem_of_getElem? (i := 17) rfl) rfl
theorem jw_499 : (Jvm.Cond.laysFinal "CoinNode" "CoinNode" "keyName" "[B") ∈ jws := jws_3 (List.mem_of_getElem? (i := 19) rfl) rfl
theorem jw_501 : (Jvm.Cond.lays "CoinNode" "CoinNode" "keyIndex" "I") ∈ jws := jws_3 (List.mem_of_getElem? (i := 21) rfl) rfl
theorem jw_503 : (Jvm.Cond.laysFinal "CoinNode" "CoinNode" "boxes" "[[B") ∈ jws := jws_3 (List.mem_of_getElem? (i := 23) rfl) rfl
theorem jw_505 : (Jvm.Cond.laysFinal "CoinNode" "CoinNode" "boxStarts" "[I") ∈ jws := jws_3 (List.mem_of_getElem? (i := 25) rfl) rfl
theorem jw_507 : (Jvm.Cond.laysFinal "CoinNode" "CoinNode" "boxSizes" "[I") ∈ jws := jws_3 (List.mem_of_getElem? (i := 27) rfl) rfl
theorem jw_509 : (Jvm.Cond.laysFinal "CoinNode" "CoinNode" "frame" "[B") ∈ jws := jws_3 (List.mem_of_getElem? (i := 29) rfl) rfl
theorem jw_511 : (Jvm.Cond.lays "CoinNode" "CoinNode" "frameSize" "I") ∈ jws := jws_3 (List.mem_of_getElem? (i := 31) rfl) rfl
theorem jw_513 : (Jvm.Cond.laysFinal "CoinNode" "CoinNode" "hash" "LCoinNode$Hash;") ∈ jws := jws_3 (List.mem_of_getElem? (i := 33) rfl) rfl
theorem jw_515 : (Jvm.Cond.laysFinal "CoinNode" "CoinNode" "scripts" "LCoinNode$Scripts;") ∈ jws := jws_3 (List.mem_of_getElem? (i := 35) rfl) rfl
theorem jw_517 : (Jvm.Cond.laysFinal "CoinNode" "CoinNode" "coins" "LCoinNode$Coins;") ∈ jws := jws_3 (List.mem_of_getElem? (i := 37) rfl) rfl
theorem jw_519 : (Jvm.Cond.laysFinal "CoinNode" "CoinNode" "chain" "LCoinNode$Chain;") ∈ jws := jws_3 (List.mem_of_getElem? (i := 39) rfl) rfl
theorem jw_521 : (Jvm.Cond.laysFinal "CoinNode" "CoinNode" "pool" "LCoinNode$Pool;") ∈ jws := jws_3 (List.mem_of_getElem? (i := 41) rfl) rfl
theorem jw_524 : (Jvm.Cond.methodLink "CoinNodeLaw" (13 : Nat) ({ cls := "CoinNode", name := "feed", desc := "(IIIII)Z" } : Jvm.MethodName)) ∈ jws := jws_3 (List.mem_of_getElem? (i := 44) rfl) rfl
theorem jw_525 : (Jvm.Cond.instanceMethod ({ cls := "CoinNode", name := "feed", desc := "(IIIII)Z" } : Jvm.MethodName)) ∈ jws := jws_3 (List.mem_of_getElem? (i := 45) rfl) rfl
theorem jw_526 : (Jvm.Cond.selects "CoinNode" ({ cls := "CoinNode", name := "feed", desc := "(IIIII)Z" } : Jvm.MethodName) ({ cls := "CoinNode", name := "feed", desc := "(IIIII)Z" } : Jvm.MethodName)) ∈ jws := jws_3 (List.mem_of_getElem? (i := 46) rfl) rfl
theorem jw_527 : (Jvm.Cond.code ({ cls := "CoinNode", name := "feed", desc := "(IIIII)Z" } : Jvm.MethodName) prog_1_method_2_code (6 : Nat) (Option.some Jvm.ClassFile.FieldType.boolean)) ∈ jws := jws_3 (List.mem_of_getElem? (i := 47) rfl) rfl
theorem jw_528 : (Jvm.Cond.methodLink "CoinNode" (76 : Nat) ({ cls := "CoinNode", name := "layOnTape", desc := "(I)V" } : Jvm.MethodName)) ∈ jws := jws_3 (List.mem_of_getElem? (i := 48) rfl) rfl
theorem jw_530 : (Jvm.Cond.instanceMethod ({ cls := "CoinNode", name := "layOnTape", desc := "(I)V" } : Jvm.MethodName)) ∈ jws := jws_3 (List.mem_of_getElem? (i := 50) rfl) rfl
theorem jw_531 : (Jvm.Cond.code ({ cls := "CoinNode", name := "layOnTape", desc := "(I)V" } : Jvm.MethodName) prog_1_method_11_code (3 : Nat) (Option.none : Option Jvm.ClassFile.FieldType)) ∈ jws := jws_3 (List.mem_of_getElem? (i := 51) rfl) rfl
theorem jw_532 : (Jvm.Cond.methodLink "CoinNodeLaw" (18 : Nat) ({ cls := "CoinNode", name := "send", desc := "(II)Z" } : Jvm.MethodName)) ∈ jws := jws_3 (List.mem_of_getElem? (i := 52) rfl) rfl
theorem jw_533 : (Jvm.Cond.instanceMethod ({ cls := "CoinNode", name := "send", desc := "(II)Z" } : Jvm.MethodName)) ∈ jws := jws_3 (List.mem_of_getElem? (i := 53) rfl) rfl
theorem jw_534 : (Jvm.Cond.selects "CoinNode" ({ cls := "CoinNode", name := "send", desc := "(II)Z" } : Jvm.MethodName) ({ cls := "CoinNode", name := "send", desc := "(II)Z" } : Jvm.MethodName)) ∈ jws := jws_3 (List.mem_of_getElem? (i := 54) rfl) rfl
theorem jw_535 : (Jvm.Cond.code ({ cls := "CoinNode", name := "send", desc := "(II)Z" } : Jvm.MethodName) prog_1_method_3_code (7 : Nat) (Option.some Jvm.ClassFile.FieldType.boolean)) ∈ jws := jws_3 (List.mem_of_getElem? (i := 55) rfl) rfl
theorem jw_536 : (Jvm.Cond.methodLink "CoinNode" (80 : Nat) ({ cls := "java/util/Arrays", name := "copyOf", desc := "([BI)[B" } : Jvm.MethodName)) ∈ jws := jws_3 (List.mem_of_getElem? (i := 56) rfl) rfl
theorem jw_537 : (Jvm.Cond.static ({ cls := "java/util/Arrays", name := "copyOf", desc := "([BI)[B" } : Jvm.MethodName)) ∈ jws := jws_3 (List.mem_of_getElem? (i := 57) rfl) rfl
theorem jw_538 : (Jvm.Cond.code ({ cls := "java/util/Arrays", name := "copyOf", desc := "([BI)[B" } : Jvm.MethodName) prog_25_method_121_code (3 : Nat) (Option.some (Jvm.ClassFile.FieldType.array Jvm.ClassFile.FieldType.byte))) ∈ jws := jws_3 (List.mem_of_getElem? (i := 58) rfl) rfl
theorem jw_539 : (Jvm.Cond.methodLink "java/util/Arrays" (310 : Nat) ({ cls := "[B", name := "clone", desc := "()Ljava/lang/Object;" } : Jvm.MethodName)) ∈ jws := jws_3 (List.mem_of_getElem? (i := 59) rfl) rfl
theorem jw_540 : (Jvm.Cond.sameMethod "[B" "java/lang/Object" "clone" "()Ljava/lang/Object;") ∈ jws := jws_3 (List.mem_of_getElem? (i := 60) rfl) rfl
theorem jw_541 : (Jvm.Cond.native ({ cls := "java/lang/Object", name := "clone", desc := "()Ljava/lang/Object;" } : Jvm.MethodName)) ∈ jws := jws_3 (List.mem_of_getElem? (i := 61) rfl) rfl
theorem jw_542 : (Jvm.Cond.instanceMethod ({ cls := "java/lang/Object", name := "clone", desc := "()Ljava/lang/Object;" } : Jvm.MethodName)) ∈ jws := jws_3 (List.mem_of_getElem? (i := 62) rfl) rfl
theorem jw_543 : (Jvm.Cond.selects "[B" ({ cls := "[B", name := "clone", desc := "()Ljava/lang/Object;" } : Jvm.MethodName) ({ cls := "java/lang/Object", name := "clone", desc := "()Ljava/lang/Object;" } : Jvm.MethodName)) ∈ jws := jws_3 (List.mem_of_getElem? (i := 63) rfl) rfl
theorem jw_545 : (Jvm.Cond.classLink "java/util/Arrays" (311 : Nat) "[B") ∈ jws := jws_3 (List.mem_of_getElem? (i := 65) rfl) rfl
theorem jw_546 : (Jvm.Cond.methodLink "java/util/Arrays" (304 : Nat) ({ cls := "java/lang/Math", name := "min", desc := "(II)I" } : Jvm.MethodName)) ∈ jws := jws_3 (List.mem_of_getElem? (i := 66) rfl) rfl
theorem jw_547 : (Jvm.Cond.static ({ cls := "java/lang/Math", name := "min", desc := "(II)I" } : Jvm.MethodName)) ∈ jws := jws_3 (List.mem_of_getElem? (i := 67) rfl) rfl
theorem jw_548 : (Jvm.Cond.code ({ cls := "java/lang/Math", name := "min", desc := "(II)I" } : Jvm.MethodName) prog_23_method_69_code (2 : Nat) (Option.some Jvm.ClassFile.FieldType.int)) ∈ jws := jws_3 (List.mem_of_getElem? (i := 68) rfl) rfl
theorem jw_549 : (Jvm.Cond.methodLink "java/util/Arrays" (150 : Nat) ({ cls := "java/lang/System", name := "arraycopy", desc := "(Ljava/lang/Object;ILjava/lang/Object;II)V" } : Jvm.MethodName)) ∈ jws := jws_3 (List.mem_of_getElem? (i := 69) rfl) rfl
theorem jw_550 : (Jvm.Cond.methodLink "CoinNode" (86 : Nat) ({ cls := "CoinNode", name := "takeTransaction", desc := "(I[B)V" } : Jvm.MethodName)) ∈ jws := jws_3 (List.mem_of_getElem? (i := 70) rfl) rfl
theorem jw_552 : (Jvm.Cond.instanceMethod ({ cls := "CoinNode", name := "takeTransaction", desc := "(I[B)V" } : Jvm.MethodName)) ∈ jws := jws_3 (List.mem_of_getElem? (i := 72) rfl) rfl
theorem jw_553 : (Jvm.Cond.code ({ cls := "CoinNode", name := "takeTransaction", desc := "(I[B)V" } : Jvm.MethodName) prog_1_method_12_code (5 : Nat) (Option.none : Option Jvm.ClassFile.FieldType)) ∈ jws := jws_3 (List.mem_of_getElem? (i := 73) rfl) rfl
theorem jw_554 : (Jvm.Cond.methodLink "CoinNode" (180 : Nat) ({ cls := "CoinNode$Tx", name := "read", desc := "([BI)LCoinNode$Tx;" } : Jvm.MethodName)) ∈ jws := jws_3 (List.mem_of_getElem? (i := 74) rfl) rfl
theorem jw_555 : (Jvm.Cond.static ({ cls := "CoinNode$Tx", name := "read", desc := "([BI)LCoinNode$Tx;" } : Jvm.MethodName)) ∈ jws := jws_3 (List.mem_of_getElem? (i := 75) rfl) rfl
theorem jw_556 : (Jvm.Cond.code ({ cls := "CoinNode$Tx", name := "read", desc := "([BI)LCoinNode$Tx;" } : Jvm.MethodName) prog_12_method_2_code (4 : Nat) (Option.some (Jvm.ClassFile.FieldType.object "CoinNode$Tx"))) ∈ jws := jws_3 (List.mem_of_getElem? (i := 76) rfl) rfl
theorem jw_557 : (Jvm.Cond.classLink "CoinNode$Tx" (10 : Nat) "CoinNode$Tx") ∈ jws := jws_3 (List.mem_of_getElem? (i := 77) rfl) rfl
theorem jw_558 : (Jvm.Cond.instantiable "CoinNode$Tx" (8 : Nat)) ∈ jws := jws_3 (List.mem_of_getElem? (i := 78) rfl) rfl
theorem jw_559 : (Jvm.Cond.methodLink "CoinNode$Tx" (29 : Nat) ({ cls := "CoinNode$Tx", name := "<init>", desc := "([BI)V" } : Jvm.MethodName)) ∈ jws := jws_3 (List.mem_of_getElem? (i := 79) rfl) rfl
theorem jw_560 : (Jvm.Cond.instanceMethod ({ cls := "CoinNode$Tx", name := "<init>", desc := "([BI)V" } : Jvm.MethodName)) ∈ jws := jws_3 (List.mem_of_getElem? (i := 80) rfl) rfl
theorem jw_561 : (Jvm.Cond.code ({ cls := "CoinNode$Tx", name := "<init>", desc := "([BI)V" } : Jvm.MethodName) prog_12_method_1_code (3 : Nat) (Option.none : Option Jvm.ClassFile.FieldType)) ∈ jws := jws_3 (List.mem_of_getElem? (i := 81) rfl) rfl
theorem jw_562 : (Jvm.Cond.methodLink "CoinNode$Tx" (3 : Nat) ({ cls := "java/lang/Object", name := "<init>", desc := "()V" } : Jvm.MethodName)) ∈ jws := jws_3 (List.mem_of_getElem? (i := 82) rfl) rfl
theorem jw_563 : (Jvm.Cond.fieldLink "CoinNode$Tx" (22 : Nat) "CoinNode$Tx" "row" "[B") ∈ jws := jws_3 (List.mem_of_getElem? (i := 83) rfl) rfl
theorem jw_564 : (Jvm.Cond.fieldLink "CoinNode$Scripts" (58 : Nat) "CoinNode$Tx" "row" "[B") ∈ jws := jws_3 (List.mem_of_getElem? (i := 84) rfl) rfl
theorem jw_565 : (Jvm.Cond.fieldLink "CoinNode$Pool" (122 : Nat) "CoinNode$Tx" "row" "[B") ∈ jws := jws_3 (List.mem_of_getElem? (i := 85) rfl) rfl
theorem jw_566 : (Jvm.Cond.fieldLink "CoinNode$Coins" (95 : Nat) "CoinNode$Tx" "row" "[B") ∈ jws := jws_3 (List.mem_of_getElem? (i := 86) rfl) rfl
theorem jw_567 : (Jvm.Cond.fieldLink "CoinNode" (229 : Nat) "CoinNode$Tx" "row" "[B") ∈ jws := jws_3 (List.mem_of_getElem? (i := 87) rfl) rfl
theorem jw_568 : (Jvm.Cond.fieldLink "CoinNode$Tx" (25 : Nat) "CoinNode$Tx" "from" "I") ∈ jws := jws_3 (List.mem_of_getElem? (i := 88) rfl) rfl
theorem jw_569 : (Jvm.Cond.fieldLink "CoinNode$Scripts" (137 : Nat) "CoinNode$Tx" "from" "I") ∈ jws := jws_3 (List.mem_of_getElem? (i := 89) rfl) rfl
theorem jw_570 : (Jvm.Cond.fieldLink "CoinNode" (230 : Nat) "CoinNode$Tx" "from" "I") ∈ jws := jws_3 (List.mem_of_getElem? (i := 90) rfl) rfl
theorem jw_571 : (Jvm.Cond.fieldLink "CoinNode$Tx" (39 : Nat) "CoinNode$Tx" "size" "I") ∈ jws := jws_3 (List.mem_of_getElem? (i := 91) rfl) rfl
theorem jw_572 : (Jvm.Cond.fieldLink "CoinNode$Block" (53 : Nat) "CoinNode$Tx" "size" "I") ∈ jws := jws_3 (List.mem_of_getElem? (i := 92) rfl) rfl
theorem jw_573 : (Jvm.Cond.fieldLink "CoinNode$Scripts" (147 : Nat) "CoinNode$Tx" "size" "I") ∈ jws := jws_3 (List.mem_of_getElem? (i := 93) rfl) rfl
theorem jw_574 : (Jvm.Cond.fieldLink "CoinNode$Pool" (155 : Nat) "CoinNode$Tx" "size" "I") ∈ jws := jws_3 (List.mem_of_getElem? (i := 94) rfl) rfl
theorem jw_575 : (Jvm.Cond.fieldLink "CoinNode" (185 : Nat) "CoinNode$Tx" "size" "I") ∈ jws := jws_3 (List.mem_of_getElem? (i := 95) rfl) rfl
theorem jw_576 : (Jvm.Cond.fieldLink "CoinNode$Tx" (9 : Nat) "CoinNode$Tx" "name" "[B") ∈ jws := jws_3 (List.mem_of_getElem? (i := 96) rfl) rfl
theorem jw_577 : (Jvm.Cond.fieldLink "CoinNode$Block" (56 : Nat) "CoinNode$Tx" "name" "[B") ∈ jws := jws_3 (List.mem_of_getElem? (i := 97) rfl) rfl
theorem jw_578 : (Jvm.Cond.fieldLink "CoinNode$Pool" (45 : Nat) "CoinNode$Tx" "name" "[B") ∈ jws := jws_3 (List.mem_of_getElem? (i := 98) rfl) rfl
theorem jw_579 : (Jvm.Cond.fieldLink "CoinNode$Coins" (39 : Nat) "CoinNode$Tx" "name" "[B") ∈ jws := jws_3 (List.mem_of_getElem? (i := 99) rfl) rfl
theorem jw_580 : (Jvm.Cond.fieldLink "CoinNode" (188 : Nat) "CoinNode$Tx" "name" "[B") ∈ jws := jws_3 (List.mem_of_getElem? (i := 100) rfl) rfl
theorem jw_581 : (Jvm.Cond.fieldLink "CoinNode$Tx" (15 : Nat) "CoinNode$Tx" "inputs" "[I") ∈ jws := jws_3 (List.mem_of_getElem? (i := 101) rfl) rfl
theorem jw_582 : (Jvm.Cond.fieldLink "CoinNode$Scripts" (45 : Nat) "CoinNode$Tx" "inputs" "[I") ∈ jws := jws_3 (List.mem_of_getElem? (i := 102) rfl) rfl
theorem jw_583 : (Jvm.Cond.fieldLink "CoinNode$Block" (62 : Nat) "CoinNode$Tx" "inputs" "[I") ∈ jws := jws_3 (List.mem_of_getElem? (i := 103) rfl) rfl
theorem jw_584 : (Jvm.Cond.fieldLink "CoinNode$Pool" (115 : Nat) "CoinNode$Tx" "inputs" "[I") ∈ jws := jws_3 (List.mem_of_getElem? (i := 104) rfl) rfl
theorem jw_585 : (Jvm.Cond.fieldLink "CoinNode$Coins" (79 : Nat) "CoinNode$Tx" "inputs" "[I") ∈ jws := jws_3 (List.mem_of_getElem? (i := 105) rfl) rfl
theorem jw_586 : (Jvm.Cond.fieldLink "CoinNode$Tx" (19 : Nat) "CoinNode$Tx" "outputs" "[I") ∈ jws := jws_3 (List.mem_of_getElem? (i := 106) rfl) rfl
theorem jw_587 : (Jvm.Cond.fieldLink "CoinNode$Scripts" (134 : Nat) "CoinNode$Tx" "outputs" "[I") ∈ jws := jws_3 (List.mem_of_getElem? (i := 107) rfl) rfl
theorem jw_588 : (Jvm.Cond.fieldLink "CoinNode$Block" (92 : Nat) "CoinNode$Tx" "outputs" "[I") ∈ jws := jws_3 (List.mem_of_getElem? (i := 108) rfl) rfl
theorem jw_589 : (Jvm.Cond.fieldLink "CoinNode$Pool" (134 : Nat) "CoinNode$Tx" "outputs" "[I") ∈ jws := jws_3 (List.mem_of_getElem? (i := 109) rfl) rfl
theorem jw_590 : (Jvm.Cond.fieldLink "CoinNode$Coins" (111 : Nat) "CoinNode$Tx" "outputs" "[I") ∈ jws := jws_3 (List.mem_of_getElem? (i := 110) rfl) rfl
theorem jw_591 : (Jvm.Cond.fieldLink "CoinNode$Tx" (54 : Nat) "CoinNode$Tx" "sum" "J") ∈ jws := jws_3 (List.mem_of_getElem? (i := 111) rfl) rfl
theorem jw_592 : (Jvm.Cond.fieldLink "CoinNode$Pool" (88 : Nat) "CoinNode$Tx" "sum" "J") ∈ jws := jws_3 (List.mem_of_getElem? (i := 112) rfl) rfl
theorem jw_593 : (Jvm.Cond.fieldLink "CoinNode$Coins" (88 : Nat) "CoinNode$Tx" "sum" "J") ∈ jws := jws_3 (List.mem_of_getElem? (i := 113) rfl) rfl
theorem jw_594 : (Jvm.Cond.fieldLink "CoinNode$Block" (65 : Nat) "CoinNode$Tx" "hasRootInput" "Z") ∈ jws := jws_3 (List.mem_of_getElem? (i := 114) rfl) rfl
theorem jw_595 : (Jvm.Cond.fieldLink "CoinNode$Tx" (46 : Nat) "CoinNode$Tx" "hasRootInput" "Z") ∈ jws := jws_3 (List.mem_of_getElem? (i := 115) rfl) rfl
theorem jw_596 : (Jvm.Cond.fieldLink "CoinNode$Pool" (59 : Nat) "CoinNode$Tx" "hasRootInput" "Z") ∈ jws := jws_3 (List.mem_of_getElem? (i := 116) rfl) rfl
theorem jw_597 : (Jvm.Cond.fieldLink "CoinNode$Coins" (53 : Nat) "CoinNode$Tx" "hasRootInput" "Z") ∈ jws := jws_3 (List.mem_of_getElem? (i := 117) rfl) rfl
theorem jw_598 : (Jvm.Cond.laysFinal "CoinNode$Tx" "CoinNode$Tx" "row" "[B") ∈ jws := jws_3 (List.mem_of_getElem? (i := 118) rfl) rfl
theorem jw_600 : (Jvm.Cond.laysFinal "CoinNode$Tx" "CoinNode$Tx" "from" "I") ∈ jws := jws_3 (List.mem_of_getElem? (i := 120) rfl) rfl
theorem jw_602 : (Jvm.Cond.lays "CoinNode$Tx" "CoinNode$Tx" "size" "I") ∈ jws := jws_3 (List.mem_of_getElem? (i := 122) rfl) rfl
theorem jw_604 : (Jvm.Cond.laysFinal "CoinNode$Tx" "CoinNode$Tx" "name" "[B") ∈ jws := jws_3 (List.mem_of_getElem? (i := 124) rfl) rfl
theorem jw_606 : (Jvm.Cond.lays "CoinNode$Tx" "CoinNode$Tx" "inputs" "[I") ∈ jws := jws_3 (List.mem_of_getElem? (i := 126) rfl) rfl
theorem jw_608 : (Jvm.Cond.lays "CoinNode$Tx" "CoinNode$Tx" "outputs" "[I") ∈ jws := jws_3 (List.mem_of_getElem? (i := 128) rfl) rfl
theorem jw_610 : (Jvm.Cond.lays "CoinNode$Tx" "CoinNode$Tx" "sum" "J") ∈ jws := jws_3 (List.mem_of_getElem? (i := 130) rfl) rfl
theorem jw_612 : (Jvm.Cond.lays "CoinNode$Tx" "CoinNode$Tx" "hasRootInput" "Z") ∈ jws := jws_3 (List.mem_of_getElem? (i := 132) rfl) rfl
theorem jw_615 : (Jvm.Cond.methodLink "CoinNode$Tx" (32 : Nat) ({ cls := "CoinNode$Tx", name := "readInputs", desc := "(I)I" } : Jvm.MethodName)) ∈ jws := jws_3 (List.mem_of_getElem? (i := 135) rfl) rfl
theorem jw_617 : (Jvm.Cond.instanceMethod ({ cls := "CoinNode$Tx", name := "readInputs", desc := "(I)I" } : Jvm.MethodName)) ∈ jws := jws_3 (List.mem_of_getElem? (i := 137) rfl) rfl
theorem jw_618 : (Jvm.Cond.code ({ cls := "CoinNode$Tx", name := "readInputs", desc := "(I)I" } : Jvm.MethodName) prog_12_method_3_code (6 : Nat) (Option.some Jvm.ClassFile.FieldType.int)) ∈ jws := jws_3 (List.mem_of_getElem? (i := 138) rfl) rfl
theorem jw_619 : (Jvm.Cond.methodLink "CoinNode$Tx" (42 : Nat) ({ cls := "CoinNode$Tx", name := "sizeAt", desc := "([BII)I" } : Jvm.MethodName)) ∈ jws := jws_3 (List.mem_of_getElem? (i := 139) rfl) rfl
theorem jw_620 : (Jvm.Cond.static ({ cls := "CoinNode$Tx", name := "sizeAt", desc := "([BII)I" } : Jvm.MethodName)) ∈ jws := jws_3 (List.mem_of_getElem? (i := 140) rfl) rfl
theorem jw_621 : (Jvm.Cond.code ({ cls := "CoinNode$Tx", name := "sizeAt", desc := "([BII)I" } : Jvm.MethodName) prog_12_method_5_code (4 : Nat) (Option.some Jvm.ClassFile.FieldType.int)) ∈ jws := jws_3 (List.mem_of_getElem? (i := 141) rfl) rfl
theorem jw_622 : (Jvm.Cond.methodLink "CoinNode$Tx" (50 : Nat) ({ cls := "CoinNode$Tx", name := "isRootInput", desc := "(I)Z" } : Jvm.MethodName)) ∈ jws := jws_3 (List.mem_of_getElem? (i := 142) rfl) rfl
theorem jw_624 : (Jvm.Cond.instanceMethod ({ cls := "CoinNode$Tx", name := "isRootInput", desc := "(I)Z" } : Jvm.MethodName)) ∈ jws := jws_3 (List.mem_of_getElem? (i := 144) rfl) rfl
theorem jw_625 : (Jvm.Cond.code ({ cls := "CoinNode$Tx", name := "isRootInput", desc := "(I)Z" } : Jvm.MethodName) prog_12_method_12_code (4 : Nat) (Option.some Jvm.ClassFile.FieldType.boolean)) ∈ jws := jws_3 (List.mem_of_getElem? (i := 145) rfl) rfl
theorem jw_626 : (Jvm.Cond.methodLink "CoinNode$Tx" (36 : Nat) ({ cls := "CoinNode$Tx", name := "readOutputs", desc := "(I)I" } : Jvm.MethodName)) ∈ jws := jws_3 (List.mem_of_getElem? (i := 146) rfl) rfl
theorem jw_628 : (Jvm.Cond.instanceMethod ({ cls := "CoinNode$Tx", name := "readOutputs", desc := "(I)I" } : Jvm.MethodName)) ∈ jws := jws_3 (List.mem_of_getElem? (i := 148) rfl) rfl
theorem jw_629 : (Jvm.Cond.code ({ cls := "CoinNode$Tx", name := "readOutputs", desc := "(I)I" } : Jvm.MethodName) prog_12_method_4_code (6 : Nat) (Option.some Jvm.ClassFile.FieldType.int)) ∈ jws := jws_3 (List.mem_of_getElem? (i := 149) rfl) rfl
theorem jw_630 : (Jvm.Cond.methodLink "CoinNode$Tx" (58 : Nat) ({ cls := "CoinNode$Tx", name := "worth", desc := "(I)J" } : Jvm.MethodName)) ∈ jws := jws_3 (List.mem_of_getElem? (i := 150) rfl) rfl
theorem jw_631 : (Jvm.Cond.instanceMethod ({ cls := "CoinNode$Tx", name := "worth", desc := "(I)J" } : Jvm.MethodName)) ∈ jws := jws_3 (List.mem_of_getElem? (i := 151) rfl) rfl
theorem jw_632 : (Jvm.Cond.selects "CoinNode$Tx" ({ cls := "CoinNode$Tx", name := "worth", desc := "(I)J" } : Jvm.MethodName) ({ cls := "CoinNode$Tx", name := "worth", desc := "(I)J" } : Jvm.MethodName)) ∈ jws := jws_3 (List.mem_of_getElem? (i := 152) rfl) rfl
theorem jw_633 : (Jvm.Cond.code ({ cls := "CoinNode$Tx", name := "worth", desc := "(I)J" } : Jvm.MethodName) prog_12_method_8_code (3 : Nat) (Option.some Jvm.ClassFile.FieldType.long)) ∈ jws := jws_3 (List.mem_of_getElem? (i := 153) rfl) rfl
theorem jw_634 : (Jvm.Cond.methodLink "CoinNode$Tx" (62 : Nat) ({ cls := "CoinNode$Tx", name := "low", desc := "([BI)I" } : Jvm.MethodName)) ∈ jws := jws_3 (List.mem_of_getElem? (i := 154) rfl) rfl
theorem jw_635 : (Jvm.Cond.constantLong "CoinNode$Tx" (66 : Nat) (4294967295 : Int64)) ∈ jws := jws_3 (List.mem_of_getElem? (i := 155) rfl) rfl
theorem jw_636 : (Jvm.Cond.methodLink "CoinNode" (134 : Nat) ({ cls := "CoinNode", name := "answerVerdict", desc := "(II[B)V" } : Jvm.MethodName)) ∈ jws := jws_3 (List.mem_of_getElem? (i := 156) rfl) rfl
theorem jw_638 : (Jvm.Cond.instanceMethod ({ cls := "CoinNode", name := "answerVerdict", desc := "(II[B)V" } : Jvm.MethodName)) ∈ jws := jws_3 (List.mem_of_getElem? (i := 158) rfl) rfl
theorem jw_639 : (Jvm.Cond.code ({ cls := "CoinNode", name := "answerVerdict", desc := "(II[B)V" } : Jvm.MethodName) prog_1_method_14_code (5 : Nat) (Option.none : Option Jvm.ClassFile.FieldType)) ∈ jws := jws_3 (List.mem_of_getElem? (i := 159) rfl) rfl
theorem jw_640 : (Jvm.Cond.methodLink "CoinNode" (202 : Nat) ({ cls := "CoinNode", name := "begin", desc := "(I)V" } : Jvm.MethodName)) ∈ jws := jws_3 (List.mem_of_getElem? (i := 160) rfl) rfl
theorem jw_642 : (Jvm.Cond.instanceMethod ({ cls := "CoinNode", name := "begin", desc := "(I)V" } : Jvm.MethodName)) ∈ jws := jws_3 (List.mem_of_getElem? (i := 162) rfl) rfl
theorem jw_643 : (Jvm.Cond.code ({ cls := "CoinNode", name := "begin", desc := "(I)V" } : Jvm.MethodName) prog_1_method_21_code (2 : Nat) (Option.none : Option Jvm.ClassFile.FieldType)) ∈ jws := jws_3 (List.mem_of_getElem? (i := 163) rfl) rfl
theorem jw_644 : (Jvm.Cond.methodLink "CoinNode" (205 : Nat) ({ cls := "CoinNode", name := "put", desc := "(I)V" } : Jvm.MethodName)) ∈ jws := jws_3 (List.mem_of_getElem? (i := 164) rfl) rfl
theorem jw_646 : (Jvm.Cond.instanceMethod ({ cls := "CoinNode", name := "put", desc := "(I)V" } : Jvm.MethodName)) ∈ jws := jws_3 (List.mem_of_getElem? (i := 166) rfl) rfl
theorem jw_647 : (Jvm.Cond.code ({ cls := "CoinNode", name := "put", desc := "(I)V" } : Jvm.MethodName) prog_1_method_22_code (2 : Nat) (Option.none : Option Jvm.ClassFile.FieldType)) ∈ jws := jws_3 (List.mem_of_getElem? (i := 167) rfl) rfl
theorem jw_648 : (Jvm.Cond.methodLink "CoinNode" (208 : Nat) ({ cls := "CoinNode", name := "post", desc := "(I)V" } : Jvm.MethodName)) ∈ jws := jws_3 (List.mem_of_getElem? (i := 168) rfl) rfl
theorem jw_650 : (Jvm.Cond.instanceMethod ({ cls := "CoinNode", name := "post", desc := "(I)V" } : Jvm.MethodName)) ∈ jws := jws_3 (List.mem_of_getElem? (i := 170) rfl) rfl
theorem jw_651 : (Jvm.Cond.code ({ cls := "CoinNode", name := "post", desc := "(I)V" } : Jvm.MethodName) prog_1_method_24_code (5 : Nat) (Option.none : Option Jvm.ClassFile.FieldType)) ∈ jws := jws_3 (List.mem_of_getElem? (i := 171) rfl) rfl
theorem jw_652 : (Jvm.Cond.methodLink "CoinNode" (189 : Nat) ({ cls := "CoinNode$Hash", name := "name", desc := "([BII[B)V" } : Jvm.MethodName)) ∈ jws := jws_3 (List.mem_of_getElem? (i := 172) rfl) rfl
theorem jw_653 : (Jvm.Cond.methodLink "CoinNode" (192 : Nat) ({ cls := "CoinNode$Pool", name := "offer", desc := "(LCoinNode$Tx;IZ)I" } : Jvm.MethodName)) ∈ jws := jws_3 (List.mem_of_getElem? (i := 173) rfl) rfl
theorem jw_654 : (Jvm.Cond.instanceMethod ({ cls := "CoinNode$Pool", name := "offer", desc := "(LCoinNode$Tx;IZ)I" } : Jvm.MethodName)) ∈ jws := jws_3 (List.mem_of_getElem? (i := 174) rfl) rfl
theorem jw_655 : (Jvm.Cond.selects "CoinNode$Pool" ({ cls := "CoinNode$Pool", name := "offer", desc := "(LCoinNode$Tx;IZ)I" } : Jvm.MethodName) ({ cls := "CoinNode$Pool", name := "offer", desc := "(LCoinNode$Tx;IZ)I" } : Jvm.MethodName)) ∈ jws := jws_3 (List.mem_of_getElem? (i := 175) rfl) rfl
theorem jw_656 : (Jvm.Cond.code ({ cls := "CoinNode$Pool", name := "offer", desc := "(LCoinNode$Tx;IZ)I" } : Jvm.MethodName) prog_8_method_4_code (5 : Nat) (Option.some Jvm.ClassFile.FieldType.int)) ∈ jws := jws_3 (List.mem_of_getElem? (i := 176) rfl) rfl
theorem jw_657 : (Jvm.Cond.methodLink "CoinNode$Pool" (55 : Nat) ({ cls := "CoinNode$Tx", name := "fault", desc := "()I" } : Jvm.MethodName)) ∈ jws := jws_3 (List.mem_of_getElem? (i := 177) rfl) rfl
theorem jw_658 : (Jvm.Cond.instanceMethod ({ cls := "CoinNode$Tx", name := "fault", desc := "()I" } : Jvm.MethodName)) ∈ jws := jws_3 (List.mem_of_getElem? (i := 178) rfl) rfl
theorem jw_659 : (Jvm.Cond.selects "CoinNode$Tx" ({ cls := "CoinNode$Tx", name := "fault", desc := "()I" } : Jvm.MethodName) ({ cls := "CoinNode$Tx", name := "fault", desc := "()I" } : Jvm.MethodName)) ∈ jws := jws_3 (List.mem_of_getElem? (i := 179) rfl) rfl
theorem jw_660 : (Jvm.Cond.code ({ cls := "CoinNode$Tx", name := "fault", desc := "()I" } : Jvm.MethodName) prog_12_method_14_code (3 : Nat) (Option.some Jvm.ClassFile.FieldType.int)) ∈ jws := jws_3 (List.mem_of_getElem? (i := 180) rfl) rfl
theorem jw_661 : (Jvm.Cond.methodLink "CoinNode$Tx" (70 : Nat) ({ cls := "CoinNode$Tx", name := "isTooMuch", desc := "()Z" } : Jvm.MethodName)) ∈ jws := jws_3 (List.mem_of_getElem? (i := 181) rfl) rfl
theorem jw_662 : (Jvm.Cond.instanceMethod ({ cls := "CoinNode$Tx", name := "isTooMuch", desc := "()Z" } : Jvm.MethodName)) ∈ jws := jws_3 (List.mem_of_getElem? (i := 182) rfl) rfl
theorem jw_663 : (Jvm.Cond.selects "CoinNode$Tx" ({ cls := "CoinNode$Tx", name := "isTooMuch", desc := "()Z" } : Jvm.MethodName) ({ cls := "CoinNode$Tx", name := "isTooMuch", desc := "()Z" } : Jvm.MethodName)) ∈ jws := jws_3 (List.mem_of_getElem? (i := 183) rfl) rfl
theorem jw_664 : (Jvm.Cond.code ({ cls := "CoinNode$Tx", name := "isTooMuch", desc := "()Z" } : Jvm.MethodName) prog_12_method_13_code (6 : Nat) (Option.some Jvm.ClassFile.FieldType.boolean)) ∈ jws := jws_3 (List.mem_of_getElem? (i := 184) rfl) rfl
theorem jw_665 : (Jvm.Cond.constantLong "CoinNode$Tx" (68 : Nat) (2100000000000000 : Int64)) ∈ jws := jws_3 (List.mem_of_getElem? (i := 185) rfl) rfl
theorem jw_666 : (Jvm.Cond.methodLink "CoinNode$Tx" (74 : Nat) ({ cls := "CoinNode$Tx", name := "index", desc := "(I)I" } : Jvm.MethodName)) ∈ jws := jws_3 (List.mem_of_getElem? (i := 186) rfl) rfl
theorem jw_667 : (Jvm.Cond.instanceMethod ({ cls := "CoinNode$Tx", name := "index", desc := "(I)I" } : Jvm.MethodName)) ∈ jws := jws_3 (List.mem_of_getElem? (i := 187) rfl) rfl
theorem jw_668 : (Jvm.Cond.selects "CoinNode$Tx" ({ cls := "CoinNode$Tx", name := "index", desc := "(I)I" } : Jvm.MethodName) ({ cls := "CoinNode$Tx", name := "index", desc := "(I)I" } : Jvm.MethodName)) ∈ jws := jws_3 (List.mem_of_getElem? (i := 188) rfl) rfl
theorem jw_669 : (Jvm.Cond.code ({ cls := "CoinNode$Tx", name := "index", desc := "(I)I" } : Jvm.MethodName) prog_12_method_7_code (2 : Nat) (Option.some Jvm.ClassFile.FieldType.int)) ∈ jws := jws_3 (List.mem_of_getElem? (i := 189) rfl) rfl
theorem jw_670 : (Jvm.Cond.methodLink "CoinNode$Tx" (77 : Nat) ({ cls := "CoinNode$Hash", name := "same", desc := "([BI[BI)Z" } : Jvm.MethodName)) ∈ jws := jws_3 (List.mem_of_getElem? (i := 190) rfl) rfl
theorem jw_671 : (Jvm.Cond.static ({ cls := "CoinNode$Hash", name := "same", desc := "([BI[BI)Z" } : Jvm.MethodName)) ∈ jws := jws_3 (List.mem_of_getElem? (i := 191) rfl) rfl
theorem jw_672 : (Jvm.Cond.code ({ cls := "CoinNode$Hash", name := "same", desc := "([BI[BI)Z" } : Jvm.MethodName) prog_5_method_6_code (5 : Nat) (Option.some Jvm.ClassFile.FieldType.boolean)) ∈ jws := jws_3 (List.mem_of_getElem? (i := 192) rfl) rfl
theorem jw_673 : (Jvm.Cond.methodLink "CoinNode$Pool" (63 : Nat) ({ cls := "CoinNode$Pool", name := "clash", desc := "(LCoinNode$Tx;)I" } : Jvm.MethodName)) ∈ jws := jws_3 (List.mem_of_getElem? (i := 193) rfl) rfl
theorem jw_675 : (Jvm.Cond.instanceMethod ({ cls := "CoinNode$Pool", name := "clash", desc := "(LCoinNode$Tx;)I" } : Jvm.MethodName)) ∈ jws := jws_3 (List.mem_of_getElem? (i := 195) rfl) rfl
theorem jw_676 : (Jvm.Cond.code ({ cls := "CoinNode$Pool", name := "clash", desc := "(LCoinNode$Tx;)I" } : Jvm.MethodName) prog_8_method_6_code (3 : Nat) (Option.some Jvm.ClassFile.FieldType.int)) ∈ jws := jws_3 (List.mem_of_getElem? (i := 196) rfl) rfl
theorem jw_677 : (Jvm.Cond.methodLink "CoinNode$Pool" (108 : Nat) ({ cls := "CoinNode$Pool", name := "find", desc := "([BI)LCoinNode$Tx;" } : Jvm.MethodName)) ∈ jws := jws_3 (List.mem_of_getElem? (i := 197) rfl) rfl
theorem jw_678 : (Jvm.Cond.instanceMethod ({ cls := "CoinNode$Pool", name := "find", desc := "([BI)LCoinNode$Tx;" } : Jvm.MethodName)) ∈ jws := jws_3 (List.mem_of_getElem? (i := 198) rfl) rfl
theorem jw_679 : (Jvm.Cond.selects "CoinNode$Pool" ({ cls := "CoinNode$Pool", name := "find", desc := "([BI)LCoinNode$Tx;" } : Jvm.MethodName) ({ cls := "CoinNode$Pool", name := "find", desc := "([BI)LCoinNode$Tx;" } : Jvm.MethodName)) ∈ jws := jws_3 (List.mem_of_getElem? (i := 199) rfl) rfl
theorem jw_680 : (Jvm.Cond.code ({ cls := "CoinNode$Pool", name := "find", desc := "([BI)LCoinNode$Tx;" } : Jvm.MethodName) prog_8_method_3_code (4 : Nat) (Option.some (Jvm.ClassFile.FieldType.object "CoinNode$Tx"))) ∈ jws := jws_3 (List.mem_of_getElem? (i := 200) rfl) rfl
theorem jw_681 : (Jvm.Cond.methodLink "CoinNode$Pool" (49 : Nat) ({ cls := "CoinNode$Hash", name := "same", desc := "([BI[BI)Z" } : Jvm.MethodName)) ∈ jws := jws_3 (List.mem_of_getElem? (i := 201) rfl) rfl
theorem jw_682 : (Jvm.Cond.methodLink "CoinNode$Pool" (112 : Nat) ({ cls := "CoinNode$Tx", name := "sharesKeyWith", desc := "(LCoinNode$Tx;)Z" } : Jvm.MethodName)) ∈ jws := jws_3 (List.mem_of_getElem? (i := 202) rfl) rfl
theorem jw_683 : (Jvm.Cond.instanceMethod ({ cls := "CoinNode$Tx", name := "sharesKeyWith", desc := "(LCoinNode$Tx;)Z" } : Jvm.MethodName)) ∈ jws := jws_3 (List.mem_of_getElem? (i := 203) rfl) rfl
theorem jw_684 : (Jvm.Cond.selects "CoinNode$Tx" ({ cls := "CoinNode$Tx", name := "sharesKeyWith", desc := "(LCoinNode$Tx;)Z" } : Jvm.MethodName) ({ cls := "CoinNode$Tx", name := "sharesKeyWith", desc := "(LCoinNode$Tx;)Z" } : Jvm.MethodName)) ∈ jws := jws_3 (List.mem_of_getElem? (i := 204) rfl) rfl
theorem jw_685 : (Jvm.Cond.code ({ cls := "CoinNode$Tx", name := "sharesKeyWith", desc := "(LCoinNode$Tx;)Z" } : Jvm.MethodName) prog_12_method_16_code (4 : Nat) (Option.some Jvm.ClassFile.FieldType.boolean)) ∈ jws := jws_3 (List.mem_of_getElem? (i := 205) rfl) rfl
theorem jw_686 : (Jvm.Cond.methodLink "CoinNode$Pool" (67 : Nat) ({ cls := "CoinNode$Pool", name := "take", desc := "(LCoinNode$Tx;I)I" } : Jvm.MethodName)) ∈ jws := jws_3 (List.mem_of_getElem? (i := 206) rfl) rfl
theorem jw_688 : (Jvm.Cond.instanceMethod ({ cls := "CoinNode$Pool", name := "take", desc := "(LCoinNode$Tx;I)I" } : Jvm.MethodName)) ∈ jws := jws_3 (List.mem_of_getElem? (i := 208) rfl) rfl
theorem jw_689 : (Jvm.Cond.code ({ cls := "CoinNode$Pool", name := "take", desc := "(LCoinNode$Tx;I)I" } : Jvm.MethodName) prog_8_method_7_code (8 : Nat) (Option.some Jvm.ClassFile.FieldType.int)) ∈ jws := jws_3 (List.mem_of_getElem? (i := 209) rfl) rfl
theorem jw_690 : (Jvm.Cond.methodLink "CoinNode$Pool" (118 : Nat) ({ cls := "CoinNode$Tx", name := "index", desc := "(I)I" } : Jvm.MethodName)) ∈ jws := jws_3 (List.mem_of_getElem? (i := 210) rfl) rfl
theorem jw_691 : (Jvm.Cond.methodLink "CoinNode$Pool" (125 : Nat) ({ cls := "CoinNode$Coins", name := "find", desc := "([BII)I" } : Jvm.MethodName)) ∈ jws := jws_3 (List.mem_of_getElem? (i := 211) rfl) rfl
theorem jw_692 : (Jvm.Cond.instanceMethod ({ cls := "CoinNode$Coins", name := "find", desc := "([BII)I" } : Jvm.MethodName)) ∈ jws := jws_3 (List.mem_of_getElem? (i := 212) rfl) rfl
theorem jw_693 : (Jvm.Cond.selects "CoinNode$Coins" ({ cls := "CoinNode$Coins", name := "find", desc := "([BII)I" } : Jvm.MethodName) ({ cls := "CoinNode$Coins", name := "find", desc := "([BII)I" } : Jvm.MethodName)) ∈ jws := jws_3 (List.mem_of_getElem? (i := 213) rfl) rfl
theorem jw_694 : (Jvm.Cond.code ({ cls := "CoinNode$Coins", name := "find", desc := "([BII)I" } : Jvm.MethodName) prog_4_method_3_code (5 : Nat) (Option.some Jvm.ClassFile.FieldType.int)) ∈ jws := jws_3 (List.mem_of_getElem? (i := 214) rfl) rfl
theorem jw_695 : (Jvm.Cond.methodLink "CoinNode$Coins" (43 : Nat) ({ cls := "CoinNode$Hash", name := "same", desc := "([BI[BI)Z" } : Jvm.MethodName)) ∈ jws := jws_3 (List.mem_of_getElem? (i := 215) rfl) rfl
theorem jw_696 : (Jvm.Cond.methodLink "CoinNode$Pool" (130 : Nat) ({ cls := "CoinNode$Coins", name := "maker", desc := "(I)LCoinNode$Tx;" } : Jvm.MethodName)) ∈ jws := jws_3 (List.mem_of_getElem? (i := 216) rfl) rfl
theorem jw_697 : (Jvm.Cond.instanceMethod ({ cls := "CoinNode$Coins", name := "maker", desc := "(I)LCoinNode$Tx;" } : Jvm.MethodName)) ∈ jws := jws_3 (List.mem_of_getElem? (i := 217) rfl) rfl
theorem jw_698 : (Jvm.Cond.selects "CoinNode$Coins" ({ cls := "CoinNode$Coins", name := "maker", desc := "(I)LCoinNode$Tx;" } : Jvm.MethodName) ({ cls := "CoinNode$Coins", name := "maker", desc := "(I)LCoinNode$Tx;" } : Jvm.MethodName)) ∈ jws := jws_3 (List.mem_of_getElem? (i := 218) rfl) rfl
theorem jw_699 : (Jvm.Cond.code ({ cls := "CoinNode$Coins", name := "maker", desc := "(I)LCoinNode$Tx;" } : Jvm.MethodName) prog_4_method_4_code (2 : Nat) (Option.some (Jvm.ClassFile.FieldType.object "CoinNode$Tx"))) ∈ jws := jws_3 (List.mem_of_getElem? (i := 219) rfl) rfl
theorem jw_700 : (Jvm.Cond.methodLink "CoinNode$Pool" (137 : Nat) ({ cls := "CoinNode$Coins", name := "isUnripe", desc := "(II)Z" } : Jvm.MethodName)) ∈ jws := jws_3 (List.mem_of_getElem? (i := 220) rfl) rfl
theorem jw_701 : (Jvm.Cond.instanceMethod ({ cls := "CoinNode$Coins", name := "isUnripe", desc := "(II)Z" } : Jvm.MethodName)) ∈ jws := jws_3 (List.mem_of_getElem? (i := 221) rfl) rfl
theorem jw_702 : (Jvm.Cond.selects "CoinNode$Coins" ({ cls := "CoinNode$Coins", name := "isUnripe", desc := "(II)Z" } : Jvm.MethodName) ({ cls := "CoinNode$Coins", name := "isUnripe", desc := "(II)Z" } : Jvm.MethodName)) ∈ jws := jws_3 (List.mem_of_getElem? (i := 222) rfl) rfl
theorem jw_703 : (Jvm.Cond.code ({ cls := "CoinNode$Coins", name := "isUnripe", desc := "(II)Z" } : Jvm.MethodName) prog_4_method_6_code (3 : Nat) (Option.some Jvm.ClassFile.FieldType.boolean)) ∈ jws := jws_3 (List.mem_of_getElem? (i := 223) rfl) rfl
theorem jw_704 : (Jvm.Cond.methodLink "CoinNode$Pool" (141 : Nat) ({ cls := "CoinNode$Tx", name := "worth", desc := "(I)J" } : Jvm.MethodName)) ∈ jws := jws_3 (List.mem_of_getElem? (i := 224) rfl) rfl
theorem jw_705 : (Jvm.Cond.methodLink "CoinNode$Pool" (71 : Nat) ({ cls := "CoinNode$Scripts", name := "begin", desc := "(I)V" } : Jvm.MethodName)) ∈ jws := jws_3 (List.mem_of_getElem? (i := 225) rfl) rfl
theorem jw_706 : (Jvm.Cond.instanceMethod ({ cls := "CoinNode$Scripts", name := "begin", desc := "(I)V" } : Jvm.MethodName)) ∈ jws := jws_3 (List.mem_of_getElem? (i := 226) rfl) rfl
theorem jw_707 : (Jvm.Cond.selects "CoinNode$Scripts" ({ cls := "CoinNode$Scripts", name := "begin", desc := "(I)V" } : Jvm.MethodName) ({ cls := "CoinNode$Scripts", name := "begin", desc := "(I)V" } : Jvm.MethodName)) ∈ jws := jws_3 (List.mem_of_getElem? (i := 227) rfl) rfl
theorem jw_708 : (Jvm.Cond.code ({ cls := "CoinNode$Scripts", name := "begin", desc := "(I)V" } : Jvm.MethodName) prog_9_method_2_code (2 : Nat) (Option.none : Option Jvm.ClassFile.FieldType)) ∈ jws := jws_3 (List.mem_of_getElem? (i := 228) rfl) rfl
theorem jw_709 : (Jvm.Cond.methodLink "CoinNode$Pool" (77 : Nat) ({ cls := "CoinNode$Scripts", name := "pass", desc := "(LCoinNode$Tx;[LCoinNode$Tx;[I)Z" } : Jvm.MethodName)) ∈ jws := jws_3 (List.mem_of_getElem? (i := 229) rfl) rfl
theorem jw_710 : (Jvm.Cond.instanceMethod ({ cls := "CoinNode$Scripts", name := "pass", desc := "(LCoinNode$Tx;[LCoinNode$Tx;[I)Z" } : Jvm.MethodName)) ∈ jws := jws_3 (List.mem_of_getElem? (i := 230) rfl) rfl
theorem jw_711 : (Jvm.Cond.selects "CoinNode$Scripts" ({ cls := "CoinNode$Scripts", name := "pass", desc := "(LCoinNode$Tx;[LCoinNode$Tx;[I)Z" } : Jvm.MethodName) ({ cls := "CoinNode$Scripts", name := "pass", desc := "(LCoinNode$Tx;[LCoinNode$Tx;[I)Z" } : Jvm.MethodName)) ∈ jws := jws_3 (List.mem_of_getElem? (i := 231) rfl) rfl
theorem jw_712 : (Jvm.Cond.code ({ cls := "CoinNode$Scripts", name := "pass", desc := "(LCoinNode$Tx;[LCoinNode$Tx;[I)Z" } : Jvm.MethodName) prog_9_method_3_code (9 : Nat) (Option.some Jvm.ClassFile.FieldType.boolean)) ∈ jws := jws_3 (List.mem_of_getElem? (i := 232) rfl) rfl
theorem jw_713 : (Jvm.Cond.methodLink "CoinNode$Scripts" (51 : Nat) ({ cls := "CoinNode$Tx", name := "outputScript", desc := "(I)I" } : Jvm.MethodName)) ∈ jws := jws_3 (List.mem_of_getElem? (i := 233) rfl) rfl
theorem jw_714 : (Jvm.Cond.instanceMethod ({ cls := "CoinNode$Tx", name := "outputScript", desc := "(I)I" } : Jvm.MethodName)) ∈ jws := jws_3 (List.mem_of_getElem? (i := 234) rfl) rfl
theorem jw_715 : (Jvm.Cond.selects "CoinNode$Tx" ({ cls := "CoinNode$Tx", name := "outputScript", desc := "(I)I" } : Jvm.MethodName) ({ cls := "CoinNode$Tx", name := "outputScript", desc := "(I)I" } : Jvm.MethodName)) ∈ jws := jws_3 (List.mem_of_getElem? (i := 235) rfl) rfl
theorem jw_716 : (Jvm.Cond.code ({ cls := "CoinNode$Tx", name := "outputScript", desc := "(I)I" } : Jvm.MethodName) prog_12_method_10_code (2 : Nat) (Option.some Jvm.ClassFile.FieldType.int)) ∈ jws := jws_3 (List.mem_of_getElem? (i := 236) rfl) rfl
theorem jw_717 : (Jvm.Cond.methodLink "CoinNode$Scripts" (55 : Nat) ({ cls := "CoinNode$Machine", name := "clear", desc := "()V" } : Jvm.MethodName)) ∈ jws := jws_3 (List.mem_of_getElem? (i := 237) rfl) rfl
theorem jw_718 : (Jvm.Cond.instanceMethod ({ cls := "CoinNode$Machine", name := "clear", desc := "()V" } : Jvm.MethodName)) ∈ jws := jws_3 (List.mem_of_getElem? (i := 238) rfl) rfl
theorem jw_719 : (Jvm.Cond.selects "CoinNode$Machine" ({ cls := "CoinNode$Machine", name := "clear", desc := "()V" } : Jvm.MethodName) ({ cls := "CoinNode$Machine", name := "clear", desc := "()V" } : Jvm.MethodName)) ∈ jws := jws_3 (List.mem_of_getElem? (i := 239) rfl) rfl
theorem jw_720 : (Jvm.Cond.code ({ cls := "CoinNode$Machine", name := "clear", desc := "()V" } : Jvm.MethodName) prog_6_method_2_code (1 : Nat) (Option.none : Option Jvm.ClassFile.FieldType)) ∈ jws := jws_4 (List.mem_of_getElem? (i := 0) rfl) rfl
theorem jw_721 : (Jvm.Cond.methodLink "CoinNode$Scripts" (61 : Nat) ({ cls := "CoinNode$Tx", name := "inputScript", desc := "(I)I" } : Jvm.MethodName)) ∈ jws := jws_4 (List.mem_of_getElem? (i := 1) rfl) rfl
theorem jw_722 : (Jvm.Cond.instanceMethod ({ cls := "CoinNode$Tx", name := "inputScript", desc := "(I)I" } : Jvm.MethodName)) ∈ jws := jws_4 (List.mem_of_getElem? (i := 2) rfl) rfl
theorem jw_723 : (Jvm.Cond.selects "CoinNode$Tx" ({ cls := "CoinNode$Tx", name := "inputScript", desc := "(I)I" } : Jvm.MethodName) ({ cls := "CoinNode$Tx", name := "inputScript", desc := "(I)I" } : Jvm.MethodName)) ∈ jws := jws_4 (List.mem_of_getElem? (i := 3) rfl) rfl
theorem jw_724 : (Jvm.Cond.code ({ cls := "CoinNode$Tx", name := "inputScript", desc := "(I)I" } : Jvm.MethodName) prog_12_method_9_code (2 : Nat) (Option.some Jvm.ClassFile.FieldType.int)) ∈ jws := jws_4 (List.mem_of_getElem? (i := 4) rfl) rfl
theorem jw_725 : (Jvm.Cond.methodLink "CoinNode$Scripts" (64 : Nat) ({ cls := "CoinNode$Tx", name := "scriptSize", desc := "(I)I" } : Jvm.MethodName)) ∈ jws := jws_4 (List.mem_of_getElem? (i := 5) rfl) rfl
theorem jw_726 : (Jvm.Cond.instanceMethod ({ cls := "CoinNode$Tx", name := "scriptSize", desc := "(I)I" } : Jvm.MethodName)) ∈ jws := jws_4 (List.mem_of_getElem? (i := 6) rfl) rfl
theorem jw_727 : (Jvm.Cond.selects "CoinNode$Tx" ({ cls := "CoinNode$Tx", name := "scriptSize", desc := "(I)I" } : Jvm.MethodName) ({ cls := "CoinNode$Tx", name := "scriptSize", desc := "(I)I" } : Jvm.MethodName)) ∈ jws := jws_4 (List.mem_of_getElem? (i := 7) rfl) rfl
theorem jw_728 : (Jvm.Cond.code ({ cls := "CoinNode$Tx", name := "scriptSize", desc := "(I)I" } : Jvm.MethodName) prog_12_method_11_code (2 : Nat) (Option.some Jvm.ClassFile.FieldType.int)) ∈ jws := jws_4 (List.mem_of_getElem? (i := 8) rfl) rfl
theorem jw_729 : (Jvm.Cond.methodLink "CoinNode$Scripts" (67 : Nat) ({ cls := "CoinNode$Machine", name := "open", desc := "([BII)V" } : Jvm.MethodName)) ∈ jws := jws_4 (List.mem_of_getElem? (i := 9) rfl) rfl
theorem jw_730 : (Jvm.Cond.instanceMethod ({ cls := "CoinNode$Machine", name := "open", desc := "([BII)V" } : Jvm.MethodName)) ∈ jws := jws_4 (List.mem_of_getElem? (i := 10) rfl) rfl
theorem jw_731 : (Jvm.Cond.selects "CoinNode$Machine" ({ cls := "CoinNode$Machine", name := "open", desc := "([BII)V" } : Jvm.MethodName) ({ cls := "CoinNode$Machine", name := "open", desc := "([BII)V" } : Jvm.MethodName)) ∈ jws := jws_4 (List.mem_of_getElem? (i := 11) rfl) rfl
theorem jw_732 : (Jvm.Cond.code ({ cls := "CoinNode$Machine", name := "open", desc := "([BII)V" } : Jvm.MethodName) prog_6_method_4_code (4 : Nat) (Option.none : Option Jvm.ClassFile.FieldType)) ∈ jws := jws_4 (List.mem_of_getElem? (i := 12) rfl) rfl
theorem jw_733 : (Jvm.Cond.methodLink "CoinNode$Scripts" (71 : Nat) ({ cls := "CoinNode$Machine", name := "run", desc := "()I" } : Jvm.MethodName)) ∈ jws := jws_4 (List.mem_of_getElem? (i := 13) rfl) rfl
theorem jw_734 : (Jvm.Cond.instanceMethod ({ cls := "CoinNode$Machine", name := "run", desc := "()I" } : Jvm.MethodName)) ∈ jws := jws_4 (List.mem_of_getElem? (i := 14) rfl) rfl
theorem jw_735 : (Jvm.Cond.selects "CoinNode$Machine" ({ cls := "CoinNode$Machine", name := "run", desc := "()I" } : Jvm.MethodName) ({ cls := "CoinNode$Machine", name := "run", desc := "()I" } : Jvm.MethodName)) ∈ jws := jws_4 (List.mem_of_getElem? (i := 15) rfl) rfl
theorem jw_736 : (Jvm.Cond.code ({ cls := "CoinNode$Machine", name := "run", desc := "()I" } : Jvm.MethodName) prog_6_method_6_code (3 : Nat) (Option.some Jvm.ClassFile.FieldType.int)) ∈ jws := jws_4 (List.mem_of_getElem? (i := 16) rfl) rfl
theorem jw_737 : (Jvm.Cond.methodLink "CoinNode$Machine" (75 : Nat) ({ cls := "CoinNode$Machine", name := "push", desc := "(I)V" } : Jvm.MethodName)) ∈ jws := jws_4 (List.mem_of_getElem? (i := 17) rfl) rfl
theorem jw_739 : (Jvm.Cond.instanceMethod ({ cls := "CoinNode$Machine", name := "push", desc := "(I)V" } : Jvm.MethodName)) ∈ jws := jws_4 (List.mem_of_getElem? (i := 19) rfl) rfl
theorem jw_740 : (Jvm.Cond.code ({ cls := "CoinNode$Machine", name := "push", desc := "(I)V" } : Jvm.MethodName) prog_6_method_8_code (4 : Nat) (Option.none : Option Jvm.ClassFile.FieldType)) ∈ jws := jws_4 (List.mem_of_getElem? (i := 20) rfl) rfl
theorem jw_741 : (Jvm.Cond.methodLink "CoinNode$Machine" (113 : Nat) ({ cls := "CoinNode$Stack", name := "put", desc := "([BII)V" } : Jvm.MethodName)) ∈ jws := jws_4 (List.mem_of_getElem? (i := 21) rfl) rfl
theorem jw_742 : (Jvm.Cond.instanceMethod ({ cls := "CoinNode$Stack", name := "put", desc := "([BII)V" } : Jvm.MethodName)) ∈ jws := jws_4 (List.mem_of_getElem? (i := 22) rfl) rfl
theorem jw_743 : (Jvm.Cond.selects "CoinNode$Stack" ({ cls := "CoinNode$Stack", name := "put", desc := "([BII)V" } : Jvm.MethodName) ({ cls := "CoinNode$Stack", name := "put", desc := "([BII)V" } : Jvm.MethodName)) ∈ jws := jws_4 (List.mem_of_getElem? (i := 23) rfl) rfl
theorem jw_744 : (Jvm.Cond.code ({ cls := "CoinNode$Stack", name := "put", desc := "([BII)V" } : Jvm.MethodName) prog_11_method_2_code (4 : Nat) (Option.none : Option Jvm.ClassFile.FieldType)) ∈ jws := jws_4 (List.mem_of_getElem? (i := 24) rfl) rfl
theorem jw_745 : (Jvm.Cond.methodLink "CoinNode$Stack" (22 : Nat) ({ cls := "java/lang/System", name := "arraycopy", desc := "(Ljava/lang/Object;ILjava/lang/Object;II)V" } : Jvm.MethodName)) ∈ jws := jws_4 (List.mem_of_getElem? (i := 25) rfl) rfl
theorem jw_746 : (Jvm.Cond.methodLink "CoinNode$Machine" (79 : Nat) ({ cls := "CoinNode$Machine", name := "part", desc := "(I)V" } : Jvm.MethodName)) ∈ jws := jws_4 (List.mem_of_getElem? (i := 26) rfl) rfl
theorem jw_748 : (Jvm.Cond.instanceMethod ({ cls := "CoinNode$Machine", name := "part", desc := "(I)V" } : Jvm.MethodName)) ∈ jws := jws_4 (List.mem_of_getElem? (i := 28) rfl) rfl
theorem jw_749 : (Jvm.Cond.code ({ cls := "CoinNode$Machine", name := "part", desc := "(I)V" } : Jvm.MethodName) prog_6_method_9_code (3 : Nat) (Option.none : Option Jvm.ClassFile.FieldType)) ∈ jws := jws_4 (List.mem_of_getElem? (i := 29) rfl) rfl
theorem jw_750 : (Jvm.Cond.methodLink "CoinNode$Machine" (116 : Nat) ({ cls := "CoinNode$Machine", name := "has", desc := "(I)Z" } : Jvm.MethodName)) ∈ jws := jws_4 (List.mem_of_getElem? (i := 30) rfl) rfl
theorem jw_752 : (Jvm.Cond.instanceMethod ({ cls := "CoinNode$Machine", name := "has", desc := "(I)Z" } : Jvm.MethodName)) ∈ jws := jws_4 (List.mem_of_getElem? (i := 32) rfl) rfl
theorem jw_753 : (Jvm.Cond.code ({ cls := "CoinNode$Machine", name := "has", desc := "(I)Z" } : Jvm.MethodName) prog_6_method_7_code (2 : Nat) (Option.some Jvm.ClassFile.FieldType.boolean)) ∈ jws := jws_4 (List.mem_of_getElem? (i := 33) rfl) rfl
theorem jw_754 : (Jvm.Cond.methodLink "CoinNode$Machine" (71 : Nat) ({ cls := "CoinNode$Stack", name := "isTrue", desc := "(I)Z" } : Jvm.MethodName)) ∈ jws := jws_4 (List.mem_of_getElem? (i := 34) rfl) rfl
theorem jw_755 : (Jvm.Cond.instanceMethod ({ cls := "CoinNode$Stack", name := "isTrue", desc := "(I)Z" } : Jvm.MethodName)) ∈ jws := jws_4 (List.mem_of_getElem? (i := 35) rfl) rfl
theorem jw_756 : (Jvm.Cond.selects "CoinNode$Stack" ({ cls := "CoinNode$Stack", name := "isTrue", desc := "(I)Z" } : Jvm.MethodName) ({ cls := "CoinNode$Stack", name := "isTrue", desc := "(I)Z" } : Jvm.MethodName)) ∈ jws := jws_4 (List.mem_of_getElem? (i := 36) rfl) rfl
theorem jw_757 : (Jvm.Cond.code ({ cls := "CoinNode$Stack", name := "isTrue", desc := "(I)Z" } : Jvm.MethodName) prog_11_method_7_code (5 : Nat) (Option.some Jvm.ClassFile.FieldType.boolean)) ∈ jws := jws_4 (List.mem_of_getElem? (i := 37) rfl) rfl
theorem jw_758 : (Jvm.Cond.methodLink "CoinNode$Machine" (119 : Nat) ({ cls := "CoinNode$Stack", name := "drop", desc := "(I)V" } : Jvm.MethodName)) ∈ jws := jws_4 (List.mem_of_getElem? (i := 38) rfl) rfl
theorem jw_759 : (Jvm.Cond.instanceMethod ({ cls := "CoinNode$Stack", name := "drop", desc := "(I)V" } : Jvm.MethodName)) ∈ jws := jws_4 (List.mem_of_getElem? (i := 39) rfl) rfl
theorem jw_760 : (Jvm.Cond.selects "CoinNode$Stack" ({ cls := "CoinNode$Stack", name := "drop", desc := "(I)V" } : Jvm.MethodName) ({ cls := "CoinNode$Stack", name := "drop", desc := "(I)V" } : Jvm.MethodName)) ∈ jws := jws_4 (List.mem_of_getElem? (i := 40) rfl) rfl
theorem jw_761 : (Jvm.Cond.code ({ cls := "CoinNode$Stack", name := "drop", desc := "(I)V" } : Jvm.MethodName) prog_11_method_9_code (2 : Nat) (Option.none : Option Jvm.ClassFile.FieldType)) ∈ jws := jws_4 (List.mem_of_getElem? (i := 41) rfl) rfl
theorem jw_762 : (Jvm.Cond.methodLink "CoinNode$Stack" (34 : Nat) ({ cls := "java/lang/Math", name := "max", desc := "(II)I" } : Jvm.MethodName)) ∈ jws := jws_4 (List.mem_of_getElem? (i := 42) rfl) rfl
theorem jw_763 : (Jvm.Cond.static ({ cls := "java/lang/Math", name := "max", desc := "(II)I" } : Jvm.MethodName)) ∈ jws := jws_4 (List.mem_of_getElem? (i := 43) rfl) rfl
theorem jw_764 : (Jvm.Cond.code ({ cls := "java/lang/Math", name := "max", desc := "(II)I" } : Jvm.MethodName) prog_23_method_65_code (2 : Nat) (Option.some Jvm.ClassFile.FieldType.int)) ∈ jws := jws_4 (List.mem_of_getElem? (i := 44) rfl) rfl
theorem jw_765 : (Jvm.Cond.methodLink "CoinNode$Machine" (82 : Nat) ({ cls := "CoinNode$Machine", name := "small", desc := "(I)V" } : Jvm.MethodName)) ∈ jws := jws_4 (List.mem_of_getElem? (i := 45) rfl) rfl
theorem jw_767 : (Jvm.Cond.instanceMethod ({ cls := "CoinNode$Machine", name := "small", desc := "(I)V" } : Jvm.MethodName)) ∈ jws := jws_4 (List.mem_of_getElem? (i := 47) rfl) rfl
theorem jw_768 : (Jvm.Cond.code ({ cls := "CoinNode$Machine", name := "small", desc := "(I)V" } : Jvm.MethodName) prog_6_method_10_code (2 : Nat) (Option.none : Option Jvm.ClassFile.FieldType)) ∈ jws := jws_4 (List.mem_of_getElem? (i := 48) rfl) rfl
theorem jw_769 : (Jvm.Cond.constantLong "CoinNode$Machine" (122 : Nat) (-1 : Int64)) ∈ jws := jws_4 (List.mem_of_getElem? (i := 49) rfl) rfl
theorem jw_770 : (Jvm.Cond.methodLink "CoinNode$Machine" (124 : Nat) ({ cls := "CoinNode$Stack", name := "putNumber", desc := "(J)V" } : Jvm.MethodName)) ∈ jws := jws_4 (List.mem_of_getElem? (i := 50) rfl) rfl
theorem jw_771 : (Jvm.Cond.instanceMethod ({ cls := "CoinNode$Stack", name := "putNumber", desc := "(J)V" } : Jvm.MethodName)) ∈ jws := jws_4 (List.mem_of_getElem? (i := 51) rfl) rfl
theorem jw_772 : (Jvm.Cond.selects "CoinNode$Stack" ({ cls := "CoinNode$Stack", name := "putNumber", desc := "(J)V" } : Jvm.MethodName) ({ cls := "CoinNode$Stack", name := "putNumber", desc := "(J)V" } : Jvm.MethodName)) ∈ jws := jws_4 (List.mem_of_getElem? (i := 52) rfl) rfl
theorem jw_773 : (Jvm.Cond.code ({ cls := "CoinNode$Stack", name := "putNumber", desc := "(J)V" } : Jvm.MethodName) prog_11_method_4_code (8 : Nat) (Option.none : Option Jvm.ClassFile.FieldType)) ∈ jws := jws_4 (List.mem_of_getElem? (i := 53) rfl) rfl
theorem jw_774 : (Jvm.Cond.methodLink "CoinNode$Stack" (28 : Nat) ({ cls := "java/lang/Math", name := "abs", desc := "(J)J" } : Jvm.MethodName)) ∈ jws := jws_4 (List.mem_of_getElem? (i := 54) rfl) rfl
theorem jw_775 : (Jvm.Cond.static ({ cls := "java/lang/Math", name := "abs", desc := "(J)J" } : Jvm.MethodName)) ∈ jws := jws_4 (List.mem_of_getElem? (i := 55) rfl) rfl
theorem jw_776 : (Jvm.Cond.code ({ cls := "java/lang/Math", name := "abs", desc := "(J)J" } : Jvm.MethodName) prog_23_method_61_code (2 : Nat) (Option.some Jvm.ClassFile.FieldType.long)) ∈ jws := jws_4 (List.mem_of_getElem? (i := 56) rfl) rfl
theorem jw_777 : (Jvm.Cond.methodLink "CoinNode$Machine" (85 : Nat) ({ cls := "CoinNode$Machine", name := "pass", desc := "(I)V" } : Jvm.MethodName)) ∈ jws := jws_4 (List.mem_of_getElem? (i := 57) rfl) rfl
theorem jw_779 : (Jvm.Cond.instanceMethod ({ cls := "CoinNode$Machine", name := "pass", desc := "(I)V" } : Jvm.MethodName)) ∈ jws := jws_4 (List.mem_of_getElem? (i := 59) rfl) rfl
theorem jw_780 : (Jvm.Cond.code ({ cls := "CoinNode$Machine", name := "pass", desc := "(I)V" } : Jvm.MethodName) prog_6_method_11_code (2 : Nat) (Option.none : Option Jvm.ClassFile.FieldType)) ∈ jws := jws_4 (List.mem_of_getElem? (i := 60) rfl) rfl
theorem jw_781 : (Jvm.Cond.methodLink "CoinNode$Machine" (128 : Nat) ({ cls := "CoinNode$Stack", name := "putCopy", desc := "(LCoinNode$Stack;I)V" } : Jvm.MethodName)) ∈ jws := jws_4 (List.mem_of_getElem? (i := 61) rfl) rfl
theorem jw_782 : (Jvm.Cond.instanceMethod ({ cls := "CoinNode$Stack", name := "putCopy", desc := "(LCoinNode$Stack;I)V" } : Jvm.MethodName)) ∈ jws := jws_4 (List.mem_of_getElem? (i := 62) rfl) rfl
theorem jw_783 : (Jvm.Cond.selects "CoinNode$Stack" ({ cls := "CoinNode$Stack", name := "putCopy", desc := "(LCoinNode$Stack;I)V" } : Jvm.MethodName) ({ cls := "CoinNode$Stack", name := "putCopy", desc := "(LCoinNode$Stack;I)V" } : Jvm.MethodName)) ∈ jws := jws_4 (List.mem_of_getElem? (i := 63) rfl) rfl
theorem jw_784 : (Jvm.Cond.code ({ cls := "CoinNode$Stack", name := "putCopy", desc := "(LCoinNode$Stack;I)V" } : Jvm.MethodName) prog_11_method_3_code (3 : Nat) (Option.none : Option Jvm.ClassFile.FieldType)) ∈ jws := jws_4 (List.mem_of_getElem? (i := 64) rfl) rfl
theorem jw_785 : (Jvm.Cond.methodLink "CoinNode$Machine" (88 : Nat) ({ cls := "CoinNode$Machine", name := "arrange", desc := "(I)V" } : Jvm.MethodName)) ∈ jws := jws_4 (List.mem_of_getElem? (i := 65) rfl) rfl
theorem jw_787 : (Jvm.Cond.instanceMethod ({ cls := "CoinNode$Machine", name := "arrange", desc := "(I)V" } : Jvm.MethodName)) ∈ jws := jws_4 (List.mem_of_getElem? (i := 67) rfl) rfl
theorem jw_788 : (Jvm.Cond.code ({ cls := "CoinNode$Machine", name := "arrange", desc := "(I)V" } : Jvm.MethodName) prog_6_method_12_code (4 : Nat) (Option.none : Option Jvm.ClassFile.FieldType)) ∈ jws := jws_4 (List.mem_of_getElem? (i := 68) rfl) rfl
theorem jw_789 : (Jvm.Cond.methodLink "CoinNode$Machine" (132 : Nat) ({ cls := "CoinNode$Stack", name := "isNumber", desc := "(I)Z" } : Jvm.MethodName)) ∈ jws := jws_4 (List.mem_of_getElem? (i := 69) rfl) rfl
theorem jw_790 : (Jvm.Cond.instanceMethod ({ cls := "CoinNode$Stack", name := "isNumber", desc := "(I)Z" } : Jvm.MethodName)) ∈ jws := jws_4 (List.mem_of_getElem? (i := 70) rfl) rfl
theorem jw_791 : (Jvm.Cond.selects "CoinNode$Stack" ({ cls := "CoinNode$Stack", name := "isNumber", desc := "(I)Z" } : Jvm.MethodName) ({ cls := "CoinNode$Stack", name := "isNumber", desc := "(I)Z" } : Jvm.MethodName)) ∈ jws := jws_4 (List.mem_of_getElem? (i := 71) rfl) rfl
theorem jw_792 : (Jvm.Cond.code ({ cls := "CoinNode$Stack", name := "isNumber", desc := "(I)Z" } : Jvm.MethodName) prog_11_method_5_code (2 : Nat) (Option.some Jvm.ClassFile.FieldType.boolean)) ∈ jws := jws_4 (List.mem_of_getElem? (i := 72) rfl) rfl
theorem jw_793 : (Jvm.Cond.methodLink "CoinNode$Machine" (135 : Nat) ({ cls := "CoinNode$Stack", name := "number", desc := "(I)J" } : Jvm.MethodName)) ∈ jws := jws_4 (List.mem_of_getElem? (i := 73) rfl) rfl
theorem jw_794 : (Jvm.Cond.instanceMethod ({ cls := "CoinNode$Stack", name := "number", desc := "(I)J" } : Jvm.MethodName)) ∈ jws := jws_4 (List.mem_of_getElem? (i := 74) rfl) rfl
theorem jw_795 : (Jvm.Cond.selects "CoinNode$Stack" ({ cls := "CoinNode$Stack", name := "number", desc := "(I)J" } : Jvm.MethodName) ({ cls := "CoinNode$Stack", name := "number", desc := "(I)J" } : Jvm.MethodName)) ∈ jws := jws_4 (List.mem_of_getElem? (i := 75) rfl) rfl
theorem jw_796 : (Jvm.Cond.code ({ cls := "CoinNode$Stack", name := "number", desc := "(I)J" } : Jvm.MethodName) prog_11_method_6_code (8 : Nat) (Option.some Jvm.ClassFile.FieldType.long)) ∈ jws := jws_4 (List.mem_of_getElem? (i := 76) rfl) rfl
theorem jw_797 : (Jvm.Cond.methodLink "CoinNode$Machine" (139 : Nat) ({ cls := "CoinNode$Stack", name := "lift", desc := "(I)V" } : Jvm.MethodName)) ∈ jws := jws_4 (List.mem_of_getElem? (i := 77) rfl) rfl
theorem jw_798 : (Jvm.Cond.instanceMethod ({ cls := "CoinNode$Stack", name := "lift", desc := "(I)V" } : Jvm.MethodName)) ∈ jws := jws_4 (List.mem_of_getElem? (i := 78) rfl) rfl
theorem jw_799 : (Jvm.Cond.selects "CoinNode$Stack" ({ cls := "CoinNode$Stack", name := "lift", desc := "(I)V" } : Jvm.MethodName) ({ cls := "CoinNode$Stack", name := "lift", desc := "(I)V" } : Jvm.MethodName)) ∈ jws := jws_4 (List.mem_of_getElem? (i := 79) rfl) rfl
theorem jw_800 : (Jvm.Cond.code ({ cls := "CoinNode$Stack", name := "lift", desc := "(I)V" } : Jvm.MethodName) prog_11_method_10_code (5 : Nat) (Option.none : Option Jvm.ClassFile.FieldType)) ∈ jws := jws_4 (List.mem_of_getElem? (i := 80) rfl) rfl
theorem jw_801 : (Jvm.Cond.methodLink "CoinNode$Machine" (91 : Nat) ({ cls := "CoinNode$Machine", name := "move", desc := "(I)V" } : Jvm.MethodName)) ∈ jws := jws_4 (List.mem_of_getElem? (i := 81) rfl) rfl
theorem jw_803 : (Jvm.Cond.instanceMethod ({ cls := "CoinNode$Machine", name := "move", desc := "(I)V" } : Jvm.MethodName)) ∈ jws := jws_4 (List.mem_of_getElem? (i := 83) rfl) rfl
theorem jw_804 : (Jvm.Cond.code ({ cls := "CoinNode$Machine", name := "move", desc := "(I)V" } : Jvm.MethodName) prog_6_method_13_code (6 : Nat) (Option.none : Option Jvm.ClassFile.FieldType)) ∈ jws := jws_4 (List.mem_of_getElem? (i := 84) rfl) rfl
theorem jw_805 : (Jvm.Cond.fieldLink "CoinNode$Machine" (146 : Nat) "CoinNode$Machine" "MOVES" "[I") ∈ jws := jws_4 (List.mem_of_getElem? (i := 85) rfl) rfl
theorem jw_807 : (Jvm.Cond.methodLink "CoinNode$Machine" (94 : Nat) ({ cls := "CoinNode$Machine", name := "compare", desc := "(I)V" } : Jvm.MethodName)) ∈ jws := jws_4 (List.mem_of_getElem? (i := 87) rfl) rfl
theorem jw_809 : (Jvm.Cond.instanceMethod ({ cls := "CoinNode$Machine", name := "compare", desc := "(I)V" } : Jvm.MethodName)) ∈ jws := jws_4 (List.mem_of_getElem? (i := 89) rfl) rfl
theorem jw_810 : (Jvm.Cond.code ({ cls := "CoinNode$Machine", name := "compare", desc := "(I)V" } : Jvm.MethodName) prog_6_method_14_code (3 : Nat) (Option.none : Option Jvm.ClassFile.FieldType)) ∈ jws := jws_4 (List.mem_of_getElem? (i := 90) rfl) rfl
theorem jw_811 : (Jvm.Cond.methodLink "CoinNode$Machine" (149 : Nat) ({ cls := "CoinNode$Stack", name := "isTopTwice", desc := "()Z" } : Jvm.MethodName)) ∈ jws := jws_4 (List.mem_of_getElem? (i := 91) rfl) rfl
theorem jw_812 : (Jvm.Cond.instanceMethod ({ cls := "CoinNode$Stack", name := "isTopTwice", desc := "()Z" } : Jvm.MethodName)) ∈ jws := jws_4 (List.mem_of_getElem? (i := 92) rfl) rfl
theorem jw_813 : (Jvm.Cond.selects "CoinNode$Stack" ({ cls := "CoinNode$Stack", name := "isTopTwice", desc := "()Z" } : Jvm.MethodName) ({ cls := "CoinNode$Stack", name := "isTopTwice", desc := "()Z" } : Jvm.MethodName)) ∈ jws := jws_4 (List.mem_of_getElem? (i := 93) rfl) rfl
theorem jw_814 : (Jvm.Cond.code ({ cls := "CoinNode$Stack", name := "isTopTwice", desc := "()Z" } : Jvm.MethodName) prog_11_method_8_code (2 : Nat) (Option.some Jvm.ClassFile.FieldType.boolean)) ∈ jws := jws_4 (List.mem_of_getElem? (i := 94) rfl) rfl
theorem jw_815 : (Jvm.Cond.methodLink "CoinNode$Machine" (97 : Nat) ({ cls := "CoinNode$Machine", name := "calculate", desc := "(I)V" } : Jvm.MethodName)) ∈ jws := jws_4 (List.mem_of_getElem? (i := 95) rfl) rfl
theorem jw_817 : (Jvm.Cond.instanceMethod ({ cls := "CoinNode$Machine", name := "calculate", desc := "(I)V" } : Jvm.MethodName)) ∈ jws := jws_4 (List.mem_of_getElem? (i := 97) rfl) rfl
theorem jw_818 : (Jvm.Cond.code ({ cls := "CoinNode$Machine", name := "calculate", desc := "(I)V" } : Jvm.MethodName) prog_6_method_15_code (9 : Nat) (Option.none : Option Jvm.ClassFile.FieldType)) ∈ jws := jws_4 (List.mem_of_getElem? (i := 98) rfl) rfl
theorem jw_819 : (Jvm.Cond.methodLink "CoinNode$Machine" (153 : Nat) ({ cls := "CoinNode$Machine", name := "ofOne", desc := "(IJ)J" } : Jvm.MethodName)) ∈ jws := jws_4 (List.mem_of_getElem? (i := 99) rfl) rfl
theorem jw_820 : (Jvm.Cond.static ({ cls := "CoinNode$Machine", name := "ofOne", desc := "(IJ)J" } : Jvm.MethodName)) ∈ jws := jws_4 (List.mem_of_getElem? (i := 100) rfl) rfl
theorem jw_821 : (Jvm.Cond.code ({ cls := "CoinNode$Machine", name := "ofOne", desc := "(IJ)J" } : Jvm.MethodName) prog_6_method_16_code (3 : Nat) (Option.some Jvm.ClassFile.FieldType.long)) ∈ jws := jws_4 (List.mem_of_getElem? (i := 101) rfl) rfl
theorem jw_822 : (Jvm.Cond.methodLink "CoinNode$Machine" (161 : Nat) ({ cls := "java/lang/Math", name := "abs", desc := "(J)J" } : Jvm.MethodName)) ∈ jws := jws_4 (List.mem_of_getElem? (i := 102) rfl) rfl
theorem jw_823 : (Jvm.Cond.methodLink "CoinNode$Machine" (157 : Nat) ({ cls := "CoinNode$Machine", name := "ofTwo", desc := "(IJJ)J" } : Jvm.MethodName)) ∈ jws := jws_4 (List.mem_of_getElem? (i := 103) rfl) rfl
theorem jw_824 : (Jvm.Cond.static ({ cls := "CoinNode$Machine", name := "ofTwo", desc := "(IJJ)J" } : Jvm.MethodName)) ∈ jws := jws_4 (List.mem_of_getElem? (i := 104) rfl) rfl
theorem jw_825 : (Jvm.Cond.code ({ cls := "CoinNode$Machine", name := "ofTwo", desc := "(IJJ)J" } : Jvm.MethodName) prog_6_method_17_code (5 : Nat) (Option.some Jvm.ClassFile.FieldType.long)) ∈ jws := jws_4 (List.mem_of_getElem? (i := 105) rfl) rfl
theorem jw_826 : (Jvm.Cond.methodLink "CoinNode$Machine" (167 : Nat) ({ cls := "java/lang/Math", name := "min", desc := "(JJ)J" } : Jvm.MethodName)) ∈ jws := jws_4 (List.mem_of_getElem? (i := 106) rfl) rfl
theorem jw_827 : (Jvm.Cond.static ({ cls := "java/lang/Math", name := "min", desc := "(JJ)J" } : Jvm.MethodName)) ∈ jws := jws_4 (List.mem_of_getElem? (i := 107) rfl) rfl
theorem jw_828 : (Jvm.Cond.code ({ cls := "java/lang/Math", name := "min", desc := "(JJ)J" } : Jvm.MethodName) prog_23_method_70_code (4 : Nat) (Option.some Jvm.ClassFile.FieldType.long)) ∈ jws := jws_4 (List.mem_of_getElem? (i := 108) rfl) rfl
theorem jw_829 : (Jvm.Cond.methodLink "CoinNode$Machine" (171 : Nat) ({ cls := "java/lang/Math", name := "max", desc := "(JJ)J" } : Jvm.MethodName)) ∈ jws := jws_4 (List.mem_of_getElem? (i := 109) rfl) rfl
theorem jw_830 : (Jvm.Cond.static ({ cls := "java/lang/Math", name := "max", desc := "(JJ)J" } : Jvm.MethodName)) ∈ jws := jws_4 (List.mem_of_getElem? (i := 110) rfl) rfl
theorem jw_831 : (Jvm.Cond.code ({ cls := "java/lang/Math", name := "max", desc := "(JJ)J" } : Jvm.MethodName) prog_23_method_66_code (4 : Nat) (Option.some Jvm.ClassFile.FieldType.long)) ∈ jws := jws_4 (List.mem_of_getElem? (i := 111) rfl) rfl
theorem jw_832 : (Jvm.Cond.methodLink "CoinNode$Machine" (100 : Nat) ({ cls := "CoinNode$Machine", name := "digest", desc := "(I)V" } : Jvm.MethodName)) ∈ jws := jws_4 (List.mem_of_getElem? (i := 112) rfl) rfl
theorem jw_834 : (Jvm.Cond.instanceMethod ({ cls := "CoinNode$Machine", name := "digest", desc := "(I)V" } : Jvm.MethodName)) ∈ jws := jws_4 (List.mem_of_getElem? (i := 114) rfl) rfl
theorem jw_835 : (Jvm.Cond.code ({ cls := "CoinNode$Machine", name := "digest", desc := "(I)V" } : Jvm.MethodName) prog_6_method_18_code (3 : Nat) (Option.none : Option Jvm.ClassFile.FieldType)) ∈ jws := jws_4 (List.mem_of_getElem? (i := 115) rfl) rfl
theorem jw_836 : (Jvm.Cond.methodLink "CoinNode$Machine" (178 : Nat) ({ cls := "CoinNode$Hash", name := "take", desc := "([BII)V" } : Jvm.MethodName)) ∈ jws := jws_4 (List.mem_of_getElem? (i := 116) rfl) rfl
theorem jw_837 : (Jvm.Cond.methodLink "CoinNode$Machine" (183 : Nat) ({ cls := "CoinNode$Hash", name := "digest", desc := "([B)V" } : Jvm.MethodName)) ∈ jws := jws_4 (List.mem_of_getElem? (i := 117) rfl) rfl
theorem jw_838 : (Jvm.Cond.methodLink "CoinNode$Machine" (186 : Nat) ({ cls := "CoinNode$Hash", name := "ripe", desc := "([B)V" } : Jvm.MethodName)) ∈ jws := jws_4 (List.mem_of_getElem? (i := 118) rfl) rfl
theorem jw_839 : (Jvm.Cond.instanceMethod ({ cls := "CoinNode$Hash", name := "ripe", desc := "([B)V" } : Jvm.MethodName)) ∈ jws := jws_4 (List.mem_of_getElem? (i := 119) rfl) rfl
theorem jw_840 : (Jvm.Cond.selects "CoinNode$Hash" ({ cls := "CoinNode$Hash", name := "ripe", desc := "([B)V" } : Jvm.MethodName) ({ cls := "CoinNode$Hash", name := "ripe", desc := "([B)V" } : Jvm.MethodName)) ∈ jws := jws_4 (List.mem_of_getElem? (i := 120) rfl) rfl
theorem jw_841 : (Jvm.Cond.code ({ cls := "CoinNode$Hash", name := "ripe", desc := "([B)V" } : Jvm.MethodName) prog_5_method_4_code (15 : Nat) (Option.none : Option Jvm.ClassFile.FieldType)) ∈ jws := jws_4 (List.mem_of_getElem? (i := 121) rfl) rfl
theorem jw_842 : (Jvm.Cond.constant "CoinNode$Hash" (44 : Nat) (1732584193 : Int32)) ∈ jws := jws_4 (List.mem_of_getElem? (i := 122) rfl) rfl
theorem jw_843 : (Jvm.Cond.constant "CoinNode$Hash" (45 : Nat) (-271733879 : Int32)) ∈ jws := jws_4 (List.mem_of_getElem? (i := 123) rfl) rfl
theorem jw_844 : (Jvm.Cond.constant "CoinNode$Hash" (46 : Nat) (-1732584194 : Int32)) ∈ jws := jws_4 (List.mem_of_getElem? (i := 124) rfl) rfl
theorem jw_845 : (Jvm.Cond.constant "CoinNode$Hash" (47 : Nat) (271733878 : Int32)) ∈ jws := jws_4 (List.mem_of_getElem? (i := 125) rfl) rfl
theorem jw_846 : (Jvm.Cond.constant "CoinNode$Hash" (48 : Nat) (-1009589776 : Int32)) ∈ jws := jws_4 (List.mem_of_getElem? (i := 126) rfl) rfl
theorem jw_847 : (Jvm.Cond.fieldLink "CoinNode$Hash" (49 : Nat) "CoinNode$Hash" "WORD" "[I") ∈ jws := jws_4 (List.mem_of_getElem? (i := 127) rfl) rfl
theorem jw_849 : (Jvm.Cond.fieldLink "CoinNode$Hash" (52 : Nat) "CoinNode$Hash" "ADDED" "[I") ∈ jws := jws_4 (List.mem_of_getElem? (i := 129) rfl) rfl
theorem jw_851 : (Jvm.Cond.fieldLink "CoinNode$Hash" (55 : Nat) "CoinNode$Hash" "TURN" "[I") ∈ jws := jws_4 (List.mem_of_getElem? (i := 131) rfl) rfl
theorem jw_853 : (Jvm.Cond.methodLink "CoinNode$Machine" (103 : Nat) ({ cls := "CoinNode$Machine", name := "ask", desc := "(I)V" } : Jvm.MethodName)) ∈ jws := jws_4 (List.mem_of_getElem? (i := 133) rfl) rfl
theorem jw_855 : (Jvm.Cond.instanceMethod ({ cls := "CoinNode$Machine", name := "ask", desc := "(I)V" } : Jvm.MethodName)) ∈ jws := jws_4 (List.mem_of_getElem? (i := 135) rfl) rfl
theorem jw_856 : (Jvm.Cond.code ({ cls := "CoinNode$Machine", name := "ask", desc := "(I)V" } : Jvm.MethodName) prog_6_method_19_code (2 : Nat) (Option.none : Option Jvm.ClassFile.FieldType)) ∈ jws := jws_4 (List.mem_of_getElem? (i := 136) rfl) rfl
theorem jw_857 : (Jvm.Cond.constantLong "CoinNode$Machine" (204 : Nat) (8 : Int64)) ∈ jws := jws_4 (List.mem_of_getElem? (i := 137) rfl) rfl
theorem jw_858 : (Jvm.Cond.methodLink "CoinNode$Machine" (109 : Nat) ({ cls := "CoinNode$Machine", name := "finish", desc := "(Z)V" } : Jvm.MethodName)) ∈ jws := jws_4 (List.mem_of_getElem? (i := 138) rfl) rfl
theorem jw_860 : (Jvm.Cond.instanceMethod ({ cls := "CoinNode$Machine", name := "finish", desc := "(Z)V" } : Jvm.MethodName)) ∈ jws := jws_4 (List.mem_of_getElem? (i := 140) rfl) rfl
theorem jw_861 : (Jvm.Cond.code ({ cls := "CoinNode$Machine", name := "finish", desc := "(Z)V" } : Jvm.MethodName) prog_6_method_21_code (2 : Nat) (Option.none : Option Jvm.ClassFile.FieldType)) ∈ jws := jws_4 (List.mem_of_getElem? (i := 141) rfl) rfl
theorem jw_862 : (Jvm.Cond.methodLink "CoinNode$Scripts" (78 : Nat) ({ cls := "CoinNode$Machine", name := "signature", desc := "()[B" } : Jvm.MethodName)) ∈ jws := jws_4 (List.mem_of_getElem? (i := 142) rfl) rfl
theorem jw_863 : (Jvm.Cond.instanceMethod ({ cls := "CoinNode$Machine", name := "signature", desc := "()[B" } : Jvm.MethodName)) ∈ jws := jws_4 (List.mem_of_getElem? (i := 143) rfl) rfl
theorem jw_864 : (Jvm.Cond.selects "CoinNode$Machine" ({ cls := "CoinNode$Machine", name := "signature", desc := "()[B" } : Jvm.MethodName) ({ cls := "CoinNode$Machine", name := "signature", desc := "()[B" } : Jvm.MethodName)) ∈ jws := jws_4 (List.mem_of_getElem? (i := 144) rfl) rfl
theorem jw_865 : (Jvm.Cond.code ({ cls := "CoinNode$Machine", name := "signature", desc := "()[B" } : Jvm.MethodName) prog_6_method_22_code (1 : Nat) (Option.some (Jvm.ClassFile.FieldType.array Jvm.ClassFile.FieldType.byte))) ∈ jws := jws_4 (List.mem_of_getElem? (i := 145) rfl) rfl
theorem jw_866 : (Jvm.Cond.methodLink "CoinNode$Scripts" (81 : Nat) ({ cls := "CoinNode$Machine", name := "signatureSize", desc := "()I" } : Jvm.MethodName)) ∈ jws := jws_4 (List.mem_of_getElem? (i := 146) rfl) rfl
theorem jw_867 : (Jvm.Cond.instanceMethod ({ cls := "CoinNode$Machine", name := "signatureSize", desc := "()I" } : Jvm.MethodName)) ∈ jws := jws_4 (List.mem_of_getElem? (i := 147) rfl) rfl
theorem jw_868 : (Jvm.Cond.selects "CoinNode$Machine" ({ cls := "CoinNode$Machine", name := "signatureSize", desc := "()I" } : Jvm.MethodName) ({ cls := "CoinNode$Machine", name := "signatureSize", desc := "()I" } : Jvm.MethodName)) ∈ jws := jws_4 (List.mem_of_getElem? (i := 148) rfl) rfl
theorem jw_869 : (Jvm.Cond.code ({ cls := "CoinNode$Machine", name := "signatureSize", desc := "()I" } : Jvm.MethodName) prog_6_method_23_code (1 : Nat) (Option.some Jvm.ClassFile.FieldType.int)) ∈ jws := jws_4 (List.mem_of_getElem? (i := 149) rfl) rfl
theorem jw_870 : (Jvm.Cond.methodLink "CoinNode$Scripts" (84 : Nat) ({ cls := "CoinNode$Signature", name := "setSignature", desc := "([BI)Z" } : Jvm.MethodName)) ∈ jws := jws_4 (List.mem_of_getElem? (i := 150) rfl) rfl
theorem jw_871 : (Jvm.Cond.instanceMethod ({ cls := "CoinNode$Signature", name := "setSignature", desc := "([BI)Z" } : Jvm.MethodName)) ∈ jws := jws_4 (List.mem_of_getElem? (i := 151) rfl) rfl
theorem jw_872 : (Jvm.Cond.selects "CoinNode$Signature" ({ cls := "CoinNode$Signature", name := "setSignature", desc := "([BI)Z" } : Jvm.MethodName) ({ cls := "CoinNode$Signature", name := "setSignature", desc := "([BI)Z" } : Jvm.MethodName)) ∈ jws := jws_4 (List.mem_of_getElem? (i := 152) rfl) rfl
theorem jw_873 : (Jvm.Cond.code ({ cls := "CoinNode$Signature", name := "setSignature", desc := "([BI)Z" } : Jvm.MethodName) prog_10_method_2_code (5 : Nat) (Option.some Jvm.ClassFile.FieldType.boolean)) ∈ jws := jws_4 (List.mem_of_getElem? (i := 153) rfl) rfl
theorem jw_874 : (Jvm.Cond.methodLink "CoinNode$Signature" (70 : Nat) ({ cls := "CoinNode$Signature", name := "setNumber", desc := "([I[BII)Z" } : Jvm.MethodName)) ∈ jws := jws_4 (List.mem_of_getElem? (i := 154) rfl) rfl
theorem jw_875 : (Jvm.Cond.static ({ cls := "CoinNode$Signature", name := "setNumber", desc := "([I[BII)Z" } : Jvm.MethodName)) ∈ jws := jws_4 (List.mem_of_getElem? (i := 155) rfl) rfl
theorem jw_876 : (Jvm.Cond.code ({ cls := "CoinNode$Signature", name := "setNumber", desc := "([I[BII)Z" } : Jvm.MethodName) prog_10_method_3_code (5 : Nat) (Option.some Jvm.ClassFile.FieldType.boolean)) ∈ jws := jws_4 (List.mem_of_getElem? (i := 156) rfl) rfl
theorem jw_877 : (Jvm.Cond.methodLink "CoinNode$Signature" (74 : Nat) ({ cls := "CoinNode$Signature", name := "set", desc := "([I[BII)V" } : Jvm.MethodName)) ∈ jws := jws_4 (List.mem_of_getElem? (i := 157) rfl) rfl
theorem jw_878 : (Jvm.Cond.static ({ cls := "CoinNode$Signature", name := "set", desc := "([I[BII)V" } : Jvm.MethodName)) ∈ jws := jws_4 (List.mem_of_getElem? (i := 158) rfl) rfl
theorem jw_879 : (Jvm.Cond.code ({ cls := "CoinNode$Signature", name := "set", desc := "([I[BII)V" } : Jvm.MethodName) prog_10_method_8_code (6 : Nat) (Option.none : Option Jvm.ClassFile.FieldType)) ∈ jws := jws_4 (List.mem_of_getElem? (i := 159) rfl) rfl
theorem jw_880 : (Jvm.Cond.methodLink "CoinNode$Signature" (172 : Nat) ({ cls := "java/util/Arrays", name := "fill", desc := "([II)V" } : Jvm.MethodName)) ∈ jws := jws_4 (List.mem_of_getElem? (i := 160) rfl) rfl
theorem jw_881 : (Jvm.Cond.static ({ cls := "java/util/Arrays", name := "fill", desc := "([II)V" } : Jvm.MethodName)) ∈ jws := jws_4 (List.mem_of_getElem? (i := 161) rfl) rfl
theorem jw_882 : (Jvm.Cond.code ({ cls := "java/util/Arrays", name := "fill", desc := "([II)V" } : Jvm.MethodName) prog_25_method_103_code (4 : Nat) (Option.none : Option Jvm.ClassFile.FieldType)) ∈ jws := jws_4 (List.mem_of_getElem? (i := 162) rfl) rfl
theorem jw_883 : (Jvm.Cond.methodLink "CoinNode$Signature" (78 : Nat) ({ cls := "CoinNode$Signature", name := "isNothing", desc := "([I)Z" } : Jvm.MethodName)) ∈ jws := jws_4 (List.mem_of_getElem? (i := 163) rfl) rfl
theorem jw_884 : (Jvm.Cond.static ({ cls := "CoinNode$Signature", name := "isNothing", desc := "([I)Z" } : Jvm.MethodName)) ∈ jws := jws_4 (List.mem_of_getElem? (i := 164) rfl) rfl
theorem jw_885 : (Jvm.Cond.code ({ cls := "CoinNode$Signature", name := "isNothing", desc := "([I)Z" } : Jvm.MethodName) prog_10_method_9_code (3 : Nat) (Option.some Jvm.ClassFile.FieldType.boolean)) ∈ jws := jws_4 (List.mem_of_getElem? (i := 165) rfl) rfl
theorem jw_886 : (Jvm.Cond.fieldLink "CoinNode$Signature" (82 : Nat) "CoinNode$Signature" "ORDER" "[I") ∈ jws := jws_4 (List.mem_of_getElem? (i := 166) rfl) rfl
theorem jw_888 : (Jvm.Cond.methodLink "CoinNode$Signature" (85 : Nat) ({ cls := "CoinNode$Signature", name := "isBelow", desc := "([I[I)Z" } : Jvm.MethodName)) ∈ jws := jws_4 (List.mem_of_getElem? (i := 168) rfl) rfl
theorem jw_889 : (Jvm.Cond.static ({ cls := "CoinNode$Signature", name := "isBelow", desc := "([I[I)Z" } : Jvm.MethodName)) ∈ jws := jws_4 (List.mem_of_getElem? (i := 169) rfl) rfl
theorem jw_890 : (Jvm.Cond.code ({ cls := "CoinNode$Signature", name := "isBelow", desc := "([I[I)Z" } : Jvm.MethodName) prog_10_method_10_code (3 : Nat) (Option.some Jvm.ClassFile.FieldType.boolean)) ∈ jws := jws_4 (List.mem_of_getElem? (i := 170) rfl) rfl
theorem jw_891 : (Jvm.Cond.methodLink "CoinNode$Signature" (178 : Nat) ({ cls := "java/lang/Math", name := "min", desc := "(II)I" } : Jvm.MethodName)) ∈ jws := jws_4 (List.mem_of_getElem? (i := 171) rfl) rfl
theorem jw_892 : (Jvm.Cond.constantLong "CoinNode$Signature" (170 : Nat) (4294967295 : Int64)) ∈ jws := jws_4 (List.mem_of_getElem? (i := 172) rfl) rfl
theorem jw_893 : (Jvm.Cond.methodLink "CoinNode$Scripts" (88 : Nat) ({ cls := "CoinNode$Machine", name := "publicKey", desc := "()[B" } : Jvm.MethodName)) ∈ jws := jws_4 (List.mem_of_getElem? (i := 173) rfl) rfl
theorem jw_894 : (Jvm.Cond.instanceMethod ({ cls := "CoinNode$Machine", name := "publicKey", desc := "()[B" } : Jvm.MethodName)) ∈ jws := jws_4 (List.mem_of_getElem? (i := 174) rfl) rfl
theorem jw_895 : (Jvm.Cond.selects "CoinNode$Machine" ({ cls := "CoinNode$Machine", name := "publicKey", desc := "()[B" } : Jvm.MethodName) ({ cls := "CoinNode$Machine", name := "publicKey", desc := "()[B" } : Jvm.MethodName)) ∈ jws := jws_4 (List.mem_of_getElem? (i := 175) rfl) rfl
theorem jw_896 : (Jvm.Cond.code ({ cls := "CoinNode$Machine", name := "publicKey", desc := "()[B" } : Jvm.MethodName) prog_6_method_24_code (1 : Nat) (Option.some (Jvm.ClassFile.FieldType.array Jvm.ClassFile.FieldType.byte))) ∈ jws := jws_4 (List.mem_of_getElem? (i := 176) rfl) rfl
theorem jw_897 : (Jvm.Cond.methodLink "CoinNode$Scripts" (91 : Nat) ({ cls := "CoinNode$Machine", name := "publicKeySize", desc := "()I" } : Jvm.MethodName)) ∈ jws := jws_4 (List.mem_of_getElem? (i := 177) rfl) rfl
theorem jw_898 : (Jvm.Cond.instanceMethod ({ cls := "CoinNode$Machine", name := "publicKeySize", desc := "()I" } : Jvm.MethodName)) ∈ jws := jws_4 (List.mem_of_getElem? (i := 178) rfl) rfl
theorem jw_899 : (Jvm.Cond.selects "CoinNode$Machine" ({ cls := "CoinNode$Machine", name := "publicKeySize", desc := "()I" } : Jvm.MethodName) ({ cls := "CoinNode$Machine", name := "publicKeySize", desc := "()I" } : Jvm.MethodName)) ∈ jws := jws_4 (List.mem_of_getElem? (i := 179) rfl) rfl
theorem jw_900 : (Jvm.Cond.code ({ cls := "CoinNode$Machine", name := "publicKeySize", desc := "()I" } : Jvm.MethodName) prog_6_method_25_code (1 : Nat) (Option.some Jvm.ClassFile.FieldType.int)) ∈ jws := jws_4 (List.mem_of_getElem? (i := 180) rfl) rfl
theorem jw_901 : (Jvm.Cond.methodLink "CoinNode$Scripts" (94 : Nat) ({ cls := "CoinNode$Signature", name := "setKey", desc := "([BI)Z" } : Jvm.MethodName)) ∈ jws := jws_4 (List.mem_of_getElem? (i := 181) rfl) rfl
theorem jw_902 : (Jvm.Cond.instanceMethod ({ cls := "CoinNode$Signature", name := "setKey", desc := "([BI)Z" } : Jvm.MethodName)) ∈ jws := jws_4 (List.mem_of_getElem? (i := 182) rfl) rfl
theorem jw_903 : (Jvm.Cond.selects "CoinNode$Signature" ({ cls := "CoinNode$Signature", name := "setKey", desc := "([BI)Z" } : Jvm.MethodName) ({ cls := "CoinNode$Signature", name := "setKey", desc := "([BI)Z" } : Jvm.MethodName)) ∈ jws := jws_4 (List.mem_of_getElem? (i := 183) rfl) rfl
theorem jw_904 : (Jvm.Cond.code ({ cls := "CoinNode$Signature", name := "setKey", desc := "([BI)Z" } : Jvm.MethodName) prog_10_method_4_code (9 : Nat) (Option.some Jvm.ClassFile.FieldType.boolean)) ∈ jws := jws_4 (List.mem_of_getElem? (i := 184) rfl) rfl
theorem jw_905 : (Jvm.Cond.methodLink "CoinNode$Signature" (92 : Nat) ({ cls := "CoinNode$Signature", name := "spread", desc := "([I[J)V" } : Jvm.MethodName)) ∈ jws := jws_4 (List.mem_of_getElem? (i := 185) rfl) rfl
theorem jw_906 : (Jvm.Cond.static ({ cls := "CoinNode$Signature", name := "spread", desc := "([I[J)V" } : Jvm.MethodName)) ∈ jws := jws_4 (List.mem_of_getElem? (i := 186) rfl) rfl
theorem jw_907 : (Jvm.Cond.code ({ cls := "CoinNode$Signature", name := "spread", desc := "([I[J)V" } : Jvm.MethodName) prog_10_method_11_code (9 : Nat) (Option.none : Option Jvm.ClassFile.FieldType)) ∈ jws := jws_4 (List.mem_of_getElem? (i := 187) rfl) rfl
theorem jw_908 : (Jvm.Cond.constantLong "CoinNode$Signature" (182 : Nat) (67108863 : Int64)) ∈ jws := jws_4 (List.mem_of_getElem? (i := 188) rfl) rfl
theorem jw_909 : (Jvm.Cond.fieldLink "CoinNode$Signature" (96 : Nat) "CoinNode$Signature" "PRIME" "[I") ∈ jws := jws_4 (List.mem_of_getElem? (i := 189) rfl) rfl
theorem jw_911 : (Jvm.Cond.methodLink "CoinNode$Signature" (99 : Nat) ({ cls := "CoinNode$Point", name := "multiply", desc := "([J[J[J)V" } : Jvm.MethodName)) ∈ jws := jws_4 (List.mem_of_getElem? (i := 191) rfl) rfl
theorem jw_912 : (Jvm.Cond.static ({ cls := "CoinNode$Point", name := "multiply", desc := "([J[J[J)V" } : Jvm.MethodName)) ∈ jws := jws_4 (List.mem_of_getElem? (i := 192) rfl) rfl
theorem jw_913 : (Jvm.Cond.code ({ cls := "CoinNode$Point", name := "multiply", desc := "([J[J[J)V" } : Jvm.MethodName) prog_7_method_10_code (67 : Nat) (Option.none : Option Jvm.ClassFile.FieldType)) ∈ jws := jws_4 (List.mem_of_getElem? (i := 193) rfl) rfl
theorem jw_914 : (Jvm.Cond.constantLong "CoinNode$Point" (67 : Nat) (67108863 : Int64)) ∈ jws := jws_4 (List.mem_of_getElem? (i := 194) rfl) rfl
theorem jw_915 : (Jvm.Cond.constantLong "CoinNode$Point" (69 : Nat) (15632 : Int64)) ∈ jws := jws_4 (List.mem_of_getElem? (i := 195) rfl) rfl
theorem jw_916 : (Jvm.Cond.constantLong "CoinNode$Point" (71 : Nat) (1024 : Int64)) ∈ jws := jws_4 (List.mem_of_getElem? (i := 196) rfl) rfl
theorem jw_917 : (Jvm.Cond.constantLong "CoinNode$Signature" (103 : Nat) (7 : Int64)) ∈ jws := jws_4 (List.mem_of_getElem? (i := 197) rfl) rfl
theorem jw_918 : (Jvm.Cond.methodLink "CoinNode$Signature" (107 : Nat) ({ cls := "CoinNode$Point", name := "root", desc := "([J[J[[J)V" } : Jvm.MethodName)) ∈ jws := jws_4 (List.mem_of_getElem? (i := 198) rfl) rfl
theorem jw_919 : (Jvm.Cond.static ({ cls := "CoinNode$Point", name := "root", desc := "([J[J[[J)V" } : Jvm.MethodName)) ∈ jws := jws_4 (List.mem_of_getElem? (i := 199) rfl) rfl
theorem jw_920 : (Jvm.Cond.code ({ cls := "CoinNode$Point", name := "root", desc := "([J[J[[J)V" } : Jvm.MethodName) prog_7_method_6_code (6 : Nat) (Option.none : Option Jvm.ClassFile.FieldType)) ∈ jws := jws_4 (List.mem_of_getElem? (i := 200) rfl) rfl
theorem jw_921 : (Jvm.Cond.methodLink "CoinNode$Point" (35 : Nat) ({ cls := "CoinNode$Point", name := "mix", desc := "([J[JJ[JJ)V" } : Jvm.MethodName)) ∈ jws := jws_4 (List.mem_of_getElem? (i := 201) rfl) rfl
theorem jw_922 : (Jvm.Cond.static ({ cls := "CoinNode$Point", name := "mix", desc := "([J[JJ[JJ)V" } : Jvm.MethodName)) ∈ jws := jws_4 (List.mem_of_getElem? (i := 202) rfl) rfl
theorem jw_923 : (Jvm.Cond.code ({ cls := "CoinNode$Point", name := "mix", desc := "([J[JJ[JJ)V" } : Jvm.MethodName) prog_7_method_7_code (8 : Nat) (Option.none : Option Jvm.ClassFile.FieldType)) ∈ jws := jws_4 (List.mem_of_getElem? (i := 203) rfl) rfl
theorem jw_924 : (Jvm.Cond.fieldLink "CoinNode$Point" (63 : Nat) "CoinNode$Point" "ROOT" "[I") ∈ jws := jws_4 (List.mem_of_getElem? (i := 204) rfl) rfl
theorem jw_926 : (Jvm.Cond.methodLink "CoinNode$Point" (29 : Nat) ({ cls := "CoinNode$Point", name := "multiply", desc := "([J[J[J)V" } : Jvm.MethodName)) ∈ jws := jws_4 (List.mem_of_getElem? (i := 206) rfl) rfl
theorem jw_927 : (Jvm.Cond.constantLong "CoinNode$Signature" (111 : Nat) (-1 : Int64)) ∈ jws := jws_4 (List.mem_of_getElem? (i := 207) rfl) rfl
theorem jw_928 : (Jvm.Cond.methodLink "CoinNode$Signature" (113 : Nat) ({ cls := "CoinNode$Point", name := "mix", desc := "([J[JJ[JJ)V" } : Jvm.MethodName)) ∈ jws := jws_4 (List.mem_of_getElem? (i := 208) rfl) rfl
theorem jw_929 : (Jvm.Cond.methodLink "CoinNode$Signature" (117 : Nat) ({ cls := "CoinNode$Point", name := "normalize", desc := "([J)Z" } : Jvm.MethodName)) ∈ jws := jws_4 (List.mem_of_getElem? (i := 209) rfl) rfl
theorem jw_930 : (Jvm.Cond.static ({ cls := "CoinNode$Point", name := "normalize", desc := "([J)Z" } : Jvm.MethodName)) ∈ jws := jws_4 (List.mem_of_getElem? (i := 210) rfl) rfl
theorem jw_931 : (Jvm.Cond.code ({ cls := "CoinNode$Point", name := "normalize", desc := "([J)Z" } : Jvm.MethodName) prog_7_method_9_code (6 : Nat) (Option.some Jvm.ClassFile.FieldType.boolean)) ∈ jws := jws_4 (List.mem_of_getElem? (i := 211) rfl) rfl
theorem jw_932 : (Jvm.Cond.constantLong "CoinNode$Point" (73 : Nat) (4194303 : Int64)) ∈ jws := jws_4 (List.mem_of_getElem? (i := 212) rfl) rfl
theorem jw_933 : (Jvm.Cond.constantLong "CoinNode$Point" (75 : Nat) (977 : Int64)) ∈ jws := jws_4 (List.mem_of_getElem? (i := 213) rfl) rfl
theorem jw_934 : (Jvm.Cond.constantLong "CoinNode$Point" (77 : Nat) (64 : Int64)) ∈ jws := jws_4 (List.mem_of_getElem? (i := 214) rfl) rfl
theorem jw_935 : (Jvm.Cond.methodLink "CoinNode$Signature" (121 : Nat) ({ cls := "CoinNode$Point", name := "unit", desc := "()V" } : Jvm.MethodName)) ∈ jws := jws_4 (List.mem_of_getElem? (i := 215) rfl) rfl
theorem jw_936 : (Jvm.Cond.instanceMethod ({ cls := "CoinNode$Point", name := "unit", desc := "()V" } : Jvm.MethodName)) ∈ jws := jws_4 (List.mem_of_getElem? (i := 216) rfl) rfl
theorem jw_937 : (Jvm.Cond.selects "CoinNode$Point" ({ cls := "CoinNode$Point", name := "unit", desc := "()V" } : Jvm.MethodName) ({ cls := "CoinNode$Point", name := "unit", desc := "()V" } : Jvm.MethodName)) ∈ jws := jws_4 (List.mem_of_getElem? (i := 217) rfl) rfl
theorem jw_938 : (Jvm.Cond.code ({ cls := "CoinNode$Point", name := "unit", desc := "()V" } : Jvm.MethodName) prog_7_method_2_code (1 : Nat) (Option.none : Option Jvm.ClassFile.FieldType)) ∈ jws := jws_4 (List.mem_of_getElem? (i := 218) rfl) rfl
theorem jw_939 : (Jvm.Cond.methodLink "CoinNode$Point" (23 : Nat) ({ cls := "java/util/Arrays", name := "fill", desc := "([JJ)V" } : Jvm.MethodName)) ∈ jws := jws_4 (List.mem_of_getElem? (i := 219) rfl) rfl
theorem jw_940 : (Jvm.Cond.static ({ cls := "java/util/Arrays", name := "fill", desc := "([JJ)V" } : Jvm.MethodName)) ∈ jws := jws_4 (List.mem_of_getElem? (i := 220) rfl) rfl
theorem jw_941 : (Jvm.Cond.code ({ cls := "java/util/Arrays", name := "fill", desc := "([JJ)V" } : Jvm.MethodName) prog_25_method_101_code (5 : Nat) (Option.none : Option Jvm.ClassFile.FieldType)) ∈ jws := jws_4 (List.mem_of_getElem? (i := 221) rfl) rfl
theorem jw_942 : (Jvm.Cond.methodLink "CoinNode$Signature" (124 : Nat) ({ cls := "CoinNode$Point", name := "set", desc := "(LCoinNode$Point;Z)V" } : Jvm.MethodName)) ∈ jws := jws_4 (List.mem_of_getElem? (i := 222) rfl) rfl
theorem jw_943 : (Jvm.Cond.instanceMethod ({ cls := "CoinNode$Point", name := "set", desc := "(LCoinNode$Point;Z)V" } : Jvm.MethodName)) ∈ jws := jws_4 (List.mem_of_getElem? (i := 223) rfl) rfl
theorem jw_944 : (Jvm.Cond.selects "CoinNode$Point" ({ cls := "CoinNode$Point", name := "set", desc := "(LCoinNode$Point;Z)V" } : Jvm.MethodName) ({ cls := "CoinNode$Point", name := "set", desc := "(LCoinNode$Point;Z)V" } : Jvm.MethodName)) ∈ jws := jws_4 (List.mem_of_getElem? (i := 224) rfl) rfl
theorem jw_945 : (Jvm.Cond.code ({ cls := "CoinNode$Point", name := "set", desc := "(LCoinNode$Point;Z)V" } : Jvm.MethodName) prog_7_method_3_code (4 : Nat) (Option.none : Option Jvm.ClassFile.FieldType)) ∈ jws := jws_4 (List.mem_of_getElem? (i := 225) rfl) rfl
theorem jw_946 : (Jvm.Cond.methodLink "CoinNode$Signature" (127 : Nat) ({ cls := "CoinNode$Point", name := "twice", desc := "([[J)V" } : Jvm.MethodName)) ∈ jws := jws_4 (List.mem_of_getElem? (i := 226) rfl) rfl
theorem jw_947 : (Jvm.Cond.instanceMethod ({ cls := "CoinNode$Point", name := "twice", desc := "([[J)V" } : Jvm.MethodName)) ∈ jws := jws_4 (List.mem_of_getElem? (i := 227) rfl) rfl
theorem jw_948 : (Jvm.Cond.selects "CoinNode$Point" ({ cls := "CoinNode$Point", name := "twice", desc := "([[J)V" } : Jvm.MethodName) ({ cls := "CoinNode$Point", name := "twice", desc := "([[J)V" } : Jvm.MethodName)) ∈ jws := jws_4 (List.mem_of_getElem? (i := 228) rfl) rfl
theorem jw_949 : (Jvm.Cond.code ({ cls := "CoinNode$Point", name := "twice", desc := "([[J)V" } : Jvm.MethodName) prog_7_method_4_code (6 : Nat) (Option.none : Option Jvm.ClassFile.FieldType)) ∈ jws := jws_4 (List.mem_of_getElem? (i := 229) rfl) rfl
theorem jw_950 : (Jvm.Cond.constantLong "CoinNode$Point" (33 : Nat) (2 : Int64)) ∈ jws := jws_4 (List.mem_of_getElem? (i := 230) rfl) rfl
theorem jw_951 : (Jvm.Cond.constantLong "CoinNode$Point" (39 : Nat) (9 : Int64)) ∈ jws := jws_4 (List.mem_of_getElem? (i := 231) rfl) rfl
theorem jw_952 : (Jvm.Cond.constantLong "CoinNode$Point" (41 : Nat) (-8 : Int64)) ∈ jws := jws_4 (List.mem_of_getElem? (i := 232) rfl) rfl
theorem jw_953 : (Jvm.Cond.methodLink "CoinNode$Point" (43 : Nat) ({ cls := "CoinNode$Point", name := "settle", desc := "([J)V" } : Jvm.MethodName)) ∈ jws := jws_4 (List.mem_of_getElem? (i := 233) rfl) rfl
theorem jw_954 : (Jvm.Cond.static ({ cls := "CoinNode$Point", name := "settle", desc := "([J)V" } : Jvm.MethodName)) ∈ jws := jws_4 (List.mem_of_getElem? (i := 234) rfl) rfl
theorem jw_955 : (Jvm.Cond.code ({ cls := "CoinNode$Point", name := "settle", desc := "([J)V" } : Jvm.MethodName) prog_7_method_8_code (3 : Nat) (Option.none : Option Jvm.ClassFile.FieldType)) ∈ jws := jws_4 (List.mem_of_getElem? (i := 235) rfl) rfl
theorem jw_956 : (Jvm.Cond.constantLong "CoinNode$Point" (47 : Nat) (4 : Int64)) ∈ jws := jws_4 (List.mem_of_getElem? (i := 236) rfl) rfl
theorem jw_957 : (Jvm.Cond.constantLong "CoinNode$Point" (49 : Nat) (-1 : Int64)) ∈ jws := jws_4 (List.mem_of_getElem? (i := 237) rfl) rfl
theorem jw_958 : (Jvm.Cond.constantLong "CoinNode$Point" (51 : Nat) (3 : Int64)) ∈ jws := jws_4 (List.mem_of_getElem? (i := 238) rfl) rfl
theorem jw_959 : (Jvm.Cond.methodLink "CoinNode$Signature" (130 : Nat) ({ cls := "CoinNode$Point", name := "add", desc := "(LCoinNode$Point;Z[[J)Z" } : Jvm.MethodName)) ∈ jws := jws_4 (List.mem_of_getElem? (i := 239) rfl) rfl
theorem jw_960 : (Jvm.Cond.instanceMethod ({ cls := "CoinNode$Point", name := "add", desc := "(LCoinNode$Point;Z[[J)Z" } : Jvm.MethodName)) ∈ jws := jws_5 (List.mem_of_getElem? (i := 0) rfl) rfl
theorem jw_961 : (Jvm.Cond.selects "CoinNode$Point" ({ cls := "CoinNode$Point", name := "add", desc := "(LCoinNode$Point;Z[[J)Z" } : Jvm.MethodName) ({ cls := "CoinNode$Point", name := "add", desc := "(LCoinNode$Point;Z[[J)Z" } : Jvm.MethodName)) ∈ jws := jws_5 (List.mem_of_getElem? (i := 1) rfl) rfl
theorem jw_962 : (Jvm.Cond.code ({ cls := "CoinNode$Point", name := "add", desc := "(LCoinNode$Point;Z[[J)Z" } : Jvm.MethodName) prog_7_method_5_code (10 : Nat) (Option.some Jvm.ClassFile.FieldType.boolean)) ∈ jws := jws_5 (List.mem_of_getElem? (i := 2) rfl) rfl
theorem jw_963 : (Jvm.Cond.methodLink "CoinNode$Point" (53 : Nat) ({ cls := "CoinNode$Point", name := "set", desc := "(LCoinNode$Point;Z)V" } : Jvm.MethodName)) ∈ jws := jws_5 (List.mem_of_getElem? (i := 3) rfl) rfl
theorem jw_964 : (Jvm.Cond.methodLink "CoinNode$Point" (57 : Nat) ({ cls := "CoinNode$Point", name := "normalize", desc := "([J)Z" } : Jvm.MethodName)) ∈ jws := jws_5 (List.mem_of_getElem? (i := 4) rfl) rfl
theorem jw_965 : (Jvm.Cond.constantLong "CoinNode$Point" (61 : Nat) (-2 : Int64)) ∈ jws := jws_5 (List.mem_of_getElem? (i := 5) rfl) rfl
theorem jw_966 : (Jvm.Cond.methodLink "CoinNode$Scripts" (100 : Nat) ({ cls := "CoinNode$Scripts", name := "write", desc := "(LCoinNode$Tx;ILCoinNode$Tx;II)V" } : Jvm.MethodName)) ∈ jws := jws_5 (List.mem_of_getElem? (i := 6) rfl) rfl
theorem jw_968 : (Jvm.Cond.instanceMethod ({ cls := "CoinNode$Scripts", name := "write", desc := "(LCoinNode$Tx;ILCoinNode$Tx;II)V" } : Jvm.MethodName)) ∈ jws := jws_5 (List.mem_of_getElem? (i := 8) rfl) rfl
theorem jw_969 : (Jvm.Cond.code ({ cls := "CoinNode$Scripts", name := "write", desc := "(LCoinNode$Tx;ILCoinNode$Tx;II)V" } : Jvm.MethodName) prog_9_method_4_code (11 : Nat) (Option.none : Option Jvm.ClassFile.FieldType)) ∈ jws := jws_5 (List.mem_of_getElem? (i := 9) rfl) rfl
theorem jw_970 : (Jvm.Cond.methodLink "CoinNode$Scripts" (140 : Nat) ({ cls := "CoinNode$Scripts", name := "put", desc := "([BII)V" } : Jvm.MethodName)) ∈ jws := jws_5 (List.mem_of_getElem? (i := 10) rfl) rfl
theorem jw_972 : (Jvm.Cond.instanceMethod ({ cls := "CoinNode$Scripts", name := "put", desc := "([BII)V" } : Jvm.MethodName)) ∈ jws := jws_5 (List.mem_of_getElem? (i := 12) rfl) rfl
theorem jw_973 : (Jvm.Cond.code ({ cls := "CoinNode$Scripts", name := "put", desc := "([BII)V" } : Jvm.MethodName) prog_9_method_5_code (4 : Nat) (Option.none : Option Jvm.ClassFile.FieldType)) ∈ jws := jws_5 (List.mem_of_getElem? (i := 13) rfl) rfl
theorem jw_974 : (Jvm.Cond.methodLink "CoinNode$Scripts" (150 : Nat) ({ cls := "java/lang/System", name := "arraycopy", desc := "(Ljava/lang/Object;ILjava/lang/Object;II)V" } : Jvm.MethodName)) ∈ jws := jws_5 (List.mem_of_getElem? (i := 14) rfl) rfl
theorem jw_975 : (Jvm.Cond.methodLink "CoinNode$Scripts" (143 : Nat) ({ cls := "CoinNode$Scripts", name := "fill", desc := "(II)V" } : Jvm.MethodName)) ∈ jws := jws_5 (List.mem_of_getElem? (i := 15) rfl) rfl
theorem jw_977 : (Jvm.Cond.instanceMethod ({ cls := "CoinNode$Scripts", name := "fill", desc := "(II)V" } : Jvm.MethodName)) ∈ jws := jws_5 (List.mem_of_getElem? (i := 17) rfl) rfl
theorem jw_978 : (Jvm.Cond.code ({ cls := "CoinNode$Scripts", name := "fill", desc := "(II)V" } : Jvm.MethodName) prog_9_method_6_code (4 : Nat) (Option.none : Option Jvm.ClassFile.FieldType)) ∈ jws := jws_5 (List.mem_of_getElem? (i := 18) rfl) rfl
theorem jw_979 : (Jvm.Cond.methodLink "CoinNode$Scripts" (107 : Nat) ({ cls := "CoinNode$Hash", name := "name", desc := "([BII[B)V" } : Jvm.MethodName)) ∈ jws := jws_5 (List.mem_of_getElem? (i := 19) rfl) rfl
theorem jw_980 : (Jvm.Cond.methodLink "CoinNode$Scripts" (112 : Nat) ({ cls := "CoinNode$Signature", name := "setBase", desc := "()V" } : Jvm.MethodName)) ∈ jws := jws_5 (List.mem_of_getElem? (i := 20) rfl) rfl
theorem jw_981 : (Jvm.Cond.instanceMethod ({ cls := "CoinNode$Signature", name := "setBase", desc := "()V" } : Jvm.MethodName)) ∈ jws := jws_5 (List.mem_of_getElem? (i := 21) rfl) rfl
theorem jw_982 : (Jvm.Cond.selects "CoinNode$Signature" ({ cls := "CoinNode$Signature", name := "setBase", desc := "()V" } : Jvm.MethodName) ({ cls := "CoinNode$Signature", name := "setBase", desc := "()V" } : Jvm.MethodName)) ∈ jws := jws_5 (List.mem_of_getElem? (i := 22) rfl) rfl
theorem jw_983 : (Jvm.Cond.code ({ cls := "CoinNode$Signature", name := "setBase", desc := "()V" } : Jvm.MethodName) prog_10_method_5_code (2 : Nat) (Option.none : Option Jvm.ClassFile.FieldType)) ∈ jws := jws_5 (List.mem_of_getElem? (i := 23) rfl) rfl
theorem jw_984 : (Jvm.Cond.fieldLink "CoinNode$Signature" (138 : Nat) "CoinNode$Signature" "BASE_X" "[I") ∈ jws := jws_5 (List.mem_of_getElem? (i := 24) rfl) rfl
theorem jw_986 : (Jvm.Cond.fieldLink "CoinNode$Signature" (141 : Nat) "CoinNode$Signature" "BASE_Y" "[I") ∈ jws := jws_5 (List.mem_of_getElem? (i := 26) rfl) rfl
theorem jw_988 : (Jvm.Cond.methodLink "CoinNode$Scripts" (115 : Nat) ({ cls := "CoinNode$Signature", name := "holds", desc := "([BZ)Z" } : Jvm.MethodName)) ∈ jws := jws_5 (List.mem_of_getElem? (i := 28) rfl) rfl
theorem jw_989 : (Jvm.Cond.instanceMethod ({ cls := "CoinNode$Signature", name := "holds", desc := "([BZ)Z" } : Jvm.MethodName)) ∈ jws := jws_5 (List.mem_of_getElem? (i := 29) rfl) rfl
theorem jw_990 : (Jvm.Cond.selects "CoinNode$Signature" ({ cls := "CoinNode$Signature", name := "holds", desc := "([BZ)Z" } : Jvm.MethodName) ({ cls := "CoinNode$Signature", name := "holds", desc := "([BZ)Z" } : Jvm.MethodName)) ∈ jws := jws_5 (List.mem_of_getElem? (i := 30) rfl) rfl
theorem jw_991 : (Jvm.Cond.code ({ cls := "CoinNode$Signature", name := "holds", desc := "([BZ)Z" } : Jvm.MethodName) prog_10_method_6_code (8 : Nat) (Option.some Jvm.ClassFile.FieldType.boolean)) ∈ jws := jws_5 (List.mem_of_getElem? (i := 31) rfl) rfl
theorem jw_992 : (Jvm.Cond.methodLink "CoinNode$Signature" (144 : Nat) ({ cls := "CoinNode$Signature", name := "invert", desc := "([I)V" } : Jvm.MethodName)) ∈ jws := jws_5 (List.mem_of_getElem? (i := 32) rfl) rfl
theorem jw_994 : (Jvm.Cond.instanceMethod ({ cls := "CoinNode$Signature", name := "invert", desc := "([I)V" } : Jvm.MethodName)) ∈ jws := jws_5 (List.mem_of_getElem? (i := 34) rfl) rfl
theorem jw_995 : (Jvm.Cond.code ({ cls := "CoinNode$Signature", name := "invert", desc := "([I)V" } : Jvm.MethodName) prog_10_method_13_code (4 : Nat) (Option.none : Option Jvm.ClassFile.FieldType)) ∈ jws := jws_5 (List.mem_of_getElem? (i := 35) rfl) rfl
theorem jw_996 : (Jvm.Cond.methodLink "CoinNode$Signature" (148 : Nat) ({ cls := "CoinNode$Signature", name := "multiply", desc := "([I[I[I)V" } : Jvm.MethodName)) ∈ jws := jws_5 (List.mem_of_getElem? (i := 36) rfl) rfl
theorem jw_998 : (Jvm.Cond.instanceMethod ({ cls := "CoinNode$Signature", name := "multiply", desc := "([I[I[I)V" } : Jvm.MethodName)) ∈ jws := jws_5 (List.mem_of_getElem? (i := 38) rfl) rfl
theorem jw_999 : (Jvm.Cond.code ({ cls := "CoinNode$Signature", name := "multiply", desc := "([I[I[I)V" } : Jvm.MethodName) prog_10_method_12_code (12 : Nat) (Option.none : Option Jvm.ClassFile.FieldType)) ∈ jws := jws_5 (List.mem_of_getElem? (i := 39) rfl) rfl
theorem jw_1000 : (Jvm.Cond.fieldLink "CoinNode$Signature" (184 : Nat) "CoinNode$Signature" "OVER" "[I") ∈ jws := jws_5 (List.mem_of_getElem? (i := 40) rfl) rfl
theorem jw_1002 : (Jvm.Cond.methodLink "CoinNode$Signature" (187 : Nat) ({ cls := "java/lang/System", name := "arraycopy", desc := "(Ljava/lang/Object;ILjava/lang/Object;II)V" } : Jvm.MethodName)) ∈ jws := jws_5 (List.mem_of_getElem? (i := 42) rfl) rfl
theorem jw_1003 : (Jvm.Cond.methodLink "CoinNode$Signature" (151 : Nat) ({ cls := "CoinNode$Signature", name := "setDigits", desc := "([I[I)V" } : Jvm.MethodName)) ∈ jws := jws_5 (List.mem_of_getElem? (i := 43) rfl) rfl
theorem jw_1004 : (Jvm.Cond.static ({ cls := "CoinNode$Signature", name := "setDigits", desc := "([I[I)V" } : Jvm.MethodName)) ∈ jws := jws_5 (List.mem_of_getElem? (i := 44) rfl) rfl
theorem jw_1005 : (Jvm.Cond.code ({ cls := "CoinNode$Signature", name := "setDigits", desc := "([I[I)V" } : Jvm.MethodName) prog_10_method_14_code (9 : Nat) (Option.none : Option Jvm.ClassFile.FieldType)) ∈ jws := jws_5 (List.mem_of_getElem? (i := 45) rfl) rfl
theorem jw_1006 : (Jvm.Cond.methodLink "CoinNode$Signature" (158 : Nat) ({ cls := "java/lang/Math", name := "abs", desc := "(I)I" } : Jvm.MethodName)) ∈ jws := jws_5 (List.mem_of_getElem? (i := 46) rfl) rfl
theorem jw_1007 : (Jvm.Cond.static ({ cls := "java/lang/Math", name := "abs", desc := "(I)I" } : Jvm.MethodName)) ∈ jws := jws_5 (List.mem_of_getElem? (i := 47) rfl) rfl
theorem jw_1008 : (Jvm.Cond.code ({ cls := "java/lang/Math", name := "abs", desc := "(I)I" } : Jvm.MethodName) prog_23_method_59_code (1 : Nat) (Option.some Jvm.ClassFile.FieldType.int)) ∈ jws := jws_5 (List.mem_of_getElem? (i := 48) rfl) rfl
theorem jw_1009 : (Jvm.Cond.methodLink "CoinNode$Signature" (164 : Nat) ({ cls := "CoinNode$Signature", name := "isAtX", desc := "()Z" } : Jvm.MethodName)) ∈ jws := jws_5 (List.mem_of_getElem? (i := 49) rfl) rfl
theorem jw_1011 : (Jvm.Cond.instanceMethod ({ cls := "CoinNode$Signature", name := "isAtX", desc := "()Z" } : Jvm.MethodName)) ∈ jws := jws_5 (List.mem_of_getElem? (i := 51) rfl) rfl
theorem jw_1012 : (Jvm.Cond.code ({ cls := "CoinNode$Signature", name := "isAtX", desc := "()Z" } : Jvm.MethodName) prog_10_method_7_code (5 : Nat) (Option.some Jvm.ClassFile.FieldType.boolean)) ∈ jws := jws_5 (List.mem_of_getElem? (i := 52) rfl) rfl
theorem jw_1013 : (Jvm.Cond.methodLink "CoinNode$Scripts" (119 : Nat) ({ cls := "CoinNode$Machine", name := "answer", desc := "(Z)V" } : Jvm.MethodName)) ∈ jws := jws_5 (List.mem_of_getElem? (i := 53) rfl) rfl
theorem jw_1014 : (Jvm.Cond.instanceMethod ({ cls := "CoinNode$Machine", name := "answer", desc := "(Z)V" } : Jvm.MethodName)) ∈ jws := jws_5 (List.mem_of_getElem? (i := 54) rfl) rfl
theorem jw_1015 : (Jvm.Cond.selects "CoinNode$Machine" ({ cls := "CoinNode$Machine", name := "answer", desc := "(Z)V" } : Jvm.MethodName) ({ cls := "CoinNode$Machine", name := "answer", desc := "(Z)V" } : Jvm.MethodName)) ∈ jws := jws_5 (List.mem_of_getElem? (i := 55) rfl) rfl
theorem jw_1016 : (Jvm.Cond.code ({ cls := "CoinNode$Machine", name := "answer", desc := "(Z)V" } : Jvm.MethodName) prog_6_method_20_code (2 : Nat) (Option.none : Option Jvm.ClassFile.FieldType)) ∈ jws := jws_5 (List.mem_of_getElem? (i := 56) rfl) rfl
theorem jw_1017 : (Jvm.Cond.methodLink "CoinNode$Scripts" (127 : Nat) ({ cls := "CoinNode$Machine", name := "openLast", desc := "([BII)V" } : Jvm.MethodName)) ∈ jws := jws_5 (List.mem_of_getElem? (i := 57) rfl) rfl
theorem jw_1018 : (Jvm.Cond.instanceMethod ({ cls := "CoinNode$Machine", name := "openLast", desc := "([BII)V" } : Jvm.MethodName)) ∈ jws := jws_5 (List.mem_of_getElem? (i := 58) rfl) rfl
theorem jw_1019 : (Jvm.Cond.selects "CoinNode$Machine" ({ cls := "CoinNode$Machine", name := "openLast", desc := "([BII)V" } : Jvm.MethodName) ({ cls := "CoinNode$Machine", name := "openLast", desc := "([BII)V" } : Jvm.MethodName)) ∈ jws := jws_5 (List.mem_of_getElem? (i := 59) rfl) rfl
theorem jw_1020 : (Jvm.Cond.code ({ cls := "CoinNode$Machine", name := "openLast", desc := "([BII)V" } : Jvm.MethodName) prog_6_method_3_code (4 : Nat) (Option.none : Option Jvm.ClassFile.FieldType)) ∈ jws := jws_5 (List.mem_of_getElem? (i := 60) rfl) rfl
theorem jw_1021 : (Jvm.Cond.methodLink "CoinNode$Machine" (49 : Nat) ({ cls := "CoinNode$Machine", name := "open", desc := "([BII)V" } : Jvm.MethodName)) ∈ jws := jws_5 (List.mem_of_getElem? (i := 61) rfl) rfl
theorem jw_1022 : (Jvm.Cond.methodLink "CoinNode$Scripts" (130 : Nat) ({ cls := "CoinNode$Machine", name := "isHappy", desc := "()Z" } : Jvm.MethodName)) ∈ jws := jws_5 (List.mem_of_getElem? (i := 62) rfl) rfl
theorem jw_1023 : (Jvm.Cond.instanceMethod ({ cls := "CoinNode$Machine", name := "isHappy", desc := "()Z" } : Jvm.MethodName)) ∈ jws := jws_5 (List.mem_of_getElem? (i := 63) rfl) rfl
theorem jw_1024 : (Jvm.Cond.selects "CoinNode$Machine" ({ cls := "CoinNode$Machine", name := "isHappy", desc := "()Z" } : Jvm.MethodName) ({ cls := "CoinNode$Machine", name := "isHappy", desc := "()Z" } : Jvm.MethodName)) ∈ jws := jws_5 (List.mem_of_getElem? (i := 64) rfl) rfl
theorem jw_1025 : (Jvm.Cond.code ({ cls := "CoinNode$Machine", name := "isHappy", desc := "()Z" } : Jvm.MethodName) prog_6_method_5_code (1 : Nat) (Option.some Jvm.ClassFile.FieldType.boolean)) ∈ jws := jws_5 (List.mem_of_getElem? (i := 65) rfl) rfl
theorem jw_1026 : (Jvm.Cond.methodLink "CoinNode$Pool" (81 : Nat) ({ cls := "CoinNode$Pool", name := "knot", desc := "(LCoinNode$Tx;)I" } : Jvm.MethodName)) ∈ jws := jws_5 (List.mem_of_getElem? (i := 66) rfl) rfl
theorem jw_1028 : (Jvm.Cond.instanceMethod ({ cls := "CoinNode$Pool", name := "knot", desc := "(LCoinNode$Tx;)I" } : Jvm.MethodName)) ∈ jws := jws_5 (List.mem_of_getElem? (i := 68) rfl) rfl
theorem jw_1029 : (Jvm.Cond.code ({ cls := "CoinNode$Pool", name := "knot", desc := "(LCoinNode$Tx;)I" } : Jvm.MethodName) prog_8_method_8_code (4 : Nat) (Option.some Jvm.ClassFile.FieldType.int)) ∈ jws := jws_5 (List.mem_of_getElem? (i := 69) rfl) rfl
theorem jw_1030 : (Jvm.Cond.methodLink "CoinNode$Pool" (145 : Nat) ({ cls := "CoinNode$Tx", name := "missesOutputOf", desc := "(LCoinNode$Tx;)Z" } : Jvm.MethodName)) ∈ jws := jws_5 (List.mem_of_getElem? (i := 70) rfl) rfl
theorem jw_1031 : (Jvm.Cond.instanceMethod ({ cls := "CoinNode$Tx", name := "missesOutputOf", desc := "(LCoinNode$Tx;)Z" } : Jvm.MethodName)) ∈ jws := jws_5 (List.mem_of_getElem? (i := 71) rfl) rfl
theorem jw_1032 : (Jvm.Cond.selects "CoinNode$Tx" ({ cls := "CoinNode$Tx", name := "missesOutputOf", desc := "(LCoinNode$Tx;)Z" } : Jvm.MethodName) ({ cls := "CoinNode$Tx", name := "missesOutputOf", desc := "(LCoinNode$Tx;)Z" } : Jvm.MethodName)) ∈ jws := jws_5 (List.mem_of_getElem? (i := 72) rfl) rfl
theorem jw_1033 : (Jvm.Cond.code ({ cls := "CoinNode$Tx", name := "missesOutputOf", desc := "(LCoinNode$Tx;)Z" } : Jvm.MethodName) prog_12_method_17_code (4 : Nat) (Option.some Jvm.ClassFile.FieldType.boolean)) ∈ jws := jws_5 (List.mem_of_getElem? (i := 73) rfl) rfl
theorem jw_1034 : (Jvm.Cond.methodLink "CoinNode$Pool" (148 : Nat) ({ cls := "CoinNode$Pool", name := "markKin", desc := "(LCoinNode$Tx;)V" } : Jvm.MethodName)) ∈ jws := jws_5 (List.mem_of_getElem? (i := 74) rfl) rfl
theorem jw_1036 : (Jvm.Cond.instanceMethod ({ cls := "CoinNode$Pool", name := "markKin", desc := "(LCoinNode$Tx;)V" } : Jvm.MethodName)) ∈ jws := jws_5 (List.mem_of_getElem? (i := 76) rfl) rfl
theorem jw_1037 : (Jvm.Cond.code ({ cls := "CoinNode$Pool", name := "markKin", desc := "(LCoinNode$Tx;)V" } : Jvm.MethodName) prog_8_method_9_code (6 : Nat) (Option.none : Option Jvm.ClassFile.FieldType)) ∈ jws := jws_5 (List.mem_of_getElem? (i := 77) rfl) rfl
theorem jw_1038 : (Jvm.Cond.methodLink "CoinNode$Pool" (152 : Nat) ({ cls := "CoinNode$Tx", name := "spendsOf", desc := "(LCoinNode$Tx;)Z" } : Jvm.MethodName)) ∈ jws := jws_5 (List.mem_of_getElem? (i := 78) rfl) rfl
theorem jw_1039 : (Jvm.Cond.instanceMethod ({ cls := "CoinNode$Tx", name := "spendsOf", desc := "(LCoinNode$Tx;)Z" } : Jvm.MethodName)) ∈ jws := jws_5 (List.mem_of_getElem? (i := 79) rfl) rfl
theorem jw_1040 : (Jvm.Cond.selects "CoinNode$Tx" ({ cls := "CoinNode$Tx", name := "spendsOf", desc := "(LCoinNode$Tx;)Z" } : Jvm.MethodName) ({ cls := "CoinNode$Tx", name := "spendsOf", desc := "(LCoinNode$Tx;)Z" } : Jvm.MethodName)) ∈ jws := jws_5 (List.mem_of_getElem? (i := 80) rfl) rfl
theorem jw_1041 : (Jvm.Cond.code ({ cls := "CoinNode$Tx", name := "spendsOf", desc := "(LCoinNode$Tx;)Z" } : Jvm.MethodName) prog_12_method_15_code (3 : Nat) (Option.some Jvm.ClassFile.FieldType.boolean)) ∈ jws := jws_5 (List.mem_of_getElem? (i := 81) rfl) rfl
theorem jw_1042 : (Jvm.Cond.methodLink "CoinNode$Pool" (91 : Nat) ({ cls := "CoinNode$Pool", name := "dropLeast", desc := "(LCoinNode$Tx;)Z" } : Jvm.MethodName)) ∈ jws := jws_5 (List.mem_of_getElem? (i := 82) rfl) rfl
theorem jw_1044 : (Jvm.Cond.instanceMethod ({ cls := "CoinNode$Pool", name := "dropLeast", desc := "(LCoinNode$Tx;)Z" } : Jvm.MethodName)) ∈ jws := jws_5 (List.mem_of_getElem? (i := 84) rfl) rfl
theorem jw_1045 : (Jvm.Cond.code ({ cls := "CoinNode$Pool", name := "dropLeast", desc := "(LCoinNode$Tx;)Z" } : Jvm.MethodName) prog_8_method_10_code (13 : Nat) (Option.some Jvm.ClassFile.FieldType.boolean)) ∈ jws := jws_5 (List.mem_of_getElem? (i := 85) rfl) rfl
theorem jw_1046 : (Jvm.Cond.methodLink "CoinNode$Pool" (158 : Nat) ({ cls := "CoinNode$Pool", name := "isDearer", desc := "(JJJJ)Z" } : Jvm.MethodName)) ∈ jws := jws_5 (List.mem_of_getElem? (i := 86) rfl) rfl
theorem jw_1047 : (Jvm.Cond.static ({ cls := "CoinNode$Pool", name := "isDearer", desc := "(JJJJ)Z" } : Jvm.MethodName)) ∈ jws := jws_5 (List.mem_of_getElem? (i := 87) rfl) rfl
theorem jw_1048 : (Jvm.Cond.code ({ cls := "CoinNode$Pool", name := "isDearer", desc := "(JJJJ)Z" } : Jvm.MethodName) prog_8_method_11_code (12 : Nat) (Option.some Jvm.ClassFile.FieldType.boolean)) ∈ jws := jws_5 (List.mem_of_getElem? (i := 88) rfl) rfl
theorem jw_1049 : (Jvm.Cond.methodLink "CoinNode" (196 : Nat) ({ cls := "CoinNode", name := "tellOthers", desc := "(II[B)V" } : Jvm.MethodName)) ∈ jws := jws_5 (List.mem_of_getElem? (i := 89) rfl) rfl
theorem jw_1051 : (Jvm.Cond.instanceMethod ({ cls := "CoinNode", name := "tellOthers", desc := "(II[B)V" } : Jvm.MethodName)) ∈ jws := jws_5 (List.mem_of_getElem? (i := 91) rfl) rfl
theorem jw_1052 : (Jvm.Cond.code ({ cls := "CoinNode", name := "tellOthers", desc := "(II[B)V" } : Jvm.MethodName) prog_1_method_15_code (5 : Nat) (Option.none : Option Jvm.ClassFile.FieldType)) ∈ jws := jws_5 (List.mem_of_getElem? (i := 92) rfl) rfl
theorem jw_1053 : (Jvm.Cond.methodLink "CoinNode" (211 : Nat) ({ cls := "CoinNode", name := "put", desc := "([BII)V" } : Jvm.MethodName)) ∈ jws := jws_5 (List.mem_of_getElem? (i := 93) rfl) rfl
theorem jw_1055 : (Jvm.Cond.instanceMethod ({ cls := "CoinNode", name := "put", desc := "([BII)V" } : Jvm.MethodName)) ∈ jws := jws_5 (List.mem_of_getElem? (i := 95) rfl) rfl
theorem jw_1056 : (Jvm.Cond.code ({ cls := "CoinNode", name := "put", desc := "([BII)V" } : Jvm.MethodName) prog_1_method_23_code (4 : Nat) (Option.none : Option Jvm.ClassFile.FieldType)) ∈ jws := jws_5 (List.mem_of_getElem? (i := 96) rfl) rfl
theorem jw_1057 : (Jvm.Cond.methodLink "CoinNode" (236 : Nat) ({ cls := "java/lang/System", name := "arraycopy", desc := "(Ljava/lang/Object;ILjava/lang/Object;II)V" } : Jvm.MethodName)) ∈ jws := jws_5 (List.mem_of_getElem? (i := 97) rfl) rfl
theorem jw_1058 : (Jvm.Cond.methodLink "CoinNode" (94 : Nat) ({ cls := "CoinNode$Block", name := "read", desc := "([BLCoinNode$Hash;)LCoinNode$Block;" } : Jvm.MethodName)) ∈ jws := jws_5 (List.mem_of_getElem? (i := 98) rfl) rfl
theorem jw_1059 : (Jvm.Cond.static ({ cls := "CoinNode$Block", name := "read", desc := "([BLCoinNode$Hash;)LCoinNode$Block;" } : Jvm.MethodName)) ∈ jws := jws_5 (List.mem_of_getElem? (i := 99) rfl) rfl
theorem jw_1060 : (Jvm.Cond.code ({ cls := "CoinNode$Block", name := "read", desc := "([BLCoinNode$Hash;)LCoinNode$Block;" } : Jvm.MethodName) prog_2_method_2_code (7 : Nat) (Option.some (Jvm.ClassFile.FieldType.object "CoinNode$Block"))) ∈ jws := jws_5 (List.mem_of_getElem? (i := 100) rfl) rfl
theorem jw_1061 : (Jvm.Cond.methodLink "CoinNode$Block" (42 : Nat) ({ cls := "CoinNode$Tx", name := "sizeAt", desc := "([BII)I" } : Jvm.MethodName)) ∈ jws := jws_5 (List.mem_of_getElem? (i := 101) rfl) rfl
theorem jw_1062 : (Jvm.Cond.classLink "CoinNode$Block" (10 : Nat) "CoinNode$Block") ∈ jws := jws_5 (List.mem_of_getElem? (i := 102) rfl) rfl
theorem jw_1063 : (Jvm.Cond.methodLink "CoinNode$Block" (46 : Nat) ({ cls := "CoinNode$Block", name := "<init>", desc := "([B)V" } : Jvm.MethodName)) ∈ jws := jws_5 (List.mem_of_getElem? (i := 103) rfl) rfl
theorem jw_1064 : (Jvm.Cond.methodLink "CoinNode$Block" (49 : Nat) ({ cls := "CoinNode$Tx", name := "read", desc := "([BI)LCoinNode$Tx;" } : Jvm.MethodName)) ∈ jws := jws_5 (List.mem_of_getElem? (i := 104) rfl) rfl
theorem jw_1065 : (Jvm.Cond.methodLink "CoinNode$Block" (57 : Nat) ({ cls := "CoinNode$Hash", name := "name", desc := "([BII[B)V" } : Jvm.MethodName)) ∈ jws := jws_5 (List.mem_of_getElem? (i := 105) rfl) rfl
theorem jw_1066 : (Jvm.Cond.methodLink "CoinNode" (100 : Nat) ({ cls := "CoinNode$Chain", name := "refusal", desc := "(LCoinNode$Block;)I" } : Jvm.MethodName)) ∈ jws := jws_5 (List.mem_of_getElem? (i := 106) rfl) rfl
theorem jw_1067 : (Jvm.Cond.instanceMethod ({ cls := "CoinNode$Chain", name := "refusal", desc := "(LCoinNode$Block;)I" } : Jvm.MethodName)) ∈ jws := jws_5 (List.mem_of_getElem? (i := 107) rfl) rfl
theorem jw_1068 : (Jvm.Cond.selects "CoinNode$Chain" ({ cls := "CoinNode$Chain", name := "refusal", desc := "(LCoinNode$Block;)I" } : Jvm.MethodName) ({ cls := "CoinNode$Chain", name := "refusal", desc := "(LCoinNode$Block;)I" } : Jvm.MethodName)) ∈ jws := jws_5 (List.mem_of_getElem? (i := 108) rfl) rfl
theorem jw_1069 : (Jvm.Cond.code ({ cls := "CoinNode$Chain", name := "refusal", desc := "(LCoinNode$Block;)I" } : Jvm.MethodName) prog_3_method_4_code (3 : Nat) (Option.some Jvm.ClassFile.FieldType.int)) ∈ jws := jws_5 (List.mem_of_getElem? (i := 109) rfl) rfl
theorem jw_1070 : (Jvm.Cond.methodLink "CoinNode$Chain" (85 : Nat) ({ cls := "CoinNode$Chain", name := "find", desc := "([BI)LCoinNode$Block;" } : Jvm.MethodName)) ∈ jws := jws_5 (List.mem_of_getElem? (i := 110) rfl) rfl
theorem jw_1071 : (Jvm.Cond.instanceMethod ({ cls := "CoinNode$Chain", name := "find", desc := "([BI)LCoinNode$Block;" } : Jvm.MethodName)) ∈ jws := jws_5 (List.mem_of_getElem? (i := 111) rfl) rfl
theorem jw_1072 : (Jvm.Cond.selects "CoinNode$Chain" ({ cls := "CoinNode$Chain", name := "find", desc := "([BI)LCoinNode$Block;" } : Jvm.MethodName) ({ cls := "CoinNode$Chain", name := "find", desc := "([BI)LCoinNode$Block;" } : Jvm.MethodName)) ∈ jws := jws_5 (List.mem_of_getElem? (i := 112) rfl) rfl
theorem jw_1073 : (Jvm.Cond.code ({ cls := "CoinNode$Chain", name := "find", desc := "([BI)LCoinNode$Block;" } : Jvm.MethodName) prog_3_method_3_code (4 : Nat) (Option.some (Jvm.ClassFile.FieldType.object "CoinNode$Block"))) ∈ jws := jws_5 (List.mem_of_getElem? (i := 113) rfl) rfl
theorem jw_1074 : (Jvm.Cond.methodLink "CoinNode$Chain" (81 : Nat) ({ cls := "CoinNode$Hash", name := "same", desc := "([BI[BI)Z" } : Jvm.MethodName)) ∈ jws := jws_5 (List.mem_of_getElem? (i := 114) rfl) rfl
theorem jw_1075 : (Jvm.Cond.methodLink "CoinNode$Chain" (102 : Nat) ({ cls := "CoinNode$Chain", name := "bitsBehind", desc := "(LCoinNode$Block;)I" } : Jvm.MethodName)) ∈ jws := jws_5 (List.mem_of_getElem? (i := 115) rfl) rfl
theorem jw_1077 : (Jvm.Cond.instanceMethod ({ cls := "CoinNode$Chain", name := "bitsBehind", desc := "(LCoinNode$Block;)I" } : Jvm.MethodName)) ∈ jws := jws_5 (List.mem_of_getElem? (i := 117) rfl) rfl
theorem jw_1078 : (Jvm.Cond.code ({ cls := "CoinNode$Chain", name := "bitsBehind", desc := "(LCoinNode$Block;)I" } : Jvm.MethodName) prog_3_method_12_code (8 : Nat) (Option.some Jvm.ClassFile.FieldType.int)) ∈ jws := jws_5 (List.mem_of_getElem? (i := 118) rfl) rfl
theorem jw_1079 : (Jvm.Cond.constantLong "CoinNode$Chain" (183 : Nat) (1200 : Int64)) ∈ jws := jws_5 (List.mem_of_getElem? (i := 119) rfl) rfl
theorem jw_1080 : (Jvm.Cond.constantLong "CoinNode$Chain" (185 : Nat) (19200 : Int64)) ∈ jws := jws_5 (List.mem_of_getElem? (i := 120) rfl) rfl
theorem jw_1081 : (Jvm.Cond.methodLink "CoinNode$Chain" (187 : Nat) ({ cls := "java/lang/Math", name := "min", desc := "(JJ)J" } : Jvm.MethodName)) ∈ jws := jws_5 (List.mem_of_getElem? (i := 121) rfl) rfl
theorem jw_1082 : (Jvm.Cond.methodLink "CoinNode$Chain" (193 : Nat) ({ cls := "java/lang/Math", name := "max", desc := "(JJ)J" } : Jvm.MethodName)) ∈ jws := jws_5 (List.mem_of_getElem? (i := 122) rfl) rfl
theorem jw_1083 : (Jvm.Cond.methodLink "CoinNode$Chain" (114 : Nat) ({ cls := "CoinNode$Chain", name := "setTarget", desc := "([II)V" } : Jvm.MethodName)) ∈ jws := jws_5 (List.mem_of_getElem? (i := 123) rfl) rfl
theorem jw_1084 : (Jvm.Cond.static ({ cls := "CoinNode$Chain", name := "setTarget", desc := "([II)V" } : Jvm.MethodName)) ∈ jws := jws_5 (List.mem_of_getElem? (i := 124) rfl) rfl
theorem jw_1085 : (Jvm.Cond.code ({ cls := "CoinNode$Chain", name := "setTarget", desc := "([II)V" } : Jvm.MethodName) prog_3_method_15_code (6 : Nat) (Option.none : Option Jvm.ClassFile.FieldType)) ∈ jws := jws_5 (List.mem_of_getElem? (i := 125) rfl) rfl
theorem jw_1086 : (Jvm.Cond.constant "CoinNode$Chain" (209 : Nat) (8388607 : Int32)) ∈ jws := jws_5 (List.mem_of_getElem? (i := 126) rfl) rfl
theorem jw_1087 : (Jvm.Cond.methodLink "CoinNode$Chain" (210 : Nat) ({ cls := "java/util/Arrays", name := "fill", desc := "([II)V" } : Jvm.MethodName)) ∈ jws := jws_5 (List.mem_of_getElem? (i := 127) rfl) rfl
theorem jw_1088 : (Jvm.Cond.constantLong "CoinNode$Chain" (196 : Nat) (4294967295 : Int64)) ∈ jws := jws_5 (List.mem_of_getElem? (i := 128) rfl) rfl
theorem jw_1089 : (Jvm.Cond.constantLong "CoinNode$Chain" (198 : Nat) (4800 : Int64)) ∈ jws := jws_5 (List.mem_of_getElem? (i := 129) rfl) rfl
theorem jw_1090 : (Jvm.Cond.methodLink "CoinNode$Chain" (167 : Nat) ({ cls := "CoinNode$Chain", name := "compare", desc := "([I[I)I" } : Jvm.MethodName)) ∈ jws := jws_5 (List.mem_of_getElem? (i := 130) rfl) rfl
theorem jw_1091 : (Jvm.Cond.static ({ cls := "CoinNode$Chain", name := "compare", desc := "([I[I)I" } : Jvm.MethodName)) ∈ jws := jws_5 (List.mem_of_getElem? (i := 131) rfl) rfl
theorem jw_1092 : (Jvm.Cond.code ({ cls := "CoinNode$Chain", name := "compare", desc := "([I[I)I" } : Jvm.MethodName) prog_3_method_16_code (3 : Nat) (Option.some Jvm.ClassFile.FieldType.int)) ∈ jws := jws_5 (List.mem_of_getElem? (i := 132) rfl) rfl
theorem jw_1093 : (Jvm.Cond.methodLink "CoinNode$Chain" (215 : Nat) ({ cls := "java/lang/Math", name := "min", desc := "(II)I" } : Jvm.MethodName)) ∈ jws := jws_5 (List.mem_of_getElem? (i := 133) rfl) rfl
theorem jw_1094 : (Jvm.Cond.methodLink "CoinNode$Chain" (200 : Nat) ({ cls := "CoinNode$Chain", name := "compact", desc := "([I)I" } : Jvm.MethodName)) ∈ jws := jws_5 (List.mem_of_getElem? (i := 134) rfl) rfl
theorem jw_1095 : (Jvm.Cond.static ({ cls := "CoinNode$Chain", name := "compact", desc := "([I)I" } : Jvm.MethodName)) ∈ jws := jws_5 (List.mem_of_getElem? (i := 135) rfl) rfl
theorem jw_1096 : (Jvm.Cond.code ({ cls := "CoinNode$Chain", name := "compact", desc := "([I)I" } : Jvm.MethodName) prog_3_method_13_code (3 : Nat) (Option.some Jvm.ClassFile.FieldType.int)) ∈ jws := jws_5 (List.mem_of_getElem? (i := 136) rfl) rfl
theorem jw_1097 : (Jvm.Cond.methodLink "CoinNode$Chain" (204 : Nat) ({ cls := "CoinNode$Chain", name := "byteOf", desc := "([II)I" } : Jvm.MethodName)) ∈ jws := jws_5 (List.mem_of_getElem? (i := 137) rfl) rfl
theorem jw_1098 : (Jvm.Cond.static ({ cls := "CoinNode$Chain", name := "byteOf", desc := "([II)I" } : Jvm.MethodName)) ∈ jws := jws_5 (List.mem_of_getElem? (i := 138) rfl) rfl
theorem jw_1099 : (Jvm.Cond.code ({ cls := "CoinNode$Chain", name := "byteOf", desc := "([II)I" } : Jvm.MethodName) prog_3_method_14_code (2 : Nat) (Option.some Jvm.ClassFile.FieldType.int)) ∈ jws := jws_5 (List.mem_of_getElem? (i := 139) rfl) rfl
theorem jw_1100 : (Jvm.Cond.constant "CoinNode$Chain" (208 : Nat) (8388608 : Int32)) ∈ jws := jws_5 (List.mem_of_getElem? (i := 140) rfl) rfl
theorem jw_1101 : (Jvm.Cond.methodLink "CoinNode$Chain" (110 : Nat) ({ cls := "CoinNode$Chain", name := "median", desc := "(LCoinNode$Block;)J" } : Jvm.MethodName)) ∈ jws := jws_5 (List.mem_of_getElem? (i := 141) rfl) rfl
theorem jw_1103 : (Jvm.Cond.instanceMethod ({ cls := "CoinNode$Chain", name := "median", desc := "(LCoinNode$Block;)J" } : Jvm.MethodName)) ∈ jws := jws_5 (List.mem_of_getElem? (i := 143) rfl) rfl
theorem jw_1104 : (Jvm.Cond.code ({ cls := "CoinNode$Chain", name := "median", desc := "(LCoinNode$Block;)J" } : Jvm.MethodName) prog_3_method_11_code (5 : Nat) (Option.some Jvm.ClassFile.FieldType.long)) ∈ jws := jws_5 (List.mem_of_getElem? (i := 144) rfl) rfl
theorem jw_1105 : (Jvm.Cond.methodLink "CoinNode$Chain" (118 : Nat) ({ cls := "CoinNode$Chain", name := "isAbove", desc := "([B[I)Z" } : Jvm.MethodName)) ∈ jws := jws_5 (List.mem_of_getElem? (i := 145) rfl) rfl
theorem jw_1106 : (Jvm.Cond.static ({ cls := "CoinNode$Chain", name := "isAbove", desc := "([B[I)Z" } : Jvm.MethodName)) ∈ jws := jws_5 (List.mem_of_getElem? (i := 146) rfl) rfl
theorem jw_1107 : (Jvm.Cond.code ({ cls := "CoinNode$Chain", name := "isAbove", desc := "([B[I)Z" } : Jvm.MethodName) prog_3_method_17_code (5 : Nat) (Option.some Jvm.ClassFile.FieldType.boolean)) ∈ jws := jws_5 (List.mem_of_getElem? (i := 147) rfl) rfl
theorem jw_1108 : (Jvm.Cond.methodLink "CoinNode$Chain" (122 : Nat) ({ cls := "CoinNode$Block", name := "isShaped", desc := "()Z" } : Jvm.MethodName)) ∈ jws := jws_5 (List.mem_of_getElem? (i := 148) rfl) rfl
theorem jw_1109 : (Jvm.Cond.instanceMethod ({ cls := "CoinNode$Block", name := "isShaped", desc := "()Z" } : Jvm.MethodName)) ∈ jws := jws_5 (List.mem_of_getElem? (i := 149) rfl) rfl
theorem jw_1110 : (Jvm.Cond.selects "CoinNode$Block" ({ cls := "CoinNode$Block", name := "isShaped", desc := "()Z" } : Jvm.MethodName) ({ cls := "CoinNode$Block", name := "isShaped", desc := "()Z" } : Jvm.MethodName)) ∈ jws := jws_5 (List.mem_of_getElem? (i := 150) rfl) rfl
theorem jw_1111 : (Jvm.Cond.code ({ cls := "CoinNode$Block", name := "isShaped", desc := "()Z" } : Jvm.MethodName) prog_2_method_3_code (3 : Nat) (Option.some Jvm.ClassFile.FieldType.boolean)) ∈ jws := jws_5 (List.mem_of_getElem? (i := 151) rfl) rfl
theorem jw_1112 : (Jvm.Cond.methodLink "CoinNode$Block" (69 : Nat) ({ cls := "CoinNode$Tx", name := "inputScript", desc := "(I)I" } : Jvm.MethodName)) ∈ jws := jws_5 (List.mem_of_getElem? (i := 152) rfl) rfl
theorem jw_1113 : (Jvm.Cond.methodLink "CoinNode$Block" (73 : Nat) ({ cls := "CoinNode$Tx", name := "scriptSize", desc := "(I)I" } : Jvm.MethodName)) ∈ jws := jws_5 (List.mem_of_getElem? (i := 153) rfl) rfl
theorem jw_1114 : (Jvm.Cond.methodLink "CoinNode$Chain" (126 : Nat) ({ cls := "CoinNode$Block", name := "isRooted", desc := "([B[BLCoinNode$Hash;)Z" } : Jvm.MethodName)) ∈ jws := jws_5 (List.mem_of_getElem? (i := 154) rfl) rfl
theorem jw_1115 : (Jvm.Cond.instanceMethod ({ cls := "CoinNode$Block", name := "isRooted", desc := "([B[BLCoinNode$Hash;)Z" } : Jvm.MethodName)) ∈ jws := jws_5 (List.mem_of_getElem? (i := 155) rfl) rfl
theorem jw_1116 : (Jvm.Cond.selects "CoinNode$Block" ({ cls := "CoinNode$Block", name := "isRooted", desc := "([B[BLCoinNode$Hash;)Z" } : Jvm.MethodName) ({ cls := "CoinNode$Block", name := "isRooted", desc := "([B[BLCoinNode$Hash;)Z" } : Jvm.MethodName)) ∈ jws := jws_5 (List.mem_of_getElem? (i := 156) rfl) rfl
theorem jw_1117 : (Jvm.Cond.code ({ cls := "CoinNode$Block", name := "isRooted", desc := "([B[BLCoinNode$Hash;)Z" } : Jvm.MethodName) prog_2_method_4_code (9 : Nat) (Option.some Jvm.ClassFile.FieldType.boolean)) ∈ jws := jws_5 (List.mem_of_getElem? (i := 157) rfl) rfl
theorem jw_1118 : (Jvm.Cond.methodLink "CoinNode$Block" (76 : Nat) ({ cls := "java/lang/Math", name := "min", desc := "(II)I" } : Jvm.MethodName)) ∈ jws := jws_5 (List.mem_of_getElem? (i := 158) rfl) rfl
theorem jw_1119 : (Jvm.Cond.methodLink "CoinNode$Block" (82 : Nat) ({ cls := "java/lang/System", name := "arraycopy", desc := "(Ljava/lang/Object;ILjava/lang/Object;II)V" } : Jvm.MethodName)) ∈ jws := jws_5 (List.mem_of_getElem? (i := 159) rfl) rfl
theorem jw_1120 : (Jvm.Cond.methodLink "CoinNode$Block" (88 : Nat) ({ cls := "CoinNode$Hash", name := "same", desc := "([BI[BI)Z" } : Jvm.MethodName)) ∈ jws := jws_5 (List.mem_of_getElem? (i := 160) rfl) rfl
theorem jw_1121 : (Jvm.Cond.methodLink "CoinNode$Chain" (130 : Nat) ({ cls := "CoinNode$Block", name := "isFaulty", desc := "()Z" } : Jvm.MethodName)) ∈ jws := jws_5 (List.mem_of_getElem? (i := 161) rfl) rfl
theorem jw_1122 : (Jvm.Cond.instanceMethod ({ cls := "CoinNode$Block", name := "isFaulty", desc := "()Z" } : Jvm.MethodName)) ∈ jws := jws_5 (List.mem_of_getElem? (i := 162) rfl) rfl
theorem jw_1123 : (Jvm.Cond.selects "CoinNode$Block" ({ cls := "CoinNode$Block", name := "isFaulty", desc := "()Z" } : Jvm.MethodName) ({ cls := "CoinNode$Block", name := "isFaulty", desc := "()Z" } : Jvm.MethodName)) ∈ jws := jws_5 (List.mem_of_getElem? (i := 163) rfl) rfl
theorem jw_1124 : (Jvm.Cond.code ({ cls := "CoinNode$Block", name := "isFaulty", desc := "()Z" } : Jvm.MethodName) prog_2_method_5_code (4 : Nat) (Option.some Jvm.ClassFile.FieldType.boolean)) ∈ jws := jws_5 (List.mem_of_getElem? (i := 164) rfl) rfl
theorem jw_1125 : (Jvm.Cond.methodLink "CoinNode$Block" (95 : Nat) ({ cls := "CoinNode$Tx", name := "isTooMuch", desc := "()Z" } : Jvm.MethodName)) ∈ jws := jws_5 (List.mem_of_getElem? (i := 165) rfl) rfl
theorem jw_1126 : (Jvm.Cond.methodLink "CoinNode$Block" (99 : Nat) ({ cls := "CoinNode$Tx", name := "fault", desc := "()I" } : Jvm.MethodName)) ∈ jws := jws_5 (List.mem_of_getElem? (i := 166) rfl) rfl
theorem jw_1127 : (Jvm.Cond.methodLink "CoinNode" (104 : Nat) ({ cls := "CoinNode$Chain", name := "adopt", desc := "(LCoinNode$Block;)I" } : Jvm.MethodName)) ∈ jws := jws_5 (List.mem_of_getElem? (i := 167) rfl) rfl
theorem jw_1128 : (Jvm.Cond.instanceMethod ({ cls := "CoinNode$Chain", name := "adopt", desc := "(LCoinNode$Block;)I" } : Jvm.MethodName)) ∈ jws := jws_5 (List.mem_of_getElem? (i := 168) rfl) rfl
theorem jw_1129 : (Jvm.Cond.selects "CoinNode$Chain" ({ cls := "CoinNode$Chain", name := "adopt", desc := "(LCoinNode$Block;)I" } : Jvm.MethodName) ({ cls := "CoinNode$Chain", name := "adopt", desc := "(LCoinNode$Block;)I" } : Jvm.MethodName)) ∈ jws := jws_5 (List.mem_of_getElem? (i := 169) rfl) rfl
theorem jw_1130 : (Jvm.Cond.code ({ cls := "CoinNode$Chain", name := "adopt", desc := "(LCoinNode$Block;)I" } : Jvm.MethodName) prog_3_method_5_code (9 : Nat) (Option.some Jvm.ClassFile.FieldType.int)) ∈ jws := jws_5 (List.mem_of_getElem? (i := 170) rfl) rfl
theorem jw_1131 : (Jvm.Cond.methodLink "CoinNode$Chain" (136 : Nat) ({ cls := "CoinNode$Chain", name := "setWork", desc := "(LCoinNode$Block;)V" } : Jvm.MethodName)) ∈ jws := jws_5 (List.mem_of_getElem? (i := 171) rfl) rfl
theorem jw_1133 : (Jvm.Cond.instanceMethod ({ cls := "CoinNode$Chain", name := "setWork", desc := "(LCoinNode$Block;)V" } : Jvm.MethodName)) ∈ jws := jws_5 (List.mem_of_getElem? (i := 173) rfl) rfl
theorem jw_1134 : (Jvm.Cond.code ({ cls := "CoinNode$Chain", name := "setWork", desc := "(LCoinNode$Block;)V" } : Jvm.MethodName) prog_3_method_18_code (7 : Nat) (Option.none : Option Jvm.ClassFile.FieldType)) ∈ jws := jws_5 (List.mem_of_getElem? (i := 174) rfl) rfl
theorem jw_1135 : (Jvm.Cond.methodLink "CoinNode$Chain" (140 : Nat) ({ cls := "CoinNode$Chain", name := "best", desc := "()LCoinNode$Block;" } : Jvm.MethodName)) ∈ jws := jws_5 (List.mem_of_getElem? (i := 175) rfl) rfl
theorem jw_1137 : (Jvm.Cond.instanceMethod ({ cls := "CoinNode$Chain", name := "best", desc := "()LCoinNode$Block;" } : Jvm.MethodName)) ∈ jws := jws_5 (List.mem_of_getElem? (i := 177) rfl) rfl
theorem jw_1138 : (Jvm.Cond.code ({ cls := "CoinNode$Chain", name := "best", desc := "()LCoinNode$Block;" } : Jvm.MethodName) prog_3_method_6_code (5 : Nat) (Option.some (Jvm.ClassFile.FieldType.object "CoinNode$Block"))) ∈ jws := jws_5 (List.mem_of_getElem? (i := 178) rfl) rfl
theorem jw_1139 : (Jvm.Cond.methodLink "CoinNode$Chain" (144 : Nat) ({ cls := "CoinNode$Chain", name := "layWay", desc := "(LCoinNode$Block;)I" } : Jvm.MethodName)) ∈ jws := jws_5 (List.mem_of_getElem? (i := 179) rfl) rfl
theorem jw_1141 : (Jvm.Cond.instanceMethod ({ cls := "CoinNode$Chain", name := "layWay", desc := "(LCoinNode$Block;)I" } : Jvm.MethodName)) ∈ jws := jws_5 (List.mem_of_getElem? (i := 181) rfl) rfl
theorem jw_1142 : (Jvm.Cond.code ({ cls := "CoinNode$Chain", name := "layWay", desc := "(LCoinNode$Block;)I" } : Jvm.MethodName) prog_3_method_7_code (4 : Nat) (Option.some Jvm.ClassFile.FieldType.int)) ∈ jws := jws_5 (List.mem_of_getElem? (i := 182) rfl) rfl
theorem jw_1143 : (Jvm.Cond.methodLink "CoinNode$Chain" (171 : Nat) ({ cls := "CoinNode$Chain", name := "at", desc := "(I)LCoinNode$Block;" } : Jvm.MethodName)) ∈ jws := jws_5 (List.mem_of_getElem? (i := 183) rfl) rfl
theorem jw_1144 : (Jvm.Cond.instanceMethod ({ cls := "CoinNode$Chain", name := "at", desc := "(I)LCoinNode$Block;" } : Jvm.MethodName)) ∈ jws := jws_5 (List.mem_of_getElem? (i := 184) rfl) rfl
theorem jw_1145 : (Jvm.Cond.selects "CoinNode$Chain" ({ cls := "CoinNode$Chain", name := "at", desc := "(I)LCoinNode$Block;" } : Jvm.MethodName) ({ cls := "CoinNode$Chain", name := "at", desc := "(I)LCoinNode$Block;" } : Jvm.MethodName)) ∈ jws := jws_5 (List.mem_of_getElem? (i := 185) rfl) rfl
theorem jw_1146 : (Jvm.Cond.code ({ cls := "CoinNode$Chain", name := "at", desc := "(I)LCoinNode$Block;" } : Jvm.MethodName) prog_3_method_2_code (2 : Nat) (Option.some (Jvm.ClassFile.FieldType.object "CoinNode$Block"))) ∈ jws := jws_5 (List.mem_of_getElem? (i := 186) rfl) rfl
theorem jw_1147 : (Jvm.Cond.methodLink "CoinNode$Chain" (147 : Nat) ({ cls := "CoinNode$Chain", name := "replay", desc := "(I)V" } : Jvm.MethodName)) ∈ jws := jws_5 (List.mem_of_getElem? (i := 187) rfl) rfl
theorem jw_1149 : (Jvm.Cond.instanceMethod ({ cls := "CoinNode$Chain", name := "replay", desc := "(I)V" } : Jvm.MethodName)) ∈ jws := jws_5 (List.mem_of_getElem? (i := 189) rfl) rfl
theorem jw_1150 : (Jvm.Cond.code ({ cls := "CoinNode$Chain", name := "replay", desc := "(I)V" } : Jvm.MethodName) prog_3_method_8_code (3 : Nat) (Option.none : Option Jvm.ClassFile.FieldType)) ∈ jws := jws_5 (List.mem_of_getElem? (i := 190) rfl) rfl
theorem jw_1151 : (Jvm.Cond.methodLink "CoinNode$Chain" (175 : Nat) ({ cls := "CoinNode$Coins", name := "clear", desc := "()V" } : Jvm.MethodName)) ∈ jws := jws_5 (List.mem_of_getElem? (i := 191) rfl) rfl
theorem jw_1152 : (Jvm.Cond.instanceMethod ({ cls := "CoinNode$Coins", name := "clear", desc := "()V" } : Jvm.MethodName)) ∈ jws := jws_5 (List.mem_of_getElem? (i := 192) rfl) rfl
theorem jw_1153 : (Jvm.Cond.selects "CoinNode$Coins" ({ cls := "CoinNode$Coins", name := "clear", desc := "()V" } : Jvm.MethodName) ({ cls := "CoinNode$Coins", name := "clear", desc := "()V" } : Jvm.MethodName)) ∈ jws := jws_5 (List.mem_of_getElem? (i := 193) rfl) rfl
theorem jw_1154 : (Jvm.Cond.code ({ cls := "CoinNode$Coins", name := "clear", desc := "()V" } : Jvm.MethodName) prog_4_method_2_code (1 : Nat) (Option.none : Option Jvm.ClassFile.FieldType)) ∈ jws := jws_5 (List.mem_of_getElem? (i := 194) rfl) rfl
theorem jw_1155 : (Jvm.Cond.methodLink "CoinNode$Chain" (178 : Nat) ({ cls := "CoinNode$Coins", name := "apply", desc := "(LCoinNode$Block;)V" } : Jvm.MethodName)) ∈ jws := jws_5 (List.mem_of_getElem? (i := 195) rfl) rfl
theorem jw_1156 : (Jvm.Cond.instanceMethod ({ cls := "CoinNode$Coins", name := "apply", desc := "(LCoinNode$Block;)V" } : Jvm.MethodName)) ∈ jws := jws_5 (List.mem_of_getElem? (i := 196) rfl) rfl
theorem jw_1157 : (Jvm.Cond.selects "CoinNode$Coins" ({ cls := "CoinNode$Coins", name := "apply", desc := "(LCoinNode$Block;)V" } : Jvm.MethodName) ({ cls := "CoinNode$Coins", name := "apply", desc := "(LCoinNode$Block;)V" } : Jvm.MethodName)) ∈ jws := jws_5 (List.mem_of_getElem? (i := 197) rfl) rfl
theorem jw_1158 : (Jvm.Cond.code ({ cls := "CoinNode$Coins", name := "apply", desc := "(LCoinNode$Block;)V" } : Jvm.MethodName) prog_4_method_8_code (3 : Nat) (Option.none : Option Jvm.ClassFile.FieldType)) ∈ jws := jws_5 (List.mem_of_getElem? (i := 198) rfl) rfl
theorem jw_1159 : (Jvm.Cond.methodLink "CoinNode$Coins" (89 : Nat) ({ cls := "CoinNode$Coins", name := "change", desc := "(LCoinNode$Tx;IZ)V" } : Jvm.MethodName)) ∈ jws := jws_5 (List.mem_of_getElem? (i := 199) rfl) rfl
theorem jw_1161 : (Jvm.Cond.instanceMethod ({ cls := "CoinNode$Coins", name := "change", desc := "(LCoinNode$Tx;IZ)V" } : Jvm.MethodName)) ∈ jws := jws_5 (List.mem_of_getElem? (i := 201) rfl) rfl
theorem jw_1162 : (Jvm.Cond.code ({ cls := "CoinNode$Coins", name := "change", desc := "(LCoinNode$Tx;IZ)V" } : Jvm.MethodName) prog_4_method_11_code (6 : Nat) (Option.none : Option Jvm.ClassFile.FieldType)) ∈ jws := jws_5 (List.mem_of_getElem? (i := 202) rfl) rfl
theorem jw_1163 : (Jvm.Cond.methodLink "CoinNode$Coins" (98 : Nat) ({ cls := "CoinNode$Tx", name := "index", desc := "(I)I" } : Jvm.MethodName)) ∈ jws := jws_5 (List.mem_of_getElem? (i := 203) rfl) rfl
theorem jw_1164 : (Jvm.Cond.methodLink "CoinNode$Coins" (102 : Nat) ({ cls := "CoinNode$Coins", name := "find", desc := "([BII)I" } : Jvm.MethodName)) ∈ jws := jws_5 (List.mem_of_getElem? (i := 204) rfl) rfl
theorem jw_1165 : (Jvm.Cond.methodLink "CoinNode$Coins" (49 : Nat) ({ cls := "CoinNode$Tx", name := "worth", desc := "(I)J" } : Jvm.MethodName)) ∈ jws := jws_5 (List.mem_of_getElem? (i := 205) rfl) rfl
theorem jw_1166 : (Jvm.Cond.methodLink "CoinNode$Chain" (151 : Nat) ({ cls := "CoinNode$Coins", name := "judge", desc := "(LCoinNode$Block;LCoinNode$Scripts;)I" } : Jvm.MethodName)) ∈ jws := jws_5 (List.mem_of_getElem? (i := 206) rfl) rfl
theorem jw_1167 : (Jvm.Cond.instanceMethod ({ cls := "CoinNode$Coins", name := "judge", desc := "(LCoinNode$Block;LCoinNode$Scripts;)I" } : Jvm.MethodName)) ∈ jws := jws_5 (List.mem_of_getElem? (i := 207) rfl) rfl
theorem jw_1168 : (Jvm.Cond.selects "CoinNode$Coins" ({ cls := "CoinNode$Coins", name := "judge", desc := "(LCoinNode$Block;LCoinNode$Scripts;)I" } : Jvm.MethodName) ({ cls := "CoinNode$Coins", name := "judge", desc := "(LCoinNode$Block;LCoinNode$Scripts;)I" } : Jvm.MethodName)) ∈ jws := jws_5 (List.mem_of_getElem? (i := 208) rfl) rfl
theorem jw_1169 : (Jvm.Cond.code ({ cls := "CoinNode$Coins", name := "judge", desc := "(LCoinNode$Block;LCoinNode$Scripts;)I" } : Jvm.MethodName) prog_4_method_7_code (8 : Nat) (Option.some Jvm.ClassFile.FieldType.int)) ∈ jws := jws_5 (List.mem_of_getElem? (i := 209) rfl) rfl
theorem jw_1170 : (Jvm.Cond.methodLink "CoinNode$Coins" (57 : Nat) ({ cls := "CoinNode$Scripts", name := "begin", desc := "(I)V" } : Jvm.MethodName)) ∈ jws := jws_5 (List.mem_of_getElem? (i := 210) rfl) rfl
theorem jw_1171 : (Jvm.Cond.methodLink "CoinNode$Coins" (71 : Nat) ({ cls := "CoinNode$Coins", name := "take", desc := "(LCoinNode$Tx;I)I" } : Jvm.MethodName)) ∈ jws := jws_5 (List.mem_of_getElem? (i := 211) rfl) rfl
theorem jw_1173 : (Jvm.Cond.instanceMethod ({ cls := "CoinNode$Coins", name := "take", desc := "(LCoinNode$Tx;I)I" } : Jvm.MethodName)) ∈ jws := jws_5 (List.mem_of_getElem? (i := 213) rfl) rfl
theorem jw_1174 : (Jvm.Cond.code ({ cls := "CoinNode$Coins", name := "take", desc := "(LCoinNode$Tx;I)I" } : Jvm.MethodName) prog_4_method_9_code (6 : Nat) (Option.some Jvm.ClassFile.FieldType.int)) ∈ jws := jws_5 (List.mem_of_getElem? (i := 214) rfl) rfl
theorem jw_1175 : (Jvm.Cond.methodLink "CoinNode$Coins" (106 : Nat) ({ cls := "CoinNode$Coins", name := "isUnripe", desc := "(II)Z" } : Jvm.MethodName)) ∈ jws := jws_5 (List.mem_of_getElem? (i := 215) rfl) rfl
theorem jw_1176 : (Jvm.Cond.methodLink "CoinNode$Coins" (110 : Nat) ({ cls := "CoinNode$Coins", name := "worth", desc := "(I)J" } : Jvm.MethodName)) ∈ jws := jws_5 (List.mem_of_getElem? (i := 216) rfl) rfl
theorem jw_1177 : (Jvm.Cond.instanceMethod ({ cls := "CoinNode$Coins", name := "worth", desc := "(I)J" } : Jvm.MethodName)) ∈ jws := jws_5 (List.mem_of_getElem? (i := 217) rfl) rfl
theorem jw_1178 : (Jvm.Cond.selects "CoinNode$Coins" ({ cls := "CoinNode$Coins", name := "worth", desc := "(I)J" } : Jvm.MethodName) ({ cls := "CoinNode$Coins", name := "worth", desc := "(I)J" } : Jvm.MethodName)) ∈ jws := jws_5 (List.mem_of_getElem? (i := 218) rfl) rfl
theorem jw_1179 : (Jvm.Cond.code ({ cls := "CoinNode$Coins", name := "worth", desc := "(I)J" } : Jvm.MethodName) prog_4_method_5_code (2 : Nat) (Option.some Jvm.ClassFile.FieldType.long)) ∈ jws := jws_5 (List.mem_of_getElem? (i := 219) rfl) rfl
theorem jw_1180 : (Jvm.Cond.methodLink "CoinNode$Coins" (75 : Nat) ({ cls := "CoinNode$Scripts", name := "pass", desc := "(LCoinNode$Tx;[LCoinNode$Tx;[I)Z" } : Jvm.MethodName)) ∈ jws := jws_5 (List.mem_of_getElem? (i := 220) rfl) rfl
theorem jw_1181 : (Jvm.Cond.methodLink "CoinNode$Coins" (82 : Nat) ({ cls := "CoinNode$Coins", name := "faultOfMaking", desc := "(LCoinNode$Tx;I)I" } : Jvm.MethodName)) ∈ jws := jws_5 (List.mem_of_getElem? (i := 221) rfl) rfl
theorem jw_1183 : (Jvm.Cond.instanceMethod ({ cls := "CoinNode$Coins", name := "faultOfMaking", desc := "(LCoinNode$Tx;I)I" } : Jvm.MethodName)) ∈ jws := jws_5 (List.mem_of_getElem? (i := 223) rfl) rfl
theorem jw_1184 : (Jvm.Cond.code ({ cls := "CoinNode$Coins", name := "faultOfMaking", desc := "(LCoinNode$Tx;I)I" } : Jvm.MethodName) prog_4_method_10_code (4 : Nat) (Option.some Jvm.ClassFile.FieldType.int)) ∈ jws := jws_5 (List.mem_of_getElem? (i := 224) rfl) rfl
theorem jw_1185 : (Jvm.Cond.constantLong "CoinNode$Coins" (93 : Nat) (5000000000 : Int64)) ∈ jws := jws_5 (List.mem_of_getElem? (i := 225) rfl) rfl
theorem jw_1186 : (Jvm.Cond.methodLink "CoinNode$Chain" (157 : Nat) ({ cls := "CoinNode$Chain", name := "move", desc := "(ILCoinNode$Block;)V" } : Jvm.MethodName)) ∈ jws := jws_5 (List.mem_of_getElem? (i := 226) rfl) rfl
theorem jw_1188 : (Jvm.Cond.instanceMethod ({ cls := "CoinNode$Chain", name := "move", desc := "(ILCoinNode$Block;)V" } : Jvm.MethodName)) ∈ jws := jws_5 (List.mem_of_getElem? (i := 228) rfl) rfl
theorem jw_1189 : (Jvm.Cond.code ({ cls := "CoinNode$Chain", name := "move", desc := "(ILCoinNode$Block;)V" } : Jvm.MethodName) prog_3_method_9_code (4 : Nat) (Option.none : Option Jvm.ClassFile.FieldType)) ∈ jws := jws_5 (List.mem_of_getElem? (i := 229) rfl) rfl
theorem jw_1190 : (Jvm.Cond.methodLink "CoinNode$Chain" (161 : Nat) ({ cls := "CoinNode$Chain", name := "condemn", desc := "(LCoinNode$Block;)V" } : Jvm.MethodName)) ∈ jws := jws_5 (List.mem_of_getElem? (i := 230) rfl) rfl
theorem jw_1192 : (Jvm.Cond.instanceMethod ({ cls := "CoinNode$Chain", name := "condemn", desc := "(LCoinNode$Block;)V" } : Jvm.MethodName)) ∈ jws := jws_5 (List.mem_of_getElem? (i := 232) rfl) rfl
theorem jw_1193 : (Jvm.Cond.code ({ cls := "CoinNode$Chain", name := "condemn", desc := "(LCoinNode$Block;)V" } : Jvm.MethodName) prog_3_method_10_code (4 : Nat) (Option.none : Option Jvm.ClassFile.FieldType)) ∈ jws := jws_5 (List.mem_of_getElem? (i := 233) rfl) rfl
theorem jw_1194 : (Jvm.Cond.methodLink "CoinNode" (117 : Nat) ({ cls := "CoinNode$Pool", name := "makeAnew", desc := "([LCoinNode$Block;II)V" } : Jvm.MethodName)) ∈ jws := jws_5 (List.mem_of_getElem? (i := 234) rfl) rfl
theorem jw_1195 : (Jvm.Cond.instanceMethod ({ cls := "CoinNode$Pool", name := "makeAnew", desc := "([LCoinNode$Block;II)V" } : Jvm.MethodName)) ∈ jws := jws_5 (List.mem_of_getElem? (i := 235) rfl) rfl
theorem jw_1196 : (Jvm.Cond.selects "CoinNode$Pool" ({ cls := "CoinNode$Pool", name := "makeAnew", desc := "([LCoinNode$Block;II)V" } : Jvm.MethodName) ({ cls := "CoinNode$Pool", name := "makeAnew", desc := "([LCoinNode$Block;II)V" } : Jvm.MethodName)) ∈ jws := jws_5 (List.mem_of_getElem? (i := 236) rfl) rfl
theorem jw_1197 : (Jvm.Cond.code ({ cls := "CoinNode$Pool", name := "makeAnew", desc := "([LCoinNode$Block;II)V" } : Jvm.MethodName) prog_8_method_5_code (7 : Nat) (Option.none : Option Jvm.ClassFile.FieldType)) ∈ jws := jws_5 (List.mem_of_getElem? (i := 237) rfl) rfl
theorem jw_1198 : (Jvm.Cond.methodLink "CoinNode$Pool" (95 : Nat) ({ cls := "java/lang/System", name := "arraycopy", desc := "(Ljava/lang/Object;ILjava/lang/Object;II)V" } : Jvm.MethodName)) ∈ jws := jws_5 (List.mem_of_getElem? (i := 238) rfl) rfl
theorem jw_1199 : (Jvm.Cond.methodLink "CoinNode$Pool" (104 : Nat) ({ cls := "CoinNode$Pool", name := "offer", desc := "(LCoinNode$Tx;IZ)I" } : Jvm.MethodName)) ∈ jws := jws_5 (List.mem_of_getElem? (i := 239) rfl) rfl
theorem jw_1200 : (Jvm.Cond.methodLink "CoinNode" (121 : Nat) ({ cls := "CoinNode", name := "answerBlock", desc := "(ILCoinNode$Block;IZ)V" } : Jvm.MethodName)) ∈ jws := jws_6 (List.mem_of_getElem? (i := 0) rfl) rfl
theorem jw_1202 : (Jvm.Cond.instanceMethod ({ cls := "CoinNode", name := "answerBlock", desc := "(ILCoinNode$Block;IZ)V" } : Jvm.MethodName)) ∈ jws := jws_6 (List.mem_of_getElem? (i := 2) rfl) rfl
theorem jw_1203 : (Jvm.Cond.code ({ cls := "CoinNode", name := "answerBlock", desc := "(ILCoinNode$Block;IZ)V" } : Jvm.MethodName) prog_1_method_13_code (5 : Nat) (Option.none : Option Jvm.ClassFile.FieldType)) ∈ jws := jws_6 (List.mem_of_getElem? (i := 3) rfl) rfl
theorem jw_1204 : (Jvm.Cond.methodLink "CoinNode" (199 : Nat) ({ cls := "CoinNode", name := "askWhatIsBehind", desc := "(I)V" } : Jvm.MethodName)) ∈ jws := jws_6 (List.mem_of_getElem? (i := 4) rfl) rfl
theorem jw_1206 : (Jvm.Cond.instanceMethod ({ cls := "CoinNode", name := "askWhatIsBehind", desc := "(I)V" } : Jvm.MethodName)) ∈ jws := jws_6 (List.mem_of_getElem? (i := 6) rfl) rfl
theorem jw_1207 : (Jvm.Cond.code ({ cls := "CoinNode", name := "askWhatIsBehind", desc := "(I)V" } : Jvm.MethodName) prog_1_method_16_code (7 : Nat) (Option.none : Option Jvm.ClassFile.FieldType)) ∈ jws := jws_6 (List.mem_of_getElem? (i := 7) rfl) rfl
theorem jw_1208 : (Jvm.Cond.methodLink "CoinNode" (144 : Nat) ({ cls := "CoinNode$Chain", name := "at", desc := "(I)LCoinNode$Block;" } : Jvm.MethodName)) ∈ jws := jws_6 (List.mem_of_getElem? (i := 8) rfl) rfl
theorem jw_1209 : (Jvm.Cond.methodLink "CoinNode" (214 : Nat) ({ cls := "java/lang/Math", name := "max", desc := "(II)I" } : Jvm.MethodName)) ∈ jws := jws_6 (List.mem_of_getElem? (i := 9) rfl) rfl
theorem jw_1210 : (Jvm.Cond.methodLink "CoinNode" (125 : Nat) ({ cls := "CoinNode", name := "answerWhatIsBehind", desc := "(I[B)V" } : Jvm.MethodName)) ∈ jws := jws_6 (List.mem_of_getElem? (i := 10) rfl) rfl
theorem jw_1212 : (Jvm.Cond.instanceMethod ({ cls := "CoinNode", name := "answerWhatIsBehind", desc := "(I[B)V" } : Jvm.MethodName)) ∈ jws := jws_6 (List.mem_of_getElem? (i := 12) rfl) rfl
theorem jw_1213 : (Jvm.Cond.code ({ cls := "CoinNode", name := "answerWhatIsBehind", desc := "(I[B)V" } : Jvm.MethodName) prog_1_method_17_code (8 : Nat) (Option.none : Option Jvm.ClassFile.FieldType)) ∈ jws := jws_6 (List.mem_of_getElem? (i := 13) rfl) rfl
theorem jw_1214 : (Jvm.Cond.methodLink "CoinNode" (217 : Nat) ({ cls := "CoinNode$Chain", name := "find", desc := "([BI)LCoinNode$Block;" } : Jvm.MethodName)) ∈ jws := jws_6 (List.mem_of_getElem? (i := 14) rfl) rfl
theorem jw_1215 : (Jvm.Cond.methodLink "CoinNode" (138 : Nat) ({ cls := "java/lang/Math", name := "min", desc := "(II)I" } : Jvm.MethodName)) ∈ jws := jws_6 (List.mem_of_getElem? (i := 15) rfl) rfl
theorem jw_1216 : (Jvm.Cond.methodLink "CoinNode" (128 : Nat) ({ cls := "CoinNode", name := "answerGive", desc := "(I[B)V" } : Jvm.MethodName)) ∈ jws := jws_6 (List.mem_of_getElem? (i := 16) rfl) rfl
theorem jw_1218 : (Jvm.Cond.instanceMethod ({ cls := "CoinNode", name := "answerGive", desc := "(I[B)V" } : Jvm.MethodName)) ∈ jws := jws_6 (List.mem_of_getElem? (i := 18) rfl) rfl
theorem jw_1219 : (Jvm.Cond.code ({ cls := "CoinNode", name := "answerGive", desc := "(I[B)V" } : Jvm.MethodName) prog_1_method_18_code (6 : Nat) (Option.none : Option Jvm.ClassFile.FieldType)) ∈ jws := jws_6 (List.mem_of_getElem? (i := 19) rfl) rfl
theorem jw_1220 : (Jvm.Cond.methodLink "CoinNode" (223 : Nat) ({ cls := "CoinNode", name := "isList", desc := "([B)Z" } : Jvm.MethodName)) ∈ jws := jws_6 (List.mem_of_getElem? (i := 20) rfl) rfl
theorem jw_1221 : (Jvm.Cond.static ({ cls := "CoinNode", name := "isList", desc := "([B)Z" } : Jvm.MethodName)) ∈ jws := jws_6 (List.mem_of_getElem? (i := 21) rfl) rfl
theorem jw_1222 : (Jvm.Cond.code ({ cls := "CoinNode", name := "isList", desc := "([B)Z" } : Jvm.MethodName) prog_1_method_20_code (3 : Nat) (Option.some Jvm.ClassFile.FieldType.boolean)) ∈ jws := jws_6 (List.mem_of_getElem? (i := 22) rfl) rfl
theorem jw_1223 : (Jvm.Cond.methodLink "CoinNode" (227 : Nat) ({ cls := "CoinNode$Pool", name := "find", desc := "([BI)LCoinNode$Tx;" } : Jvm.MethodName)) ∈ jws := jws_6 (List.mem_of_getElem? (i := 23) rfl) rfl
theorem jw_1224 : (Jvm.Cond.methodLink "CoinNode" (131 : Nat) ({ cls := "CoinNode", name := "answerIHave", desc := "(I[B)V" } : Jvm.MethodName)) ∈ jws := jws_6 (List.mem_of_getElem? (i := 24) rfl) rfl
theorem jw_1226 : (Jvm.Cond.instanceMethod ({ cls := "CoinNode", name := "answerIHave", desc := "(I[B)V" } : Jvm.MethodName)) ∈ jws := jws_6 (List.mem_of_getElem? (i := 26) rfl) rfl
theorem jw_1227 : (Jvm.Cond.code ({ cls := "CoinNode", name := "answerIHave", desc := "(I[B)V" } : Jvm.MethodName) prog_1_method_19_code (6 : Nat) (Option.none : Option Jvm.ClassFile.FieldType)) ∈ jws := jws_6 (List.mem_of_getElem? (i := 27) rfl) rfl
theorem jw_1228 : (Jvm.Cond.methodLink "CoinNodeLaw" (23 : Nat) ({ cls := "CoinNode", name := "fetch", desc := "(I)J" } : Jvm.MethodName)) ∈ jws := jws_6 (List.mem_of_getElem? (i := 28) rfl) rfl
theorem jw_1229 : (Jvm.Cond.instanceMethod ({ cls := "CoinNode", name := "fetch", desc := "(I)J" } : Jvm.MethodName)) ∈ jws := jws_6 (List.mem_of_getElem? (i := 29) rfl) rfl
theorem jw_1230 : (Jvm.Cond.selects "CoinNode" ({ cls := "CoinNode", name := "fetch", desc := "(I)J" } : Jvm.MethodName) ({ cls := "CoinNode", name := "fetch", desc := "(I)J" } : Jvm.MethodName)) ∈ jws := jws_6 (List.mem_of_getElem? (i := 30) rfl) rfl
theorem jw_1231 : (Jvm.Cond.code ({ cls := "CoinNode", name := "fetch", desc := "(I)J" } : Jvm.MethodName) prog_1_method_4_code (8 : Nat) (Option.some Jvm.ClassFile.FieldType.long)) ∈ jws := jws_6 (List.mem_of_getElem? (i := 31) rfl) rfl
theorem jw_1232 : (Jvm.Cond.methodLink "CoinNodeLaw" (28 : Nat) ({ cls := "CoinNode", name := "block", desc := "(II)J" } : Jvm.MethodName)) ∈ jws := jws_6 (List.mem_of_getElem? (i := 32) rfl) rfl
theorem jw_1233 : (Jvm.Cond.instanceMethod ({ cls := "CoinNode", name := "block", desc := "(II)J" } : Jvm.MethodName)) ∈ jws := jws_6 (List.mem_of_getElem? (i := 33) rfl) rfl
theorem jw_1234 : (Jvm.Cond.selects "CoinNode" ({ cls := "CoinNode", name := "block", desc := "(II)J" } : Jvm.MethodName) ({ cls := "CoinNode", name := "block", desc := "(II)J" } : Jvm.MethodName)) ∈ jws := jws_6 (List.mem_of_getElem? (i := 34) rfl) rfl
theorem jw_1235 : (Jvm.Cond.code ({ cls := "CoinNode", name := "block", desc := "(II)J" } : Jvm.MethodName) prog_1_method_5_code (7 : Nat) (Option.some Jvm.ClassFile.FieldType.long)) ∈ jws := jws_6 (List.mem_of_getElem? (i := 35) rfl) rfl
theorem jw_1236 : (Jvm.Cond.methodLink "CoinNodeLaw" (35 : Nat) ({ cls := "CoinNode", name := "key", desc := "(JJJJI)V" } : Jvm.MethodName)) ∈ jws := jws_6 (List.mem_of_getElem? (i := 36) rfl) rfl
theorem jw_1237 : (Jvm.Cond.instanceMethod ({ cls := "CoinNode", name := "key", desc := "(JJJJI)V" } : Jvm.MethodName)) ∈ jws := jws_6 (List.mem_of_getElem? (i := 37) rfl) rfl
theorem jw_1238 : (Jvm.Cond.selects "CoinNode" ({ cls := "CoinNode", name := "key", desc := "(JJJJI)V" } : Jvm.MethodName) ({ cls := "CoinNode", name := "key", desc := "(JJJJI)V" } : Jvm.MethodName)) ∈ jws := jws_6 (List.mem_of_getElem? (i := 38) rfl) rfl
theorem jw_1239 : (Jvm.Cond.code ({ cls := "CoinNode", name := "key", desc := "(JJJJI)V" } : Jvm.MethodName) prog_1_method_6_code (12 : Nat) (Option.none : Option Jvm.ClassFile.FieldType)) ∈ jws := jws_6 (List.mem_of_getElem? (i := 39) rfl) rfl
theorem jw_1240 : (Jvm.Cond.methodLink "CoinNodeLaw" (40 : Nat) ({ cls := "CoinNode", name := "value", desc := "()J" } : Jvm.MethodName)) ∈ jws := jws_6 (List.mem_of_getElem? (i := 40) rfl) rfl
theorem jw_1241 : (Jvm.Cond.instanceMethod ({ cls := "CoinNode", name := "value", desc := "()J" } : Jvm.MethodName)) ∈ jws := jws_6 (List.mem_of_getElem? (i := 41) rfl) rfl
theorem jw_1242 : (Jvm.Cond.selects "CoinNode" ({ cls := "CoinNode", name := "value", desc := "()J" } : Jvm.MethodName) ({ cls := "CoinNode", name := "value", desc := "()J" } : Jvm.MethodName)) ∈ jws := jws_6 (List.mem_of_getElem? (i := 42) rfl) rfl
theorem jw_1243 : (Jvm.Cond.code ({ cls := "CoinNode", name := "value", desc := "()J" } : Jvm.MethodName) prog_1_method_7_code (2 : Nat) (Option.some Jvm.ClassFile.FieldType.long)) ∈ jws := jws_6 (List.mem_of_getElem? (i := 43) rfl) rfl
theorem jw_1244 : (Jvm.Cond.methodLink "CoinNode" (154 : Nat) ({ cls := "CoinNode$Coins", name := "find", desc := "([BII)I" } : Jvm.MethodName)) ∈ jws := jws_6 (List.mem_of_getElem? (i := 44) rfl) rfl
theorem jw_1245 : (Jvm.Cond.constantLong "CoinNode" (158 : Nat) (-1 : Int64)) ∈ jws := jws_6 (List.mem_of_getElem? (i := 45) rfl) rfl
theorem jw_1246 : (Jvm.Cond.methodLink "CoinNode" (160 : Nat) ({ cls := "CoinNode$Coins", name := "worth", desc := "(I)J" } : Jvm.MethodName)) ∈ jws := jws_6 (List.mem_of_getElem? (i := 46) rfl) rfl
theorem jw_1247 : (Jvm.Cond.methodLink "CoinNodeLaw" (45 : Nat) ({ cls := "CoinNode", name := "total", desc := "()J" } : Jvm.MethodName)) ∈ jws := jws_6 (List.mem_of_getElem? (i := 47) rfl) rfl
theorem jw_1248 : (Jvm.Cond.instanceMethod ({ cls := "CoinNode", name := "total", desc := "()J" } : Jvm.MethodName)) ∈ jws := jws_6 (List.mem_of_getElem? (i := 48) rfl) rfl
theorem jw_1249 : (Jvm.Cond.selects "CoinNode" ({ cls := "CoinNode", name := "total", desc := "()J" } : Jvm.MethodName) ({ cls := "CoinNode", name := "total", desc := "()J" } : Jvm.MethodName)) ∈ jws := jws_6 (List.mem_of_getElem? (i := 49) rfl) rfl
theorem jw_1250 : (Jvm.Cond.code ({ cls := "CoinNode", name := "total", desc := "()J" } : Jvm.MethodName) prog_1_method_8_code (1 : Nat) (Option.some Jvm.ClassFile.FieldType.long)) ∈ jws := jws_6 (List.mem_of_getElem? (i := 50) rfl) rfl
theorem jw_1251 : (Jvm.Cond.methodLink "CoinNodeLaw" (49 : Nat) ({ cls := "CoinNode", name := "count", desc := "(I)I" } : Jvm.MethodName)) ∈ jws := jws_6 (List.mem_of_getElem? (i := 51) rfl) rfl
theorem jw_1252 : (Jvm.Cond.instanceMethod ({ cls := "CoinNode", name := "count", desc := "(I)I" } : Jvm.MethodName)) ∈ jws := jws_6 (List.mem_of_getElem? (i := 52) rfl) rfl
theorem jw_1253 : (Jvm.Cond.selects "CoinNode" ({ cls := "CoinNode", name := "count", desc := "(I)I" } : Jvm.MethodName) ({ cls := "CoinNode", name := "count", desc := "(I)I" } : Jvm.MethodName)) ∈ jws := jws_6 (List.mem_of_getElem? (i := 53) rfl) rfl
theorem jw_1254 : (Jvm.Cond.code ({ cls := "CoinNode", name := "count", desc := "(I)I" } : Jvm.MethodName) prog_1_method_9_code (2 : Nat) (Option.some Jvm.ClassFile.FieldType.int)) ∈ jws := jws_6 (List.mem_of_getElem? (i := 54) rfl) rfl
theorem jw_1255 : (Jvm.Cond.methodLink "CoinNodeLaw" (54 : Nat) ({ cls := "CoinNode", name := "fees", desc := "()J" } : Jvm.MethodName)) ∈ jws := jws_6 (List.mem_of_getElem? (i := 55) rfl) rfl
theorem jw_1256 : (Jvm.Cond.instanceMethod ({ cls := "CoinNode", name := "fees", desc := "()J" } : Jvm.MethodName)) ∈ jws := jws_6 (List.mem_of_getElem? (i := 56) rfl) rfl
theorem jw_1257 : (Jvm.Cond.selects "CoinNode" ({ cls := "CoinNode", name := "fees", desc := "()J" } : Jvm.MethodName) ({ cls := "CoinNode", name := "fees", desc := "()J" } : Jvm.MethodName)) ∈ jws := jws_6 (List.mem_of_getElem? (i := 57) rfl) rfl
theorem jw_1258 : (Jvm.Cond.code ({ cls := "CoinNode", name := "fees", desc := "()J" } : Jvm.MethodName) prog_1_method_10_code (1 : Nat) (Option.some Jvm.ClassFile.FieldType.long)) ∈ jws := jws_6 (List.mem_of_getElem? (i := 58) rfl) rfl
theorem jw_1259 : (Jvm.Cond.methodLink "CoinNode" (176 : Nat) ({ cls := "CoinNode$Pool", name := "gain", desc := "()J" } : Jvm.MethodName)) ∈ jws := jws_6 (List.mem_of_getElem? (i := 59) rfl) rfl
theorem jw_1260 : (Jvm.Cond.instanceMethod ({ cls := "CoinNode$Pool", name := "gain", desc := "()J" } : Jvm.MethodName)) ∈ jws := jws_6 (List.mem_of_getElem? (i := 60) rfl) rfl
theorem jw_1261 : (Jvm.Cond.selects "CoinNode$Pool" ({ cls := "CoinNode$Pool", name := "gain", desc := "()J" } : Jvm.MethodName) ({ cls := "CoinNode$Pool", name := "gain", desc := "()J" } : Jvm.MethodName)) ∈ jws := jws_6 (List.mem_of_getElem? (i := 61) rfl) rfl
theorem jw_1262 : (Jvm.Cond.code ({ cls := "CoinNode$Pool", name := "gain", desc := "()J" } : Jvm.MethodName) prog_8_method_2_code (4 : Nat) (Option.some Jvm.ClassFile.FieldType.long)) ∈ jws := jws_6 (List.mem_of_getElem? (i := 62) rfl) rfl
theorem jw_1263 : (Jvm.Cond.classLink "CoinNodeLaw" (10 : Nat) "CoinNodeModel") ∈ jws := jws_6 (List.mem_of_getElem? (i := 63) rfl) rfl
theorem jw_1264 : (Jvm.Cond.instantiable "CoinNodeModel" (61 : Nat)) ∈ jws := jws_6 (List.mem_of_getElem? (i := 64) rfl) rfl
theorem jw_1265 : (Jvm.Cond.methodLink "CoinNodeLaw" (12 : Nat) ({ cls := "CoinNodeModel", name := "<init>", desc := "()V" } : Jvm.MethodName)) ∈ jws := jws_6 (List.mem_of_getElem? (i := 65) rfl) rfl
theorem jw_1266 : (Jvm.Cond.instanceMethod ({ cls := "CoinNodeModel", name := "<init>", desc := "()V" } : Jvm.MethodName)) ∈ jws := jws_6 (List.mem_of_getElem? (i := 66) rfl) rfl
theorem jw_1267 : (Jvm.Cond.code ({ cls := "CoinNodeModel", name := "<init>", desc := "()V" } : Jvm.MethodName) prog_14_method_2_code (2 : Nat) (Option.none : Option Jvm.ClassFile.FieldType)) ∈ jws := jws_6 (List.mem_of_getElem? (i := 67) rfl) rfl
theorem jw_1268 : (Jvm.Cond.methodLink "CoinNodeModel" (1 : Nat) ({ cls := "java/lang/Object", name := "<init>", desc := "()V" } : Jvm.MethodName)) ∈ jws := jws_6 (List.mem_of_getElem? (i := 68) rfl) rfl
theorem jw_1269 : (Jvm.Cond.classLink "CoinNodeModel" (7 : Nat) "CoinNodeModel$Hashes") ∈ jws := jws_6 (List.mem_of_getElem? (i := 69) rfl) rfl
theorem jw_1270 : (Jvm.Cond.instantiable "CoinNodeModel$Hashes" (4 : Nat)) ∈ jws := jws_6 (List.mem_of_getElem? (i := 70) rfl) rfl
theorem jw_1272 : (Jvm.Cond.instanceMethod ({ cls := "CoinNodeModel$Hashes", name := "<init>", desc := "()V" } : Jvm.MethodName)) ∈ jws := jws_6 (List.mem_of_getElem? (i := 72) rfl) rfl
theorem jw_1273 : (Jvm.Cond.code ({ cls := "CoinNodeModel$Hashes", name := "<init>", desc := "()V" } : Jvm.MethodName) prog_16_method_1_code (1 : Nat) (Option.none : Option Jvm.ClassFile.FieldType)) ∈ jws := jws_6 (List.mem_of_getElem? (i := 73) rfl) rfl
theorem jw_1274 : (Jvm.Cond.methodLink "CoinNodeModel$Hashes" (1 : Nat) ({ cls := "java/lang/Object", name := "<init>", desc := "()V" } : Jvm.MethodName)) ∈ jws := jws_6 (List.mem_of_getElem? (i := 74) rfl) rfl
theorem jw_1275 : (Jvm.Cond.fieldLink "CoinNodeModel$Hashes" (7 : Nat) "CoinNodeModel$Hashes" "row" "[I") ∈ jws := jws_6 (List.mem_of_getElem? (i := 75) rfl) rfl
theorem jw_1276 : (Jvm.Cond.fieldLink "CoinNodeModel$Hashes" (13 : Nat) "CoinNodeModel$Hashes" "h" "[I") ∈ jws := jws_6 (List.mem_of_getElem? (i := 76) rfl) rfl
theorem jw_1277 : (Jvm.Cond.fieldLink "CoinNodeModel$Hashes" (16 : Nat) "CoinNodeModel$Hashes" "v" "[I") ∈ jws := jws_6 (List.mem_of_getElem? (i := 77) rfl) rfl
theorem jw_1278 : (Jvm.Cond.fieldLink "CoinNodeModel$Hashes" (19 : Nat) "CoinNodeModel$Hashes" "once" "[B") ∈ jws := jws_6 (List.mem_of_getElem? (i := 78) rfl) rfl
theorem jw_1279 : (Jvm.Cond.laysFinal "CoinNodeModel$Hashes" "CoinNodeModel$Hashes" "row" "[I") ∈ jws := jws_6 (List.mem_of_getElem? (i := 79) rfl) rfl
theorem jw_1281 : (Jvm.Cond.laysFinal "CoinNodeModel$Hashes" "CoinNodeModel$Hashes" "h" "[I") ∈ jws := jws_6 (List.mem_of_getElem? (i := 81) rfl) rfl
theorem jw_1283 : (Jvm.Cond.laysFinal "CoinNodeModel$Hashes" "CoinNodeModel$Hashes" "v" "[I") ∈ jws := jws_6 (List.mem_of_getElem? (i := 83) rfl) rfl
theorem jw_1285 : (Jvm.Cond.laysFinal "CoinNodeModel$Hashes" "CoinNodeModel$Hashes" "once" "[B") ∈ jws := jws_6 (List.mem_of_getElem? (i := 85) rfl) rfl
theorem jw_1288 : (Jvm.Cond.classLink "CoinNodeModel" (16 : Nat) "CoinNodeModel$Signing") ∈ jws := jws_6 (List.mem_of_getElem? (i := 88) rfl) rfl
theorem jw_1289 : (Jvm.Cond.instantiable "CoinNodeModel$Signing" (10 : Nat)) ∈ jws := jws_6 (List.mem_of_getElem? (i := 89) rfl) rfl
theorem jw_1290 : (Jvm.Cond.methodLink "CoinNodeModel" (18 : Nat) ({ cls := "CoinNodeModel$Signing", name := "<init>", desc := "(LCoinNodeModel$Hashes;)V" } : Jvm.MethodName)) ∈ jws := jws_6 (List.mem_of_getElem? (i := 90) rfl) rfl
theorem jw_1291 : (Jvm.Cond.instanceMethod ({ cls := "CoinNodeModel$Signing", name := "<init>", desc := "(LCoinNodeModel$Hashes;)V" } : Jvm.MethodName)) ∈ jws := jws_6 (List.mem_of_getElem? (i := 91) rfl) rfl
theorem jw_1292 : (Jvm.Cond.code ({ cls := "CoinNodeModel$Signing", name := "<init>", desc := "(LCoinNodeModel$Hashes;)V" } : Jvm.MethodName) prog_19_method_1_code (2 : Nat) (Option.none : Option Jvm.ClassFile.FieldType)) ∈ jws := jws_6 (List.mem_of_getElem? (i := 92) rfl) rfl
theorem jw_1293 : (Jvm.Cond.methodLink "CoinNodeModel$Signing" (1 : Nat) ({ cls := "java/lang/Object", name := "<init>", desc := "()V" } : Jvm.MethodName)) ∈ jws := jws_6 (List.mem_of_getElem? (i := 93) rfl) rfl
theorem jw_1294 : (Jvm.Cond.classLink "CoinNodeModel$Signing" (7 : Nat) "CoinNodeModel$Points") ∈ jws := jws_6 (List.mem_of_getElem? (i := 94) rfl) rfl
theorem jw_1295 : (Jvm.Cond.instantiable "CoinNodeModel$Points" (7 : Nat)) ∈ jws := jws_6 (List.mem_of_getElem? (i := 95) rfl) rfl
theorem jw_1296 : (Jvm.Cond.methodLink "CoinNodeModel$Signing" (9 : Nat) ({ cls := "CoinNodeModel$Points", name := "<init>", desc := "()V" } : Jvm.MethodName)) ∈ jws := jws_6 (List.mem_of_getElem? (i := 96) rfl) rfl
theorem jw_1297 : (Jvm.Cond.instanceMethod ({ cls := "CoinNodeModel$Points", name := "<init>", desc := "()V" } : Jvm.MethodName)) ∈ jws := jws_6 (List.mem_of_getElem? (i := 97) rfl) rfl
theorem jw_1298 : (Jvm.Cond.code ({ cls := "CoinNodeModel$Points", name := "<init>", desc := "()V" } : Jvm.MethodName) prog_17_method_1_code (5 : Nat) (Option.none : Option Jvm.ClassFile.FieldType)) ∈ jws := jws_6 (List.mem_of_getElem? (i := 98) rfl) rfl
theorem jw_1299 : (Jvm.Cond.methodLink "CoinNodeModel$Points" (1 : Nat) ({ cls := "java/lang/Object", name := "<init>", desc := "()V" } : Jvm.MethodName)) ∈ jws := jws_6 (List.mem_of_getElem? (i := 99) rfl) rfl
theorem jw_1300 : (Jvm.Cond.constantLong "CoinNodeModel$Points" (30 : Nat) (-1 : Int64)) ∈ jws := jws_6 (List.mem_of_getElem? (i := 100) rfl) rfl
theorem jw_1301 : (Jvm.Cond.constantLong "CoinNodeModel$Points" (32 : Nat) (-4294968273 : Int64)) ∈ jws := jws_6 (List.mem_of_getElem? (i := 101) rfl) rfl
theorem jw_1302 : (Jvm.Cond.methodLink "CoinNodeModel$Points" (34 : Nat) ({ cls := "CoinNodeModel$Points", name := "write", desc := "(IJJJJ)V" } : Jvm.MethodName)) ∈ jws := jws_6 (List.mem_of_getElem? (i := 102) rfl) rfl
theorem jw_1304 : (Jvm.Cond.instanceMethod ({ cls := "CoinNodeModel$Points", name := "write", desc := "(IJJJJ)V" } : Jvm.MethodName)) ∈ jws := jws_6 (List.mem_of_getElem? (i := 104) rfl) rfl
theorem jw_1305 : (Jvm.Cond.code ({ cls := "CoinNodeModel$Points", name := "write", desc := "(IJJJJ)V" } : Jvm.MethodName) prog_17_method_3_code (13 : Nat) (Option.none : Option Jvm.ClassFile.FieldType)) ∈ jws := jws_6 (List.mem_of_getElem? (i := 105) rfl) rfl
theorem jw_1306 : (Jvm.Cond.methodLink "CoinNodeModel$Points" (62 : Nat) ({ cls := "CoinNodeModel$Points", name := "nothing", desc := "(I)V" } : Jvm.MethodName)) ∈ jws := jws_6 (List.mem_of_getElem? (i := 106) rfl) rfl
theorem jw_1308 : (Jvm.Cond.instanceMethod ({ cls := "CoinNodeModel$Points", name := "nothing", desc := "(I)V" } : Jvm.MethodName)) ∈ jws := jws_6 (List.mem_of_getElem? (i := 108) rfl) rfl
theorem jw_1309 : (Jvm.Cond.code ({ cls := "CoinNodeModel$Points", name := "nothing", desc := "(I)V" } : Jvm.MethodName) prog_17_method_5_code (3 : Nat) (Option.none : Option Jvm.ClassFile.FieldType)) ∈ jws := jws_6 (List.mem_of_getElem? (i := 109) rfl) rfl
theorem jw_1310 : (Jvm.Cond.methodLink "CoinNodeModel$Points" (66 : Nat) ({ cls := "CoinNodeModel$Points", name := "wordOf", desc := "(IJJJJ)J" } : Jvm.MethodName)) ∈ jws := jws_6 (List.mem_of_getElem? (i := 110) rfl) rfl
theorem jw_1311 : (Jvm.Cond.static ({ cls := "CoinNodeModel$Points", name := "wordOf", desc := "(IJJJJ)J" } : Jvm.MethodName)) ∈ jws := jws_6 (List.mem_of_getElem? (i := 111) rfl) rfl
theorem jw_1312 : (Jvm.Cond.code ({ cls := "CoinNodeModel$Points", name := "wordOf", desc := "(IJJJJ)J" } : Jvm.MethodName) prog_17_method_2_code (9 : Nat) (Option.some Jvm.ClassFile.FieldType.long)) ∈ jws := jws_6 (List.mem_of_getElem? (i := 112) rfl) rfl
theorem jw_1313 : (Jvm.Cond.constantLong "CoinNodeModel$Points" (38 : Nat) (-2 : Int64)) ∈ jws := jws_6 (List.mem_of_getElem? (i := 113) rfl) rfl
theorem jw_1314 : (Jvm.Cond.constantLong "CoinNodeModel$Points" (40 : Nat) (-4994812053365940165 : Int64)) ∈ jws := jws_6 (List.mem_of_getElem? (i := 114) rfl) rfl
theorem jw_1315 : (Jvm.Cond.constantLong "CoinNodeModel$Points" (42 : Nat) (-4624529908474429119 : Int64)) ∈ jws := jws_6 (List.mem_of_getElem? (i := 115) rfl) rfl
theorem jw_1316 : (Jvm.Cond.constantLong "CoinNodeModel$Points" (44 : Nat) (8772561819708210092 : Int64)) ∈ jws := jws_6 (List.mem_of_getElem? (i := 116) rfl) rfl
theorem jw_1317 : (Jvm.Cond.constantLong "CoinNodeModel$Points" (46 : Nat) (6170039885052185351 : Int64)) ∈ jws := jws_6 (List.mem_of_getElem? (i := 117) rfl) rfl
theorem jw_1318 : (Jvm.Cond.constantLong "CoinNodeModel$Points" (48 : Nat) (188021827762530521 : Int64)) ∈ jws := jws_6 (List.mem_of_getElem? (i := 118) rfl) rfl
theorem jw_1319 : (Jvm.Cond.constantLong "CoinNodeModel$Points" (50 : Nat) (6481385041966929816 : Int64)) ∈ jws := jws_6 (List.mem_of_getElem? (i := 119) rfl) rfl
theorem jw_1320 : (Jvm.Cond.constantLong "CoinNodeModel$Points" (52 : Nat) (5204712524664259685 : Int64)) ∈ jws := jws_6 (List.mem_of_getElem? (i := 120) rfl) rfl
theorem jw_1321 : (Jvm.Cond.constantLong "CoinNodeModel$Points" (54 : Nat) (6747795201694173352 : Int64)) ∈ jws := jws_6 (List.mem_of_getElem? (i := 121) rfl) rfl
theorem jw_1322 : (Jvm.Cond.constantLong "CoinNodeModel$Points" (56 : Nat) (-209500633525038055 : Int64)) ∈ jws := jws_6 (List.mem_of_getElem? (i := 122) rfl) rfl
theorem jw_1323 : (Jvm.Cond.constantLong "CoinNodeModel$Points" (58 : Nat) (-7185545363635252040 : Int64)) ∈ jws := jws_6 (List.mem_of_getElem? (i := 123) rfl) rfl
theorem jw_1324 : (Jvm.Cond.constant "CoinNodeModel$Points" (60 : Nat) (67108863 : Int32)) ∈ jws := jws_6 (List.mem_of_getElem? (i := 124) rfl) rfl
theorem jw_1325 : (Jvm.Cond.constant "CoinNodeModel$Points" (61 : Nat) (4194303 : Int32)) ∈ jws := jws_6 (List.mem_of_getElem? (i := 125) rfl) rfl
theorem jw_1326 : (Jvm.Cond.fieldLink "CoinNodeModel$Points" (7 : Nat) "CoinNodeModel$Points" "rows" "[I") ∈ jws := jws_6 (List.mem_of_getElem? (i := 126) rfl) rfl
theorem jw_1327 : (Jvm.Cond.fieldLink "CoinNodeModel$Points" (13 : Nat) "CoinNodeModel$Points" "product" "[J") ∈ jws := jws_6 (List.mem_of_getElem? (i := 127) rfl) rfl
theorem jw_1328 : (Jvm.Cond.fieldLink "CoinNodeModel$Points" (17 : Nat) "CoinNodeModel$Points" "folded" "[J") ∈ jws := jws_6 (List.mem_of_getElem? (i := 128) rfl) rfl
theorem jw_1329 : (Jvm.Cond.fieldLink "CoinNodeModel$Points" (20 : Nat) "CoinNodeModel$Points" "rest" "[I") ∈ jws := jws_6 (List.mem_of_getElem? (i := 129) rfl) rfl
theorem jw_1330 : (Jvm.Cond.fieldLink "CoinNodeModel$Points" (23 : Nat) "CoinNodeModel$Points" "none" "[Z") ∈ jws := jws_6 (List.mem_of_getElem? (i := 130) rfl) rfl
theorem jw_1331 : (Jvm.Cond.fieldLink "CoinNodeModel$Points" (27 : Nat) "CoinNodeModel$Points" "bytes" "[I") ∈ jws := jws_6 (List.mem_of_getElem? (i := 131) rfl) rfl
theorem jw_1332 : (Jvm.Cond.fieldLink "CoinNodeModel$Points" (163 : Nat) "CoinNodeModel$Points" "many" "I") ∈ jws := jws_6 (List.mem_of_getElem? (i := 132) rfl) rfl
theorem jw_1333 : (Jvm.Cond.laysFinal "CoinNodeModel$Points" "CoinNodeModel$Points" "rows" "[I") ∈ jws := jws_6 (List.mem_of_getElem? (i := 133) rfl) rfl
theorem jw_1335 : (Jvm.Cond.laysFinal "CoinNodeModel$Points" "CoinNodeModel$Points" "product" "[J") ∈ jws := jws_6 (List.mem_of_getElem? (i := 135) rfl) rfl
theorem jw_1337 : (Jvm.Cond.laysFinal "CoinNodeModel$Points" "CoinNodeModel$Points" "folded" "[J") ∈ jws := jws_6 (List.mem_of_getElem? (i := 137) rfl) rfl
theorem jw_1339 : (Jvm.Cond.laysFinal "CoinNodeModel$Points" "CoinNodeModel$Points" "rest" "[I") ∈ jws := jws_6 (List.mem_of_getElem? (i := 139) rfl) rfl
theorem jw_1341 : (Jvm.Cond.laysFinal "CoinNodeModel$Points" "CoinNodeModel$Points" "none" "[Z") ∈ jws := jws_6 (List.mem_of_getElem? (i := 141) rfl) rfl
theorem jw_1343 : (Jvm.Cond.laysFinal "CoinNodeModel$Points" "CoinNodeModel$Points" "bytes" "[I") ∈ jws := jws_6 (List.mem_of_getElem? (i := 143) rfl) rfl
theorem jw_1345 : (Jvm.Cond.lays "CoinNodeModel$Points" "CoinNodeModel$Points" "many" "I") ∈ jws := jws_6 (List.mem_of_getElem? (i := 145) rfl) rfl
theorem jw_1348 : (Jvm.Cond.fieldLink "CoinNodeModel$Signing" (23 : Nat) "CoinNodeModel$Signing" "hashes" "LCoinNodeModel$Hashes;") ∈ jws := jws_6 (List.mem_of_getElem? (i := 148) rfl) rfl
theorem jw_1349 : (Jvm.Cond.fieldLink "CoinNodeModel$Signing" (10 : Nat) "CoinNodeModel$Signing" "points" "LCoinNodeModel$Points;") ∈ jws := jws_6 (List.mem_of_getElem? (i := 149) rfl) rfl
theorem jw_1350 : (Jvm.Cond.fieldLink "CoinNodeModel$Signing" (31 : Nat) "CoinNodeModel$Signing" "tx" "LCoinNodeModel$Tx;") ∈ jws := jws_6 (List.mem_of_getElem? (i := 150) rfl) rfl
theorem jw_1352 : (Jvm.Cond.fieldLink "CoinNodeModel$Signing" (54 : Nat) "CoinNodeModel$Signing" "input" "I") ∈ jws := jws_6 (List.mem_of_getElem? (i := 152) rfl) rfl
theorem jw_1354 : (Jvm.Cond.fieldLink "CoinNodeModel$Signing" (64 : Nat) "CoinNodeModel$Signing" "lockFrom" "[B") ∈ jws := jws_6 (List.mem_of_getElem? (i := 154) rfl) rfl
theorem jw_1356 : (Jvm.Cond.fieldLink "CoinNodeModel$Signing" (67 : Nat) "CoinNodeModel$Signing" "lockAt" "I") ∈ jws := jws_6 (List.mem_of_getElem? (i := 156) rfl) rfl
theorem jw_1358 : (Jvm.Cond.fieldLink "CoinNodeModel$Signing" (61 : Nat) "CoinNodeModel$Signing" "lockSize" "I") ∈ jws := jws_6 (List.mem_of_getElem? (i := 158) rfl) rfl
theorem jw_1360 : (Jvm.Cond.fieldLink "CoinNodeModel$Signing" (16 : Nat) "CoinNodeModel$Signing" "text" "[B") ∈ jws := jws_6 (List.mem_of_getElem? (i := 160) rfl) rfl
theorem jw_1361 : (Jvm.Cond.fieldLink "CoinNodeModel$Signing" (27 : Nat) "CoinNodeModel$Signing" "size" "I") ∈ jws := jws_6 (List.mem_of_getElem? (i := 161) rfl) rfl
theorem jw_1362 : (Jvm.Cond.fieldLink "CoinNodeModel$Signing" (20 : Nat) "CoinNodeModel$Signing" "digest" "[B") ∈ jws := jws_6 (List.mem_of_getElem? (i := 162) rfl) rfl
theorem jw_1363 : (Jvm.Cond.laysFinal "CoinNodeModel$Signing" "CoinNodeModel$Signing" "hashes" "LCoinNodeModel$Hashes;") ∈ jws := jws_6 (List.mem_of_getElem? (i := 163) rfl) rfl
theorem jw_1365 : (Jvm.Cond.laysFinal "CoinNodeModel$Signing" "CoinNodeModel$Signing" "points" "LCoinNodeModel$Points;") ∈ jws := jws_6 (List.mem_of_getElem? (i := 165) rfl) rfl
theorem jw_1367 : (Jvm.Cond.lays "CoinNodeModel$Signing" "CoinNodeModel$Signing" "tx" "LCoinNodeModel$Tx;") ∈ jws := jws_6 (List.mem_of_getElem? (i := 167) rfl) rfl
theorem jw_1369 : (Jvm.Cond.lays "CoinNodeModel$Signing" "CoinNodeModel$Signing" "input" "I") ∈ jws := jws_6 (List.mem_of_getElem? (i := 169) rfl) rfl
theorem jw_1371 : (Jvm.Cond.lays "CoinNodeModel$Signing" "CoinNodeModel$Signing" "lockFrom" "[B") ∈ jws := jws_6 (List.mem_of_getElem? (i := 171) rfl) rfl
theorem jw_1373 : (Jvm.Cond.lays "CoinNodeModel$Signing" "CoinNodeModel$Signing" "lockAt" "I") ∈ jws := jws_6 (List.mem_of_getElem? (i := 173) rfl) rfl
theorem jw_1375 : (Jvm.Cond.lays "CoinNodeModel$Signing" "CoinNodeModel$Signing" "lockSize" "I") ∈ jws := jws_6 (List.mem_of_getElem? (i := 175) rfl) rfl
theorem jw_1377 : (Jvm.Cond.laysFinal "CoinNodeModel$Signing" "CoinNodeModel$Signing" "text" "[B") ∈ jws := jws_6 (List.mem_of_getElem? (i := 177) rfl) rfl
theorem jw_1379 : (Jvm.Cond.lays "CoinNodeModel$Signing" "CoinNodeModel$Signing" "size" "I") ∈ jws := jws_6 (List.mem_of_getElem? (i := 179) rfl) rfl
theorem jw_1381 : (Jvm.Cond.laysFinal "CoinNodeModel$Signing" "CoinNodeModel$Signing" "digest" "[B") ∈ jws := jws_6 (List.mem_of_getElem? (i := 181) rfl) rfl
theorem jw_1384 : (Jvm.Cond.classLink "CoinNodeModel" (25 : Nat) "CoinNodeModel$Scripts") ∈ jws := jws_6 (List.mem_of_getElem? (i := 184) rfl) rfl
theorem jw_1385 : (Jvm.Cond.instantiable "CoinNodeModel$Scripts" (17 : Nat)) ∈ jws := jws_6 (List.mem_of_getElem? (i := 185) rfl) rfl
theorem jw_1386 : (Jvm.Cond.methodLink "CoinNodeModel" (27 : Nat) ({ cls := "CoinNodeModel$Scripts", name := "<init>", desc := "(LCoinNodeModel$Hashes;LCoinNodeModel$Asker;)V" } : Jvm.MethodName)) ∈ jws := jws_6 (List.mem_of_getElem? (i := 186) rfl) rfl
theorem jw_1387 : (Jvm.Cond.instanceMethod ({ cls := "CoinNodeModel$Scripts", name := "<init>", desc := "(LCoinNodeModel$Hashes;LCoinNodeModel$Asker;)V" } : Jvm.MethodName)) ∈ jws := jws_6 (List.mem_of_getElem? (i := 187) rfl) rfl
theorem jw_1388 : (Jvm.Cond.code ({ cls := "CoinNodeModel$Scripts", name := "<init>", desc := "(LCoinNodeModel$Hashes;LCoinNodeModel$Asker;)V" } : Jvm.MethodName) prog_18_method_1_code (3 : Nat) (Option.none : Option Jvm.ClassFile.FieldType)) ∈ jws := jws_6 (List.mem_of_getElem? (i := 188) rfl) rfl
theorem jw_1389 : (Jvm.Cond.methodLink "CoinNodeModel$Scripts" (1 : Nat) ({ cls := "java/lang/Object", name := "<init>", desc := "()V" } : Jvm.MethodName)) ∈ jws := jws_6 (List.mem_of_getElem? (i := 189) rfl) rfl
theorem jw_1390 : (Jvm.Cond.fieldLink "CoinNodeModel$Scripts" (7 : Nat) "CoinNodeModel$Scripts" "bytes" "[I") ∈ jws := jws_6 (List.mem_of_getElem? (i := 190) rfl) rfl
theorem jw_1391 : (Jvm.Cond.fieldLink "CoinNodeModel$Scripts" (13 : Nat) "CoinNodeModel$Scripts" "sizes" "[I") ∈ jws := jws_6 (List.mem_of_getElem? (i := 191) rfl) rfl
theorem jw_1392 : (Jvm.Cond.fieldLink "CoinNodeModel$Scripts" (44 : Nat) "CoinNodeModel$Scripts" "size" "I") ∈ jws := jws_6 (List.mem_of_getElem? (i := 192) rfl) rfl
theorem jw_1393 : (Jvm.Cond.fieldLink "CoinNodeModel$Scripts" (129 : Nat) "CoinNodeModel$Scripts" "side" "I") ∈ jws := jws_6 (List.mem_of_getElem? (i := 193) rfl) rfl
theorem jw_1394 : (Jvm.Cond.fieldLink "CoinNodeModel$Scripts" (16 : Nat) "CoinNodeModel$Scripts" "script" "[I") ∈ jws := jws_6 (List.mem_of_getElem? (i := 194) rfl) rfl
theorem jw_1395 : (Jvm.Cond.fieldLink "CoinNodeModel$Scripts" (40 : Nat) "CoinNodeModel$Scripts" "length" "I") ∈ jws := jws_6 (List.mem_of_getElem? (i := 195) rfl) rfl
theorem jw_1396 : (Jvm.Cond.fieldLink "CoinNodeModel$Scripts" (57 : Nat) "CoinNodeModel$Scripts" "fault" "I") ∈ jws := jws_6 (List.mem_of_getElem? (i := 196) rfl) rfl
theorem jw_1397 : (Jvm.Cond.fieldLink "CoinNodeModel$Scripts" (113 : Nat) "CoinNodeModel$Scripts" "operations" "I") ∈ jws := jws_6 (List.mem_of_getElem? (i := 197) rfl) rfl
theorem jw_1398 : (Jvm.Cond.fieldLink "CoinNodeModel$Scripts" (88 : Nat) "CoinNodeModel$Scripts" "left" "I") ∈ jws := jws_6 (List.mem_of_getElem? (i := 198) rfl) rfl
theorem jw_1400 : (Jvm.Cond.fieldLink "CoinNodeModel$Scripts" (116 : Nat) "CoinNodeModel$Scripts" "depth" "I") ∈ jws := jws_6 (List.mem_of_getElem? (i := 200) rfl) rfl
theorem jw_1401 : (Jvm.Cond.fieldLink "CoinNodeModel$Scripts" (19 : Nat) "CoinNodeModel$Scripts" "parts" "[I") ∈ jws := jws_6 (List.mem_of_getElem? (i := 201) rfl) rfl
theorem jw_1402 : (Jvm.Cond.fieldLink "CoinNodeModel$Scripts" (72 : Nat) "CoinNodeModel$Scripts" "number" "J") ∈ jws := jws_6 (List.mem_of_getElem? (i := 202) rfl) rfl
theorem jw_1403 : (Jvm.Cond.fieldLink "CoinNodeModel$Scripts" (22 : Nat) "CoinNodeModel$Scripts" "message" "[B") ∈ jws := jws_6 (List.mem_of_getElem? (i := 203) rfl) rfl
theorem jw_1404 : (Jvm.Cond.fieldLink "CoinNodeModel$Scripts" (26 : Nat) "CoinNodeModel$Scripts" "other" "[B") ∈ jws := jws_6 (List.mem_of_getElem? (i := 204) rfl) rfl
theorem jw_1405 : (Jvm.Cond.fieldLink "CoinNodeModel$Scripts" (29 : Nat) "CoinNodeModel$Scripts" "made" "[B") ∈ jws := jws_6 (List.mem_of_getElem? (i := 205) rfl) rfl
theorem jw_1406 : (Jvm.Cond.fieldLink "CoinNodeModel$Scripts" (32 : Nat) "CoinNodeModel$Scripts" "hashes" "LCoinNodeModel$Hashes;") ∈ jws := jws_6 (List.mem_of_getElem? (i := 206) rfl) rfl
theorem jw_1407 : (Jvm.Cond.fieldLink "CoinNodeModel$Scripts" (36 : Nat) "CoinNodeModel$Scripts" "asker" "LCoinNodeModel$Asker;") ∈ jws := jws_6 (List.mem_of_getElem? (i := 207) rfl) rfl
theorem jw_1408 : (Jvm.Cond.laysFinal "CoinNodeModel$Scripts" "CoinNodeModel$Scripts" "bytes" "[I") ∈ jws := jws_6 (List.mem_of_getElem? (i := 208) rfl) rfl
theorem jw_1410 : (Jvm.Cond.laysFinal "CoinNodeModel$Scripts" "CoinNodeModel$Scripts" "sizes" "[I") ∈ jws := jws_6 (List.mem_of_getElem? (i := 210) rfl) rfl
theorem jw_1412 : (Jvm.Cond.lays "CoinNodeModel$Scripts" "CoinNodeModel$Scripts" "size" "I") ∈ jws := jws_6 (List.mem_of_getElem? (i := 212) rfl) rfl
theorem jw_1414 : (Jvm.Cond.lays "CoinNodeModel$Scripts" "CoinNodeModel$Scripts" "side" "I") ∈ jws := jws_6 (List.mem_of_getElem? (i := 214) rfl) rfl
theorem jw_1416 : (Jvm.Cond.laysFinal "CoinNodeModel$Scripts" "CoinNodeModel$Scripts" "script" "[I") ∈ jws := jws_6 (List.mem_of_getElem? (i := 216) rfl) rfl
theorem jw_1418 : (Jvm.Cond.lays "CoinNodeModel$Scripts" "CoinNodeModel$Scripts" "length" "I") ∈ jws := jws_6 (List.mem_of_getElem? (i := 218) rfl) rfl
theorem jw_1420 : (Jvm.Cond.lays "CoinNodeModel$Scripts" "CoinNodeModel$Scripts" "fault" "I") ∈ jws := jws_6 (List.mem_of_getElem? (i := 220) rfl) rfl
theorem jw_1422 : (Jvm.Cond.lays "CoinNodeModel$Scripts" "CoinNodeModel$Scripts" "operations" "I") ∈ jws := jws_6 (List.mem_of_getElem? (i := 222) rfl) rfl
theorem jw_1424 : (Jvm.Cond.lays "CoinNodeModel$Scripts" "CoinNodeModel$Scripts" "left" "I") ∈ jws := jws_6 (List.mem_of_getElem? (i := 224) rfl) rfl
theorem jw_1426 : (Jvm.Cond.lays "CoinNodeModel$Scripts" "CoinNodeModel$Scripts" "depth" "I") ∈ jws := jws_6 (List.mem_of_getElem? (i := 226) rfl) rfl
theorem jw_1428 : (Jvm.Cond.laysFinal "CoinNodeModel$Scripts" "CoinNodeModel$Scripts" "parts" "[I") ∈ jws := jws_6 (List.mem_of_getElem? (i := 228) rfl) rfl
theorem jw_1430 : (Jvm.Cond.lays "CoinNodeModel$Scripts" "CoinNodeModel$Scripts" "number" "J") ∈ jws := jws_6 (List.mem_of_getElem? (i := 230) rfl) rfl
theorem jw_1432 : (Jvm.Cond.laysFinal "CoinNodeModel$Scripts" "CoinNodeModel$Scripts" "message" "[B") ∈ jws := jws_6 (List.mem_of_getElem? (i := 232) rfl) rfl
theorem jw_1434 : (Jvm.Cond.laysFinal "CoinNodeModel$Scripts" "CoinNodeModel$Scripts" "other" "[B") ∈ jws := jws_6 (List.mem_of_getElem? (i := 234) rfl) rfl
theorem jw_1436 : (Jvm.Cond.laysFinal "CoinNodeModel$Scripts" "CoinNodeModel$Scripts" "made" "[B") ∈ jws := jws_6 (List.mem_of_getElem? (i := 236) rfl) rfl
theorem jw_1438 : (Jvm.Cond.laysFinal "CoinNodeModel$Scripts" "CoinNodeModel$Scripts" "hashes" "LCoinNodeModel$Hashes;") ∈ jws := jws_6 (List.mem_of_getElem? (i := 238) rfl) rfl
theorem jw_1440 : (Jvm.Cond.laysFinal "CoinNodeModel$Scripts" "CoinNodeModel$Scripts" "asker" "LCoinNodeModel$Asker;") ∈ jws := jws_7 (List.mem_of_getElem? (i := 0) rfl) rfl
theorem jw_1443 : (Jvm.Cond.classLink "CoinNodeModel" (34 : Nat) "CoinNodeModel$Tree") ∈ jws := jws_7 (List.mem_of_getElem? (i := 3) rfl) rfl
theorem jw_1444 : (Jvm.Cond.instantiable "CoinNodeModel$Tree" (12 : Nat)) ∈ jws := jws_7 (List.mem_of_getElem? (i := 4) rfl) rfl
theorem jw_1445 : (Jvm.Cond.constant "CoinNodeModel" (36 : Nat) (1000000 : Int32)) ∈ jws := jws_7 (List.mem_of_getElem? (i := 5) rfl) rfl
theorem jw_1446 : (Jvm.Cond.methodLink "CoinNodeModel" (37 : Nat) ({ cls := "CoinNodeModel$Tree", name := "<init>", desc := "(II)V" } : Jvm.MethodName)) ∈ jws := jws_7 (List.mem_of_getElem? (i := 6) rfl) rfl
theorem jw_1447 : (Jvm.Cond.instanceMethod ({ cls := "CoinNodeModel$Tree", name := "<init>", desc := "(II)V" } : Jvm.MethodName)) ∈ jws := jws_7 (List.mem_of_getElem? (i := 7) rfl) rfl
theorem jw_1448 : (Jvm.Cond.code ({ cls := "CoinNodeModel$Tree", name := "<init>", desc := "(II)V" } : Jvm.MethodName) prog_20_method_1_code (3 : Nat) (Option.none : Option Jvm.ClassFile.FieldType)) ∈ jws := jws_7 (List.mem_of_getElem? (i := 8) rfl) rfl
theorem jw_1449 : (Jvm.Cond.methodLink "CoinNodeModel$Tree" (1 : Nat) ({ cls := "java/lang/Object", name := "<init>", desc := "()V" } : Jvm.MethodName)) ∈ jws := jws_7 (List.mem_of_getElem? (i := 9) rfl) rfl
theorem jw_1450 : (Jvm.Cond.constantLong "CoinNodeModel$Tree" (46 : Nat) (4294967295 : Int64)) ∈ jws := jws_7 (List.mem_of_getElem? (i := 10) rfl) rfl
theorem jw_1451 : (Jvm.Cond.constantLong "CoinNodeModel$Tree" (48 : Nat) (545259519 : Int64)) ∈ jws := jws_7 (List.mem_of_getElem? (i := 11) rfl) rfl
theorem jw_1452 : (Jvm.Cond.methodLink "CoinNodeModel$Tree" (50 : Nat) ({ cls := "CoinNodeModel$Tree", name := "join", desc := "(IJJ)V" } : Jvm.MethodName)) ∈ jws := jws_7 (List.mem_of_getElem? (i := 12) rfl) rfl
theorem jw_1454 : (Jvm.Cond.instanceMethod ({ cls := "CoinNodeModel$Tree", name := "join", desc := "(IJJ)V" } : Jvm.MethodName)) ∈ jws := jws_7 (List.mem_of_getElem? (i := 14) rfl) rfl
theorem jw_1455 : (Jvm.Cond.code ({ cls := "CoinNodeModel$Tree", name := "join", desc := "(IJJ)V" } : Jvm.MethodName) prog_20_method_2_code (10 : Nat) (Option.none : Option Jvm.ClassFile.FieldType)) ∈ jws := jws_7 (List.mem_of_getElem? (i := 15) rfl) rfl
theorem jw_1456 : (Jvm.Cond.methodLink "CoinNodeModel$Tree" (57 : Nat) ({ cls := "CoinNodeModel$Tree", name := "open", desc := "(J[I)V" } : Jvm.MethodName)) ∈ jws := jws_7 (List.mem_of_getElem? (i := 16) rfl) rfl
theorem jw_1457 : (Jvm.Cond.static ({ cls := "CoinNodeModel$Tree", name := "open", desc := "(J[I)V" } : Jvm.MethodName)) ∈ jws := jws_7 (List.mem_of_getElem? (i := 17) rfl) rfl
theorem jw_1458 : (Jvm.Cond.code ({ cls := "CoinNodeModel$Tree", name := "open", desc := "(J[I)V" } : Jvm.MethodName) prog_20_method_6_code (8 : Nat) (Option.none : Option Jvm.ClassFile.FieldType)) ∈ jws := jws_7 (List.mem_of_getElem? (i := 18) rfl) rfl
theorem jw_1459 : (Jvm.Cond.methodLink "CoinNodeModel$Tree" (64 : Nat) ({ cls := "CoinNodeModel$Tree", name := "nothing", desc := "([I)V" } : Jvm.MethodName)) ∈ jws := jws_7 (List.mem_of_getElem? (i := 19) rfl) rfl
theorem jw_1460 : (Jvm.Cond.static ({ cls := "CoinNodeModel$Tree", name := "nothing", desc := "([I)V" } : Jvm.MethodName)) ∈ jws := jws_7 (List.mem_of_getElem? (i := 20) rfl) rfl
theorem jw_1461 : (Jvm.Cond.code ({ cls := "CoinNodeModel$Tree", name := "nothing", desc := "([I)V" } : Jvm.MethodName) prog_20_method_3_code (2 : Nat) (Option.none : Option Jvm.ClassFile.FieldType)) ∈ jws := jws_7 (List.mem_of_getElem? (i := 21) rfl) rfl
theorem jw_1462 : (Jvm.Cond.constantLong "CoinNodeModel$Tree" (68 : Nat) (8388607 : Int64)) ∈ jws := jws_7 (List.mem_of_getElem? (i := 22) rfl) rfl
theorem jw_1463 : (Jvm.Cond.constantLong "CoinNodeModel$Tree" (70 : Nat) (255 : Int64)) ∈ jws := jws_7 (List.mem_of_getElem? (i := 23) rfl) rfl
theorem jw_1464 : (Jvm.Cond.methodLink "CoinNodeModel$Tree" (61 : Nat) ({ cls := "CoinNodeModel$Tree", name := "quotient", desc := "()V" } : Jvm.MethodName)) ∈ jws := jws_7 (List.mem_of_getElem? (i := 24) rfl) rfl
theorem jw_1466 : (Jvm.Cond.instanceMethod ({ cls := "CoinNodeModel$Tree", name := "quotient", desc := "()V" } : Jvm.MethodName)) ∈ jws := jws_7 (List.mem_of_getElem? (i := 26) rfl) rfl
theorem jw_1467 : (Jvm.Cond.code ({ cls := "CoinNodeModel$Tree", name := "quotient", desc := "()V" } : Jvm.MethodName) prog_20_method_7_code (7 : Nat) (Option.none : Option Jvm.ClassFile.FieldType)) ∈ jws := jws_7 (List.mem_of_getElem? (i := 27) rfl) rfl
theorem jw_1468 : (Jvm.Cond.methodLink "CoinNodeModel$Tree" (72 : Nat) ({ cls := "CoinNodeModel$Tree", name := "compareRows", desc := "([I[I)I" } : Jvm.MethodName)) ∈ jws := jws_7 (List.mem_of_getElem? (i := 28) rfl) rfl
theorem jw_1469 : (Jvm.Cond.static ({ cls := "CoinNodeModel$Tree", name := "compareRows", desc := "([I[I)I" } : Jvm.MethodName)) ∈ jws := jws_7 (List.mem_of_getElem? (i := 29) rfl) rfl
theorem jw_1470 : (Jvm.Cond.code ({ cls := "CoinNodeModel$Tree", name := "compareRows", desc := "([I[I)I" } : Jvm.MethodName) prog_20_method_4_code (4 : Nat) (Option.some Jvm.ClassFile.FieldType.int)) ∈ jws := jws_7 (List.mem_of_getElem? (i := 30) rfl) rfl
theorem jw_1471 : (Jvm.Cond.fieldLink "CoinNodeModel$Tree" (42 : Nat) "CoinNodeModel$Tree" "most" "I") ∈ jws := jws_7 (List.mem_of_getElem? (i := 31) rfl) rfl
theorem jw_1472 : (Jvm.Cond.fieldLink "CoinNodeModel$Tree" (54 : Nat) "CoinNodeModel$Tree" "many" "I") ∈ jws := jws_7 (List.mem_of_getElem? (i := 32) rfl) rfl
theorem jw_1473 : (Jvm.Cond.fieldLink "CoinNodeModel$Tree" (7 : Nat) "CoinNodeModel$Tree" "parent" "[I") ∈ jws := jws_7 (List.mem_of_getElem? (i := 33) rfl) rfl
theorem jw_1474 : (Jvm.Cond.fieldLink "CoinNodeModel$Tree" (13 : Nat) "CoinNodeModel$Tree" "height" "[I") ∈ jws := jws_7 (List.mem_of_getElem? (i := 34) rfl) rfl
theorem jw_1475 : (Jvm.Cond.fieldLink "CoinNodeModel$Tree" (16 : Nat) "CoinNodeModel$Tree" "time" "[J") ∈ jws := jws_7 (List.mem_of_getElem? (i := 35) rfl) rfl
theorem jw_1476 : (Jvm.Cond.fieldLink "CoinNodeModel$Tree" (20 : Nat) "CoinNodeModel$Tree" "bits" "[J") ∈ jws := jws_7 (List.mem_of_getElem? (i := 36) rfl) rfl
theorem jw_1477 : (Jvm.Cond.fieldLink "CoinNodeModel$Tree" (23 : Nat) "CoinNodeModel$Tree" "bad" "[Z") ∈ jws := jws_7 (List.mem_of_getElem? (i := 37) rfl) rfl
theorem jw_1478 : (Jvm.Cond.fieldLink "CoinNodeModel$Tree" (27 : Nat) "CoinNodeModel$Tree" "sums" "[I") ∈ jws := jws_7 (List.mem_of_getElem? (i := 38) rfl) rfl
theorem jw_1479 : (Jvm.Cond.fieldLink "CoinNodeModel$Tree" (30 : Nat) "CoinNodeModel$Tree" "a" "[I") ∈ jws := jws_7 (List.mem_of_getElem? (i := 39) rfl) rfl
theorem jw_1480 : (Jvm.Cond.fieldLink "CoinNodeModel$Tree" (33 : Nat) "CoinNodeModel$Tree" "b" "[I") ∈ jws := jws_7 (List.mem_of_getElem? (i := 40) rfl) rfl
theorem jw_1481 : (Jvm.Cond.fieldLink "CoinNodeModel$Tree" (36 : Nat) "CoinNodeModel$Tree" "c" "[I") ∈ jws := jws_7 (List.mem_of_getElem? (i := 41) rfl) rfl
theorem jw_1482 : (Jvm.Cond.fieldLink "CoinNodeModel$Tree" (39 : Nat) "CoinNodeModel$Tree" "times" "[J") ∈ jws := jws_7 (List.mem_of_getElem? (i := 42) rfl) rfl
theorem jw_1483 : (Jvm.Cond.laysFinal "CoinNodeModel$Tree" "CoinNodeModel$Tree" "most" "I") ∈ jws := jws_7 (List.mem_of_getElem? (i := 43) rfl) rfl
theorem jw_1485 : (Jvm.Cond.lays "CoinNodeModel$Tree" "CoinNodeModel$Tree" "many" "I") ∈ jws := jws_7 (List.mem_of_getElem? (i := 45) rfl) rfl
theorem jw_1487 : (Jvm.Cond.laysFinal "CoinNodeModel$Tree" "CoinNodeModel$Tree" "parent" "[I") ∈ jws := jws_7 (List.mem_of_getElem? (i := 47) rfl) rfl
theorem jw_1489 : (Jvm.Cond.laysFinal "CoinNodeModel$Tree" "CoinNodeModel$Tree" "height" "[I") ∈ jws := jws_7 (List.mem_of_getElem? (i := 49) rfl) rfl
theorem jw_1491 : (Jvm.Cond.laysFinal "CoinNodeModel$Tree" "CoinNodeModel$Tree" "time" "[J") ∈ jws := jws_7 (List.mem_of_getElem? (i := 51) rfl) rfl
theorem jw_1493 : (Jvm.Cond.laysFinal "CoinNodeModel$Tree" "CoinNodeModel$Tree" "bits" "[J") ∈ jws := jws_7 (List.mem_of_getElem? (i := 53) rfl) rfl
theorem jw_1495 : (Jvm.Cond.laysFinal "CoinNodeModel$Tree" "CoinNodeModel$Tree" "bad" "[Z") ∈ jws := jws_7 (List.mem_of_getElem? (i := 55) rfl) rfl
theorem jw_1497 : (Jvm.Cond.laysFinal "CoinNodeModel$Tree" "CoinNodeModel$Tree" "sums" "[I") ∈ jws := jws_7 (List.mem_of_getElem? (i := 57) rfl) rfl
theorem jw_1499 : (Jvm.Cond.laysFinal "CoinNodeModel$Tree" "CoinNodeModel$Tree" "a" "[I") ∈ jws := jws_7 (List.mem_of_getElem? (i := 59) rfl) rfl
theorem jw_1501 : (Jvm.Cond.laysFinal "CoinNodeModel$Tree" "CoinNodeModel$Tree" "b" "[I") ∈ jws := jws_7 (List.mem_of_getElem? (i := 61) rfl) rfl
theorem jw_1503 : (Jvm.Cond.laysFinal "CoinNodeModel$Tree" "CoinNodeModel$Tree" "c" "[I") ∈ jws := jws_7 (List.mem_of_getElem? (i := 63) rfl) rfl
theorem jw_1505 : (Jvm.Cond.laysFinal "CoinNodeModel$Tree" "CoinNodeModel$Tree" "times" "[J") ∈ jws := jws_7 (List.mem_of_getElem? (i := 65) rfl) rfl
theorem jw_1508 : (Jvm.Cond.classLink "CoinNodeModel" (44 : Nat) "CoinNodeModel$Tx") ∈ jws := jws_7 (List.mem_of_getElem? (i := 68) rfl) rfl
theorem jw_1509 : (Jvm.Cond.instantiable "CoinNodeModel$Tx" (15 : Nat)) ∈ jws := jws_7 (List.mem_of_getElem? (i := 69) rfl) rfl
theorem jw_1511 : (Jvm.Cond.instanceMethod ({ cls := "CoinNodeModel$Tx", name := "<init>", desc := "()V" } : Jvm.MethodName)) ∈ jws := jws_7 (List.mem_of_getElem? (i := 71) rfl) rfl
theorem jw_1512 : (Jvm.Cond.code ({ cls := "CoinNodeModel$Tx", name := "<init>", desc := "()V" } : Jvm.MethodName) prog_21_method_1_code (1 : Nat) (Option.none : Option Jvm.ClassFile.FieldType)) ∈ jws := jws_7 (List.mem_of_getElem? (i := 72) rfl) rfl
theorem jw_1513 : (Jvm.Cond.methodLink "CoinNodeModel$Tx" (3 : Nat) ({ cls := "java/lang/Object", name := "<init>", desc := "()V" } : Jvm.MethodName)) ∈ jws := jws_7 (List.mem_of_getElem? (i := 73) rfl) rfl
theorem jw_1514 : (Jvm.Cond.fieldLink "CoinNodeModel$Tx" (52 : Nat) "CoinNodeModel$Tx" "from" "[B") ∈ jws := jws_7 (List.mem_of_getElem? (i := 74) rfl) rfl
theorem jw_1518 : (Jvm.Cond.fieldLink "CoinNodeModel$Tx" (72 : Nat) "CoinNodeModel$Tx" "at" "I") ∈ jws := jws_7 (List.mem_of_getElem? (i := 78) rfl) rfl
theorem jw_1520 : (Jvm.Cond.fieldLink "CoinNodeModel$Tx" (45 : Nat) "CoinNodeModel$Tx" "end" "I") ∈ jws := jws_7 (List.mem_of_getElem? (i := 80) rfl) rfl
theorem jw_1521 : (Jvm.Cond.fieldLink "CoinNodeModel$Tx" (41 : Nat) "CoinNodeModel$Tx" "place" "I") ∈ jws := jws_7 (List.mem_of_getElem? (i := 81) rfl) rfl
theorem jw_1525 : (Jvm.Cond.fieldLink "CoinNodeModel$Tx" (79 : Nat) "CoinNodeModel$Tx" "inputs" "I") ∈ jws := jws_7 (List.mem_of_getElem? (i := 85) rfl) rfl
theorem jw_1528 : (Jvm.Cond.fieldLink "CoinNodeModel$Tx" (82 : Nat) "CoinNodeModel$Tx" "outputs" "I") ∈ jws := jws_7 (List.mem_of_getElem? (i := 88) rfl) rfl
theorem jw_1529 : (Jvm.Cond.fieldLink "CoinNodeModel$Tx" (37 : Nat) "CoinNodeModel$Tx" "good" "Z") ∈ jws := jws_7 (List.mem_of_getElem? (i := 89) rfl) rfl
theorem jw_1530 : (Jvm.Cond.fieldLink "CoinNodeModel$Tx" (11 : Nat) "CoinNodeModel$Tx" "names" "[I") ∈ jws := jws_7 (List.mem_of_getElem? (i := 90) rfl) rfl
theorem jw_1533 : (Jvm.Cond.fieldLink "CoinNodeModel$Tx" (15 : Nat) "CoinNodeModel$Tx" "indexes" "[J") ∈ jws := jws_7 (List.mem_of_getElem? (i := 93) rfl) rfl
theorem jw_1535 : (Jvm.Cond.fieldLink "CoinNodeModel$Tx" (19 : Nat) "CoinNodeModel$Tx" "scripts" "[I") ∈ jws := jws_7 (List.mem_of_getElem? (i := 95) rfl) rfl
theorem jw_1537 : (Jvm.Cond.fieldLink "CoinNodeModel$Tx" (22 : Nat) "CoinNodeModel$Tx" "scriptSizes" "[I") ∈ jws := jws_7 (List.mem_of_getElem? (i := 97) rfl) rfl
theorem jw_1539 : (Jvm.Cond.fieldLink "CoinNodeModel$Tx" (25 : Nat) "CoinNodeModel$Tx" "sequences" "[I") ∈ jws := jws_7 (List.mem_of_getElem? (i := 99) rfl) rfl
theorem jw_1541 : (Jvm.Cond.fieldLink "CoinNodeModel$Tx" (28 : Nat) "CoinNodeModel$Tx" "values" "[J") ∈ jws := jws_7 (List.mem_of_getElem? (i := 101) rfl) rfl
theorem jw_1544 : (Jvm.Cond.fieldLink "CoinNodeModel$Tx" (31 : Nat) "CoinNodeModel$Tx" "locks" "[I") ∈ jws := jws_7 (List.mem_of_getElem? (i := 104) rfl) rfl
theorem jw_1547 : (Jvm.Cond.fieldLink "CoinNodeModel$Tx" (34 : Nat) "CoinNodeModel$Tx" "lockSizes" "[I") ∈ jws := jws_7 (List.mem_of_getElem? (i := 107) rfl) rfl
theorem jw_1550 : (Jvm.Cond.lays "CoinNodeModel$Tx" "CoinNodeModel$Tx" "from" "[B") ∈ jws := jws_7 (List.mem_of_getElem? (i := 110) rfl) rfl
theorem jw_1552 : (Jvm.Cond.lays "CoinNodeModel$Tx" "CoinNodeModel$Tx" "at" "I") ∈ jws := jws_7 (List.mem_of_getElem? (i := 112) rfl) rfl
theorem jw_1554 : (Jvm.Cond.lays "CoinNodeModel$Tx" "CoinNodeModel$Tx" "end" "I") ∈ jws := jws_7 (List.mem_of_getElem? (i := 114) rfl) rfl
theorem jw_1556 : (Jvm.Cond.lays "CoinNodeModel$Tx" "CoinNodeModel$Tx" "place" "I") ∈ jws := jws_7 (List.mem_of_getElem? (i := 116) rfl) rfl
theorem jw_1558 : (Jvm.Cond.lays "CoinNodeModel$Tx" "CoinNodeModel$Tx" "inputs" "I") ∈ jws := jws_7 (List.mem_of_getElem? (i := 118) rfl) rfl
theorem jw_1560 : (Jvm.Cond.lays "CoinNodeModel$Tx" "CoinNodeModel$Tx" "outputs" "I") ∈ jws := jws_7 (List.mem_of_getElem? (i := 120) rfl) rfl
theorem jw_1562 : (Jvm.Cond.lays "CoinNodeModel$Tx" "CoinNodeModel$Tx" "good" "Z") ∈ jws := jws_7 (List.mem_of_getElem? (i := 122) rfl) rfl
theorem jw_1564 : (Jvm.Cond.laysFinal "CoinNodeModel$Tx" "CoinNodeModel$Tx" "names" "[I") ∈ jws := jws_7 (List.mem_of_getElem? (i := 124) rfl) rfl
theorem jw_1566 : (Jvm.Cond.laysFinal "CoinNodeModel$Tx" "CoinNodeModel$Tx" "indexes" "[J") ∈ jws := jws_7 (List.mem_of_getElem? (i := 126) rfl) rfl
theorem jw_1568 : (Jvm.Cond.laysFinal "CoinNodeModel$Tx" "CoinNodeModel$Tx" "scripts" "[I") ∈ jws := jws_7 (List.mem_of_getElem? (i := 128) rfl) rfl
theorem jw_1570 : (Jvm.Cond.laysFinal "CoinNodeModel$Tx" "CoinNodeModel$Tx" "scriptSizes" "[I") ∈ jws := jws_7 (List.mem_of_getElem? (i := 130) rfl) rfl
theorem jw_1572 : (Jvm.Cond.laysFinal "CoinNodeModel$Tx" "CoinNodeModel$Tx" "sequences" "[I") ∈ jws := jws_7 (List.mem_of_getElem? (i := 132) rfl) rfl
theorem jw_1574 : (Jvm.Cond.laysFinal "CoinNodeModel$Tx" "CoinNodeModel$Tx" "values" "[J") ∈ jws := jws_7 (List.mem_of_getElem? (i := 134) rfl) rfl
theorem jw_1576 : (Jvm.Cond.laysFinal "CoinNodeModel$Tx" "CoinNodeModel$Tx" "locks" "[I") ∈ jws := jws_7 (List.mem_of_getElem? (i := 136) rfl) rfl
theorem jw_1578 : (Jvm.Cond.laysFinal "CoinNodeModel$Tx" "CoinNodeModel$Tx" "lockSizes" "[I") ∈ jws := jws_7 (List.mem_of_getElem? (i := 138) rfl) rfl
theorem jw_1581 : (Jvm.Cond.constant "CoinNodeModel" (54 : Nat) (600000 : Int32)) ∈ jws := jws_7 (List.mem_of_getElem? (i := 141) rfl) rfl
theorem jw_1582 : (Jvm.Cond.constant "CoinNodeModel" (72 : Nat) (115200 : Int32)) ∈ jws := jws_7 (List.mem_of_getElem? (i := 142) rfl) rfl
theorem jw_1583 : (Jvm.Cond.constant "CoinNodeModel" (82 : Nat) (54400 : Int32)) ∈ jws := jws_7 (List.mem_of_getElem? (i := 143) rfl) rfl
theorem jw_1584 : (Jvm.Cond.constant "CoinNodeModel" (127 : Nat) (84000 : Int32)) ∈ jws := jws_7 (List.mem_of_getElem? (i := 144) rfl) rfl
theorem jw_1585 : (Jvm.Cond.constant "CoinNodeModel" (179 : Nat) (545259519 : Int32)) ∈ jws := jws_7 (List.mem_of_getElem? (i := 145) rfl) rfl
theorem jw_1586 : (Jvm.Cond.methodLink "CoinNodeModel" (180 : Nat) ({ cls := "CoinNodeModel$Hashes", name := "name", desc := "([BII[BI)V" } : Jvm.MethodName)) ∈ jws := jws_7 (List.mem_of_getElem? (i := 146) rfl) rfl
theorem jw_1587 : (Jvm.Cond.instanceMethod ({ cls := "CoinNodeModel$Hashes", name := "name", desc := "([BII[BI)V" } : Jvm.MethodName)) ∈ jws := jws_7 (List.mem_of_getElem? (i := 147) rfl) rfl
theorem jw_1588 : (Jvm.Cond.selects "CoinNodeModel$Hashes" ({ cls := "CoinNodeModel$Hashes", name := "name", desc := "([BII[BI)V" } : Jvm.MethodName) ({ cls := "CoinNodeModel$Hashes", name := "name", desc := "([BII[BI)V" } : Jvm.MethodName)) ∈ jws := jws_7 (List.mem_of_getElem? (i := 148) rfl) rfl
theorem jw_1589 : (Jvm.Cond.code ({ cls := "CoinNodeModel$Hashes", name := "name", desc := "([BII[BI)V" } : Jvm.MethodName) prog_16_method_5_code (6 : Nat) (Option.none : Option Jvm.ClassFile.FieldType)) ∈ jws := jws_7 (List.mem_of_getElem? (i := 149) rfl) rfl
theorem jw_1590 : (Jvm.Cond.methodLink "CoinNodeModel$Hashes" (42 : Nat) ({ cls := "CoinNodeModel$Hashes", name := "wide", desc := "([BII[BI)V" } : Jvm.MethodName)) ∈ jws := jws_7 (List.mem_of_getElem? (i := 150) rfl) rfl
theorem jw_1591 : (Jvm.Cond.instanceMethod ({ cls := "CoinNodeModel$Hashes", name := "wide", desc := "([BII[BI)V" } : Jvm.MethodName)) ∈ jws := jws_7 (List.mem_of_getElem? (i := 151) rfl) rfl
theorem jw_1592 : (Jvm.Cond.selects "CoinNodeModel$Hashes" ({ cls := "CoinNodeModel$Hashes", name := "wide", desc := "([BII[BI)V" } : Jvm.MethodName) ({ cls := "CoinNodeModel$Hashes", name := "wide", desc := "([BII[BI)V" } : Jvm.MethodName)) ∈ jws := jws_7 (List.mem_of_getElem? (i := 152) rfl) rfl
theorem jw_1593 : (Jvm.Cond.code ({ cls := "CoinNodeModel$Hashes", name := "wide", desc := "([BII[BI)V" } : Jvm.MethodName) prog_16_method_4_code (11 : Nat) (Option.none : Option Jvm.ClassFile.FieldType)) ∈ jws := jws_7 (List.mem_of_getElem? (i := 153) rfl) rfl
theorem jw_1594 : (Jvm.Cond.constant "CoinNodeModel$Hashes" (23 : Nat) (1779033703 : Int32)) ∈ jws := jws_7 (List.mem_of_getElem? (i := 154) rfl) rfl
theorem jw_1595 : (Jvm.Cond.constant "CoinNodeModel$Hashes" (24 : Nat) (-1150833019 : Int32)) ∈ jws := jws_7 (List.mem_of_getElem? (i := 155) rfl) rfl
theorem jw_1596 : (Jvm.Cond.constant "CoinNodeModel$Hashes" (25 : Nat) (1013904242 : Int32)) ∈ jws := jws_7 (List.mem_of_getElem? (i := 156) rfl) rfl
theorem jw_1597 : (Jvm.Cond.constant "CoinNodeModel$Hashes" (26 : Nat) (-1521486534 : Int32)) ∈ jws := jws_7 (List.mem_of_getElem? (i := 157) rfl) rfl
theorem jw_1598 : (Jvm.Cond.constant "CoinNodeModel$Hashes" (27 : Nat) (1359893119 : Int32)) ∈ jws := jws_7 (List.mem_of_getElem? (i := 158) rfl) rfl
theorem jw_1599 : (Jvm.Cond.constant "CoinNodeModel$Hashes" (28 : Nat) (-1694144372 : Int32)) ∈ jws := jws_7 (List.mem_of_getElem? (i := 159) rfl) rfl
theorem jw_1600 : (Jvm.Cond.constant "CoinNodeModel$Hashes" (29 : Nat) (528734635 : Int32)) ∈ jws := jws_7 (List.mem_of_getElem? (i := 160) rfl) rfl
theorem jw_1601 : (Jvm.Cond.constant "CoinNodeModel$Hashes" (30 : Nat) (1541459225 : Int32)) ∈ jws := jws_7 (List.mem_of_getElem? (i := 161) rfl) rfl
theorem jw_1602 : (Jvm.Cond.methodLink "CoinNodeModel$Hashes" (31 : Nat) ({ cls := "CoinNodeModel$Hashes", name := "padded", desc := "([BIIIZ)I" } : Jvm.MethodName)) ∈ jws := jws_7 (List.mem_of_getElem? (i := 162) rfl) rfl
theorem jw_1603 : (Jvm.Cond.static ({ cls := "CoinNodeModel$Hashes", name := "padded", desc := "([BIIIZ)I" } : Jvm.MethodName)) ∈ jws := jws_7 (List.mem_of_getElem? (i := 163) rfl) rfl
theorem jw_1604 : (Jvm.Cond.code ({ cls := "CoinNodeModel$Hashes", name := "padded", desc := "([BIIIZ)I" } : Jvm.MethodName) prog_16_method_2_code (7 : Nat) (Option.some Jvm.ClassFile.FieldType.int)) ∈ jws := jws_7 (List.mem_of_getElem? (i := 164) rfl) rfl
theorem jw_1605 : (Jvm.Cond.methodLink "CoinNodeModel$Hashes" (35 : Nat) ({ cls := "CoinNodeModel$Hashes", name := "right", desc := "(II)I" } : Jvm.MethodName)) ∈ jws := jws_7 (List.mem_of_getElem? (i := 165) rfl) rfl
theorem jw_1606 : (Jvm.Cond.static ({ cls := "CoinNodeModel$Hashes", name := "right", desc := "(II)I" } : Jvm.MethodName)) ∈ jws := jws_7 (List.mem_of_getElem? (i := 166) rfl) rfl
theorem jw_1607 : (Jvm.Cond.code ({ cls := "CoinNodeModel$Hashes", name := "right", desc := "(II)I" } : Jvm.MethodName) prog_16_method_3_code (2 : Nat) (Option.some Jvm.ClassFile.FieldType.int)) ∈ jws := jws_7 (List.mem_of_getElem? (i := 167) rfl) rfl
theorem jw_1608 : (Jvm.Cond.fieldLink "CoinNodeModel$Hashes" (39 : Nat) "CoinNodeModel$Hashes" "CUBES" "[I") ∈ jws := jws_7 (List.mem_of_getElem? (i := 168) rfl) rfl
theorem jw_1610 : (Jvm.Cond.fieldLink "CoinNodeModel" (10 : Nat) "CoinNodeModel" "hashes" "LCoinNodeModel$Hashes;") ∈ jws := jws_7 (List.mem_of_getElem? (i := 170) rfl) rfl
theorem jw_1611 : (Jvm.Cond.fieldLink "CoinNodeModel" (21 : Nat) "CoinNodeModel" "signing" "LCoinNodeModel$Signing;") ∈ jws := jws_7 (List.mem_of_getElem? (i := 171) rfl) rfl
theorem jw_1612 : (Jvm.Cond.fieldLink "CoinNodeModel" (30 : Nat) "CoinNodeModel" "scripts" "LCoinNodeModel$Scripts;") ∈ jws := jws_7 (List.mem_of_getElem? (i := 172) rfl) rfl
theorem jw_1613 : (Jvm.Cond.fieldLink "CoinNodeModel" (40 : Nat) "CoinNodeModel" "tree" "LCoinNodeModel$Tree;") ∈ jws := jws_7 (List.mem_of_getElem? (i := 173) rfl) rfl
theorem jw_1614 : (Jvm.Cond.fieldLink "CoinNodeModel" (47 : Nat) "CoinNodeModel" "tx" "LCoinNodeModel$Tx;") ∈ jws := jws_7 (List.mem_of_getElem? (i := 174) rfl) rfl
theorem jw_1615 : (Jvm.Cond.fieldLink "CoinNodeModel" (51 : Nat) "CoinNodeModel" "other" "LCoinNodeModel$Tx;") ∈ jws := jws_7 (List.mem_of_getElem? (i := 175) rfl) rfl
theorem jw_1616 : (Jvm.Cond.fieldLink "CoinNodeModel" (55 : Nat) "CoinNodeModel" "blocks" "[B") ∈ jws := jws_7 (List.mem_of_getElem? (i := 176) rfl) rfl
theorem jw_1617 : (Jvm.Cond.fieldLink "CoinNodeModel" (59 : Nat) "CoinNodeModel" "sizes" "[I") ∈ jws := jws_7 (List.mem_of_getElem? (i := 177) rfl) rfl
theorem jw_1618 : (Jvm.Cond.fieldLink "CoinNodeModel" (63 : Nat) "CoinNodeModel" "names" "[B") ∈ jws := jws_7 (List.mem_of_getElem? (i := 178) rfl) rfl
theorem jw_1619 : (Jvm.Cond.fieldLink "CoinNodeModel" (66 : Nat) "CoinNodeModel" "right" "[I") ∈ jws := jws_7 (List.mem_of_getElem? (i := 179) rfl) rfl
theorem jw_1620 : (Jvm.Cond.fieldLink "CoinNodeModel" (69 : Nat) "CoinNodeModel" "codes" "[I") ∈ jws := jws_7 (List.mem_of_getElem? (i := 180) rfl) rfl
theorem jw_1621 : (Jvm.Cond.fieldLink "CoinNodeModel" (73 : Nat) "CoinNodeModel" "txNames" "[B") ∈ jws := jws_7 (List.mem_of_getElem? (i := 181) rfl) rfl
theorem jw_1622 : (Jvm.Cond.fieldLink "CoinNodeModel" (76 : Nat) "CoinNodeModel" "fresh" "[B") ∈ jws := jws_7 (List.mem_of_getElem? (i := 182) rfl) rfl
theorem jw_1623 : (Jvm.Cond.fieldLink "CoinNodeModel" (340 : Nat) "CoinNodeModel" "tip" "I") ∈ jws := jws_7 (List.mem_of_getElem? (i := 183) rfl) rfl
theorem jw_1624 : (Jvm.Cond.fieldLink "CoinNodeModel" (232 : Nat) "CoinNodeModel" "many" "I") ∈ jws := jws_7 (List.mem_of_getElem? (i := 184) rfl) rfl
theorem jw_1625 : (Jvm.Cond.fieldLink "CoinNodeModel" (79 : Nat) "CoinNodeModel" "begins" "[I") ∈ jws := jws_7 (List.mem_of_getElem? (i := 185) rfl) rfl
theorem jw_1626 : (Jvm.Cond.fieldLink "CoinNodeModel" (247 : Nat) "CoinNodeModel" "coinsOf" "I") ∈ jws := jws_7 (List.mem_of_getElem? (i := 186) rfl) rfl
theorem jw_1627 : (Jvm.Cond.fieldLink "CoinNodeModel" (183 : Nat) "CoinNodeModel" "coins" "I") ∈ jws := jws_7 (List.mem_of_getElem? (i := 187) rfl) rfl
theorem jw_1628 : (Jvm.Cond.fieldLink "CoinNodeModel" (191 : Nat) "CoinNodeModel" "spent" "I") ∈ jws := jws_7 (List.mem_of_getElem? (i := 188) rfl) rfl
theorem jw_1629 : (Jvm.Cond.fieldLink "CoinNodeModel" (305 : Nat) "CoinNodeModel" "blockFees" "J") ∈ jws := jws_7 (List.mem_of_getElem? (i := 189) rfl) rfl
theorem jw_1630 : (Jvm.Cond.fieldLink "CoinNodeModel" (83 : Nat) "CoinNodeModel" "coinNames" "[B") ∈ jws := jws_7 (List.mem_of_getElem? (i := 190) rfl) rfl
theorem jw_1631 : (Jvm.Cond.fieldLink "CoinNodeModel" (86 : Nat) "CoinNodeModel" "coinIndexes" "[J") ∈ jws := jws_7 (List.mem_of_getElem? (i := 191) rfl) rfl
theorem jw_1632 : (Jvm.Cond.fieldLink "CoinNodeModel" (90 : Nat) "CoinNodeModel" "coinValues" "[J") ∈ jws := jws_7 (List.mem_of_getElem? (i := 192) rfl) rfl
theorem jw_1633 : (Jvm.Cond.fieldLink "CoinNodeModel" (93 : Nat) "CoinNodeModel" "coinHeights" "[I") ∈ jws := jws_7 (List.mem_of_getElem? (i := 193) rfl) rfl
theorem jw_1634 : (Jvm.Cond.fieldLink "CoinNodeModel" (96 : Nat) "CoinNodeModel" "coinFirst" "[Z") ∈ jws := jws_7 (List.mem_of_getElem? (i := 194) rfl) rfl
theorem jw_1635 : (Jvm.Cond.fieldLink "CoinNodeModel" (100 : Nat) "CoinNodeModel" "coinScripts" "[I") ∈ jws := jws_7 (List.mem_of_getElem? (i := 195) rfl) rfl
theorem jw_1636 : (Jvm.Cond.fieldLink "CoinNodeModel" (103 : Nat) "CoinNodeModel" "coinSizes" "[I") ∈ jws := jws_7 (List.mem_of_getElem? (i := 196) rfl) rfl
theorem jw_1637 : (Jvm.Cond.fieldLink "CoinNodeModel" (324 : Nat) "CoinNodeModel" "keptCoins" "I") ∈ jws := jws_7 (List.mem_of_getElem? (i := 197) rfl) rfl
theorem jw_1638 : (Jvm.Cond.fieldLink "CoinNodeModel" (327 : Nat) "CoinNodeModel" "keptSpent" "I") ∈ jws := jws_7 (List.mem_of_getElem? (i := 198) rfl) rfl
theorem jw_1639 : (Jvm.Cond.fieldLink "CoinNodeModel" (106 : Nat) "CoinNodeModel" "keptNames" "[B") ∈ jws := jws_7 (List.mem_of_getElem? (i := 199) rfl) rfl
theorem jw_1640 : (Jvm.Cond.fieldLink "CoinNodeModel" (109 : Nat) "CoinNodeModel" "keptIndexes" "[J") ∈ jws := jws_7 (List.mem_of_getElem? (i := 200) rfl) rfl
theorem jw_1641 : (Jvm.Cond.fieldLink "CoinNodeModel" (112 : Nat) "CoinNodeModel" "keptValues" "[J") ∈ jws := jws_7 (List.mem_of_getElem? (i := 201) rfl) rfl
theorem jw_1642 : (Jvm.Cond.fieldLink "CoinNodeModel" (115 : Nat) "CoinNodeModel" "keptHeights" "[I") ∈ jws := jws_7 (List.mem_of_getElem? (i := 202) rfl) rfl
theorem jw_1643 : (Jvm.Cond.fieldLink "CoinNodeModel" (118 : Nat) "CoinNodeModel" "keptFirst" "[Z") ∈ jws := jws_7 (List.mem_of_getElem? (i := 203) rfl) rfl
theorem jw_1644 : (Jvm.Cond.fieldLink "CoinNodeModel" (121 : Nat) "CoinNodeModel" "keptScripts" "[I") ∈ jws := jws_7 (List.mem_of_getElem? (i := 204) rfl) rfl
theorem jw_1645 : (Jvm.Cond.fieldLink "CoinNodeModel" (124 : Nat) "CoinNodeModel" "keptSizes" "[I") ∈ jws := jws_7 (List.mem_of_getElem? (i := 205) rfl) rfl
theorem jw_1646 : (Jvm.Cond.fieldLink "CoinNodeModel" (353 : Nat) "CoinNodeModel" "pool" "I") ∈ jws := jws_7 (List.mem_of_getElem? (i := 206) rfl) rfl
theorem jw_1647 : (Jvm.Cond.fieldLink "CoinNodeModel" (128 : Nat) "CoinNodeModel" "poolTexts" "[B") ∈ jws := jws_7 (List.mem_of_getElem? (i := 207) rfl) rfl
theorem jw_1648 : (Jvm.Cond.fieldLink "CoinNodeModel" (131 : Nat) "CoinNodeModel" "poolSizes" "[I") ∈ jws := jws_7 (List.mem_of_getElem? (i := 208) rfl) rfl
theorem jw_1649 : (Jvm.Cond.fieldLink "CoinNodeModel" (134 : Nat) "CoinNodeModel" "poolNames" "[B") ∈ jws := jws_7 (List.mem_of_getElem? (i := 209) rfl) rfl
theorem jw_1650 : (Jvm.Cond.fieldLink "CoinNodeModel" (137 : Nat) "CoinNodeModel" "poolFees" "[J") ∈ jws := jws_7 (List.mem_of_getElem? (i := 210) rfl) rfl
theorem jw_1651 : (Jvm.Cond.fieldLink "CoinNodeModel" (140 : Nat) "CoinNodeModel" "poolInputs" "[I") ∈ jws := jws_7 (List.mem_of_getElem? (i := 211) rfl) rfl
theorem jw_1652 : (Jvm.Cond.fieldLink "CoinNodeModel" (143 : Nat) "CoinNodeModel" "poolPlaces" "[I") ∈ jws := jws_7 (List.mem_of_getElem? (i := 212) rfl) rfl
theorem jw_1653 : (Jvm.Cond.fieldLink "CoinNodeModel" (146 : Nat) "CoinNodeModel" "poolIndexes" "[J") ∈ jws := jws_7 (List.mem_of_getElem? (i := 213) rfl) rfl
theorem jw_1654 : (Jvm.Cond.fieldLink "CoinNodeModel" (149 : Nat) "CoinNodeModel" "inFamily" "[Z") ∈ jws := jws_7 (List.mem_of_getElem? (i := 214) rfl) rfl
theorem jw_1655 : (Jvm.Cond.fieldLink "CoinNodeModel" (152 : Nat) "CoinNodeModel" "oldTexts" "[B") ∈ jws := jws_7 (List.mem_of_getElem? (i := 215) rfl) rfl
theorem jw_1656 : (Jvm.Cond.fieldLink "CoinNodeModel" (155 : Nat) "CoinNodeModel" "oldSizes" "[I") ∈ jws := jws_7 (List.mem_of_getElem? (i := 216) rfl) rfl
theorem jw_1657 : (Jvm.Cond.fieldLink "CoinNodeModel" (158 : Nat) "CoinNodeModel" "tape" "[B") ∈ jws := jws_7 (List.mem_of_getElem? (i := 217) rfl) rfl
theorem jw_1658 : (Jvm.Cond.fieldLink "CoinNodeModel" (510 : Nat) "CoinNodeModel" "tapeSize" "I") ∈ jws := jws_7 (List.mem_of_getElem? (i := 218) rfl) rfl
theorem jw_1659 : (Jvm.Cond.fieldLink "CoinNodeModel" (161 : Nat) "CoinNodeModel" "name" "[B") ∈ jws := jws_7 (List.mem_of_getElem? (i := 219) rfl) rfl
theorem jw_1660 : (Jvm.Cond.fieldLink "CoinNodeModel" (164 : Nat) "CoinNodeModel" "row" "[B") ∈ jws := jws_7 (List.mem_of_getElem? (i := 220) rfl) rfl
theorem jw_1661 : (Jvm.Cond.fieldLink "CoinNodeModel" (167 : Nat) "CoinNodeModel" "hand" "[B") ∈ jws := jws_7 (List.mem_of_getElem? (i := 221) rfl) rfl
theorem jw_1662 : (Jvm.Cond.fieldLink "CoinNodeModel" (522 : Nat) "CoinNodeModel" "handIndex" "I") ∈ jws := jws_7 (List.mem_of_getElem? (i := 222) rfl) rfl
theorem jw_1663 : (Jvm.Cond.fieldLink "CoinNodeModel" (170 : Nat) "CoinNodeModel" "answers" "[B") ∈ jws := jws_7 (List.mem_of_getElem? (i := 223) rfl) rfl
theorem jw_1664 : (Jvm.Cond.fieldLink "CoinNodeModel" (173 : Nat) "CoinNodeModel" "waiting" "[I") ∈ jws := jws_7 (List.mem_of_getElem? (i := 224) rfl) rfl
theorem jw_1665 : (Jvm.Cond.fieldLink "CoinNodeModel" (176 : Nat) "CoinNodeModel" "frame" "[B") ∈ jws := jws_7 (List.mem_of_getElem? (i := 225) rfl) rfl
theorem jw_1666 : (Jvm.Cond.fieldLink "CoinNodeModel" (467 : Nat) "CoinNodeModel" "frameSize" "I") ∈ jws := jws_7 (List.mem_of_getElem? (i := 226) rfl) rfl
theorem jw_1667 : (Jvm.Cond.fieldLink "CoinNodeModel" (372 : Nat) "CoinNodeModel" "lockFrom" "[B") ∈ jws := jws_7 (List.mem_of_getElem? (i := 227) rfl) rfl
theorem jw_1668 : (Jvm.Cond.fieldLink "CoinNodeModel" (373 : Nat) "CoinNodeModel" "lockAt" "I") ∈ jws := jws_7 (List.mem_of_getElem? (i := 228) rfl) rfl
theorem jw_1669 : (Jvm.Cond.fieldLink "CoinNodeModel" (374 : Nat) "CoinNodeModel" "lockSize" "I") ∈ jws := jws_7 (List.mem_of_getElem? (i := 229) rfl) rfl
theorem jw_1670 : (Jvm.Cond.fieldLink "CoinNodeModel" (368 : Nat) "CoinNodeModel" "isFresh" "Z") ∈ jws := jws_7 (List.mem_of_getElem? (i := 230) rfl) rfl
theorem jw_1671 : (Jvm.Cond.laysFinal "CoinNodeModel" "CoinNodeModel" "hashes" "LCoinNodeModel$Hashes;") ∈ jws := jws_7 (List.mem_of_getElem? (i := 231) rfl) rfl
theorem jw_1673 : (Jvm.Cond.laysFinal "CoinNodeModel" "CoinNodeModel" "signing" "LCoinNodeModel$Signing;") ∈ jws := jws_7 (List.mem_of_getElem? (i := 233) rfl) rfl
theorem jw_1675 : (Jvm.Cond.laysFinal "CoinNodeModel" "CoinNodeModel" "scripts" "LCoinNodeModel$Scripts;") ∈ jws := jws_7 (List.mem_of_getElem? (i := 235) rfl) rfl
theorem jw_1677 : (Jvm.Cond.laysFinal "CoinNodeModel" "CoinNodeModel" "tree" "LCoinNodeModel$Tree;") ∈ jws := jws_7 (List.mem_of_getElem? (i := 237) rfl) rfl
theorem jw_1679 : (Jvm.Cond.laysFinal "CoinNodeModel" "CoinNodeModel" "tx" "LCoinNodeModel$Tx;") ∈ jws := jws_7 (List.mem_of_getElem? (i := 239) rfl) rfl
theorem jw_1681 : (Jvm.Cond.laysFinal "CoinNodeModel" "CoinNodeModel" "other" "LCoinNodeModel$Tx;") ∈ jws := jws_8 (List.mem_of_getElem? (i := 1) rfl) rfl
theorem jw_1683 : (Jvm.Cond.laysFinal "CoinNodeModel" "CoinNodeModel" "blocks" "[B") ∈ jws := jws_8 (List.mem_of_getElem? (i := 3) rfl) rfl
theorem jw_1685 : (Jvm.Cond.laysFinal "CoinNodeModel" "CoinNodeModel" "sizes" "[I") ∈ jws := jws_8 (List.mem_of_getElem? (i := 5) rfl) rfl
theorem jw_1687 : (Jvm.Cond.laysFinal "CoinNodeModel" "CoinNodeModel" "names" "[B") ∈ jws := jws_8 (List.mem_of_getElem? (i := 7) rfl) rfl
theorem jw_1689 : (Jvm.Cond.laysFinal "CoinNodeModel" "CoinNodeModel" "right" "[I") ∈ jws := jws_8 (List.mem_of_getElem? (i := 9) rfl) rfl
theorem jw_1691 : (Jvm.Cond.laysFinal "CoinNodeModel" "CoinNodeModel" "codes" "[I") ∈ jws := jws_8 (List.mem_of_getElem? (i := 11) rfl) rfl
theorem jw_1693 : (Jvm.Cond.laysFinal "CoinNodeModel" "CoinNodeModel" "txNames" "[B") ∈ jws := jws_8 (List.mem_of_getElem? (i := 13) rfl) rfl
theorem jw_1695 : (Jvm.Cond.laysFinal "CoinNodeModel" "CoinNodeModel" "fresh" "[B") ∈ jws := jws_8 (List.mem_of_getElem? (i := 15) rfl) rfl
theorem jw_1697 : (Jvm.Cond.lays "CoinNodeModel" "CoinNodeModel" "tip" "I") ∈ jws := jws_8 (List.mem_of_getElem? (i := 17) rfl) rfl
theorem jw_1699 : (Jvm.Cond.lays "CoinNodeModel" "CoinNodeModel" "many" "I") ∈ jws := jws_8 (List.mem_of_getElem? (i := 19) rfl) rfl
theorem jw_1701 : (Jvm.Cond.laysFinal "CoinNodeModel" "CoinNodeModel" "begins" "[I") ∈ jws := jws_8 (List.mem_of_getElem? (i := 21) rfl) rfl
theorem jw_1703 : (Jvm.Cond.lays "CoinNodeModel" "CoinNodeModel" "coinsOf" "I") ∈ jws := jws_8 (List.mem_of_getElem? (i := 23) rfl) rfl
theorem jw_1705 : (Jvm.Cond.lays "CoinNodeModel" "CoinNodeModel" "coins" "I") ∈ jws := jws_8 (List.mem_of_getElem? (i := 25) rfl) rfl
theorem jw_1707 : (Jvm.Cond.lays "CoinNodeModel" "CoinNodeModel" "spent" "I") ∈ jws := jws_8 (List.mem_of_getElem? (i := 27) rfl) rfl
theorem jw_1709 : (Jvm.Cond.lays "CoinNodeModel" "CoinNodeModel" "blockFees" "J") ∈ jws := jws_8 (List.mem_of_getElem? (i := 29) rfl) rfl
theorem jw_1711 : (Jvm.Cond.laysFinal "CoinNodeModel" "CoinNodeModel" "coinNames" "[B") ∈ jws := jws_8 (List.mem_of_getElem? (i := 31) rfl) rfl
theorem jw_1713 : (Jvm.Cond.laysFinal "CoinNodeModel" "CoinNodeModel" "coinIndexes" "[J") ∈ jws := jws_8 (List.mem_of_getElem? (i := 33) rfl) rfl
theorem jw_1715 : (Jvm.Cond.laysFinal "CoinNodeModel" "CoinNodeModel" "coinValues" "[J") ∈ jws := jws_8 (List.mem_of_getElem? (i := 35) rfl) rfl
theorem jw_1717 : (Jvm.Cond.laysFinal "CoinNodeModel" "CoinNodeModel" "coinHeights" "[I") ∈ jws := jws_8 (List.mem_of_getElem? (i := 37) rfl) rfl
theorem jw_1719 : (Jvm.Cond.laysFinal "CoinNodeModel" "CoinNodeModel" "coinFirst" "[Z") ∈ jws := jws_8 (List.mem_of_getElem? (i := 39) rfl) rfl
theorem jw_1721 : (Jvm.Cond.laysFinal "CoinNodeModel" "CoinNodeModel" "coinScripts" "[I") ∈ jws := jws_8 (List.mem_of_getElem? (i := 41) rfl) rfl
theorem jw_1723 : (Jvm.Cond.laysFinal "CoinNodeModel" "CoinNodeModel" "coinSizes" "[I") ∈ jws := jws_8 (List.mem_of_getElem? (i := 43) rfl) rfl
theorem jw_1725 : (Jvm.Cond.lays "CoinNodeModel" "CoinNodeModel" "keptCoins" "I") ∈ jws := jws_8 (List.mem_of_getElem? (i := 45) rfl) rfl
theorem jw_1727 : (Jvm.Cond.lays "CoinNodeModel" "CoinNodeModel" "keptSpent" "I") ∈ jws := jws_8 (List.mem_of_getElem? (i := 47) rfl) rfl
theorem jw_1729 : (Jvm.Cond.laysFinal "CoinNodeModel" "CoinNodeModel" "keptNames" "[B") ∈ jws := jws_8 (List.mem_of_getElem? (i := 49) rfl) rfl
theorem jw_1731 : (Jvm.Cond.laysFinal "CoinNodeModel" "CoinNodeModel" "keptIndexes" "[J") ∈ jws := jws_8 (List.mem_of_getElem? (i := 51) rfl) rfl
theorem jw_1733 : (Jvm.Cond.laysFinal "CoinNodeModel" "CoinNodeModel" "keptValues" "[J") ∈ jws := jws_8 (List.mem_of_getElem? (i := 53) rfl) rfl
theorem jw_1735 : (Jvm.Cond.laysFinal "CoinNodeModel" "CoinNodeModel" "keptHeights" "[I") ∈ jws := jws_8 (List.mem_of_getElem? (i := 55) rfl) rfl
theorem jw_1737 : (Jvm.Cond.laysFinal "CoinNodeModel" "CoinNodeModel" "keptFirst" "[Z") ∈ jws := jws_8 (List.mem_of_getElem? (i := 57) rfl) rfl
theorem jw_1739 : (Jvm.Cond.laysFinal "CoinNodeModel" "CoinNodeModel" "keptScripts" "[I") ∈ jws := jws_8 (List.mem_of_getElem? (i := 59) rfl) rfl
theorem jw_1741 : (Jvm.Cond.laysFinal "CoinNodeModel" "CoinNodeModel" "keptSizes" "[I") ∈ jws := jws_8 (List.mem_of_getElem? (i := 61) rfl) rfl
theorem jw_1743 : (Jvm.Cond.lays "CoinNodeModel" "CoinNodeModel" "pool" "I") ∈ jws := jws_8 (List.mem_of_getElem? (i := 63) rfl) rfl
theorem jw_1745 : (Jvm.Cond.laysFinal "CoinNodeModel" "CoinNodeModel" "poolTexts" "[B") ∈ jws := jws_8 (List.mem_of_getElem? (i := 65) rfl) rfl
theorem jw_1747 : (Jvm.Cond.laysFinal "CoinNodeModel" "CoinNodeModel" "poolSizes" "[I") ∈ jws := jws_8 (List.mem_of_getElem? (i := 67) rfl) rfl
theorem jw_1749 : (Jvm.Cond.laysFinal "CoinNodeModel" "CoinNodeModel" "poolNames" "[B") ∈ jws := jws_8 (List.mem_of_getElem? (i := 69) rfl) rfl
theorem jw_1751 : (Jvm.Cond.laysFinal "CoinNodeModel" "CoinNodeModel" "poolFees" "[J") ∈ jws := jws_8 (List.mem_of_getElem? (i := 71) rfl) rfl
theorem jw_1753 : (Jvm.Cond.laysFinal "CoinNodeModel" "CoinNodeModel" "poolInputs" "[I") ∈ jws := jws_8 (List.mem_of_getElem? (i := 73) rfl) rfl
theorem jw_1755 : (Jvm.Cond.laysFinal "CoinNodeModel" "CoinNodeModel" "poolPlaces" "[I") ∈ jws := jws_8 (List.mem_of_getElem? (i := 75) rfl) rfl
theorem jw_1757 : (Jvm.Cond.laysFinal "CoinNodeModel" "CoinNodeModel" "poolIndexes" "[J") ∈ jws := jws_8 (List.mem_of_getElem? (i := 77) rfl) rfl
theorem jw_1759 : (Jvm.Cond.laysFinal "CoinNodeModel" "CoinNodeModel" "inFamily" "[Z") ∈ jws := jws_8 (List.mem_of_getElem? (i := 79) rfl) rfl
theorem jw_1761 : (Jvm.Cond.laysFinal "CoinNodeModel" "CoinNodeModel" "oldTexts" "[B") ∈ jws := jws_8 (List.mem_of_getElem? (i := 81) rfl) rfl
theorem jw_1763 : (Jvm.Cond.laysFinal "CoinNodeModel" "CoinNodeModel" "oldSizes" "[I") ∈ jws := jws_8 (List.mem_of_getElem? (i := 83) rfl) rfl
theorem jw_1765 : (Jvm.Cond.laysFinal "CoinNodeModel" "CoinNodeModel" "tape" "[B") ∈ jws := jws_8 (List.mem_of_getElem? (i := 85) rfl) rfl
theorem jw_1767 : (Jvm.Cond.lays "CoinNodeModel" "CoinNodeModel" "tapeSize" "I") ∈ jws := jws_8 (List.mem_of_getElem? (i := 87) rfl) rfl
theorem jw_1769 : (Jvm.Cond.laysFinal "CoinNodeModel" "CoinNodeModel" "name" "[B") ∈ jws := jws_8 (List.mem_of_getElem? (i := 89) rfl) rfl
theorem jw_1771 : (Jvm.Cond.laysFinal "CoinNodeModel" "CoinNodeModel" "row" "[B") ∈ jws := jws_8 (List.mem_of_getElem? (i := 91) rfl) rfl
theorem jw_1773 : (Jvm.Cond.laysFinal "CoinNodeModel" "CoinNodeModel" "hand" "[B") ∈ jws := jws_8 (List.mem_of_getElem? (i := 93) rfl) rfl
theorem jw_1775 : (Jvm.Cond.lays "CoinNodeModel" "CoinNodeModel" "handIndex" "I") ∈ jws := jws_8 (List.mem_of_getElem? (i := 95) rfl) rfl
theorem jw_1777 : (Jvm.Cond.laysFinal "CoinNodeModel" "CoinNodeModel" "answers" "[B") ∈ jws := jws_8 (List.mem_of_getElem? (i := 97) rfl) rfl
theorem jw_1779 : (Jvm.Cond.laysFinal "CoinNodeModel" "CoinNodeModel" "waiting" "[I") ∈ jws := jws_8 (List.mem_of_getElem? (i := 99) rfl) rfl
theorem jw_1781 : (Jvm.Cond.laysFinal "CoinNodeModel" "CoinNodeModel" "frame" "[B") ∈ jws := jws_8 (List.mem_of_getElem? (i := 101) rfl) rfl
theorem jw_1783 : (Jvm.Cond.lays "CoinNodeModel" "CoinNodeModel" "frameSize" "I") ∈ jws := jws_8 (List.mem_of_getElem? (i := 103) rfl) rfl
theorem jw_1785 : (Jvm.Cond.lays "CoinNodeModel" "CoinNodeModel" "lockFrom" "[B") ∈ jws := jws_8 (List.mem_of_getElem? (i := 105) rfl) rfl
theorem jw_1787 : (Jvm.Cond.lays "CoinNodeModel" "CoinNodeModel" "lockAt" "I") ∈ jws := jws_8 (List.mem_of_getElem? (i := 107) rfl) rfl
theorem jw_1789 : (Jvm.Cond.lays "CoinNodeModel" "CoinNodeModel" "lockSize" "I") ∈ jws := jws_8 (List.mem_of_getElem? (i := 109) rfl) rfl
theorem jw_1791 : (Jvm.Cond.lays "CoinNodeModel" "CoinNodeModel" "isFresh" "Z") ∈ jws := jws_8 (List.mem_of_getElem? (i := 111) rfl) rfl
theorem jw_1794 : (Jvm.Cond.methodLink "CoinNodeLaw" (17 : Nat) ({ cls := "CoinNodeModel", name := "feed", desc := "(IIIII)Z" } : Jvm.MethodName)) ∈ jws := jws_8 (List.mem_of_getElem? (i := 114) rfl) rfl
theorem jw_1795 : (Jvm.Cond.instanceMethod ({ cls := "CoinNodeModel", name := "feed", desc := "(IIIII)Z" } : Jvm.MethodName)) ∈ jws := jws_8 (List.mem_of_getElem? (i := 115) rfl) rfl
theorem jw_1796 : (Jvm.Cond.selects "CoinNodeModel" ({ cls := "CoinNodeModel", name := "feed", desc := "(IIIII)Z" } : Jvm.MethodName) ({ cls := "CoinNodeModel", name := "feed", desc := "(IIIII)Z" } : Jvm.MethodName)) ∈ jws := jws_8 (List.mem_of_getElem? (i := 116) rfl) rfl
theorem jw_1797 : (Jvm.Cond.code ({ cls := "CoinNodeModel", name := "feed", desc := "(IIIII)Z" } : Jvm.MethodName) prog_14_method_51_code (6 : Nat) (Option.some Jvm.ClassFile.FieldType.boolean)) ∈ jws := jws_8 (List.mem_of_getElem? (i := 117) rfl) rfl
theorem jw_1798 : (Jvm.Cond.methodLink "CoinNodeModel" (513 : Nat) ({ cls := "CoinNodeModel", name := "write", desc := "(I)V" } : Jvm.MethodName)) ∈ jws := jws_8 (List.mem_of_getElem? (i := 118) rfl) rfl
theorem jw_1800 : (Jvm.Cond.instanceMethod ({ cls := "CoinNodeModel", name := "write", desc := "(I)V" } : Jvm.MethodName)) ∈ jws := jws_8 (List.mem_of_getElem? (i := 120) rfl) rfl
theorem jw_1801 : (Jvm.Cond.code ({ cls := "CoinNodeModel", name := "write", desc := "(I)V" } : Jvm.MethodName) prog_14_method_50_code (3 : Nat) (Option.none : Option Jvm.ClassFile.FieldType)) ∈ jws := jws_8 (List.mem_of_getElem? (i := 121) rfl) rfl
theorem jw_1802 : (Jvm.Cond.methodLink "CoinNodeLaw" (22 : Nat) ({ cls := "CoinNodeModel", name := "send", desc := "(II)Z" } : Jvm.MethodName)) ∈ jws := jws_8 (List.mem_of_getElem? (i := 122) rfl) rfl
theorem jw_1803 : (Jvm.Cond.instanceMethod ({ cls := "CoinNodeModel", name := "send", desc := "(II)Z" } : Jvm.MethodName)) ∈ jws := jws_8 (List.mem_of_getElem? (i := 123) rfl) rfl
theorem jw_1804 : (Jvm.Cond.selects "CoinNodeModel" ({ cls := "CoinNodeModel", name := "send", desc := "(II)Z" } : Jvm.MethodName) ({ cls := "CoinNodeModel", name := "send", desc := "(II)Z" } : Jvm.MethodName)) ∈ jws := jws_8 (List.mem_of_getElem? (i := 124) rfl) rfl
theorem jw_1805 : (Jvm.Cond.code ({ cls := "CoinNodeModel", name := "send", desc := "(II)Z" } : Jvm.MethodName) prog_14_method_53_code (3 : Nat) (Option.some Jvm.ClassFile.FieldType.boolean)) ∈ jws := jws_8 (List.mem_of_getElem? (i := 125) rfl) rfl
theorem jw_1806 : (Jvm.Cond.methodLink "CoinNodeModel" (516 : Nat) ({ cls := "CoinNodeModel", name := "isPeer", desc := "(I)Z" } : Jvm.MethodName)) ∈ jws := jws_8 (List.mem_of_getElem? (i := 126) rfl) rfl
theorem jw_1807 : (Jvm.Cond.static ({ cls := "CoinNodeModel", name := "isPeer", desc := "(I)Z" } : Jvm.MethodName)) ∈ jws := jws_8 (List.mem_of_getElem? (i := 127) rfl) rfl
theorem jw_1808 : (Jvm.Cond.code ({ cls := "CoinNodeModel", name := "isPeer", desc := "(I)Z" } : Jvm.MethodName) prog_14_method_52_code (1 : Nat) (Option.some Jvm.ClassFile.FieldType.boolean)) ∈ jws := jws_8 (List.mem_of_getElem? (i := 128) rfl) rfl
theorem jw_1809 : (Jvm.Cond.methodLink "CoinNodeModel" (519 : Nat) ({ cls := "CoinNodeModel", name := "message", desc := "(II)V" } : Jvm.MethodName)) ∈ jws := jws_8 (List.mem_of_getElem? (i := 129) rfl) rfl
theorem jw_1811 : (Jvm.Cond.instanceMethod ({ cls := "CoinNodeModel", name := "message", desc := "(II)V" } : Jvm.MethodName)) ∈ jws := jws_8 (List.mem_of_getElem? (i := 131) rfl) rfl
theorem jw_1812 : (Jvm.Cond.code ({ cls := "CoinNodeModel", name := "message", desc := "(II)V" } : Jvm.MethodName) prog_14_method_49_code (6 : Nat) (Option.none : Option Jvm.ClassFile.FieldType)) ∈ jws := jws_8 (List.mem_of_getElem? (i := 132) rfl) rfl
theorem jw_1813 : (Jvm.Cond.methodLink "CoinNodeModel" (413 : Nat) ({ cls := "CoinNodeModel", name := "comes", desc := "([BIIZ)I" } : Jvm.MethodName)) ∈ jws := jws_8 (List.mem_of_getElem? (i := 133) rfl) rfl
theorem jw_1815 : (Jvm.Cond.instanceMethod ({ cls := "CoinNodeModel", name := "comes", desc := "([BIIZ)I" } : Jvm.MethodName)) ∈ jws := jws_8 (List.mem_of_getElem? (i := 135) rfl) rfl
theorem jw_1816 : (Jvm.Cond.code ({ cls := "CoinNodeModel", name := "comes", desc := "([BIIZ)I" } : Jvm.MethodName) prog_14_method_29_code (12 : Nat) (Option.some Jvm.ClassFile.FieldType.int)) ∈ jws := jws_8 (List.mem_of_getElem? (i := 136) rfl) rfl
theorem jw_1817 : (Jvm.Cond.methodLink "CoinNodeModel" (312 : Nat) ({ cls := "CoinNodeModel", name := "need", desc := "(I)V" } : Jvm.MethodName)) ∈ jws := jws_8 (List.mem_of_getElem? (i := 137) rfl) rfl
theorem jw_1819 : (Jvm.Cond.instanceMethod ({ cls := "CoinNodeModel", name := "need", desc := "(I)V" } : Jvm.MethodName)) ∈ jws := jws_8 (List.mem_of_getElem? (i := 139) rfl) rfl
theorem jw_1820 : (Jvm.Cond.code ({ cls := "CoinNodeModel", name := "need", desc := "(I)V" } : Jvm.MethodName) prog_14_method_11_code (6 : Nat) (Option.none : Option Jvm.ClassFile.FieldType)) ∈ jws := jws_8 (List.mem_of_getElem? (i := 140) rfl) rfl
theorem jw_1821 : (Jvm.Cond.methodLink "CoinNodeModel" (250 : Nat) ({ cls := "CoinNodeModel", name := "height", desc := "(I)I" } : Jvm.MethodName)) ∈ jws := jws_8 (List.mem_of_getElem? (i := 141) rfl) rfl
theorem jw_1823 : (Jvm.Cond.instanceMethod ({ cls := "CoinNodeModel", name := "height", desc := "(I)I" } : Jvm.MethodName)) ∈ jws := jws_8 (List.mem_of_getElem? (i := 143) rfl) rfl
theorem jw_1824 : (Jvm.Cond.code ({ cls := "CoinNodeModel", name := "height", desc := "(I)I" } : Jvm.MethodName) prog_14_method_9_code (2 : Nat) (Option.some Jvm.ClassFile.FieldType.int)) ∈ jws := jws_8 (List.mem_of_getElem? (i := 144) rfl) rfl
theorem jw_1825 : (Jvm.Cond.methodLink "CoinNodeModel" (243 : Nat) ({ cls := "CoinNodeModel$Tree", name := "look", desc := "(II)J" } : Jvm.MethodName)) ∈ jws := jws_8 (List.mem_of_getElem? (i := 145) rfl) rfl
theorem jw_1826 : (Jvm.Cond.instanceMethod ({ cls := "CoinNodeModel$Tree", name := "look", desc := "(II)J" } : Jvm.MethodName)) ∈ jws := jws_8 (List.mem_of_getElem? (i := 146) rfl) rfl
theorem jw_1827 : (Jvm.Cond.selects "CoinNodeModel$Tree" ({ cls := "CoinNodeModel$Tree", name := "look", desc := "(II)J" } : Jvm.MethodName) ({ cls := "CoinNodeModel$Tree", name := "look", desc := "(II)J" } : Jvm.MethodName)) ∈ jws := jws_8 (List.mem_of_getElem? (i := 147) rfl) rfl
theorem jw_1828 : (Jvm.Cond.code ({ cls := "CoinNodeModel$Tree", name := "look", desc := "(II)J" } : Jvm.MethodName) prog_20_method_21_code (5 : Nat) (Option.some Jvm.ClassFile.FieldType.long)) ∈ jws := jws_8 (List.mem_of_getElem? (i := 148) rfl) rfl
theorem jw_1829 : (Jvm.Cond.methodLink "CoinNodeModel$Tree" (102 : Nat) ({ cls := "CoinNodeModel$Tree", name := "isBlock", desc := "(I)Z" } : Jvm.MethodName)) ∈ jws := jws_8 (List.mem_of_getElem? (i := 149) rfl) rfl
theorem jw_1831 : (Jvm.Cond.instanceMethod ({ cls := "CoinNodeModel$Tree", name := "isBlock", desc := "(I)Z" } : Jvm.MethodName)) ∈ jws := jws_8 (List.mem_of_getElem? (i := 151) rfl) rfl
theorem jw_1832 : (Jvm.Cond.code ({ cls := "CoinNodeModel$Tree", name := "isBlock", desc := "(I)Z" } : Jvm.MethodName) prog_20_method_15_code (2 : Nat) (Option.some Jvm.ClassFile.FieldType.boolean)) ∈ jws := jws_8 (List.mem_of_getElem? (i := 152) rfl) rfl
theorem jw_1833 : (Jvm.Cond.constantLong "CoinNodeModel$Tree" (106 : Nat) (-1 : Int64)) ∈ jws := jws_8 (List.mem_of_getElem? (i := 153) rfl) rfl
theorem jw_1834 : (Jvm.Cond.methodLink "CoinNodeModel" (254 : Nat) ({ cls := "CoinNodeModel$Tree", name := "below", desc := "(II)I" } : Jvm.MethodName)) ∈ jws := jws_8 (List.mem_of_getElem? (i := 154) rfl) rfl
theorem jw_1835 : (Jvm.Cond.instanceMethod ({ cls := "CoinNodeModel$Tree", name := "below", desc := "(II)I" } : Jvm.MethodName)) ∈ jws := jws_8 (List.mem_of_getElem? (i := 155) rfl) rfl
theorem jw_1836 : (Jvm.Cond.selects "CoinNodeModel$Tree" ({ cls := "CoinNodeModel$Tree", name := "below", desc := "(II)I" } : Jvm.MethodName) ({ cls := "CoinNodeModel$Tree", name := "below", desc := "(II)I" } : Jvm.MethodName)) ∈ jws := jws_8 (List.mem_of_getElem? (i := 156) rfl) rfl
theorem jw_1837 : (Jvm.Cond.code ({ cls := "CoinNodeModel$Tree", name := "below", desc := "(II)I" } : Jvm.MethodName) prog_20_method_16_code (4 : Nat) (Option.some Jvm.ClassFile.FieldType.int)) ∈ jws := jws_8 (List.mem_of_getElem? (i := 157) rfl) rfl
theorem jw_1838 : (Jvm.Cond.methodLink "CoinNodeModel" (258 : Nat) ({ cls := "CoinNodeModel", name := "openBlock", desc := "(I)V" } : Jvm.MethodName)) ∈ jws := jws_8 (List.mem_of_getElem? (i := 158) rfl) rfl
theorem jw_1840 : (Jvm.Cond.instanceMethod ({ cls := "CoinNodeModel", name := "openBlock", desc := "(I)V" } : Jvm.MethodName)) ∈ jws := jws_8 (List.mem_of_getElem? (i := 160) rfl) rfl
theorem jw_1841 : (Jvm.Cond.code ({ cls := "CoinNodeModel", name := "openBlock", desc := "(I)V" } : Jvm.MethodName) prog_14_method_8_code (2 : Nat) (Option.none : Option Jvm.ClassFile.FieldType)) ∈ jws := jws_8 (List.mem_of_getElem? (i := 161) rfl) rfl
theorem jw_1842 : (Jvm.Cond.methodLink "CoinNodeModel" (239 : Nat) ({ cls := "CoinNodeModel", name := "open", desc := "([BII)Z" } : Jvm.MethodName)) ∈ jws := jws_8 (List.mem_of_getElem? (i := 162) rfl) rfl
theorem jw_1844 : (Jvm.Cond.instanceMethod ({ cls := "CoinNodeModel", name := "open", desc := "([BII)Z" } : Jvm.MethodName)) ∈ jws := jws_8 (List.mem_of_getElem? (i := 164) rfl) rfl
theorem jw_1845 : (Jvm.Cond.code ({ cls := "CoinNodeModel", name := "open", desc := "([BII)Z" } : Jvm.MethodName) prog_14_method_7_code (7 : Nat) (Option.some Jvm.ClassFile.FieldType.boolean)) ∈ jws := jws_8 (List.mem_of_getElem? (i := 165) rfl) rfl
theorem jw_1846 : (Jvm.Cond.methodLink "CoinNodeModel" (235 : Nat) ({ cls := "CoinNodeModel$Tx", name := "read", desc := "([BII)I" } : Jvm.MethodName)) ∈ jws := jws_8 (List.mem_of_getElem? (i := 166) rfl) rfl
theorem jw_1847 : (Jvm.Cond.instanceMethod ({ cls := "CoinNodeModel$Tx", name := "read", desc := "([BII)I" } : Jvm.MethodName)) ∈ jws := jws_8 (List.mem_of_getElem? (i := 167) rfl) rfl
theorem jw_1848 : (Jvm.Cond.selects "CoinNodeModel$Tx" ({ cls := "CoinNodeModel$Tx", name := "read", desc := "([BII)I" } : Jvm.MethodName) ({ cls := "CoinNodeModel$Tx", name := "read", desc := "([BII)I" } : Jvm.MethodName)) ∈ jws := jws_8 (List.mem_of_getElem? (i := 168) rfl) rfl
theorem jw_1849 : (Jvm.Cond.code ({ cls := "CoinNodeModel$Tx", name := "read", desc := "([BII)I" } : Jvm.MethodName) prog_21_method_5_code (5 : Nat) (Option.some Jvm.ClassFile.FieldType.int)) ∈ jws := jws_8 (List.mem_of_getElem? (i := 169) rfl) rfl
theorem jw_1850 : (Jvm.Cond.methodLink "CoinNodeModel$Tx" (48 : Nat) ({ cls := "CoinNodeModel$Tx", name := "pass", desc := "(I)V" } : Jvm.MethodName)) ∈ jws := jws_8 (List.mem_of_getElem? (i := 170) rfl) rfl
theorem jw_1852 : (Jvm.Cond.instanceMethod ({ cls := "CoinNodeModel$Tx", name := "pass", desc := "(I)V" } : Jvm.MethodName)) ∈ jws := jws_8 (List.mem_of_getElem? (i := 172) rfl) rfl
theorem jw_1853 : (Jvm.Cond.code ({ cls := "CoinNodeModel$Tx", name := "pass", desc := "(I)V" } : Jvm.MethodName) prog_21_method_2_code (2 : Nat) (Option.none : Option Jvm.ClassFile.FieldType)) ∈ jws := jws_8 (List.mem_of_getElem? (i := 173) rfl) rfl
theorem jw_1854 : (Jvm.Cond.methodLink "CoinNodeModel$Tx" (75 : Nat) ({ cls := "CoinNodeModel$Tx", name := "size", desc := "(I)I" } : Jvm.MethodName)) ∈ jws := jws_8 (List.mem_of_getElem? (i := 174) rfl) rfl
theorem jw_1856 : (Jvm.Cond.instanceMethod ({ cls := "CoinNodeModel$Tx", name := "size", desc := "(I)I" } : Jvm.MethodName)) ∈ jws := jws_8 (List.mem_of_getElem? (i := 176) rfl) rfl
theorem jw_1857 : (Jvm.Cond.code ({ cls := "CoinNodeModel$Tx", name := "size", desc := "(I)I" } : Jvm.MethodName) prog_21_method_4_code (4 : Nat) (Option.some Jvm.ClassFile.FieldType.int)) ∈ jws := jws_8 (List.mem_of_getElem? (i := 177) rfl) rfl
theorem jw_1858 : (Jvm.Cond.methodLink "CoinNodeModel$Tx" (56 : Nat) ({ cls := "CoinNodeModel$Tx", name := "low", desc := "(I)J" } : Jvm.MethodName)) ∈ jws := jws_8 (List.mem_of_getElem? (i := 178) rfl) rfl
theorem jw_1860 : (Jvm.Cond.instanceMethod ({ cls := "CoinNodeModel$Tx", name := "low", desc := "(I)J" } : Jvm.MethodName)) ∈ jws := jws_8 (List.mem_of_getElem? (i := 180) rfl) rfl
theorem jw_1861 : (Jvm.Cond.code ({ cls := "CoinNodeModel$Tx", name := "low", desc := "(I)J" } : Jvm.MethodName) prog_21_method_3_code (5 : Nat) (Option.some Jvm.ClassFile.FieldType.long)) ∈ jws := jws_8 (List.mem_of_getElem? (i := 181) rfl) rfl
theorem jw_1862 : (Jvm.Cond.constantLong "CoinNodeModel$Tx" (60 : Nat) (253 : Int64)) ∈ jws := jws_8 (List.mem_of_getElem? (i := 182) rfl) rfl
theorem jw_1863 : (Jvm.Cond.constantLong "CoinNodeModel$Tx" (62 : Nat) (252 : Int64)) ∈ jws := jws_8 (List.mem_of_getElem? (i := 183) rfl) rfl
theorem jw_1864 : (Jvm.Cond.constantLong "CoinNodeModel$Tx" (64 : Nat) (254 : Int64)) ∈ jws := jws_8 (List.mem_of_getElem? (i := 184) rfl) rfl
theorem jw_1865 : (Jvm.Cond.constantLong "CoinNodeModel$Tx" (66 : Nat) (65535 : Int64)) ∈ jws := jws_8 (List.mem_of_getElem? (i := 185) rfl) rfl
theorem jw_1866 : (Jvm.Cond.constantLong "CoinNodeModel$Tx" (68 : Nat) (255 : Int64)) ∈ jws := jws_8 (List.mem_of_getElem? (i := 186) rfl) rfl
theorem jw_1867 : (Jvm.Cond.constantLong "CoinNodeModel$Tx" (70 : Nat) (4294967295 : Int64)) ∈ jws := jws_8 (List.mem_of_getElem? (i := 187) rfl) rfl
theorem jw_1868 : (Jvm.Cond.methodLink "CoinNodeModel" (261 : Nat) ({ cls := "CoinNodeModel", name := "apply", desc := "(IZ)V" } : Jvm.MethodName)) ∈ jws := jws_8 (List.mem_of_getElem? (i := 188) rfl) rfl
theorem jw_1870 : (Jvm.Cond.instanceMethod ({ cls := "CoinNodeModel", name := "apply", desc := "(IZ)V" } : Jvm.MethodName)) ∈ jws := jws_8 (List.mem_of_getElem? (i := 190) rfl) rfl
theorem jw_1871 : (Jvm.Cond.code ({ cls := "CoinNodeModel", name := "apply", desc := "(IZ)V" } : Jvm.MethodName) prog_14_method_5_code (5 : Nat) (Option.none : Option Jvm.ClassFile.FieldType)) ∈ jws := jws_8 (List.mem_of_getElem? (i := 191) rfl) rfl
theorem jw_1872 : (Jvm.Cond.methodLink "CoinNodeModel" (205 : Nat) ({ cls := "CoinNodeModel", name := "coin", desc := "([BIJ)I" } : Jvm.MethodName)) ∈ jws := jws_8 (List.mem_of_getElem? (i := 192) rfl) rfl
theorem jw_1874 : (Jvm.Cond.instanceMethod ({ cls := "CoinNodeModel", name := "coin", desc := "([BIJ)I" } : Jvm.MethodName)) ∈ jws := jws_8 (List.mem_of_getElem? (i := 194) rfl) rfl
theorem jw_1875 : (Jvm.Cond.code ({ cls := "CoinNodeModel", name := "coin", desc := "([BIJ)I" } : Jvm.MethodName) prog_14_method_3_code (6 : Nat) (Option.some Jvm.ClassFile.FieldType.int)) ∈ jws := jws_8 (List.mem_of_getElem? (i := 195) rfl) rfl
theorem jw_1876 : (Jvm.Cond.methodLink "CoinNodeModel" (187 : Nat) ({ cls := "CoinNodeModel", name := "like", desc := "([BI[BII)Z" } : Jvm.MethodName)) ∈ jws := jws_8 (List.mem_of_getElem? (i := 196) rfl) rfl
theorem jw_1877 : (Jvm.Cond.static ({ cls := "CoinNodeModel", name := "like", desc := "([BI[BII)Z" } : Jvm.MethodName)) ∈ jws := jws_8 (List.mem_of_getElem? (i := 197) rfl) rfl
theorem jw_1878 : (Jvm.Cond.code ({ cls := "CoinNodeModel", name := "like", desc := "([BI[BII)Z" } : Jvm.MethodName) prog_14_method_1_code (7 : Nat) (Option.some Jvm.ClassFile.FieldType.boolean)) ∈ jws := jws_8 (List.mem_of_getElem? (i := 198) rfl) rfl
theorem jw_1879 : (Jvm.Cond.methodLink "CoinNodeModel" (209 : Nat) ({ cls := "CoinNodeModel", name := "dropCoin", desc := "(I)V" } : Jvm.MethodName)) ∈ jws := jws_8 (List.mem_of_getElem? (i := 199) rfl) rfl
theorem jw_1881 : (Jvm.Cond.instanceMethod ({ cls := "CoinNodeModel", name := "dropCoin", desc := "(I)V" } : Jvm.MethodName)) ∈ jws := jws_8 (List.mem_of_getElem? (i := 201) rfl) rfl
theorem jw_1882 : (Jvm.Cond.code ({ cls := "CoinNodeModel", name := "dropCoin", desc := "(I)V" } : Jvm.MethodName) prog_14_method_4_code (3 : Nat) (Option.none : Option Jvm.ClassFile.FieldType)) ∈ jws := jws_8 (List.mem_of_getElem? (i := 202) rfl) rfl
theorem jw_1883 : (Jvm.Cond.methodLink "CoinNodeModel" (384 : Nat) ({ cls := "CoinNodeModel", name := "nameOf", desc := "(LCoinNodeModel$Tx;[BI)V" } : Jvm.MethodName)) ∈ jws := jws_8 (List.mem_of_getElem? (i := 203) rfl) rfl
theorem jw_1885 : (Jvm.Cond.instanceMethod ({ cls := "CoinNodeModel", name := "nameOf", desc := "(LCoinNodeModel$Tx;[BI)V" } : Jvm.MethodName)) ∈ jws := jws_8 (List.mem_of_getElem? (i := 205) rfl) rfl
theorem jw_1886 : (Jvm.Cond.code ({ cls := "CoinNodeModel", name := "nameOf", desc := "(LCoinNodeModel$Tx;[BI)V" } : Jvm.MethodName) prog_14_method_6_code (4 : Nat) (Option.none : Option Jvm.ClassFile.FieldType)) ∈ jws := jws_8 (List.mem_of_getElem? (i := 206) rfl) rfl
theorem jw_1887 : (Jvm.Cond.methodLink "CoinNodeModel" (228 : Nat) ({ cls := "CoinNodeModel$Tx", name := "bytes", desc := "()I" } : Jvm.MethodName)) ∈ jws := jws_8 (List.mem_of_getElem? (i := 207) rfl) rfl
theorem jw_1888 : (Jvm.Cond.instanceMethod ({ cls := "CoinNodeModel$Tx", name := "bytes", desc := "()I" } : Jvm.MethodName)) ∈ jws := jws_8 (List.mem_of_getElem? (i := 208) rfl) rfl
theorem jw_1889 : (Jvm.Cond.selects "CoinNodeModel$Tx" ({ cls := "CoinNodeModel$Tx", name := "bytes", desc := "()I" } : Jvm.MethodName) ({ cls := "CoinNodeModel$Tx", name := "bytes", desc := "()I" } : Jvm.MethodName)) ∈ jws := jws_8 (List.mem_of_getElem? (i := 209) rfl) rfl
theorem jw_1890 : (Jvm.Cond.code ({ cls := "CoinNodeModel$Tx", name := "bytes", desc := "()I" } : Jvm.MethodName) prog_21_method_6_code (1 : Nat) (Option.some Jvm.ClassFile.FieldType.int)) ∈ jws := jws_8 (List.mem_of_getElem? (i := 210) rfl) rfl
theorem jw_1891 : (Jvm.Cond.methodLink "CoinNodeModel" (388 : Nat) ({ cls := "CoinNodeModel$Tx", name := "fault", desc := "()I" } : Jvm.MethodName)) ∈ jws := jws_8 (List.mem_of_getElem? (i := 211) rfl) rfl
theorem jw_1892 : (Jvm.Cond.instanceMethod ({ cls := "CoinNodeModel$Tx", name := "fault", desc := "()I" } : Jvm.MethodName)) ∈ jws := jws_8 (List.mem_of_getElem? (i := 212) rfl) rfl
theorem jw_1893 : (Jvm.Cond.selects "CoinNodeModel$Tx" ({ cls := "CoinNodeModel$Tx", name := "fault", desc := "()I" } : Jvm.MethodName) ({ cls := "CoinNodeModel$Tx", name := "fault", desc := "()I" } : Jvm.MethodName)) ∈ jws := jws_8 (List.mem_of_getElem? (i := 213) rfl) rfl
theorem jw_1894 : (Jvm.Cond.code ({ cls := "CoinNodeModel$Tx", name := "fault", desc := "()I" } : Jvm.MethodName) prog_21_method_11_code (1 : Nat) (Option.some Jvm.ClassFile.FieldType.int)) ∈ jws := jws_8 (List.mem_of_getElem? (i := 214) rfl) rfl
theorem jw_1895 : (Jvm.Cond.methodLink "CoinNodeModel$Tx" (95 : Nat) ({ cls := "CoinNodeModel$Tx", name := "isLarge", desc := "()Z" } : Jvm.MethodName)) ∈ jws := jws_8 (List.mem_of_getElem? (i := 215) rfl) rfl
theorem jw_1896 : (Jvm.Cond.instanceMethod ({ cls := "CoinNodeModel$Tx", name := "isLarge", desc := "()Z" } : Jvm.MethodName)) ∈ jws := jws_8 (List.mem_of_getElem? (i := 216) rfl) rfl
theorem jw_1897 : (Jvm.Cond.selects "CoinNodeModel$Tx" ({ cls := "CoinNodeModel$Tx", name := "isLarge", desc := "()Z" } : Jvm.MethodName) ({ cls := "CoinNodeModel$Tx", name := "isLarge", desc := "()Z" } : Jvm.MethodName)) ∈ jws := jws_8 (List.mem_of_getElem? (i := 217) rfl) rfl
theorem jw_1898 : (Jvm.Cond.code ({ cls := "CoinNodeModel$Tx", name := "isLarge", desc := "()Z" } : Jvm.MethodName) prog_21_method_9_code (5 : Nat) (Option.some Jvm.ClassFile.FieldType.boolean)) ∈ jws := jws_8 (List.mem_of_getElem? (i := 218) rfl) rfl
theorem jw_1899 : (Jvm.Cond.constantLong "CoinNodeModel$Tx" (89 : Nat) (2100000000000000 : Int64)) ∈ jws := jws_8 (List.mem_of_getElem? (i := 219) rfl) rfl
theorem jw_1900 : (Jvm.Cond.methodLink "CoinNodeModel$Tx" (99 : Nat) ({ cls := "CoinNodeModel$Tx", name := "isTwice", desc := "()Z" } : Jvm.MethodName)) ∈ jws := jws_8 (List.mem_of_getElem? (i := 220) rfl) rfl
theorem jw_1901 : (Jvm.Cond.instanceMethod ({ cls := "CoinNodeModel$Tx", name := "isTwice", desc := "()Z" } : Jvm.MethodName)) ∈ jws := jws_8 (List.mem_of_getElem? (i := 221) rfl) rfl
theorem jw_1902 : (Jvm.Cond.selects "CoinNodeModel$Tx" ({ cls := "CoinNodeModel$Tx", name := "isTwice", desc := "()Z" } : Jvm.MethodName) ({ cls := "CoinNodeModel$Tx", name := "isTwice", desc := "()Z" } : Jvm.MethodName)) ∈ jws := jws_8 (List.mem_of_getElem? (i := 222) rfl) rfl
theorem jw_1903 : (Jvm.Cond.code ({ cls := "CoinNodeModel$Tx", name := "isTwice", desc := "()Z" } : Jvm.MethodName) prog_21_method_10_code (4 : Nat) (Option.some Jvm.ClassFile.FieldType.boolean)) ∈ jws := jws_8 (List.mem_of_getElem? (i := 223) rfl) rfl
theorem jw_1905 : (Jvm.Cond.methodLink "CoinNodeModel" (391 : Nat) ({ cls := "CoinNodeModel$Tx", name := "hasRoot", desc := "()Z" } : Jvm.MethodName)) ∈ jws := jws_8 (List.mem_of_getElem? (i := 225) rfl) rfl
theorem jw_1906 : (Jvm.Cond.instanceMethod ({ cls := "CoinNodeModel$Tx", name := "hasRoot", desc := "()Z" } : Jvm.MethodName)) ∈ jws := jws_8 (List.mem_of_getElem? (i := 226) rfl) rfl
theorem jw_1907 : (Jvm.Cond.selects "CoinNodeModel$Tx" ({ cls := "CoinNodeModel$Tx", name := "hasRoot", desc := "()Z" } : Jvm.MethodName) ({ cls := "CoinNodeModel$Tx", name := "hasRoot", desc := "()Z" } : Jvm.MethodName)) ∈ jws := jws_8 (List.mem_of_getElem? (i := 227) rfl) rfl
theorem jw_1908 : (Jvm.Cond.code ({ cls := "CoinNodeModel$Tx", name := "hasRoot", desc := "()Z" } : Jvm.MethodName) prog_21_method_8_code (3 : Nat) (Option.some Jvm.ClassFile.FieldType.boolean)) ∈ jws := jws_8 (List.mem_of_getElem? (i := 228) rfl) rfl
theorem jw_1909 : (Jvm.Cond.methodLink "CoinNodeModel$Tx" (85 : Nat) ({ cls := "CoinNodeModel$Tx", name := "isRoot", desc := "(I)Z" } : Jvm.MethodName)) ∈ jws := jws_8 (List.mem_of_getElem? (i := 229) rfl) rfl
theorem jw_1910 : (Jvm.Cond.instanceMethod ({ cls := "CoinNodeModel$Tx", name := "isRoot", desc := "(I)Z" } : Jvm.MethodName)) ∈ jws := jws_8 (List.mem_of_getElem? (i := 230) rfl) rfl
theorem jw_1911 : (Jvm.Cond.selects "CoinNodeModel$Tx" ({ cls := "CoinNodeModel$Tx", name := "isRoot", desc := "(I)Z" } : Jvm.MethodName) ({ cls := "CoinNodeModel$Tx", name := "isRoot", desc := "(I)Z" } : Jvm.MethodName)) ∈ jws := jws_8 (List.mem_of_getElem? (i := 231) rfl) rfl
theorem jw_1912 : (Jvm.Cond.code ({ cls := "CoinNodeModel$Tx", name := "isRoot", desc := "(I)Z" } : Jvm.MethodName) prog_21_method_7_code (4 : Nat) (Option.some Jvm.ClassFile.FieldType.boolean)) ∈ jws := jws_8 (List.mem_of_getElem? (i := 232) rfl) rfl
theorem jw_1913 : (Jvm.Cond.methodLink "CoinNodeModel" (375 : Nat) ({ cls := "CoinNodeModel", name := "inPool", desc := "([BI)I" } : Jvm.MethodName)) ∈ jws := jws_8 (List.mem_of_getElem? (i := 233) rfl) rfl
theorem jw_1915 : (Jvm.Cond.instanceMethod ({ cls := "CoinNodeModel", name := "inPool", desc := "([BI)I" } : Jvm.MethodName)) ∈ jws := jws_8 (List.mem_of_getElem? (i := 235) rfl) rfl
theorem jw_1916 : (Jvm.Cond.code ({ cls := "CoinNodeModel", name := "inPool", desc := "([BI)I" } : Jvm.MethodName) prog_14_method_19_code (4 : Nat) (Option.some Jvm.ClassFile.FieldType.int)) ∈ jws := jws_8 (List.mem_of_getElem? (i := 236) rfl) rfl
theorem jw_1917 : (Jvm.Cond.methodLink "CoinNodeModel" (394 : Nat) ({ cls := "CoinNodeModel", name := "spends", desc := "(I[BIJ)Z" } : Jvm.MethodName)) ∈ jws := jws_8 (List.mem_of_getElem? (i := 237) rfl) rfl
theorem jw_1919 : (Jvm.Cond.instanceMethod ({ cls := "CoinNodeModel", name := "spends", desc := "(I[BIJ)Z" } : Jvm.MethodName)) ∈ jws := jws_8 (List.mem_of_getElem? (i := 239) rfl) rfl
theorem jw_1920 : (Jvm.Cond.code ({ cls := "CoinNodeModel", name := "spends", desc := "(I[BIJ)Z" } : Jvm.MethodName) prog_14_method_21_code (8 : Nat) (Option.some Jvm.ClassFile.FieldType.boolean)) ∈ jws := jws_9 (List.mem_of_getElem? (i := 0) rfl) rfl
theorem jw_1921 : (Jvm.Cond.methodLink "CoinNodeModel" (398 : Nat) ({ cls := "CoinNodeModel", name := "find", desc := "([BIJ)J" } : Jvm.MethodName)) ∈ jws := jws_9 (List.mem_of_getElem? (i := 1) rfl) rfl
theorem jw_1923 : (Jvm.Cond.instanceMethod ({ cls := "CoinNodeModel", name := "find", desc := "([BIJ)J" } : Jvm.MethodName)) ∈ jws := jws_9 (List.mem_of_getElem? (i := 3) rfl) rfl
theorem jw_1924 : (Jvm.Cond.code ({ cls := "CoinNodeModel", name := "find", desc := "([BIJ)J" } : Jvm.MethodName) prog_14_method_26_code (7 : Nat) (Option.some Jvm.ClassFile.FieldType.long)) ∈ jws := jws_9 (List.mem_of_getElem? (i := 4) rfl) rfl
theorem jw_1925 : (Jvm.Cond.constantLong "CoinNodeModel" (379 : Nat) (-1 : Int64)) ∈ jws := jws_9 (List.mem_of_getElem? (i := 5) rfl) rfl
theorem jw_1926 : (Jvm.Cond.methodLink "CoinNodeModel" (381 : Nat) ({ cls := "CoinNodeModel", name := "openPool", desc := "(I)V" } : Jvm.MethodName)) ∈ jws := jws_9 (List.mem_of_getElem? (i := 6) rfl) rfl
theorem jw_1928 : (Jvm.Cond.instanceMethod ({ cls := "CoinNodeModel", name := "openPool", desc := "(I)V" } : Jvm.MethodName)) ∈ jws := jws_9 (List.mem_of_getElem? (i := 8) rfl) rfl
theorem jw_1929 : (Jvm.Cond.code ({ cls := "CoinNodeModel", name := "openPool", desc := "(I)V" } : Jvm.MethodName) prog_14_method_20_code (2 : Nat) (Option.none : Option Jvm.ClassFile.FieldType)) ∈ jws := jws_9 (List.mem_of_getElem? (i := 9) rfl) rfl
theorem jw_1930 : (Jvm.Cond.constantLong "CoinNodeModel" (402 : Nat) (2147483647 : Int64)) ∈ jws := jws_9 (List.mem_of_getElem? (i := 10) rfl) rfl
theorem jw_1931 : (Jvm.Cond.methodLink "CoinNodeModel" (297 : Nat) ({ cls := "CoinNodeModel$Tx", name := "sum", desc := "()J" } : Jvm.MethodName)) ∈ jws := jws_9 (List.mem_of_getElem? (i := 11) rfl) rfl
theorem jw_1932 : (Jvm.Cond.instanceMethod ({ cls := "CoinNodeModel$Tx", name := "sum", desc := "()J" } : Jvm.MethodName)) ∈ jws := jws_9 (List.mem_of_getElem? (i := 12) rfl) rfl
theorem jw_1933 : (Jvm.Cond.selects "CoinNodeModel$Tx" ({ cls := "CoinNodeModel$Tx", name := "sum", desc := "()J" } : Jvm.MethodName) ({ cls := "CoinNodeModel$Tx", name := "sum", desc := "()J" } : Jvm.MethodName)) ∈ jws := jws_9 (List.mem_of_getElem? (i := 13) rfl) rfl
theorem jw_1934 : (Jvm.Cond.code ({ cls := "CoinNodeModel$Tx", name := "sum", desc := "()J" } : Jvm.MethodName) prog_21_method_12_code (4 : Nat) (Option.some Jvm.ClassFile.FieldType.long)) ∈ jws := jws_9 (List.mem_of_getElem? (i := 14) rfl) rfl
theorem jw_1935 : (Jvm.Cond.methodLink "CoinNodeModel" (301 : Nat) ({ cls := "CoinNodeModel", name := "fails", desc := "(LCoinNodeModel$Tx;I[BII)Z" } : Jvm.MethodName)) ∈ jws := jws_9 (List.mem_of_getElem? (i := 15) rfl) rfl
theorem jw_1937 : (Jvm.Cond.instanceMethod ({ cls := "CoinNodeModel", name := "fails", desc := "(LCoinNodeModel$Tx;I[BII)Z" } : Jvm.MethodName)) ∈ jws := jws_9 (List.mem_of_getElem? (i := 17) rfl) rfl
theorem jw_1938 : (Jvm.Cond.code ({ cls := "CoinNodeModel", name := "fails", desc := "(LCoinNodeModel$Tx;I[BII)Z" } : Jvm.MethodName) prog_14_method_12_code (6 : Nat) (Option.some Jvm.ClassFile.FieldType.boolean)) ∈ jws := jws_9 (List.mem_of_getElem? (i := 18) rfl) rfl
theorem jw_1939 : (Jvm.Cond.methodLink "CoinNodeModel" (278 : Nat) ({ cls := "CoinNodeModel$Scripts", name := "clear", desc := "()V" } : Jvm.MethodName)) ∈ jws := jws_9 (List.mem_of_getElem? (i := 19) rfl) rfl
theorem jw_1940 : (Jvm.Cond.instanceMethod ({ cls := "CoinNodeModel$Scripts", name := "clear", desc := "()V" } : Jvm.MethodName)) ∈ jws := jws_9 (List.mem_of_getElem? (i := 20) rfl) rfl
theorem jw_1941 : (Jvm.Cond.selects "CoinNodeModel$Scripts" ({ cls := "CoinNodeModel$Scripts", name := "clear", desc := "()V" } : Jvm.MethodName) ({ cls := "CoinNodeModel$Scripts", name := "clear", desc := "()V" } : Jvm.MethodName)) ∈ jws := jws_9 (List.mem_of_getElem? (i := 21) rfl) rfl
theorem jw_1942 : (Jvm.Cond.code ({ cls := "CoinNodeModel$Scripts", name := "clear", desc := "()V" } : Jvm.MethodName) prog_18_method_33_code (1 : Nat) (Option.none : Option Jvm.ClassFile.FieldType)) ∈ jws := jws_9 (List.mem_of_getElem? (i := 22) rfl) rfl
theorem jw_1943 : (Jvm.Cond.methodLink "CoinNodeModel" (286 : Nat) ({ cls := "CoinNodeModel$Scripts", name := "load", desc := "([BII)V" } : Jvm.MethodName)) ∈ jws := jws_9 (List.mem_of_getElem? (i := 23) rfl) rfl
theorem jw_1944 : (Jvm.Cond.instanceMethod ({ cls := "CoinNodeModel$Scripts", name := "load", desc := "([BII)V" } : Jvm.MethodName)) ∈ jws := jws_9 (List.mem_of_getElem? (i := 24) rfl) rfl
theorem jw_1945 : (Jvm.Cond.selects "CoinNodeModel$Scripts" ({ cls := "CoinNodeModel$Scripts", name := "load", desc := "([BII)V" } : Jvm.MethodName) ({ cls := "CoinNodeModel$Scripts", name := "load", desc := "([BII)V" } : Jvm.MethodName)) ∈ jws := jws_9 (List.mem_of_getElem? (i := 25) rfl) rfl
theorem jw_1946 : (Jvm.Cond.code ({ cls := "CoinNodeModel$Scripts", name := "load", desc := "([BII)V" } : Jvm.MethodName) prog_18_method_2_code (5 : Nat) (Option.none : Option Jvm.ClassFile.FieldType)) ∈ jws := jws_9 (List.mem_of_getElem? (i := 26) rfl) rfl
theorem jw_1947 : (Jvm.Cond.methodLink "CoinNodeModel" (290 : Nat) ({ cls := "CoinNodeModel$Scripts", name := "run", desc := "()I" } : Jvm.MethodName)) ∈ jws := jws_9 (List.mem_of_getElem? (i := 27) rfl) rfl
theorem jw_1948 : (Jvm.Cond.instanceMethod ({ cls := "CoinNodeModel$Scripts", name := "run", desc := "()I" } : Jvm.MethodName)) ∈ jws := jws_9 (List.mem_of_getElem? (i := 28) rfl) rfl
theorem jw_1949 : (Jvm.Cond.selects "CoinNodeModel$Scripts" ({ cls := "CoinNodeModel$Scripts", name := "run", desc := "()I" } : Jvm.MethodName) ({ cls := "CoinNodeModel$Scripts", name := "run", desc := "()I" } : Jvm.MethodName)) ∈ jws := jws_9 (List.mem_of_getElem? (i := 29) rfl) rfl
theorem jw_1950 : (Jvm.Cond.code ({ cls := "CoinNodeModel$Scripts", name := "run", desc := "()I" } : Jvm.MethodName) prog_18_method_32_code (2 : Nat) (Option.some Jvm.ClassFile.FieldType.int)) ∈ jws := jws_9 (List.mem_of_getElem? (i := 30) rfl) rfl
theorem jw_1951 : (Jvm.Cond.methodLink "CoinNodeModel$Scripts" (182 : Nat) ({ cls := "CoinNodeModel$Scripts", name := "next", desc := "(I)I" } : Jvm.MethodName)) ∈ jws := jws_9 (List.mem_of_getElem? (i := 31) rfl) rfl
theorem jw_1953 : (Jvm.Cond.instanceMethod ({ cls := "CoinNodeModel$Scripts", name := "next", desc := "(I)I" } : Jvm.MethodName)) ∈ jws := jws_9 (List.mem_of_getElem? (i := 33) rfl) rfl
theorem jw_1954 : (Jvm.Cond.code ({ cls := "CoinNodeModel$Scripts", name := "next", desc := "(I)I" } : Jvm.MethodName) prog_18_method_31_code (6 : Nat) (Option.some Jvm.ClassFile.FieldType.int)) ∈ jws := jws_9 (List.mem_of_getElem? (i := 34) rfl) rfl
theorem jw_1955 : (Jvm.Cond.methodLink "CoinNodeModel$Scripts" (119 : Nat) ({ cls := "CoinNodeModel$Scripts", name := "isDone", desc := "()Z" } : Jvm.MethodName)) ∈ jws := jws_9 (List.mem_of_getElem? (i := 35) rfl) rfl
theorem jw_1957 : (Jvm.Cond.instanceMethod ({ cls := "CoinNodeModel$Scripts", name := "isDone", desc := "()Z" } : Jvm.MethodName)) ∈ jws := jws_9 (List.mem_of_getElem? (i := 37) rfl) rfl
theorem jw_1958 : (Jvm.Cond.code ({ cls := "CoinNodeModel$Scripts", name := "isDone", desc := "()Z" } : Jvm.MethodName) prog_18_method_18_code (1 : Nat) (Option.some Jvm.ClassFile.FieldType.boolean)) ∈ jws := jws_9 (List.mem_of_getElem? (i := 38) rfl) rfl
theorem jw_1959 : (Jvm.Cond.methodLink "CoinNodeModel$Scripts" (60 : Nat) ({ cls := "CoinNodeModel$Scripts", name := "fails", desc := "(I)V" } : Jvm.MethodName)) ∈ jws := jws_9 (List.mem_of_getElem? (i := 39) rfl) rfl
theorem jw_1961 : (Jvm.Cond.instanceMethod ({ cls := "CoinNodeModel$Scripts", name := "fails", desc := "(I)V" } : Jvm.MethodName)) ∈ jws := jws_9 (List.mem_of_getElem? (i := 41) rfl) rfl
theorem jw_1962 : (Jvm.Cond.code ({ cls := "CoinNodeModel$Scripts", name := "fails", desc := "(I)V" } : Jvm.MethodName) prog_18_method_10_code (2 : Nat) (Option.none : Option Jvm.ClassFile.FieldType)) ∈ jws := jws_9 (List.mem_of_getElem? (i := 42) rfl) rfl
theorem jw_1963 : (Jvm.Cond.methodLink "CoinNodeModel$Scripts" (170 : Nat) ({ cls := "CoinNodeModel$Scripts", name := "pushes", desc := "(IIZ)I" } : Jvm.MethodName)) ∈ jws := jws_9 (List.mem_of_getElem? (i := 43) rfl) rfl
theorem jw_1965 : (Jvm.Cond.instanceMethod ({ cls := "CoinNodeModel$Scripts", name := "pushes", desc := "(IIZ)I" } : Jvm.MethodName)) ∈ jws := jws_9 (List.mem_of_getElem? (i := 45) rfl) rfl
theorem jw_1966 : (Jvm.Cond.code ({ cls := "CoinNodeModel$Scripts", name := "pushes", desc := "(IIZ)I" } : Jvm.MethodName) prog_18_method_30_code (5 : Nat) (Option.some Jvm.ClassFile.FieldType.int)) ∈ jws := jws_9 (List.mem_of_getElem? (i := 46) rfl) rfl
theorem jw_1967 : (Jvm.Cond.methodLink "CoinNodeModel$Scripts" (174 : Nat) ({ cls := "CoinNodeModel$Scripts", name := "flow", desc := "(I)V" } : Jvm.MethodName)) ∈ jws := jws_9 (List.mem_of_getElem? (i := 47) rfl) rfl
theorem jw_1969 : (Jvm.Cond.instanceMethod ({ cls := "CoinNodeModel$Scripts", name := "flow", desc := "(I)V" } : Jvm.MethodName)) ∈ jws := jws_9 (List.mem_of_getElem? (i := 49) rfl) rfl
theorem jw_1970 : (Jvm.Cond.code ({ cls := "CoinNodeModel$Scripts", name := "flow", desc := "(I)V" } : Jvm.MethodName) prog_18_method_19_code (3 : Nat) (Option.none : Option Jvm.ClassFile.FieldType)) ∈ jws := jws_9 (List.mem_of_getElem? (i := 50) rfl) rfl
theorem jw_1971 : (Jvm.Cond.methodLink "CoinNodeModel$Scripts" (64 : Nat) ({ cls := "CoinNodeModel$Scripts", name := "has", desc := "(I)Z" } : Jvm.MethodName)) ∈ jws := jws_9 (List.mem_of_getElem? (i := 51) rfl) rfl
theorem jw_1973 : (Jvm.Cond.instanceMethod ({ cls := "CoinNodeModel$Scripts", name := "has", desc := "(I)Z" } : Jvm.MethodName)) ∈ jws := jws_9 (List.mem_of_getElem? (i := 53) rfl) rfl
theorem jw_1974 : (Jvm.Cond.code ({ cls := "CoinNodeModel$Scripts", name := "has", desc := "(I)Z" } : Jvm.MethodName) prog_18_method_11_code (2 : Nat) (Option.some Jvm.ClassFile.FieldType.boolean)) ∈ jws := jws_9 (List.mem_of_getElem? (i := 54) rfl) rfl
theorem jw_1975 : (Jvm.Cond.methodLink "CoinNodeModel$Scripts" (76 : Nat) ({ cls := "CoinNodeModel$Scripts", name := "isTrueRow", desc := "(I)Z" } : Jvm.MethodName)) ∈ jws := jws_9 (List.mem_of_getElem? (i := 55) rfl) rfl
theorem jw_1977 : (Jvm.Cond.instanceMethod ({ cls := "CoinNodeModel$Scripts", name := "isTrueRow", desc := "(I)Z" } : Jvm.MethodName)) ∈ jws := jws_9 (List.mem_of_getElem? (i := 57) rfl) rfl
theorem jw_1978 : (Jvm.Cond.code ({ cls := "CoinNodeModel$Scripts", name := "isTrueRow", desc := "(I)Z" } : Jvm.MethodName) prog_18_method_8_code (5 : Nat) (Option.some Jvm.ClassFile.FieldType.boolean)) ∈ jws := jws_9 (List.mem_of_getElem? (i := 58) rfl) rfl
theorem jw_1979 : (Jvm.Cond.constantLong "CoinNodeModel$Scripts" (177 : Nat) (-1 : Int64)) ∈ jws := jws_9 (List.mem_of_getElem? (i := 59) rfl) rfl
theorem jw_1980 : (Jvm.Cond.methodLink "CoinNodeModel$Scripts" (53 : Nat) ({ cls := "CoinNodeModel$Scripts", name := "pushNumber", desc := "(J)V" } : Jvm.MethodName)) ∈ jws := jws_9 (List.mem_of_getElem? (i := 60) rfl) rfl
theorem jw_1982 : (Jvm.Cond.instanceMethod ({ cls := "CoinNodeModel$Scripts", name := "pushNumber", desc := "(J)V" } : Jvm.MethodName)) ∈ jws := jws_9 (List.mem_of_getElem? (i := 62) rfl) rfl
theorem jw_1983 : (Jvm.Cond.code ({ cls := "CoinNodeModel$Scripts", name := "pushNumber", desc := "(J)V" } : Jvm.MethodName) prog_18_method_6_code (6 : Nat) (Option.none : Option Jvm.ClassFile.FieldType)) ∈ jws := jws_9 (List.mem_of_getElem? (i := 63) rfl) rfl
theorem jw_1984 : (Jvm.Cond.constantLong "CoinNodeModel$Scripts" (51 : Nat) (256 : Int64)) ∈ jws := jws_9 (List.mem_of_getElem? (i := 64) rfl) rfl
theorem jw_1985 : (Jvm.Cond.methodLink "CoinNodeModel$Scripts" (179 : Nat) ({ cls := "CoinNodeModel$Scripts", name := "operation", desc := "(I)V" } : Jvm.MethodName)) ∈ jws := jws_9 (List.mem_of_getElem? (i := 65) rfl) rfl
theorem jw_1987 : (Jvm.Cond.instanceMethod ({ cls := "CoinNodeModel$Scripts", name := "operation", desc := "(I)V" } : Jvm.MethodName)) ∈ jws := jws_9 (List.mem_of_getElem? (i := 67) rfl) rfl
theorem jw_1988 : (Jvm.Cond.code ({ cls := "CoinNodeModel$Scripts", name := "operation", desc := "(I)V" } : Jvm.MethodName) prog_18_method_29_code (2 : Nat) (Option.none : Option Jvm.ClassFile.FieldType)) ∈ jws := jws_9 (List.mem_of_getElem? (i := 68) rfl) rfl
theorem jw_1989 : (Jvm.Cond.methodLink "CoinNodeModel$Scripts" (149 : Nat) ({ cls := "CoinNodeModel$Scripts", name := "moves", desc := "(I)V" } : Jvm.MethodName)) ∈ jws := jws_9 (List.mem_of_getElem? (i := 69) rfl) rfl
theorem jw_1991 : (Jvm.Cond.instanceMethod ({ cls := "CoinNodeModel$Scripts", name := "moves", desc := "(I)V" } : Jvm.MethodName)) ∈ jws := jws_9 (List.mem_of_getElem? (i := 71) rfl) rfl
theorem jw_1992 : (Jvm.Cond.code ({ cls := "CoinNodeModel$Scripts", name := "moves", desc := "(I)V" } : Jvm.MethodName) prog_18_method_24_code (2 : Nat) (Option.none : Option Jvm.ClassFile.FieldType)) ∈ jws := jws_9 (List.mem_of_getElem? (i := 72) rfl) rfl
theorem jw_1993 : (Jvm.Cond.methodLink "CoinNodeModel$Scripts" (47 : Nat) ({ cls := "CoinNodeModel$Scripts", name := "copy", desc := "(II)V" } : Jvm.MethodName)) ∈ jws := jws_9 (List.mem_of_getElem? (i := 73) rfl) rfl
theorem jw_1995 : (Jvm.Cond.instanceMethod ({ cls := "CoinNodeModel$Scripts", name := "copy", desc := "(II)V" } : Jvm.MethodName)) ∈ jws := jws_9 (List.mem_of_getElem? (i := 75) rfl) rfl
theorem jw_1996 : (Jvm.Cond.code ({ cls := "CoinNodeModel$Scripts", name := "copy", desc := "(II)V" } : Jvm.MethodName) prog_18_method_3_code (4 : Nat) (Option.none : Option Jvm.ClassFile.FieldType)) ∈ jws := jws_9 (List.mem_of_getElem? (i := 76) rfl) rfl
theorem jw_1997 : (Jvm.Cond.methodLink "CoinNodeModel$Scripts" (123 : Nat) ({ cls := "CoinNodeModel$Scripts", name := "push", desc := "(I)V" } : Jvm.MethodName)) ∈ jws := jws_9 (List.mem_of_getElem? (i := 77) rfl) rfl
theorem jw_1999 : (Jvm.Cond.instanceMethod ({ cls := "CoinNodeModel$Scripts", name := "push", desc := "(I)V" } : Jvm.MethodName)) ∈ jws := jws_9 (List.mem_of_getElem? (i := 79) rfl) rfl
theorem jw_2000 : (Jvm.Cond.code ({ cls := "CoinNodeModel$Scripts", name := "push", desc := "(I)V" } : Jvm.MethodName) prog_18_method_5_code (2 : Nat) (Option.none : Option Jvm.ClassFile.FieldType)) ∈ jws := jws_9 (List.mem_of_getElem? (i := 80) rfl) rfl
theorem jw_2001 : (Jvm.Cond.methodLink "CoinNodeModel$Scripts" (132 : Nat) ({ cls := "CoinNodeModel$Scripts", name := "again", desc := "(III)V" } : Jvm.MethodName)) ∈ jws := jws_9 (List.mem_of_getElem? (i := 81) rfl) rfl
theorem jw_2003 : (Jvm.Cond.instanceMethod ({ cls := "CoinNodeModel$Scripts", name := "again", desc := "(III)V" } : Jvm.MethodName)) ∈ jws := jws_9 (List.mem_of_getElem? (i := 83) rfl) rfl
theorem jw_2004 : (Jvm.Cond.code ({ cls := "CoinNodeModel$Scripts", name := "again", desc := "(III)V" } : Jvm.MethodName) prog_18_method_20_code (6 : Nat) (Option.none : Option Jvm.ClassFile.FieldType)) ∈ jws := jws_9 (List.mem_of_getElem? (i := 84) rfl) rfl
theorem jw_2005 : (Jvm.Cond.methodLink "CoinNodeModel$Scripts" (136 : Nat) ({ cls := "CoinNodeModel$Scripts", name := "turn", desc := "(II)V" } : Jvm.MethodName)) ∈ jws := jws_9 (List.mem_of_getElem? (i := 85) rfl) rfl
theorem jw_2007 : (Jvm.Cond.instanceMethod ({ cls := "CoinNodeModel$Scripts", name := "turn", desc := "(II)V" } : Jvm.MethodName)) ∈ jws := jws_9 (List.mem_of_getElem? (i := 87) rfl) rfl
theorem jw_2008 : (Jvm.Cond.code ({ cls := "CoinNodeModel$Scripts", name := "turn", desc := "(II)V" } : Jvm.MethodName) prog_18_method_21_code (5 : Nat) (Option.none : Option Jvm.ClassFile.FieldType)) ∈ jws := jws_9 (List.mem_of_getElem? (i := 88) rfl) rfl
theorem jw_2009 : (Jvm.Cond.methodLink "CoinNodeModel$Scripts" (68 : Nat) ({ cls := "CoinNodeModel$Scripts", name := "top", desc := "(I)I" } : Jvm.MethodName)) ∈ jws := jws_9 (List.mem_of_getElem? (i := 89) rfl) rfl
theorem jw_2011 : (Jvm.Cond.instanceMethod ({ cls := "CoinNodeModel$Scripts", name := "top", desc := "(I)I" } : Jvm.MethodName)) ∈ jws := jws_9 (List.mem_of_getElem? (i := 91) rfl) rfl
theorem jw_2012 : (Jvm.Cond.code ({ cls := "CoinNodeModel$Scripts", name := "top", desc := "(I)I" } : Jvm.MethodName) prog_18_method_4_code (2 : Nat) (Option.some Jvm.ClassFile.FieldType.int)) ∈ jws := jws_9 (List.mem_of_getElem? (i := 92) rfl) rfl
theorem jw_2013 : (Jvm.Cond.methodLink "CoinNodeModel$Scripts" (126 : Nat) ({ cls := "CoinNodeModel$Scripts", name := "takeOut", desc := "(I)V" } : Jvm.MethodName)) ∈ jws := jws_9 (List.mem_of_getElem? (i := 93) rfl) rfl
theorem jw_2015 : (Jvm.Cond.instanceMethod ({ cls := "CoinNodeModel$Scripts", name := "takeOut", desc := "(I)V" } : Jvm.MethodName)) ∈ jws := jws_9 (List.mem_of_getElem? (i := 95) rfl) rfl
theorem jw_2016 : (Jvm.Cond.code ({ cls := "CoinNodeModel$Scripts", name := "takeOut", desc := "(I)V" } : Jvm.MethodName) prog_18_method_22_code (3 : Nat) (Option.none : Option Jvm.ClassFile.FieldType)) ∈ jws := jws_9 (List.mem_of_getElem? (i := 96) rfl) rfl
theorem jw_2017 : (Jvm.Cond.methodLink "CoinNodeModel$Scripts" (139 : Nat) ({ cls := "CoinNodeModel$Scripts", name := "pick", desc := "(Z)V" } : Jvm.MethodName)) ∈ jws := jws_9 (List.mem_of_getElem? (i := 97) rfl) rfl
theorem jw_2019 : (Jvm.Cond.instanceMethod ({ cls := "CoinNodeModel$Scripts", name := "pick", desc := "(Z)V" } : Jvm.MethodName)) ∈ jws := jws_9 (List.mem_of_getElem? (i := 99) rfl) rfl
theorem jw_2020 : (Jvm.Cond.code ({ cls := "CoinNodeModel$Scripts", name := "pick", desc := "(Z)V" } : Jvm.MethodName) prog_18_method_23_code (3 : Nat) (Option.none : Option Jvm.ClassFile.FieldType)) ∈ jws := jws_9 (List.mem_of_getElem? (i := 100) rfl) rfl
theorem jw_2021 : (Jvm.Cond.methodLink "CoinNodeModel$Scripts" (108 : Nat) ({ cls := "CoinNodeModel$Scripts", name := "reads", desc := "(I)Z" } : Jvm.MethodName)) ∈ jws := jws_9 (List.mem_of_getElem? (i := 101) rfl) rfl
theorem jw_2023 : (Jvm.Cond.instanceMethod ({ cls := "CoinNodeModel$Scripts", name := "reads", desc := "(I)Z" } : Jvm.MethodName)) ∈ jws := jws_9 (List.mem_of_getElem? (i := 103) rfl) rfl
theorem jw_2024 : (Jvm.Cond.code ({ cls := "CoinNodeModel$Scripts", name := "reads", desc := "(I)Z" } : Jvm.MethodName) prog_18_method_12_code (5 : Nat) (Option.some Jvm.ClassFile.FieldType.boolean)) ∈ jws := jws_9 (List.mem_of_getElem? (i := 104) rfl) rfl
theorem jw_2025 : (Jvm.Cond.methodLink "CoinNodeModel$Scripts" (152 : Nat) ({ cls := "CoinNodeModel$Scripts", name := "equal", desc := "(Z)V" } : Jvm.MethodName)) ∈ jws := jws_9 (List.mem_of_getElem? (i := 105) rfl) rfl
theorem jw_2027 : (Jvm.Cond.instanceMethod ({ cls := "CoinNodeModel$Scripts", name := "equal", desc := "(Z)V" } : Jvm.MethodName)) ∈ jws := jws_9 (List.mem_of_getElem? (i := 107) rfl) rfl
theorem jw_2028 : (Jvm.Cond.code ({ cls := "CoinNodeModel$Scripts", name := "equal", desc := "(Z)V" } : Jvm.MethodName) prog_18_method_25_code (3 : Nat) (Option.none : Option Jvm.ClassFile.FieldType)) ∈ jws := jws_9 (List.mem_of_getElem? (i := 108) rfl) rfl
theorem jw_2029 : (Jvm.Cond.methodLink "CoinNodeModel$Scripts" (142 : Nat) ({ cls := "CoinNodeModel$Scripts", name := "isSame", desc := "(II)Z" } : Jvm.MethodName)) ∈ jws := jws_9 (List.mem_of_getElem? (i := 109) rfl) rfl
theorem jw_2031 : (Jvm.Cond.instanceMethod ({ cls := "CoinNodeModel$Scripts", name := "isSame", desc := "(II)Z" } : Jvm.MethodName)) ∈ jws := jws_9 (List.mem_of_getElem? (i := 111) rfl) rfl
theorem jw_2032 : (Jvm.Cond.code ({ cls := "CoinNodeModel$Scripts", name := "isSame", desc := "(II)Z" } : Jvm.MethodName) prog_18_method_9_code (5 : Nat) (Option.some Jvm.ClassFile.FieldType.boolean)) ∈ jws := jws_9 (List.mem_of_getElem? (i := 112) rfl) rfl
theorem jw_2033 : (Jvm.Cond.methodLink "CoinNodeModel$Scripts" (101 : Nat) ({ cls := "CoinNodeModel$Scripts", name := "pushTruth", desc := "(Z)V" } : Jvm.MethodName)) ∈ jws := jws_9 (List.mem_of_getElem? (i := 113) rfl) rfl
theorem jw_2035 : (Jvm.Cond.instanceMethod ({ cls := "CoinNodeModel$Scripts", name := "pushTruth", desc := "(Z)V" } : Jvm.MethodName)) ∈ jws := jws_9 (List.mem_of_getElem? (i := 115) rfl) rfl
theorem jw_2036 : (Jvm.Cond.code ({ cls := "CoinNodeModel$Scripts", name := "pushTruth", desc := "(Z)V" } : Jvm.MethodName) prog_18_method_7_code (2 : Nat) (Option.none : Option Jvm.ClassFile.FieldType)) ∈ jws := jws_9 (List.mem_of_getElem? (i := 116) rfl) rfl
theorem jw_2037 : (Jvm.Cond.methodLink "CoinNodeModel$Scripts" (105 : Nat) ({ cls := "CoinNodeModel$Scripts", name := "mustBeTrue", desc := "()V" } : Jvm.MethodName)) ∈ jws := jws_9 (List.mem_of_getElem? (i := 117) rfl) rfl
theorem jw_2039 : (Jvm.Cond.instanceMethod ({ cls := "CoinNodeModel$Scripts", name := "mustBeTrue", desc := "()V" } : Jvm.MethodName)) ∈ jws := jws_9 (List.mem_of_getElem? (i := 119) rfl) rfl
theorem jw_2040 : (Jvm.Cond.code ({ cls := "CoinNodeModel$Scripts", name := "mustBeTrue", desc := "()V" } : Jvm.MethodName) prog_18_method_13_code (1 : Nat) (Option.none : Option Jvm.ClassFile.FieldType)) ∈ jws := jws_9 (List.mem_of_getElem? (i := 120) rfl) rfl
theorem jw_2041 : (Jvm.Cond.methodLink "CoinNodeModel$Scripts" (155 : Nat) ({ cls := "CoinNodeModel$Scripts", name := "numberOfOne", desc := "(I)V" } : Jvm.MethodName)) ∈ jws := jws_9 (List.mem_of_getElem? (i := 121) rfl) rfl
theorem jw_2043 : (Jvm.Cond.instanceMethod ({ cls := "CoinNodeModel$Scripts", name := "numberOfOne", desc := "(I)V" } : Jvm.MethodName)) ∈ jws := jws_9 (List.mem_of_getElem? (i := 123) rfl) rfl
theorem jw_2044 : (Jvm.Cond.code ({ cls := "CoinNodeModel$Scripts", name := "numberOfOne", desc := "(I)V" } : Jvm.MethodName) prog_18_method_26_code (4 : Nat) (Option.none : Option Jvm.ClassFile.FieldType)) ∈ jws := jws_9 (List.mem_of_getElem? (i := 124) rfl) rfl
theorem jw_2045 : (Jvm.Cond.methodLink "CoinNodeModel$Scripts" (158 : Nat) ({ cls := "CoinNodeModel$Scripts", name := "numberOfTwo", desc := "(I)V" } : Jvm.MethodName)) ∈ jws := jws_9 (List.mem_of_getElem? (i := 125) rfl) rfl
theorem jw_2047 : (Jvm.Cond.instanceMethod ({ cls := "CoinNodeModel$Scripts", name := "numberOfTwo", desc := "(I)V" } : Jvm.MethodName)) ∈ jws := jws_9 (List.mem_of_getElem? (i := 127) rfl) rfl
theorem jw_2048 : (Jvm.Cond.code ({ cls := "CoinNodeModel$Scripts", name := "numberOfTwo", desc := "(I)V" } : Jvm.MethodName) prog_18_method_27_code (6 : Nat) (Option.none : Option Jvm.ClassFile.FieldType)) ∈ jws := jws_9 (List.mem_of_getElem? (i := 128) rfl) rfl
theorem jw_2049 : (Jvm.Cond.methodLink "CoinNodeModel$Scripts" (161 : Nat) ({ cls := "CoinNodeModel$Scripts", name := "digest", desc := "(I)V" } : Jvm.MethodName)) ∈ jws := jws_9 (List.mem_of_getElem? (i := 129) rfl) rfl
theorem jw_2051 : (Jvm.Cond.instanceMethod ({ cls := "CoinNodeModel$Scripts", name := "digest", desc := "(I)V" } : Jvm.MethodName)) ∈ jws := jws_9 (List.mem_of_getElem? (i := 131) rfl) rfl
theorem jw_2052 : (Jvm.Cond.code ({ cls := "CoinNodeModel$Scripts", name := "digest", desc := "(I)V" } : Jvm.MethodName) prog_18_method_28_code (2 : Nat) (Option.none : Option Jvm.ClassFile.FieldType)) ∈ jws := jws_9 (List.mem_of_getElem? (i := 132) rfl) rfl
theorem jw_2053 : (Jvm.Cond.methodLink "CoinNodeModel$Scripts" (145 : Nat) ({ cls := "CoinNodeModel$Scripts", name := "digested", desc := "(IZ)V" } : Jvm.MethodName)) ∈ jws := jws_9 (List.mem_of_getElem? (i := 133) rfl) rfl
theorem jw_2055 : (Jvm.Cond.instanceMethod ({ cls := "CoinNodeModel$Scripts", name := "digested", desc := "(IZ)V" } : Jvm.MethodName)) ∈ jws := jws_9 (List.mem_of_getElem? (i := 135) rfl) rfl
theorem jw_2056 : (Jvm.Cond.code ({ cls := "CoinNodeModel$Scripts", name := "digested", desc := "(IZ)V" } : Jvm.MethodName) prog_18_method_14_code (5 : Nat) (Option.none : Option Jvm.ClassFile.FieldType)) ∈ jws := jws_9 (List.mem_of_getElem? (i := 136) rfl) rfl
theorem jw_2057 : (Jvm.Cond.methodLink "CoinNodeModel$Scripts" (79 : Nat) ({ cls := "CoinNodeModel$Hashes", name := "wide", desc := "([BII[BI)V" } : Jvm.MethodName)) ∈ jws := jws_9 (List.mem_of_getElem? (i := 137) rfl) rfl
theorem jw_2058 : (Jvm.Cond.methodLink "CoinNodeModel$Scripts" (85 : Nat) ({ cls := "CoinNodeModel$Hashes", name := "small", desc := "([BII[BI)V" } : Jvm.MethodName)) ∈ jws := jws_9 (List.mem_of_getElem? (i := 138) rfl) rfl
theorem jw_2059 : (Jvm.Cond.instanceMethod ({ cls := "CoinNodeModel$Hashes", name := "small", desc := "([BII[BI)V" } : Jvm.MethodName)) ∈ jws := jws_9 (List.mem_of_getElem? (i := 139) rfl) rfl
theorem jw_2060 : (Jvm.Cond.selects "CoinNodeModel$Hashes" ({ cls := "CoinNodeModel$Hashes", name := "small", desc := "([BII[BI)V" } : Jvm.MethodName) ({ cls := "CoinNodeModel$Hashes", name := "small", desc := "([BII[BI)V" } : Jvm.MethodName)) ∈ jws := jws_9 (List.mem_of_getElem? (i := 140) rfl) rfl
theorem jw_2061 : (Jvm.Cond.code ({ cls := "CoinNodeModel$Hashes", name := "small", desc := "([BII[BI)V" } : Jvm.MethodName) prog_16_method_7_code (11 : Nat) (Option.none : Option Jvm.ClassFile.FieldType)) ∈ jws := jws_9 (List.mem_of_getElem? (i := 141) rfl) rfl
theorem jw_2062 : (Jvm.Cond.constant "CoinNodeModel$Hashes" (46 : Nat) (1732584193 : Int32)) ∈ jws := jws_9 (List.mem_of_getElem? (i := 142) rfl) rfl
theorem jw_2063 : (Jvm.Cond.constant "CoinNodeModel$Hashes" (47 : Nat) (-271733879 : Int32)) ∈ jws := jws_9 (List.mem_of_getElem? (i := 143) rfl) rfl
theorem jw_2064 : (Jvm.Cond.constant "CoinNodeModel$Hashes" (48 : Nat) (-1732584194 : Int32)) ∈ jws := jws_9 (List.mem_of_getElem? (i := 144) rfl) rfl
theorem jw_2065 : (Jvm.Cond.constant "CoinNodeModel$Hashes" (49 : Nat) (271733878 : Int32)) ∈ jws := jws_9 (List.mem_of_getElem? (i := 145) rfl) rfl
theorem jw_2066 : (Jvm.Cond.constant "CoinNodeModel$Hashes" (50 : Nat) (-1009589776 : Int32)) ∈ jws := jws_9 (List.mem_of_getElem? (i := 146) rfl) rfl
theorem jw_2067 : (Jvm.Cond.constant "CoinNodeModel$Hashes" (51 : Nat) (1518500249 : Int32)) ∈ jws := jws_9 (List.mem_of_getElem? (i := 147) rfl) rfl
theorem jw_2068 : (Jvm.Cond.constant "CoinNodeModel$Hashes" (52 : Nat) (1859775393 : Int32)) ∈ jws := jws_9 (List.mem_of_getElem? (i := 148) rfl) rfl
theorem jw_2069 : (Jvm.Cond.constant "CoinNodeModel$Hashes" (53 : Nat) (-1894007588 : Int32)) ∈ jws := jws_9 (List.mem_of_getElem? (i := 149) rfl) rfl
theorem jw_2070 : (Jvm.Cond.constant "CoinNodeModel$Hashes" (54 : Nat) (-1454113458 : Int32)) ∈ jws := jws_9 (List.mem_of_getElem? (i := 150) rfl) rfl
theorem jw_2071 : (Jvm.Cond.constant "CoinNodeModel$Hashes" (55 : Nat) (1352829926 : Int32)) ∈ jws := jws_9 (List.mem_of_getElem? (i := 151) rfl) rfl
theorem jw_2072 : (Jvm.Cond.constant "CoinNodeModel$Hashes" (56 : Nat) (1548603684 : Int32)) ∈ jws := jws_9 (List.mem_of_getElem? (i := 152) rfl) rfl
theorem jw_2073 : (Jvm.Cond.constant "CoinNodeModel$Hashes" (57 : Nat) (1836072691 : Int32)) ∈ jws := jws_9 (List.mem_of_getElem? (i := 153) rfl) rfl
theorem jw_2074 : (Jvm.Cond.constant "CoinNodeModel$Hashes" (58 : Nat) (2053994217 : Int32)) ∈ jws := jws_9 (List.mem_of_getElem? (i := 154) rfl) rfl
theorem jw_2075 : (Jvm.Cond.methodLink "CoinNodeModel$Hashes" (59 : Nat) ({ cls := "CoinNodeModel$Hashes", name := "mixed", desc := "(IIII)I" } : Jvm.MethodName)) ∈ jws := jws_9 (List.mem_of_getElem? (i := 155) rfl) rfl
theorem jw_2076 : (Jvm.Cond.static ({ cls := "CoinNodeModel$Hashes", name := "mixed", desc := "(IIII)I" } : Jvm.MethodName)) ∈ jws := jws_9 (List.mem_of_getElem? (i := 156) rfl) rfl
theorem jw_2077 : (Jvm.Cond.code ({ cls := "CoinNodeModel$Hashes", name := "mixed", desc := "(IIII)I" } : Jvm.MethodName) prog_16_method_6_code (4 : Nat) (Option.some Jvm.ClassFile.FieldType.int)) ∈ jws := jws_9 (List.mem_of_getElem? (i := 157) rfl) rfl
theorem jw_2078 : (Jvm.Cond.fieldLink "CoinNodeModel$Hashes" (63 : Nat) "CoinNodeModel$Hashes" "WORDS" "[I") ∈ jws := jws_9 (List.mem_of_getElem? (i := 158) rfl) rfl
theorem jw_2080 : (Jvm.Cond.fieldLink "CoinNodeModel$Hashes" (66 : Nat) "CoinNodeModel$Hashes" "TURNS" "[I") ∈ jws := jws_9 (List.mem_of_getElem? (i := 160) rfl) rfl
theorem jw_2082 : (Jvm.Cond.methodLink "CoinNodeModel$Hashes" (69 : Nat) ({ cls := "CoinNodeModel$Hashes", name := "step", desc := "(III)V" } : Jvm.MethodName)) ∈ jws := jws_9 (List.mem_of_getElem? (i := 162) rfl) rfl
theorem jw_2084 : (Jvm.Cond.instanceMethod ({ cls := "CoinNodeModel$Hashes", name := "step", desc := "(III)V" } : Jvm.MethodName)) ∈ jws := jws_9 (List.mem_of_getElem? (i := 164) rfl) rfl
theorem jw_2085 : (Jvm.Cond.code ({ cls := "CoinNodeModel$Hashes", name := "step", desc := "(III)V" } : Jvm.MethodName) prog_16_method_8_code (5 : Nat) (Option.none : Option Jvm.ClassFile.FieldType)) ∈ jws := jws_9 (List.mem_of_getElem? (i := 165) rfl) rfl
theorem jw_2086 : (Jvm.Cond.fieldLink "CoinNodeModel$Hashes" (73 : Nat) "CoinNodeModel$Hashes" "OTHERS" "[I") ∈ jws := jws_9 (List.mem_of_getElem? (i := 166) rfl) rfl
theorem jw_2088 : (Jvm.Cond.fieldLink "CoinNodeModel$Hashes" (76 : Nat) "CoinNodeModel$Hashes" "OTHER_TURNS" "[I") ∈ jws := jws_9 (List.mem_of_getElem? (i := 168) rfl) rfl
theorem jw_2090 : (Jvm.Cond.methodLink "CoinNodeModel$Scripts" (164 : Nat) ({ cls := "CoinNodeModel$Scripts", name := "one", desc := "(Z)V" } : Jvm.MethodName)) ∈ jws := jws_9 (List.mem_of_getElem? (i := 170) rfl) rfl
theorem jw_2092 : (Jvm.Cond.instanceMethod ({ cls := "CoinNodeModel$Scripts", name := "one", desc := "(Z)V" } : Jvm.MethodName)) ∈ jws := jws_9 (List.mem_of_getElem? (i := 172) rfl) rfl
theorem jw_2093 : (Jvm.Cond.code ({ cls := "CoinNodeModel$Scripts", name := "one", desc := "(Z)V" } : Jvm.MethodName) prog_18_method_16_code (3 : Nat) (Option.none : Option Jvm.ClassFile.FieldType)) ∈ jws := jws_9 (List.mem_of_getElem? (i := 173) rfl) rfl
theorem jw_2094 : (Jvm.Cond.methodLink "CoinNodeModel$Scripts" (97 : Nat) ({ cls := "CoinNodeModel$Scripts", name := "fit", desc := "(II)Z" } : Jvm.MethodName)) ∈ jws := jws_9 (List.mem_of_getElem? (i := 174) rfl) rfl
theorem jw_2096 : (Jvm.Cond.instanceMethod ({ cls := "CoinNodeModel$Scripts", name := "fit", desc := "(II)Z" } : Jvm.MethodName)) ∈ jws := jws_9 (List.mem_of_getElem? (i := 176) rfl) rfl
theorem jw_2097 : (Jvm.Cond.code ({ cls := "CoinNodeModel$Scripts", name := "fit", desc := "(II)Z" } : Jvm.MethodName) prog_18_method_15_code (4 : Nat) (Option.some Jvm.ClassFile.FieldType.boolean)) ∈ jws := jws_9 (List.mem_of_getElem? (i := 177) rfl) rfl
theorem jw_2099 : (Jvm.Cond.methodLink "CoinNodeModel$Scripts" (91 : Nat) ({ cls := "CoinNodeModel$Asker", name := "fits", desc := "([BI[BI)Z" } : Jvm.MethodName)) ∈ jws := jws_9 (List.mem_of_getElem? (i := 179) rfl) rfl
theorem jw_2103 : (Jvm.Cond.selects "CoinNodeModel$Signing" ({ cls := "CoinNodeModel$Asker", name := "fits", desc := "([BI[BI)Z" } : Jvm.MethodName) ({ cls := "CoinNodeModel$Signing", name := "fits", desc := "([BI[BI)Z" } : Jvm.MethodName)) ∈ jws := jws_9 (List.mem_of_getElem? (i := 183) rfl) rfl
theorem jw_2105 : (Jvm.Cond.instanceMethod ({ cls := "CoinNodeModel$Signing", name := "fits", desc := "([BI[BI)Z" } : Jvm.MethodName)) ∈ jws := jws_9 (List.mem_of_getElem? (i := 185) rfl) rfl
theorem jw_2107 : (Jvm.Cond.code ({ cls := "CoinNodeModel$Signing", name := "fits", desc := "([BI[BI)Z" } : Jvm.MethodName) prog_19_method_6_code (6 : Nat) (Option.some Jvm.ClassFile.FieldType.boolean)) ∈ jws := jws_9 (List.mem_of_getElem? (i := 187) rfl) rfl
theorem jw_2108 : (Jvm.Cond.methodLink "CoinNodeModel$Signing" (89 : Nat) ({ cls := "CoinNodeModel$Points", name := "put", desc := "(JI)Z" } : Jvm.MethodName)) ∈ jws := jws_9 (List.mem_of_getElem? (i := 188) rfl) rfl
theorem jw_2109 : (Jvm.Cond.instanceMethod ({ cls := "CoinNodeModel$Points", name := "put", desc := "(JI)Z" } : Jvm.MethodName)) ∈ jws := jws_9 (List.mem_of_getElem? (i := 189) rfl) rfl
theorem jw_2110 : (Jvm.Cond.selects "CoinNodeModel$Points" ({ cls := "CoinNodeModel$Points", name := "put", desc := "(JI)Z" } : Jvm.MethodName) ({ cls := "CoinNodeModel$Points", name := "put", desc := "(JI)Z" } : Jvm.MethodName)) ∈ jws := jws_9 (List.mem_of_getElem? (i := 190) rfl) rfl
theorem jw_2111 : (Jvm.Cond.code ({ cls := "CoinNodeModel$Points", name := "put", desc := "(JI)Z" } : Jvm.MethodName) prog_17_method_41_code (5 : Nat) (Option.some Jvm.ClassFile.FieldType.boolean)) ∈ jws := jws_9 (List.mem_of_getElem? (i := 191) rfl) rfl
theorem jw_2112 : (Jvm.Cond.constantLong "CoinNodeModel$Points" (167 : Nat) (255 : Int64)) ∈ jws := jws_9 (List.mem_of_getElem? (i := 192) rfl) rfl
theorem jw_2113 : (Jvm.Cond.methodLink "CoinNodeModel$Signing" (93 : Nat) ({ cls := "CoinNodeModel$Points", name := "key", desc := "(I)I" } : Jvm.MethodName)) ∈ jws := jws_9 (List.mem_of_getElem? (i := 193) rfl) rfl
theorem jw_2114 : (Jvm.Cond.instanceMethod ({ cls := "CoinNodeModel$Points", name := "key", desc := "(I)I" } : Jvm.MethodName)) ∈ jws := jws_9 (List.mem_of_getElem? (i := 194) rfl) rfl
theorem jw_2115 : (Jvm.Cond.selects "CoinNodeModel$Points" ({ cls := "CoinNodeModel$Points", name := "key", desc := "(I)I" } : Jvm.MethodName) ({ cls := "CoinNodeModel$Points", name := "key", desc := "(I)I" } : Jvm.MethodName)) ∈ jws := jws_9 (List.mem_of_getElem? (i := 195) rfl) rfl
theorem jw_2116 : (Jvm.Cond.code ({ cls := "CoinNodeModel$Points", name := "key", desc := "(I)I" } : Jvm.MethodName) prog_17_method_43_code (3 : Nat) (Option.some Jvm.ClassFile.FieldType.int)) ∈ jws := jws_9 (List.mem_of_getElem? (i := 196) rfl) rfl
theorem jw_2117 : (Jvm.Cond.methodLink "CoinNodeModel$Points" (148 : Nat) ({ cls := "CoinNodeModel$Points", name := "isSpot", desc := "(I)Z" } : Jvm.MethodName)) ∈ jws := jws_9 (List.mem_of_getElem? (i := 197) rfl) rfl
theorem jw_2118 : (Jvm.Cond.static ({ cls := "CoinNodeModel$Points", name := "isSpot", desc := "(I)Z" } : Jvm.MethodName)) ∈ jws := jws_9 (List.mem_of_getElem? (i := 198) rfl) rfl
theorem jw_2119 : (Jvm.Cond.code ({ cls := "CoinNodeModel$Points", name := "isSpot", desc := "(I)Z" } : Jvm.MethodName) prog_17_method_30_code (1 : Nat) (Option.some Jvm.ClassFile.FieldType.boolean)) ∈ jws := jws_9 (List.mem_of_getElem? (i := 199) rfl) rfl
theorem jw_2120 : (Jvm.Cond.methodLink "CoinNodeModel$Points" (169 : Nat) ({ cls := "CoinNodeModel$Points", name := "read", desc := "(III)V" } : Jvm.MethodName)) ∈ jws := jws_9 (List.mem_of_getElem? (i := 200) rfl) rfl
theorem jw_2122 : (Jvm.Cond.instanceMethod ({ cls := "CoinNodeModel$Points", name := "read", desc := "(III)V" } : Jvm.MethodName)) ∈ jws := jws_9 (List.mem_of_getElem? (i := 202) rfl) rfl
theorem jw_2123 : (Jvm.Cond.code ({ cls := "CoinNodeModel$Points", name := "read", desc := "(III)V" } : Jvm.MethodName) prog_17_method_42_code (7 : Nat) (Option.none : Option Jvm.ClassFile.FieldType)) ∈ jws := jws_9 (List.mem_of_getElem? (i := 203) rfl) rfl
theorem jw_2124 : (Jvm.Cond.methodLink "CoinNodeModel$Points" (78 : Nat) ({ cls := "CoinNodeModel$Points", name := "compare", desc := "(II)I" } : Jvm.MethodName)) ∈ jws := jws_9 (List.mem_of_getElem? (i := 204) rfl) rfl
theorem jw_2126 : (Jvm.Cond.instanceMethod ({ cls := "CoinNodeModel$Points", name := "compare", desc := "(II)I" } : Jvm.MethodName)) ∈ jws := jws_9 (List.mem_of_getElem? (i := 206) rfl) rfl
theorem jw_2127 : (Jvm.Cond.code ({ cls := "CoinNodeModel$Points", name := "compare", desc := "(II)I" } : Jvm.MethodName) prog_17_method_6_code (6 : Nat) (Option.some Jvm.ClassFile.FieldType.int)) ∈ jws := jws_9 (List.mem_of_getElem? (i := 207) rfl) rfl
theorem jw_2128 : (Jvm.Cond.methodLink "CoinNodeModel$Points" (136 : Nat) ({ cls := "CoinNodeModel$Points", name := "curve", desc := "(II)V" } : Jvm.MethodName)) ∈ jws := jws_9 (List.mem_of_getElem? (i := 208) rfl) rfl
theorem jw_2130 : (Jvm.Cond.instanceMethod ({ cls := "CoinNodeModel$Points", name := "curve", desc := "(II)V" } : Jvm.MethodName)) ∈ jws := jws_9 (List.mem_of_getElem? (i := 210) rfl) rfl
theorem jw_2131 : (Jvm.Cond.code ({ cls := "CoinNodeModel$Points", name := "curve", desc := "(II)V" } : Jvm.MethodName) prog_17_method_28_code (3 : Nat) (Option.none : Option Jvm.ClassFile.FieldType)) ∈ jws := jws_9 (List.mem_of_getElem? (i := 211) rfl) rfl
theorem jw_2132 : (Jvm.Cond.methodLink "CoinNodeModel$Points" (96 : Nat) ({ cls := "CoinNodeModel$Points", name := "multiply", desc := "(IIII)V" } : Jvm.MethodName)) ∈ jws := jws_9 (List.mem_of_getElem? (i := 212) rfl) rfl
theorem jw_2134 : (Jvm.Cond.instanceMethod ({ cls := "CoinNodeModel$Points", name := "multiply", desc := "(IIII)V" } : Jvm.MethodName)) ∈ jws := jws_9 (List.mem_of_getElem? (i := 214) rfl) rfl
theorem jw_2135 : (Jvm.Cond.code ({ cls := "CoinNodeModel$Points", name := "multiply", desc := "(IIII)V" } : Jvm.MethodName) prog_17_method_16_code (9 : Nat) (Option.none : Option Jvm.ClassFile.FieldType)) ∈ jws := jws_9 (List.mem_of_getElem? (i := 215) rfl) rfl
theorem jw_2136 : (Jvm.Cond.methodLink "CoinNodeModel$Points" (86 : Nat) ({ cls := "CoinNodeModel$Points", name := "carry", desc := "()V" } : Jvm.MethodName)) ∈ jws := jws_9 (List.mem_of_getElem? (i := 216) rfl) rfl
theorem jw_2138 : (Jvm.Cond.instanceMethod ({ cls := "CoinNodeModel$Points", name := "carry", desc := "()V" } : Jvm.MethodName)) ∈ jws := jws_9 (List.mem_of_getElem? (i := 218) rfl) rfl
theorem jw_2139 : (Jvm.Cond.code ({ cls := "CoinNodeModel$Points", name := "carry", desc := "()V" } : Jvm.MethodName) prog_17_method_13_code (6 : Nat) (Option.none : Option Jvm.ClassFile.FieldType)) ∈ jws := jws_9 (List.mem_of_getElem? (i := 219) rfl) rfl
theorem jw_2140 : (Jvm.Cond.constantLong "CoinNodeModel$Points" (82 : Nat) (67108863 : Int64)) ∈ jws := jws_9 (List.mem_of_getElem? (i := 220) rfl) rfl
theorem jw_2141 : (Jvm.Cond.methodLink "CoinNodeModel$Points" (89 : Nat) ({ cls := "CoinNodeModel$Points", name := "isWide", desc := "()Z" } : Jvm.MethodName)) ∈ jws := jws_9 (List.mem_of_getElem? (i := 221) rfl) rfl
theorem jw_2143 : (Jvm.Cond.instanceMethod ({ cls := "CoinNodeModel$Points", name := "isWide", desc := "()Z" } : Jvm.MethodName)) ∈ jws := jws_9 (List.mem_of_getElem? (i := 223) rfl) rfl
theorem jw_2144 : (Jvm.Cond.code ({ cls := "CoinNodeModel$Points", name := "isWide", desc := "()Z" } : Jvm.MethodName) prog_17_method_14_code (3 : Nat) (Option.some Jvm.ClassFile.FieldType.boolean)) ∈ jws := jws_9 (List.mem_of_getElem? (i := 224) rfl) rfl
theorem jw_2145 : (Jvm.Cond.constantLong "CoinNodeModel$Points" (84 : Nat) (4194303 : Int64)) ∈ jws := jws_9 (List.mem_of_getElem? (i := 225) rfl) rfl
theorem jw_2146 : (Jvm.Cond.methodLink "CoinNodeModel$Points" (93 : Nat) ({ cls := "CoinNodeModel$Points", name := "fold", desc := "(I)V" } : Jvm.MethodName)) ∈ jws := jws_9 (List.mem_of_getElem? (i := 226) rfl) rfl
theorem jw_2148 : (Jvm.Cond.instanceMethod ({ cls := "CoinNodeModel$Points", name := "fold", desc := "(I)V" } : Jvm.MethodName)) ∈ jws := jws_9 (List.mem_of_getElem? (i := 228) rfl) rfl
theorem jw_2149 : (Jvm.Cond.code ({ cls := "CoinNodeModel$Points", name := "fold", desc := "(I)V" } : Jvm.MethodName) prog_17_method_15_code (6 : Nat) (Option.none : Option Jvm.ClassFile.FieldType)) ∈ jws := jws_9 (List.mem_of_getElem? (i := 229) rfl) rfl
theorem jw_2150 : (Jvm.Cond.methodLink "CoinNodeModel$Points" (74 : Nat) ({ cls := "CoinNodeModel$Points", name := "add", desc := "(III)V" } : Jvm.MethodName)) ∈ jws := jws_9 (List.mem_of_getElem? (i := 230) rfl) rfl
theorem jw_2152 : (Jvm.Cond.instanceMethod ({ cls := "CoinNodeModel$Points", name := "add", desc := "(III)V" } : Jvm.MethodName)) ∈ jws := jws_9 (List.mem_of_getElem? (i := 232) rfl) rfl
theorem jw_2153 : (Jvm.Cond.code ({ cls := "CoinNodeModel$Points", name := "add", desc := "(III)V" } : Jvm.MethodName) prog_17_method_8_code (7 : Nat) (Option.none : Option Jvm.ClassFile.FieldType)) ∈ jws := jws_9 (List.mem_of_getElem? (i := 233) rfl) rfl
theorem jw_2154 : (Jvm.Cond.methodLink "CoinNodeModel$Points" (124 : Nat) ({ cls := "CoinNodeModel$Points", name := "plus", desc := "(IIII)V" } : Jvm.MethodName)) ∈ jws := jws_9 (List.mem_of_getElem? (i := 234) rfl) rfl
theorem jw_2156 : (Jvm.Cond.instanceMethod ({ cls := "CoinNodeModel$Points", name := "plus", desc := "(IIII)V" } : Jvm.MethodName)) ∈ jws := jws_9 (List.mem_of_getElem? (i := 236) rfl) rfl
theorem jw_2157 : (Jvm.Cond.code ({ cls := "CoinNodeModel$Points", name := "plus", desc := "(IIII)V" } : Jvm.MethodName) prog_17_method_11_code (5 : Nat) (Option.none : Option Jvm.ClassFile.FieldType)) ∈ jws := jws_9 (List.mem_of_getElem? (i := 237) rfl) rfl
theorem jw_2158 : (Jvm.Cond.methodLink "CoinNodeModel$Points" (70 : Nat) ({ cls := "CoinNodeModel$Points", name := "copy", desc := "(II)V" } : Jvm.MethodName)) ∈ jws := jws_9 (List.mem_of_getElem? (i := 238) rfl) rfl
theorem jw_2160 : (Jvm.Cond.instanceMethod ({ cls := "CoinNodeModel$Points", name := "copy", desc := "(II)V" } : Jvm.MethodName)) ∈ jws := jws_10 (List.mem_of_getElem? (i := 0) rfl) rfl
theorem jw_2161 : (Jvm.Cond.code ({ cls := "CoinNodeModel$Points", name := "copy", desc := "(II)V" } : Jvm.MethodName) prog_17_method_4_code (4 : Nat) (Option.none : Option Jvm.ClassFile.FieldType)) ∈ jws := jws_10 (List.mem_of_getElem? (i := 1) rfl) rfl
theorem jw_2162 : (Jvm.Cond.methodLink "CoinNodeModel$Points" (145 : Nat) ({ cls := "CoinNodeModel$Points", name := "roots", desc := "(II)Z" } : Jvm.MethodName)) ∈ jws := jws_10 (List.mem_of_getElem? (i := 2) rfl) rfl
theorem jw_2164 : (Jvm.Cond.instanceMethod ({ cls := "CoinNodeModel$Points", name := "roots", desc := "(II)Z" } : Jvm.MethodName)) ∈ jws := jws_10 (List.mem_of_getElem? (i := 4) rfl) rfl
theorem jw_2165 : (Jvm.Cond.code ({ cls := "CoinNodeModel$Points", name := "roots", desc := "(II)Z" } : Jvm.MethodName) prog_17_method_19_code (6 : Nat) (Option.some Jvm.ClassFile.FieldType.boolean)) ∈ jws := jws_10 (List.mem_of_getElem? (i := 5) rfl) rfl
theorem jw_2166 : (Jvm.Cond.constant "CoinNodeModel$Points" (107 : Nat) (33554432 : Int32)) ∈ jws := jws_10 (List.mem_of_getElem? (i := 6) rfl) rfl
theorem jw_2167 : (Jvm.Cond.methodLink "CoinNodeModel$Points" (104 : Nat) ({ cls := "CoinNodeModel$Points", name := "power", desc := "(III)V" } : Jvm.MethodName)) ∈ jws := jws_10 (List.mem_of_getElem? (i := 7) rfl) rfl
theorem jw_2169 : (Jvm.Cond.instanceMethod ({ cls := "CoinNodeModel$Points", name := "power", desc := "(III)V" } : Jvm.MethodName)) ∈ jws := jws_10 (List.mem_of_getElem? (i := 9) rfl) rfl
theorem jw_2170 : (Jvm.Cond.code ({ cls := "CoinNodeModel$Points", name := "power", desc := "(III)V" } : Jvm.MethodName) prog_17_method_17_code (5 : Nat) (Option.none : Option Jvm.ClassFile.FieldType)) ∈ jws := jws_10 (List.mem_of_getElem? (i := 10) rfl) rfl
theorem jw_2171 : (Jvm.Cond.methodLink "CoinNodeModel$Points" (100 : Nat) ({ cls := "CoinNodeModel$Points", name := "bit", desc := "(II)Z" } : Jvm.MethodName)) ∈ jws := jws_10 (List.mem_of_getElem? (i := 11) rfl) rfl
theorem jw_2173 : (Jvm.Cond.instanceMethod ({ cls := "CoinNodeModel$Points", name := "bit", desc := "(II)Z" } : Jvm.MethodName)) ∈ jws := jws_10 (List.mem_of_getElem? (i := 13) rfl) rfl
theorem jw_2174 : (Jvm.Cond.code ({ cls := "CoinNodeModel$Points", name := "bit", desc := "(II)Z" } : Jvm.MethodName) prog_17_method_10_code (3 : Nat) (Option.some Jvm.ClassFile.FieldType.boolean)) ∈ jws := jws_10 (List.mem_of_getElem? (i := 14) rfl) rfl
theorem jw_2175 : (Jvm.Cond.methodLink "CoinNodeModel$Points" (108 : Nat) ({ cls := "CoinNodeModel$Points", name := "isOdd", desc := "(I)Z" } : Jvm.MethodName)) ∈ jws := jws_10 (List.mem_of_getElem? (i := 15) rfl) rfl
theorem jw_2177 : (Jvm.Cond.instanceMethod ({ cls := "CoinNodeModel$Points", name := "isOdd", desc := "(I)Z" } : Jvm.MethodName)) ∈ jws := jws_10 (List.mem_of_getElem? (i := 17) rfl) rfl
theorem jw_2178 : (Jvm.Cond.code ({ cls := "CoinNodeModel$Points", name := "isOdd", desc := "(I)Z" } : Jvm.MethodName) prog_17_method_9_code (2 : Nat) (Option.some Jvm.ClassFile.FieldType.boolean)) ∈ jws := jws_10 (List.mem_of_getElem? (i := 18) rfl) rfl
theorem jw_2179 : (Jvm.Cond.methodLink "CoinNodeModel$Points" (112 : Nat) ({ cls := "CoinNodeModel$Points", name := "minus", desc := "(IIII)V" } : Jvm.MethodName)) ∈ jws := jws_10 (List.mem_of_getElem? (i := 19) rfl) rfl
theorem jw_2181 : (Jvm.Cond.instanceMethod ({ cls := "CoinNodeModel$Points", name := "minus", desc := "(IIII)V" } : Jvm.MethodName)) ∈ jws := jws_10 (List.mem_of_getElem? (i := 21) rfl) rfl
theorem jw_2182 : (Jvm.Cond.code ({ cls := "CoinNodeModel$Points", name := "minus", desc := "(IIII)V" } : Jvm.MethodName) prog_17_method_12_code (5 : Nat) (Option.none : Option Jvm.ClassFile.FieldType)) ∈ jws := jws_10 (List.mem_of_getElem? (i := 22) rfl) rfl
theorem jw_2183 : (Jvm.Cond.methodLink "CoinNodeModel$Points" (151 : Nat) ({ cls := "CoinNodeModel$Points", name := "isPoint", desc := "(II)Z" } : Jvm.MethodName)) ∈ jws := jws_10 (List.mem_of_getElem? (i := 23) rfl) rfl
theorem jw_2185 : (Jvm.Cond.instanceMethod ({ cls := "CoinNodeModel$Points", name := "isPoint", desc := "(II)Z" } : Jvm.MethodName)) ∈ jws := jws_10 (List.mem_of_getElem? (i := 25) rfl) rfl
theorem jw_2186 : (Jvm.Cond.code ({ cls := "CoinNodeModel$Points", name := "isPoint", desc := "(II)Z" } : Jvm.MethodName) prog_17_method_27_code (3 : Nat) (Option.some Jvm.ClassFile.FieldType.boolean)) ∈ jws := jws_10 (List.mem_of_getElem? (i := 26) rfl) rfl
theorem jw_2187 : (Jvm.Cond.methodLink "CoinNodeModel$Signing" (97 : Nat) ({ cls := "CoinNodeModel$Points", name := "signature", desc := "(II)I" } : Jvm.MethodName)) ∈ jws := jws_10 (List.mem_of_getElem? (i := 27) rfl) rfl
theorem jw_2188 : (Jvm.Cond.instanceMethod ({ cls := "CoinNodeModel$Points", name := "signature", desc := "(II)I" } : Jvm.MethodName)) ∈ jws := jws_10 (List.mem_of_getElem? (i := 28) rfl) rfl
theorem jw_2189 : (Jvm.Cond.selects "CoinNodeModel$Points" ({ cls := "CoinNodeModel$Points", name := "signature", desc := "(II)I" } : Jvm.MethodName) ({ cls := "CoinNodeModel$Points", name := "signature", desc := "(II)I" } : Jvm.MethodName)) ∈ jws := jws_10 (List.mem_of_getElem? (i := 29) rfl) rfl
theorem jw_2190 : (Jvm.Cond.code ({ cls := "CoinNodeModel$Points", name := "signature", desc := "(II)I" } : Jvm.MethodName) prog_17_method_45_code (5 : Nat) (Option.some Jvm.ClassFile.FieldType.int)) ∈ jws := jws_10 (List.mem_of_getElem? (i := 30) rfl) rfl
theorem jw_2191 : (Jvm.Cond.methodLink "CoinNodeModel$Points" (139 : Nat) ({ cls := "CoinNodeModel$Points", name := "isRegister", desc := "(I)Z" } : Jvm.MethodName)) ∈ jws := jws_10 (List.mem_of_getElem? (i := 31) rfl) rfl
theorem jw_2192 : (Jvm.Cond.static ({ cls := "CoinNodeModel$Points", name := "isRegister", desc := "(I)Z" } : Jvm.MethodName)) ∈ jws := jws_10 (List.mem_of_getElem? (i := 32) rfl) rfl
theorem jw_2193 : (Jvm.Cond.code ({ cls := "CoinNodeModel$Points", name := "isRegister", desc := "(I)Z" } : Jvm.MethodName) prog_17_method_29_code (1 : Nat) (Option.some Jvm.ClassFile.FieldType.boolean)) ∈ jws := jws_10 (List.mem_of_getElem? (i := 33) rfl) rfl
theorem jw_2194 : (Jvm.Cond.methodLink "CoinNodeModel$Points" (172 : Nat) ({ cls := "CoinNodeModel$Points", name := "numberEnd", desc := "(II)I" } : Jvm.MethodName)) ∈ jws := jws_10 (List.mem_of_getElem? (i := 34) rfl) rfl
theorem jw_2196 : (Jvm.Cond.instanceMethod ({ cls := "CoinNodeModel$Points", name := "numberEnd", desc := "(II)I" } : Jvm.MethodName)) ∈ jws := jws_10 (List.mem_of_getElem? (i := 36) rfl) rfl
theorem jw_2197 : (Jvm.Cond.code ({ cls := "CoinNodeModel$Points", name := "numberEnd", desc := "(II)I" } : Jvm.MethodName) prog_17_method_44_code (6 : Nat) (Option.some Jvm.ClassFile.FieldType.int)) ∈ jws := jws_10 (List.mem_of_getElem? (i := 37) rfl) rfl
theorem jw_2198 : (Jvm.Cond.methodLink "CoinNodeModel$Signing" (101 : Nat) ({ cls := "CoinNodeModel$Points", name := "set", desc := "(IJJJJ)Z" } : Jvm.MethodName)) ∈ jws := jws_10 (List.mem_of_getElem? (i := 38) rfl) rfl
theorem jw_2199 : (Jvm.Cond.instanceMethod ({ cls := "CoinNodeModel$Points", name := "set", desc := "(IJJJJ)Z" } : Jvm.MethodName)) ∈ jws := jws_10 (List.mem_of_getElem? (i := 39) rfl) rfl
theorem jw_2200 : (Jvm.Cond.selects "CoinNodeModel$Points" ({ cls := "CoinNodeModel$Points", name := "set", desc := "(IJJJJ)Z" } : Jvm.MethodName) ({ cls := "CoinNodeModel$Points", name := "set", desc := "(IJJJJ)Z" } : Jvm.MethodName)) ∈ jws := jws_10 (List.mem_of_getElem? (i := 40) rfl) rfl
theorem jw_2201 : (Jvm.Cond.code ({ cls := "CoinNodeModel$Points", name := "set", desc := "(IJJJJ)Z" } : Jvm.MethodName) prog_17_method_32_code (10 : Nat) (Option.some Jvm.ClassFile.FieldType.boolean)) ∈ jws := jws_10 (List.mem_of_getElem? (i := 41) rfl) rfl
theorem jw_2202 : (Jvm.Cond.methodLink "CoinNodeModel$Signing" (105 : Nat) ({ cls := "CoinNodeModel$Signing", name := "write", desc := "(I)V" } : Jvm.MethodName)) ∈ jws := jws_10 (List.mem_of_getElem? (i := 42) rfl) rfl
theorem jw_2204 : (Jvm.Cond.instanceMethod ({ cls := "CoinNodeModel$Signing", name := "write", desc := "(I)V" } : Jvm.MethodName)) ∈ jws := jws_10 (List.mem_of_getElem? (i := 44) rfl) rfl
theorem jw_2205 : (Jvm.Cond.code ({ cls := "CoinNodeModel$Signing", name := "write", desc := "(I)V" } : Jvm.MethodName) prog_19_method_4_code (7 : Nat) (Option.none : Option Jvm.ClassFile.FieldType)) ∈ jws := jws_10 (List.mem_of_getElem? (i := 45) rfl) rfl
theorem jw_2206 : (Jvm.Cond.methodLink "CoinNodeModel$Signing" (43 : Nat) ({ cls := "CoinNodeModel$Signing", name := "copy", desc := "([BII)V" } : Jvm.MethodName)) ∈ jws := jws_10 (List.mem_of_getElem? (i := 46) rfl) rfl
theorem jw_2208 : (Jvm.Cond.instanceMethod ({ cls := "CoinNodeModel$Signing", name := "copy", desc := "([BII)V" } : Jvm.MethodName)) ∈ jws := jws_10 (List.mem_of_getElem? (i := 48) rfl) rfl
theorem jw_2209 : (Jvm.Cond.code ({ cls := "CoinNodeModel$Signing", name := "copy", desc := "([BII)V" } : Jvm.MethodName) prog_19_method_2_code (5 : Nat) (Option.none : Option Jvm.ClassFile.FieldType)) ∈ jws := jws_10 (List.mem_of_getElem? (i := 49) rfl) rfl
theorem jw_2210 : (Jvm.Cond.methodLink "CoinNodeModel$Signing" (50 : Nat) ({ cls := "CoinNodeModel$Signing", name := "fill", desc := "(II)V" } : Jvm.MethodName)) ∈ jws := jws_10 (List.mem_of_getElem? (i := 50) rfl) rfl
theorem jw_2212 : (Jvm.Cond.instanceMethod ({ cls := "CoinNodeModel$Signing", name := "fill", desc := "(II)V" } : Jvm.MethodName)) ∈ jws := jws_10 (List.mem_of_getElem? (i := 52) rfl) rfl
theorem jw_2213 : (Jvm.Cond.code ({ cls := "CoinNodeModel$Signing", name := "fill", desc := "(II)V" } : Jvm.MethodName) prog_19_method_3_code (4 : Nat) (Option.none : Option Jvm.ClassFile.FieldType)) ∈ jws := jws_10 (List.mem_of_getElem? (i := 53) rfl) rfl
theorem jw_2214 : (Jvm.Cond.methodLink "CoinNodeModel$Signing" (109 : Nat) ({ cls := "CoinNodeModel$Hashes", name := "name", desc := "([BII[BI)V" } : Jvm.MethodName)) ∈ jws := jws_10 (List.mem_of_getElem? (i := 54) rfl) rfl
theorem jw_2215 : (Jvm.Cond.methodLink "CoinNodeModel$Signing" (115 : Nat) ({ cls := "CoinNodeModel$Signing", name := "word", desc := "(I)J" } : Jvm.MethodName)) ∈ jws := jws_10 (List.mem_of_getElem? (i := 55) rfl) rfl
theorem jw_2217 : (Jvm.Cond.instanceMethod ({ cls := "CoinNodeModel$Signing", name := "word", desc := "(I)J" } : Jvm.MethodName)) ∈ jws := jws_10 (List.mem_of_getElem? (i := 57) rfl) rfl
theorem jw_2218 : (Jvm.Cond.code ({ cls := "CoinNodeModel$Signing", name := "word", desc := "(I)J" } : Jvm.MethodName) prog_19_method_5_code (5 : Nat) (Option.some Jvm.ClassFile.FieldType.long)) ∈ jws := jws_10 (List.mem_of_getElem? (i := 58) rfl) rfl
theorem jw_2219 : (Jvm.Cond.methodLink "CoinNodeModel$Signing" (119 : Nat) ({ cls := "CoinNodeModel$Points", name := "fits", desc := "(IIII)I" } : Jvm.MethodName)) ∈ jws := jws_10 (List.mem_of_getElem? (i := 59) rfl) rfl
theorem jw_2220 : (Jvm.Cond.instanceMethod ({ cls := "CoinNodeModel$Points", name := "fits", desc := "(IIII)I" } : Jvm.MethodName)) ∈ jws := jws_10 (List.mem_of_getElem? (i := 60) rfl) rfl
theorem jw_2221 : (Jvm.Cond.selects "CoinNodeModel$Points" ({ cls := "CoinNodeModel$Points", name := "fits", desc := "(IIII)I" } : Jvm.MethodName) ({ cls := "CoinNodeModel$Points", name := "fits", desc := "(IIII)I" } : Jvm.MethodName)) ∈ jws := jws_10 (List.mem_of_getElem? (i := 61) rfl) rfl
theorem jw_2222 : (Jvm.Cond.code ({ cls := "CoinNodeModel$Points", name := "fits", desc := "(IIII)I" } : Jvm.MethodName) prog_17_method_46_code (5 : Nat) (Option.some Jvm.ClassFile.FieldType.int)) ∈ jws := jws_10 (List.mem_of_getElem? (i := 62) rfl) rfl
theorem jw_2223 : (Jvm.Cond.methodLink "CoinNodeModel$Points" (115 : Nat) ({ cls := "CoinNodeModel$Points", name := "isNothing", desc := "(I)Z" } : Jvm.MethodName)) ∈ jws := jws_10 (List.mem_of_getElem? (i := 63) rfl) rfl
theorem jw_2225 : (Jvm.Cond.instanceMethod ({ cls := "CoinNodeModel$Points", name := "isNothing", desc := "(I)Z" } : Jvm.MethodName)) ∈ jws := jws_10 (List.mem_of_getElem? (i := 65) rfl) rfl
theorem jw_2226 : (Jvm.Cond.code ({ cls := "CoinNodeModel$Points", name := "isNothing", desc := "(I)Z" } : Jvm.MethodName) prog_17_method_7_code (4 : Nat) (Option.some Jvm.ClassFile.FieldType.boolean)) ∈ jws := jws_10 (List.mem_of_getElem? (i := 66) rfl) rfl
theorem jw_2227 : (Jvm.Cond.methodLink "CoinNodeModel$Points" (121 : Nat) ({ cls := "CoinNodeModel$Points", name := "divide", desc := "(IIII)V" } : Jvm.MethodName)) ∈ jws := jws_10 (List.mem_of_getElem? (i := 67) rfl) rfl
theorem jw_2229 : (Jvm.Cond.instanceMethod ({ cls := "CoinNodeModel$Points", name := "divide", desc := "(IIII)V" } : Jvm.MethodName)) ∈ jws := jws_10 (List.mem_of_getElem? (i := 69) rfl) rfl
theorem jw_2230 : (Jvm.Cond.code ({ cls := "CoinNodeModel$Points", name := "divide", desc := "(IIII)V" } : Jvm.MethodName) prog_17_method_18_code (5 : Nat) (Option.none : Option Jvm.ClassFile.FieldType)) ∈ jws := jws_10 (List.mem_of_getElem? (i := 70) rfl) rfl
theorem jw_2231 : (Jvm.Cond.methodLink "CoinNodeModel$Points" (160 : Nat) ({ cls := "CoinNodeModel$Points", name := "multiple", desc := "(I)V" } : Jvm.MethodName)) ∈ jws := jws_10 (List.mem_of_getElem? (i := 71) rfl) rfl
theorem jw_2233 : (Jvm.Cond.instanceMethod ({ cls := "CoinNodeModel$Points", name := "multiple", desc := "(I)V" } : Jvm.MethodName)) ∈ jws := jws_10 (List.mem_of_getElem? (i := 73) rfl) rfl
theorem jw_2234 : (Jvm.Cond.code ({ cls := "CoinNodeModel$Points", name := "multiple", desc := "(I)V" } : Jvm.MethodName) prog_17_method_26_code (3 : Nat) (Option.none : Option Jvm.ClassFile.FieldType)) ∈ jws := jws_10 (List.mem_of_getElem? (i := 74) rfl) rfl
theorem jw_2235 : (Jvm.Cond.methodLink "CoinNodeModel$Points" (118 : Nat) ({ cls := "CoinNodeModel$Points", name := "isNone", desc := "(I)Z" } : Jvm.MethodName)) ∈ jws := jws_10 (List.mem_of_getElem? (i := 75) rfl) rfl
theorem jw_2237 : (Jvm.Cond.instanceMethod ({ cls := "CoinNodeModel$Points", name := "isNone", desc := "(I)Z" } : Jvm.MethodName)) ∈ jws := jws_10 (List.mem_of_getElem? (i := 77) rfl) rfl
theorem jw_2238 : (Jvm.Cond.code ({ cls := "CoinNodeModel$Points", name := "isNone", desc := "(I)Z" } : Jvm.MethodName) prog_17_method_20_code (2 : Nat) (Option.some Jvm.ClassFile.FieldType.boolean)) ∈ jws := jws_10 (List.mem_of_getElem? (i := 78) rfl) rfl
theorem jw_2239 : (Jvm.Cond.methodLink "CoinNodeModel$Points" (130 : Nat) ({ cls := "CoinNodeModel$Points", name := "twice", desc := "(I)V" } : Jvm.MethodName)) ∈ jws := jws_10 (List.mem_of_getElem? (i := 79) rfl) rfl
theorem jw_2241 : (Jvm.Cond.instanceMethod ({ cls := "CoinNodeModel$Points", name := "twice", desc := "(I)V" } : Jvm.MethodName)) ∈ jws := jws_10 (List.mem_of_getElem? (i := 81) rfl) rfl
theorem jw_2242 : (Jvm.Cond.code ({ cls := "CoinNodeModel$Points", name := "twice", desc := "(I)V" } : Jvm.MethodName) prog_17_method_24_code (3 : Nat) (Option.none : Option Jvm.ClassFile.FieldType)) ∈ jws := jws_10 (List.mem_of_getElem? (i := 82) rfl) rfl
theorem jw_2243 : (Jvm.Cond.methodLink "CoinNodeModel$Points" (127 : Nat) ({ cls := "CoinNodeModel$Points", name := "copyPoint", desc := "(II)V" } : Jvm.MethodName)) ∈ jws := jws_10 (List.mem_of_getElem? (i := 83) rfl) rfl
theorem jw_2245 : (Jvm.Cond.instanceMethod ({ cls := "CoinNodeModel$Points", name := "copyPoint", desc := "(II)V" } : Jvm.MethodName)) ∈ jws := jws_10 (List.mem_of_getElem? (i := 85) rfl) rfl
theorem jw_2246 : (Jvm.Cond.code ({ cls := "CoinNodeModel$Points", name := "copyPoint", desc := "(II)V" } : Jvm.MethodName) prog_17_method_21_code (3 : Nat) (Option.none : Option Jvm.ClassFile.FieldType)) ∈ jws := jws_10 (List.mem_of_getElem? (i := 86) rfl) rfl
theorem jw_2247 : (Jvm.Cond.methodLink "CoinNodeModel$Points" (133 : Nat) ({ cls := "CoinNodeModel$Points", name := "join", desc := "(II)V" } : Jvm.MethodName)) ∈ jws := jws_10 (List.mem_of_getElem? (i := 87) rfl) rfl
theorem jw_2249 : (Jvm.Cond.instanceMethod ({ cls := "CoinNodeModel$Points", name := "join", desc := "(II)V" } : Jvm.MethodName)) ∈ jws := jws_10 (List.mem_of_getElem? (i := 89) rfl) rfl
theorem jw_2250 : (Jvm.Cond.code ({ cls := "CoinNodeModel$Points", name := "join", desc := "(II)V" } : Jvm.MethodName) prog_17_method_25_code (3 : Nat) (Option.none : Option Jvm.ClassFile.FieldType)) ∈ jws := jws_10 (List.mem_of_getElem? (i := 90) rfl) rfl
theorem jw_2251 : (Jvm.Cond.methodLink "CoinNodeModel$Points" (154 : Nat) ({ cls := "CoinNodeModel$Points", name := "load", desc := "(II)V" } : Jvm.MethodName)) ∈ jws := jws_10 (List.mem_of_getElem? (i := 91) rfl) rfl
theorem jw_2253 : (Jvm.Cond.instanceMethod ({ cls := "CoinNodeModel$Points", name := "load", desc := "(II)V" } : Jvm.MethodName)) ∈ jws := jws_10 (List.mem_of_getElem? (i := 93) rfl) rfl
theorem jw_2254 : (Jvm.Cond.code ({ cls := "CoinNodeModel$Points", name := "load", desc := "(II)V" } : Jvm.MethodName) prog_17_method_22_code (3 : Nat) (Option.none : Option Jvm.ClassFile.FieldType)) ∈ jws := jws_10 (List.mem_of_getElem? (i := 94) rfl) rfl
theorem jw_2255 : (Jvm.Cond.methodLink "CoinNodeModel$Scripts" (167 : Nat) ({ cls := "CoinNodeModel$Scripts", name := "several", desc := "(Z)V" } : Jvm.MethodName)) ∈ jws := jws_10 (List.mem_of_getElem? (i := 95) rfl) rfl
theorem jw_2257 : (Jvm.Cond.instanceMethod ({ cls := "CoinNodeModel$Scripts", name := "several", desc := "(Z)V" } : Jvm.MethodName)) ∈ jws := jws_10 (List.mem_of_getElem? (i := 97) rfl) rfl
theorem jw_2258 : (Jvm.Cond.code ({ cls := "CoinNodeModel$Scripts", name := "several", desc := "(Z)V" } : Jvm.MethodName) prog_18_method_17_code (6 : Nat) (Option.none : Option Jvm.ClassFile.FieldType)) ∈ jws := jws_10 (List.mem_of_getElem? (i := 98) rfl) rfl
theorem jw_2259 : (Jvm.Cond.constantLong "CoinNodeModel$Scripts" (111 : Nat) (8 : Int64)) ∈ jws := jws_10 (List.mem_of_getElem? (i := 99) rfl) rfl
theorem jw_2260 : (Jvm.Cond.methodLink "CoinNodeModel" (293 : Nat) ({ cls := "CoinNodeModel$Scripts", name := "isTrue", desc := "()Z" } : Jvm.MethodName)) ∈ jws := jws_10 (List.mem_of_getElem? (i := 100) rfl) rfl
theorem jw_2261 : (Jvm.Cond.instanceMethod ({ cls := "CoinNodeModel$Scripts", name := "isTrue", desc := "()Z" } : Jvm.MethodName)) ∈ jws := jws_10 (List.mem_of_getElem? (i := 101) rfl) rfl
theorem jw_2262 : (Jvm.Cond.selects "CoinNodeModel$Scripts" ({ cls := "CoinNodeModel$Scripts", name := "isTrue", desc := "()Z" } : Jvm.MethodName) ({ cls := "CoinNodeModel$Scripts", name := "isTrue", desc := "()Z" } : Jvm.MethodName)) ∈ jws := jws_10 (List.mem_of_getElem? (i := 102) rfl) rfl
theorem jw_2263 : (Jvm.Cond.code ({ cls := "CoinNodeModel$Scripts", name := "isTrue", desc := "()Z" } : Jvm.MethodName) prog_18_method_34_code (1 : Nat) (Option.some Jvm.ClassFile.FieldType.boolean)) ∈ jws := jws_10 (List.mem_of_getElem? (i := 103) rfl) rfl
theorem jw_2264 : (Jvm.Cond.methodLink "CoinNodeModel" (404 : Nat) ({ cls := "CoinNodeModel", name := "lacks", desc := "()Z" } : Jvm.MethodName)) ∈ jws := jws_10 (List.mem_of_getElem? (i := 104) rfl) rfl
theorem jw_2266 : (Jvm.Cond.instanceMethod ({ cls := "CoinNodeModel", name := "lacks", desc := "()Z" } : Jvm.MethodName)) ∈ jws := jws_10 (List.mem_of_getElem? (i := 106) rfl) rfl
theorem jw_2267 : (Jvm.Cond.code ({ cls := "CoinNodeModel", name := "lacks", desc := "()Z" } : Jvm.MethodName) prog_14_method_27_code (3 : Nat) (Option.some Jvm.ClassFile.FieldType.boolean)) ∈ jws := jws_10 (List.mem_of_getElem? (i := 107) rfl) rfl
theorem jw_2268 : (Jvm.Cond.methodLink "CoinNodeModel" (407 : Nat) ({ cls := "CoinNodeModel", name := "hangsOnItself", desc := "()Z" } : Jvm.MethodName)) ∈ jws := jws_10 (List.mem_of_getElem? (i := 108) rfl) rfl
theorem jw_2270 : (Jvm.Cond.instanceMethod ({ cls := "CoinNodeModel", name := "hangsOnItself", desc := "()Z" } : Jvm.MethodName)) ∈ jws := jws_10 (List.mem_of_getElem? (i := 110) rfl) rfl
theorem jw_2271 : (Jvm.Cond.code ({ cls := "CoinNodeModel", name := "hangsOnItself", desc := "()Z" } : Jvm.MethodName) prog_14_method_28_code (3 : Nat) (Option.some Jvm.ClassFile.FieldType.boolean)) ∈ jws := jws_10 (List.mem_of_getElem? (i := 111) rfl) rfl
theorem jw_2272 : (Jvm.Cond.methodLink "CoinNodeModel" (360 : Nat) ({ cls := "CoinNodeModel", name := "family", desc := "([BI)V" } : Jvm.MethodName)) ∈ jws := jws_10 (List.mem_of_getElem? (i := 112) rfl) rfl
theorem jw_2274 : (Jvm.Cond.instanceMethod ({ cls := "CoinNodeModel", name := "family", desc := "([BI)V" } : Jvm.MethodName)) ∈ jws := jws_10 (List.mem_of_getElem? (i := 114) rfl) rfl
theorem jw_2275 : (Jvm.Cond.code ({ cls := "CoinNodeModel", name := "family", desc := "([BI)V" } : Jvm.MethodName) prog_14_method_23_code (6 : Nat) (Option.none : Option Jvm.ClassFile.FieldType)) ∈ jws := jws_10 (List.mem_of_getElem? (i := 115) rfl) rfl
theorem jw_2276 : (Jvm.Cond.methodLink "CoinNodeModel" (356 : Nat) ({ cls := "CoinNodeModel", name := "hangs", desc := "(I[BI)Z" } : Jvm.MethodName)) ∈ jws := jws_10 (List.mem_of_getElem? (i := 116) rfl) rfl
theorem jw_2278 : (Jvm.Cond.instanceMethod ({ cls := "CoinNodeModel", name := "hangs", desc := "(I[BI)Z" } : Jvm.MethodName)) ∈ jws := jws_10 (List.mem_of_getElem? (i := 118) rfl) rfl
theorem jw_2279 : (Jvm.Cond.code ({ cls := "CoinNodeModel", name := "hangs", desc := "(I[BI)Z" } : Jvm.MethodName) prog_14_method_22_code (6 : Nat) (Option.some Jvm.ClassFile.FieldType.boolean)) ∈ jws := jws_10 (List.mem_of_getElem? (i := 119) rfl) rfl
theorem jw_2280 : (Jvm.Cond.methodLink "CoinNodeModel" (410 : Nat) ({ cls := "CoinNodeModel", name := "evict", desc := "()V" } : Jvm.MethodName)) ∈ jws := jws_10 (List.mem_of_getElem? (i := 120) rfl) rfl
theorem jw_2282 : (Jvm.Cond.instanceMethod ({ cls := "CoinNodeModel", name := "evict", desc := "()V" } : Jvm.MethodName)) ∈ jws := jws_10 (List.mem_of_getElem? (i := 122) rfl) rfl
theorem jw_2283 : (Jvm.Cond.code ({ cls := "CoinNodeModel", name := "evict", desc := "()V" } : Jvm.MethodName) prog_14_method_25_code (12 : Nat) (Option.none : Option Jvm.ClassFile.FieldType)) ∈ jws := jws_10 (List.mem_of_getElem? (i := 123) rfl) rfl
theorem jw_2284 : (Jvm.Cond.methodLink "CoinNodeModel" (364 : Nat) ({ cls := "CoinNodeModel", name := "compare", desc := "(JJJJ)I" } : Jvm.MethodName)) ∈ jws := jws_10 (List.mem_of_getElem? (i := 124) rfl) rfl
theorem jw_2285 : (Jvm.Cond.static ({ cls := "CoinNodeModel", name := "compare", desc := "(JJJJ)I" } : Jvm.MethodName)) ∈ jws := jws_10 (List.mem_of_getElem? (i := 125) rfl) rfl
theorem jw_2286 : (Jvm.Cond.code ({ cls := "CoinNodeModel", name := "compare", desc := "(JJJJ)I" } : Jvm.MethodName) prog_14_method_24_code (12 : Nat) (Option.some Jvm.ClassFile.FieldType.int)) ∈ jws := jws_10 (List.mem_of_getElem? (i := 126) rfl) rfl
theorem jw_2287 : (Jvm.Cond.methodLink "CoinNodeModel" (484 : Nat) ({ cls := "CoinNodeModel", name := "verdict", desc := "(II[BI)V" } : Jvm.MethodName)) ∈ jws := jws_10 (List.mem_of_getElem? (i := 127) rfl) rfl
theorem jw_2289 : (Jvm.Cond.instanceMethod ({ cls := "CoinNodeModel", name := "verdict", desc := "(II[BI)V" } : Jvm.MethodName)) ∈ jws := jws_10 (List.mem_of_getElem? (i := 129) rfl) rfl
theorem jw_2290 : (Jvm.Cond.code ({ cls := "CoinNodeModel", name := "verdict", desc := "(II[BI)V" } : Jvm.MethodName) prog_14_method_42_code (6 : Nat) (Option.none : Option Jvm.ClassFile.FieldType)) ∈ jws := jws_10 (List.mem_of_getElem? (i := 130) rfl) rfl
theorem jw_2291 : (Jvm.Cond.methodLink "CoinNodeModel" (473 : Nat) ({ cls := "CoinNodeModel", name := "begin", desc := "(I)V" } : Jvm.MethodName)) ∈ jws := jws_10 (List.mem_of_getElem? (i := 131) rfl) rfl
theorem jw_2293 : (Jvm.Cond.instanceMethod ({ cls := "CoinNodeModel", name := "begin", desc := "(I)V" } : Jvm.MethodName)) ∈ jws := jws_10 (List.mem_of_getElem? (i := 133) rfl) rfl
theorem jw_2294 : (Jvm.Cond.code ({ cls := "CoinNodeModel", name := "begin", desc := "(I)V" } : Jvm.MethodName) prog_14_method_40_code (2 : Nat) (Option.none : Option Jvm.ClassFile.FieldType)) ∈ jws := jws_10 (List.mem_of_getElem? (i := 134) rfl) rfl
theorem jw_2295 : (Jvm.Cond.methodLink "CoinNodeModel" (470 : Nat) ({ cls := "CoinNodeModel", name := "put", desc := "(I)V" } : Jvm.MethodName)) ∈ jws := jws_10 (List.mem_of_getElem? (i := 135) rfl) rfl
theorem jw_2297 : (Jvm.Cond.instanceMethod ({ cls := "CoinNodeModel", name := "put", desc := "(I)V" } : Jvm.MethodName)) ∈ jws := jws_10 (List.mem_of_getElem? (i := 137) rfl) rfl
theorem jw_2298 : (Jvm.Cond.code ({ cls := "CoinNodeModel", name := "put", desc := "(I)V" } : Jvm.MethodName) prog_14_method_38_code (2 : Nat) (Option.none : Option Jvm.ClassFile.FieldType)) ∈ jws := jws_10 (List.mem_of_getElem? (i := 138) rfl) rfl
theorem jw_2299 : (Jvm.Cond.methodLink "CoinNodeModel" (476 : Nat) ({ cls := "CoinNodeModel", name := "tell", desc := "(I)V" } : Jvm.MethodName)) ∈ jws := jws_10 (List.mem_of_getElem? (i := 139) rfl) rfl
theorem jw_2301 : (Jvm.Cond.instanceMethod ({ cls := "CoinNodeModel", name := "tell", desc := "(I)V" } : Jvm.MethodName)) ∈ jws := jws_10 (List.mem_of_getElem? (i := 141) rfl) rfl
theorem jw_2302 : (Jvm.Cond.code ({ cls := "CoinNodeModel", name := "tell", desc := "(I)V" } : Jvm.MethodName) prog_14_method_41_code (4 : Nat) (Option.none : Option Jvm.ClassFile.FieldType)) ∈ jws := jws_10 (List.mem_of_getElem? (i := 142) rfl) rfl
theorem jw_2303 : (Jvm.Cond.methodLink "CoinNodeModel" (488 : Nat) ({ cls := "CoinNodeModel", name := "tellOthers", desc := "(II[BI)V" } : Jvm.MethodName)) ∈ jws := jws_10 (List.mem_of_getElem? (i := 143) rfl) rfl
theorem jw_2305 : (Jvm.Cond.instanceMethod ({ cls := "CoinNodeModel", name := "tellOthers", desc := "(II[BI)V" } : Jvm.MethodName)) ∈ jws := jws_10 (List.mem_of_getElem? (i := 145) rfl) rfl
theorem jw_2306 : (Jvm.Cond.code ({ cls := "CoinNodeModel", name := "tellOthers", desc := "(II[BI)V" } : Jvm.MethodName) prog_14_method_43_code (6 : Nat) (Option.none : Option Jvm.ClassFile.FieldType)) ∈ jws := jws_10 (List.mem_of_getElem? (i := 146) rfl) rfl
theorem jw_2307 : (Jvm.Cond.methodLink "CoinNodeModel" (479 : Nat) ({ cls := "CoinNodeModel", name := "copy", desc := "([BII)V" } : Jvm.MethodName)) ∈ jws := jws_10 (List.mem_of_getElem? (i := 147) rfl) rfl
theorem jw_2309 : (Jvm.Cond.instanceMethod ({ cls := "CoinNodeModel", name := "copy", desc := "([BII)V" } : Jvm.MethodName)) ∈ jws := jws_10 (List.mem_of_getElem? (i := 149) rfl) rfl
theorem jw_2310 : (Jvm.Cond.code ({ cls := "CoinNodeModel", name := "copy", desc := "([BII)V" } : Jvm.MethodName) prog_14_method_39_code (5 : Nat) (Option.none : Option Jvm.ClassFile.FieldType)) ∈ jws := jws_10 (List.mem_of_getElem? (i := 150) rfl) rfl
theorem jw_2311 : (Jvm.Cond.methodLink "CoinNodeModel" (491 : Nat) ({ cls := "CoinNodeModel", name := "arrives", desc := "(I)I" } : Jvm.MethodName)) ∈ jws := jws_10 (List.mem_of_getElem? (i := 151) rfl) rfl
theorem jw_2313 : (Jvm.Cond.instanceMethod ({ cls := "CoinNodeModel", name := "arrives", desc := "(I)I" } : Jvm.MethodName)) ∈ jws := jws_10 (List.mem_of_getElem? (i := 153) rfl) rfl
theorem jw_2314 : (Jvm.Cond.code ({ cls := "CoinNodeModel", name := "arrives", desc := "(I)I" } : Jvm.MethodName) prog_14_method_37_code (9 : Nat) (Option.some Jvm.ClassFile.FieldType.int)) ∈ jws := jws_10 (List.mem_of_getElem? (i := 154) rfl) rfl
theorem jw_2315 : (Jvm.Cond.methodLink "CoinNodeModel" (431 : Nat) ({ cls := "CoinNodeModel", name := "known", desc := "([BI)I" } : Jvm.MethodName)) ∈ jws := jws_10 (List.mem_of_getElem? (i := 155) rfl) rfl
theorem jw_2317 : (Jvm.Cond.instanceMethod ({ cls := "CoinNodeModel", name := "known", desc := "([BI)I" } : Jvm.MethodName)) ∈ jws := jws_10 (List.mem_of_getElem? (i := 157) rfl) rfl
theorem jw_2318 : (Jvm.Cond.code ({ cls := "CoinNodeModel", name := "known", desc := "([BI)I" } : Jvm.MethodName) prog_14_method_31_code (4 : Nat) (Option.some Jvm.ClassFile.FieldType.int)) ∈ jws := jws_10 (List.mem_of_getElem? (i := 158) rfl) rfl
theorem jw_2319 : (Jvm.Cond.methodLink "CoinNodeModel" (417 : Nat) ({ cls := "CoinNodeModel$Tree", name := "size", desc := "()I" } : Jvm.MethodName)) ∈ jws := jws_10 (List.mem_of_getElem? (i := 159) rfl) rfl
theorem jw_2320 : (Jvm.Cond.instanceMethod ({ cls := "CoinNodeModel$Tree", name := "size", desc := "()I" } : Jvm.MethodName)) ∈ jws := jws_10 (List.mem_of_getElem? (i := 160) rfl) rfl
theorem jw_2321 : (Jvm.Cond.selects "CoinNodeModel$Tree" ({ cls := "CoinNodeModel$Tree", name := "size", desc := "()I" } : Jvm.MethodName) ({ cls := "CoinNodeModel$Tree", name := "size", desc := "()I" } : Jvm.MethodName)) ∈ jws := jws_10 (List.mem_of_getElem? (i := 161) rfl) rfl
theorem jw_2322 : (Jvm.Cond.code ({ cls := "CoinNodeModel$Tree", name := "size", desc := "()I" } : Jvm.MethodName) prog_20_method_25_code (1 : Nat) (Option.some Jvm.ClassFile.FieldType.int)) ∈ jws := jws_10 (List.mem_of_getElem? (i := 162) rfl) rfl
theorem jw_2323 : (Jvm.Cond.methodLink "CoinNodeModel" (434 : Nat) ({ cls := "CoinNodeModel", name := "head", desc := "(II)J" } : Jvm.MethodName)) ∈ jws := jws_10 (List.mem_of_getElem? (i := 163) rfl) rfl
theorem jw_2325 : (Jvm.Cond.instanceMethod ({ cls := "CoinNodeModel", name := "head", desc := "(II)J" } : Jvm.MethodName)) ∈ jws := jws_10 (List.mem_of_getElem? (i := 165) rfl) rfl
theorem jw_2326 : (Jvm.Cond.code ({ cls := "CoinNodeModel", name := "head", desc := "(II)J" } : Jvm.MethodName) prog_14_method_33_code (6 : Nat) (Option.some Jvm.ClassFile.FieldType.long)) ∈ jws := jws_10 (List.mem_of_getElem? (i := 166) rfl) rfl
theorem jw_2327 : (Jvm.Cond.methodLink "CoinNodeModel" (437 : Nat) ({ cls := "CoinNodeModel$Tree", name := "must", desc := "(I)J" } : Jvm.MethodName)) ∈ jws := jws_10 (List.mem_of_getElem? (i := 167) rfl) rfl
theorem jw_2328 : (Jvm.Cond.instanceMethod ({ cls := "CoinNodeModel$Tree", name := "must", desc := "(I)J" } : Jvm.MethodName)) ∈ jws := jws_10 (List.mem_of_getElem? (i := 168) rfl) rfl
theorem jw_2329 : (Jvm.Cond.selects "CoinNodeModel$Tree" ({ cls := "CoinNodeModel$Tree", name := "must", desc := "(I)J" } : Jvm.MethodName) ({ cls := "CoinNodeModel$Tree", name := "must", desc := "(I)J" } : Jvm.MethodName)) ∈ jws := jws_10 (List.mem_of_getElem? (i := 169) rfl) rfl
theorem jw_2330 : (Jvm.Cond.code ({ cls := "CoinNodeModel$Tree", name := "must", desc := "(I)J" } : Jvm.MethodName) prog_20_method_17_code (4 : Nat) (Option.some Jvm.ClassFile.FieldType.long)) ∈ jws := jws_10 (List.mem_of_getElem? (i := 170) rfl) rfl
theorem jw_2331 : (Jvm.Cond.methodLink "CoinNodeModel$Tree" (108 : Nat) ({ cls := "CoinNodeModel$Tree", name := "below", desc := "(II)I" } : Jvm.MethodName)) ∈ jws := jws_10 (List.mem_of_getElem? (i := 171) rfl) rfl
theorem jw_2332 : (Jvm.Cond.constantLong "CoinNodeModel$Tree" (112 : Nat) (1200 : Int64)) ∈ jws := jws_10 (List.mem_of_getElem? (i := 172) rfl) rfl
theorem jw_2333 : (Jvm.Cond.constantLong "CoinNodeModel$Tree" (114 : Nat) (19200 : Int64)) ∈ jws := jws_10 (List.mem_of_getElem? (i := 173) rfl) rfl
theorem jw_2334 : (Jvm.Cond.constantLong "CoinNodeModel$Tree" (116 : Nat) (4800 : Int64)) ∈ jws := jws_10 (List.mem_of_getElem? (i := 174) rfl) rfl
theorem jw_2335 : (Jvm.Cond.methodLink "CoinNodeModel$Tree" (118 : Nat) ({ cls := "CoinNodeModel$Tree", name := "scale", desc := "(JJ)V" } : Jvm.MethodName)) ∈ jws := jws_10 (List.mem_of_getElem? (i := 175) rfl) rfl
theorem jw_2337 : (Jvm.Cond.instanceMethod ({ cls := "CoinNodeModel$Tree", name := "scale", desc := "(JJ)V" } : Jvm.MethodName)) ∈ jws := jws_10 (List.mem_of_getElem? (i := 177) rfl) rfl
theorem jw_2338 : (Jvm.Cond.code ({ cls := "CoinNodeModel$Tree", name := "scale", desc := "(JJ)V" } : Jvm.MethodName) prog_20_method_8_code (12 : Nat) (Option.none : Option Jvm.ClassFile.FieldType)) ∈ jws := jws_10 (List.mem_of_getElem? (i := 178) rfl) rfl
theorem jw_2339 : (Jvm.Cond.constantLong "CoinNodeModel$Tree" (76 : Nat) (256 : Int64)) ∈ jws := jws_10 (List.mem_of_getElem? (i := 179) rfl) rfl
theorem jw_2340 : (Jvm.Cond.methodLink "CoinNodeModel$Tree" (98 : Nat) ({ cls := "CoinNodeModel$Tree", name := "compactOf", desc := "([I)J" } : Jvm.MethodName)) ∈ jws := jws_10 (List.mem_of_getElem? (i := 180) rfl) rfl
theorem jw_2341 : (Jvm.Cond.static ({ cls := "CoinNodeModel$Tree", name := "compactOf", desc := "([I)J" } : Jvm.MethodName)) ∈ jws := jws_10 (List.mem_of_getElem? (i := 181) rfl) rfl
theorem jw_2342 : (Jvm.Cond.code ({ cls := "CoinNodeModel$Tree", name := "compactOf", desc := "([I)J" } : Jvm.MethodName) prog_20_method_9_code (5 : Nat) (Option.some Jvm.ClassFile.FieldType.long)) ∈ jws := jws_10 (List.mem_of_getElem? (i := 182) rfl) rfl
theorem jw_2343 : (Jvm.Cond.methodLink "CoinNodeModel$Tree" (78 : Nat) ({ cls := "CoinNodeModel$Tree", name := "bytes", desc := "([I)I" } : Jvm.MethodName)) ∈ jws := jws_10 (List.mem_of_getElem? (i := 183) rfl) rfl
theorem jw_2344 : (Jvm.Cond.static ({ cls := "CoinNodeModel$Tree", name := "bytes", desc := "([I)I" } : Jvm.MethodName)) ∈ jws := jws_10 (List.mem_of_getElem? (i := 184) rfl) rfl
theorem jw_2345 : (Jvm.Cond.code ({ cls := "CoinNodeModel$Tree", name := "bytes", desc := "([I)I" } : Jvm.MethodName) prog_20_method_5_code (3 : Nat) (Option.some Jvm.ClassFile.FieldType.int)) ∈ jws := jws_10 (List.mem_of_getElem? (i := 185) rfl) rfl
theorem jw_2346 : (Jvm.Cond.constantLong "CoinNodeModel$Tree" (82 : Nat) (8388608 : Int64)) ∈ jws := jws_10 (List.mem_of_getElem? (i := 186) rfl) rfl
theorem jw_2347 : (Jvm.Cond.methodLink "CoinNodeModel" (441 : Nat) ({ cls := "CoinNodeModel$Tree", name := "median", desc := "(I)J" } : Jvm.MethodName)) ∈ jws := jws_10 (List.mem_of_getElem? (i := 187) rfl) rfl
theorem jw_2348 : (Jvm.Cond.instanceMethod ({ cls := "CoinNodeModel$Tree", name := "median", desc := "(I)J" } : Jvm.MethodName)) ∈ jws := jws_10 (List.mem_of_getElem? (i := 188) rfl) rfl
theorem jw_2349 : (Jvm.Cond.selects "CoinNodeModel$Tree" ({ cls := "CoinNodeModel$Tree", name := "median", desc := "(I)J" } : Jvm.MethodName) ({ cls := "CoinNodeModel$Tree", name := "median", desc := "(I)J" } : Jvm.MethodName)) ∈ jws := jws_10 (List.mem_of_getElem? (i := 189) rfl) rfl
theorem jw_2350 : (Jvm.Cond.code ({ cls := "CoinNodeModel$Tree", name := "median", desc := "(I)J" } : Jvm.MethodName) prog_20_method_18_code (5 : Nat) (Option.some Jvm.ClassFile.FieldType.long)) ∈ jws := jws_10 (List.mem_of_getElem? (i := 190) rfl) rfl
theorem jw_2351 : (Jvm.Cond.methodLink "CoinNodeModel" (444 : Nat) ({ cls := "CoinNodeModel", name := "isAbove", desc := "(J)Z" } : Jvm.MethodName)) ∈ jws := jws_10 (List.mem_of_getElem? (i := 191) rfl) rfl
theorem jw_2353 : (Jvm.Cond.instanceMethod ({ cls := "CoinNodeModel", name := "isAbove", desc := "(J)Z" } : Jvm.MethodName)) ∈ jws := jws_10 (List.mem_of_getElem? (i := 193) rfl) rfl
theorem jw_2354 : (Jvm.Cond.code ({ cls := "CoinNodeModel", name := "isAbove", desc := "(J)Z" } : Jvm.MethodName) prog_14_method_32_code (8 : Nat) (Option.some Jvm.ClassFile.FieldType.boolean)) ∈ jws := jws_10 (List.mem_of_getElem? (i := 194) rfl) rfl
theorem jw_2355 : (Jvm.Cond.methodLink "CoinNodeModel" (420 : Nat) ({ cls := "CoinNodeModel$Tree", name := "target", desc := "(JI)J" } : Jvm.MethodName)) ∈ jws := jws_10 (List.mem_of_getElem? (i := 195) rfl) rfl
theorem jw_2356 : (Jvm.Cond.instanceMethod ({ cls := "CoinNodeModel$Tree", name := "target", desc := "(JI)J" } : Jvm.MethodName)) ∈ jws := jws_10 (List.mem_of_getElem? (i := 196) rfl) rfl
theorem jw_2357 : (Jvm.Cond.selects "CoinNodeModel$Tree" ({ cls := "CoinNodeModel$Tree", name := "target", desc := "(JI)J" } : Jvm.MethodName) ({ cls := "CoinNodeModel$Tree", name := "target", desc := "(JI)J" } : Jvm.MethodName)) ∈ jws := jws_10 (List.mem_of_getElem? (i := 197) rfl) rfl
theorem jw_2358 : (Jvm.Cond.code ({ cls := "CoinNodeModel$Tree", name := "target", desc := "(JI)J" } : Jvm.MethodName) prog_20_method_13_code (5 : Nat) (Option.some Jvm.ClassFile.FieldType.long)) ∈ jws := jws_10 (List.mem_of_getElem? (i := 198) rfl) rfl
theorem jw_2359 : (Jvm.Cond.methodLink "CoinNodeModel$Tree" (90 : Nat) ({ cls := "CoinNodeModel$Tree", name := "fault", desc := "(J)I" } : Jvm.MethodName)) ∈ jws := jws_10 (List.mem_of_getElem? (i := 199) rfl) rfl
theorem jw_2360 : (Jvm.Cond.instanceMethod ({ cls := "CoinNodeModel$Tree", name := "fault", desc := "(J)I" } : Jvm.MethodName)) ∈ jws := jws_10 (List.mem_of_getElem? (i := 200) rfl) rfl
theorem jw_2361 : (Jvm.Cond.selects "CoinNodeModel$Tree" ({ cls := "CoinNodeModel$Tree", name := "fault", desc := "(J)I" } : Jvm.MethodName) ({ cls := "CoinNodeModel$Tree", name := "fault", desc := "(J)I" } : Jvm.MethodName)) ∈ jws := jws_10 (List.mem_of_getElem? (i := 201) rfl) rfl
theorem jw_2362 : (Jvm.Cond.code ({ cls := "CoinNodeModel$Tree", name := "fault", desc := "(J)I" } : Jvm.MethodName) prog_20_method_11_code (7 : Nat) (Option.some Jvm.ClassFile.FieldType.int)) ∈ jws := jws_10 (List.mem_of_getElem? (i := 202) rfl) rfl
theorem jw_2363 : (Jvm.Cond.methodLink "CoinNodeModel$Tree" (84 : Nat) ({ cls := "CoinNodeModel$Tree", name := "isBits", desc := "(J)Z" } : Jvm.MethodName)) ∈ jws := jws_10 (List.mem_of_getElem? (i := 203) rfl) rfl
theorem jw_2364 : (Jvm.Cond.static ({ cls := "CoinNodeModel$Tree", name := "isBits", desc := "(J)Z" } : Jvm.MethodName)) ∈ jws := jws_10 (List.mem_of_getElem? (i := 204) rfl) rfl
theorem jw_2365 : (Jvm.Cond.code ({ cls := "CoinNodeModel$Tree", name := "isBits", desc := "(J)Z" } : Jvm.MethodName) prog_20_method_10_code (2 : Nat) (Option.some Jvm.ClassFile.FieldType.boolean)) ∈ jws := jws_10 (List.mem_of_getElem? (i := 205) rfl) rfl
theorem jw_2366 : (Jvm.Cond.constantLong "CoinNodeModel$Tree" (88 : Nat) (65536 : Int64)) ∈ jws := jws_10 (List.mem_of_getElem? (i := 206) rfl) rfl
theorem jw_2367 : (Jvm.Cond.methodLink "CoinNodeModel$Tree" (94 : Nat) ({ cls := "CoinNodeModel$Tree", name := "longOf", desc := "([III)J" } : Jvm.MethodName)) ∈ jws := jws_10 (List.mem_of_getElem? (i := 207) rfl) rfl
theorem jw_2368 : (Jvm.Cond.static ({ cls := "CoinNodeModel$Tree", name := "longOf", desc := "([III)J" } : Jvm.MethodName)) ∈ jws := jws_10 (List.mem_of_getElem? (i := 208) rfl) rfl
theorem jw_2369 : (Jvm.Cond.code ({ cls := "CoinNodeModel$Tree", name := "longOf", desc := "([III)J" } : Jvm.MethodName) prog_20_method_12_code (6 : Nat) (Option.some Jvm.ClassFile.FieldType.long)) ∈ jws := jws_10 (List.mem_of_getElem? (i := 209) rfl) rfl
theorem jw_2370 : (Jvm.Cond.methodLink "CoinNodeModel" (448 : Nat) ({ cls := "CoinNodeModel", name := "isFramed", desc := "()Z" } : Jvm.MethodName)) ∈ jws := jws_10 (List.mem_of_getElem? (i := 210) rfl) rfl
theorem jw_2372 : (Jvm.Cond.instanceMethod ({ cls := "CoinNodeModel", name := "isFramed", desc := "()Z" } : Jvm.MethodName)) ∈ jws := jws_10 (List.mem_of_getElem? (i := 212) rfl) rfl
theorem jw_2373 : (Jvm.Cond.code ({ cls := "CoinNodeModel", name := "isFramed", desc := "()Z" } : Jvm.MethodName) prog_14_method_34_code (2 : Nat) (Option.some Jvm.ClassFile.FieldType.boolean)) ∈ jws := jws_10 (List.mem_of_getElem? (i := 213) rfl) rfl
theorem jw_2374 : (Jvm.Cond.methodLink "CoinNodeModel" (424 : Nat) ({ cls := "CoinNodeModel$Tx", name := "isRoot", desc := "(I)Z" } : Jvm.MethodName)) ∈ jws := jws_10 (List.mem_of_getElem? (i := 214) rfl) rfl
theorem jw_2375 : (Jvm.Cond.methodLink "CoinNodeModel" (451 : Nat) ({ cls := "CoinNodeModel", name := "isRooted", desc := "()Z" } : Jvm.MethodName)) ∈ jws := jws_10 (List.mem_of_getElem? (i := 215) rfl) rfl
theorem jw_2377 : (Jvm.Cond.instanceMethod ({ cls := "CoinNodeModel", name := "isRooted", desc := "()Z" } : Jvm.MethodName)) ∈ jws := jws_10 (List.mem_of_getElem? (i := 217) rfl) rfl
theorem jw_2378 : (Jvm.Cond.code ({ cls := "CoinNodeModel", name := "isRooted", desc := "()Z" } : Jvm.MethodName) prog_14_method_35_code (4 : Nat) (Option.some Jvm.ClassFile.FieldType.boolean)) ∈ jws := jws_10 (List.mem_of_getElem? (i := 218) rfl) rfl
theorem jw_2379 : (Jvm.Cond.methodLink "CoinNodeModel" (454 : Nat) ({ cls := "CoinNodeModel", name := "isFaulty", desc := "()Z" } : Jvm.MethodName)) ∈ jws := jws_10 (List.mem_of_getElem? (i := 219) rfl) rfl
theorem jw_2381 : (Jvm.Cond.instanceMethod ({ cls := "CoinNodeModel", name := "isFaulty", desc := "()Z" } : Jvm.MethodName)) ∈ jws := jws_10 (List.mem_of_getElem? (i := 221) rfl) rfl
theorem jw_2382 : (Jvm.Cond.code ({ cls := "CoinNodeModel", name := "isFaulty", desc := "()Z" } : Jvm.MethodName) prog_14_method_36_code (2 : Nat) (Option.some Jvm.ClassFile.FieldType.boolean)) ∈ jws := jws_10 (List.mem_of_getElem? (i := 222) rfl) rfl
theorem jw_2383 : (Jvm.Cond.methodLink "CoinNodeModel" (428 : Nat) ({ cls := "CoinNodeModel$Tx", name := "isLarge", desc := "()Z" } : Jvm.MethodName)) ∈ jws := jws_10 (List.mem_of_getElem? (i := 223) rfl) rfl
theorem jw_2384 : (Jvm.Cond.methodLink "CoinNodeModel" (457 : Nat) ({ cls := "CoinNodeModel$Tree", name := "add", desc := "(IJJ)I" } : Jvm.MethodName)) ∈ jws := jws_10 (List.mem_of_getElem? (i := 224) rfl) rfl
theorem jw_2385 : (Jvm.Cond.instanceMethod ({ cls := "CoinNodeModel$Tree", name := "add", desc := "(IJJ)I" } : Jvm.MethodName)) ∈ jws := jws_10 (List.mem_of_getElem? (i := 225) rfl) rfl
theorem jw_2386 : (Jvm.Cond.selects "CoinNodeModel$Tree" ({ cls := "CoinNodeModel$Tree", name := "add", desc := "(IJJ)I" } : Jvm.MethodName) ({ cls := "CoinNodeModel$Tree", name := "add", desc := "(IJJ)I" } : Jvm.MethodName)) ∈ jws := jws_10 (List.mem_of_getElem? (i := 226) rfl) rfl
theorem jw_2387 : (Jvm.Cond.code ({ cls := "CoinNodeModel$Tree", name := "add", desc := "(IJJ)I" } : Jvm.MethodName) prog_20_method_19_code (6 : Nat) (Option.some Jvm.ClassFile.FieldType.int)) ∈ jws := jws_10 (List.mem_of_getElem? (i := 227) rfl) rfl
theorem jw_2388 : (Jvm.Cond.methodLink "CoinNodeModel$Tree" (122 : Nat) ({ cls := "CoinNodeModel$Tree", name := "must", desc := "(I)J" } : Jvm.MethodName)) ∈ jws := jws_10 (List.mem_of_getElem? (i := 228) rfl) rfl
theorem jw_2389 : (Jvm.Cond.methodLink "CoinNodeModel$Tree" (126 : Nat) ({ cls := "CoinNodeModel$Tree", name := "median", desc := "(I)J" } : Jvm.MethodName)) ∈ jws := jws_10 (List.mem_of_getElem? (i := 229) rfl) rfl
theorem jw_2390 : (Jvm.Cond.methodLink "CoinNodeModel" (461 : Nat) ({ cls := "CoinNodeModel", name := "choose", desc := "()V" } : Jvm.MethodName)) ∈ jws := jws_10 (List.mem_of_getElem? (i := 230) rfl) rfl
theorem jw_2392 : (Jvm.Cond.instanceMethod ({ cls := "CoinNodeModel", name := "choose", desc := "()V" } : Jvm.MethodName)) ∈ jws := jws_10 (List.mem_of_getElem? (i := 232) rfl) rfl
theorem jw_2393 : (Jvm.Cond.code ({ cls := "CoinNodeModel", name := "choose", desc := "()V" } : Jvm.MethodName) prog_14_method_18_code (6 : Nat) (Option.none : Option Jvm.ClassFile.FieldType)) ∈ jws := jws_10 (List.mem_of_getElem? (i := 233) rfl) rfl
theorem jw_2394 : (Jvm.Cond.methodLink "CoinNodeModel" (343 : Nat) ({ cls := "CoinNodeModel$Tree", name := "tip", desc := "()I" } : Jvm.MethodName)) ∈ jws := jws_10 (List.mem_of_getElem? (i := 234) rfl) rfl
theorem jw_2395 : (Jvm.Cond.instanceMethod ({ cls := "CoinNodeModel$Tree", name := "tip", desc := "()I" } : Jvm.MethodName)) ∈ jws := jws_10 (List.mem_of_getElem? (i := 235) rfl) rfl
theorem jw_2396 : (Jvm.Cond.selects "CoinNodeModel$Tree" ({ cls := "CoinNodeModel$Tree", name := "tip", desc := "()I" } : Jvm.MethodName) ({ cls := "CoinNodeModel$Tree", name := "tip", desc := "()I" } : Jvm.MethodName)) ∈ jws := jws_10 (List.mem_of_getElem? (i := 236) rfl) rfl
theorem jw_2397 : (Jvm.Cond.code ({ cls := "CoinNodeModel$Tree", name := "tip", desc := "()I" } : Jvm.MethodName) prog_20_method_24_code (3 : Nat) (Option.some Jvm.ClassFile.FieldType.int)) ∈ jws := jws_10 (List.mem_of_getElem? (i := 237) rfl) rfl
theorem jw_2398 : (Jvm.Cond.methodLink "CoinNodeModel$Tree" (129 : Nat) ({ cls := "CoinNodeModel$Tree", name := "compare", desc := "(II)I" } : Jvm.MethodName)) ∈ jws := jws_10 (List.mem_of_getElem? (i := 238) rfl) rfl
theorem jw_2399 : (Jvm.Cond.instanceMethod ({ cls := "CoinNodeModel$Tree", name := "compare", desc := "(II)I" } : Jvm.MethodName)) ∈ jws := jws_10 (List.mem_of_getElem? (i := 239) rfl) rfl
theorem jw_2400 : (Jvm.Cond.selects "CoinNodeModel$Tree" ({ cls := "CoinNodeModel$Tree", name := "compare", desc := "(II)I" } : Jvm.MethodName) ({ cls := "CoinNodeModel$Tree", name := "compare", desc := "(II)I" } : Jvm.MethodName)) ∈ jws := jws_11 (List.mem_of_getElem? (i := 0) rfl) rfl
theorem jw_2401 : (Jvm.Cond.code ({ cls := "CoinNodeModel$Tree", name := "compare", desc := "(II)I" } : Jvm.MethodName) prog_20_method_23_code (7 : Nat) (Option.some Jvm.ClassFile.FieldType.int)) ∈ jws := jws_11 (List.mem_of_getElem? (i := 1) rfl) rfl
theorem jw_2402 : (Jvm.Cond.methodLink "CoinNodeModel" (345 : Nat) ({ cls := "CoinNodeModel$Tree", name := "fork", desc := "(II)I" } : Jvm.MethodName)) ∈ jws := jws_11 (List.mem_of_getElem? (i := 2) rfl) rfl
theorem jw_2403 : (Jvm.Cond.instanceMethod ({ cls := "CoinNodeModel$Tree", name := "fork", desc := "(II)I" } : Jvm.MethodName)) ∈ jws := jws_11 (List.mem_of_getElem? (i := 3) rfl) rfl
theorem jw_2404 : (Jvm.Cond.selects "CoinNodeModel$Tree" ({ cls := "CoinNodeModel$Tree", name := "fork", desc := "(II)I" } : Jvm.MethodName) ({ cls := "CoinNodeModel$Tree", name := "fork", desc := "(II)I" } : Jvm.MethodName)) ∈ jws := jws_11 (List.mem_of_getElem? (i := 4) rfl) rfl
theorem jw_2405 : (Jvm.Cond.code ({ cls := "CoinNodeModel$Tree", name := "fork", desc := "(II)I" } : Jvm.MethodName) prog_20_method_26_code (4 : Nat) (Option.some Jvm.ClassFile.FieldType.int)) ∈ jws := jws_11 (List.mem_of_getElem? (i := 5) rfl) rfl
theorem jw_2406 : (Jvm.Cond.methodLink "CoinNodeModel" (348 : Nat) ({ cls := "CoinNodeModel", name := "look", desc := "(I)I" } : Jvm.MethodName)) ∈ jws := jws_11 (List.mem_of_getElem? (i := 6) rfl) rfl
theorem jw_2408 : (Jvm.Cond.instanceMethod ({ cls := "CoinNodeModel", name := "look", desc := "(I)I" } : Jvm.MethodName)) ∈ jws := jws_11 (List.mem_of_getElem? (i := 8) rfl) rfl
theorem jw_2409 : (Jvm.Cond.code ({ cls := "CoinNodeModel", name := "look", desc := "(I)I" } : Jvm.MethodName) prog_14_method_14_code (3 : Nat) (Option.some Jvm.ClassFile.FieldType.int)) ∈ jws := jws_11 (List.mem_of_getElem? (i := 9) rfl) rfl
theorem jw_2410 : (Jvm.Cond.methodLink "CoinNodeModel" (309 : Nat) ({ cls := "CoinNodeModel", name := "parent", desc := "(I)I" } : Jvm.MethodName)) ∈ jws := jws_11 (List.mem_of_getElem? (i := 10) rfl) rfl
theorem jw_2412 : (Jvm.Cond.instanceMethod ({ cls := "CoinNodeModel", name := "parent", desc := "(I)I" } : Jvm.MethodName)) ∈ jws := jws_11 (List.mem_of_getElem? (i := 12) rfl) rfl
theorem jw_2413 : (Jvm.Cond.code ({ cls := "CoinNodeModel", name := "parent", desc := "(I)I" } : Jvm.MethodName) prog_14_method_10_code (2 : Nat) (Option.some Jvm.ClassFile.FieldType.int)) ∈ jws := jws_11 (List.mem_of_getElem? (i := 13) rfl) rfl
theorem jw_2414 : (Jvm.Cond.methodLink "CoinNodeModel" (315 : Nat) ({ cls := "CoinNodeModel", name := "keep", desc := "()V" } : Jvm.MethodName)) ∈ jws := jws_11 (List.mem_of_getElem? (i := 14) rfl) rfl
theorem jw_2416 : (Jvm.Cond.instanceMethod ({ cls := "CoinNodeModel", name := "keep", desc := "()V" } : Jvm.MethodName)) ∈ jws := jws_11 (List.mem_of_getElem? (i := 16) rfl) rfl
theorem jw_2417 : (Jvm.Cond.code ({ cls := "CoinNodeModel", name := "keep", desc := "()V" } : Jvm.MethodName) prog_14_method_15_code (2 : Nat) (Option.none : Option Jvm.ClassFile.FieldType)) ∈ jws := jws_11 (List.mem_of_getElem? (i := 17) rfl) rfl
theorem jw_2418 : (Jvm.Cond.methodLink "CoinNodeModel" (318 : Nat) ({ cls := "CoinNodeModel", name := "faultOf", desc := "(I)I" } : Jvm.MethodName)) ∈ jws := jws_11 (List.mem_of_getElem? (i := 18) rfl) rfl
theorem jw_2420 : (Jvm.Cond.instanceMethod ({ cls := "CoinNodeModel", name := "faultOf", desc := "(I)I" } : Jvm.MethodName)) ∈ jws := jws_11 (List.mem_of_getElem? (i := 20) rfl) rfl
theorem jw_2421 : (Jvm.Cond.code ({ cls := "CoinNodeModel", name := "faultOf", desc := "(I)I" } : Jvm.MethodName) prog_14_method_17_code (5 : Nat) (Option.some Jvm.ClassFile.FieldType.int)) ∈ jws := jws_11 (List.mem_of_getElem? (i := 21) rfl) rfl
theorem jw_2422 : (Jvm.Cond.methodLink "CoinNodeModel" (333 : Nat) ({ cls := "CoinNodeModel", name := "wrong", desc := "(I)I" } : Jvm.MethodName)) ∈ jws := jws_11 (List.mem_of_getElem? (i := 22) rfl) rfl
theorem jw_2424 : (Jvm.Cond.instanceMethod ({ cls := "CoinNodeModel", name := "wrong", desc := "(I)I" } : Jvm.MethodName)) ∈ jws := jws_11 (List.mem_of_getElem? (i := 24) rfl) rfl
theorem jw_2425 : (Jvm.Cond.code ({ cls := "CoinNodeModel", name := "wrong", desc := "(I)I" } : Jvm.MethodName) prog_14_method_13_code (6 : Nat) (Option.some Jvm.ClassFile.FieldType.int)) ∈ jws := jws_11 (List.mem_of_getElem? (i := 25) rfl) rfl
theorem jw_2426 : (Jvm.Cond.constantLong "CoinNodeModel" (336 : Nat) (5000000000 : Int64)) ∈ jws := jws_11 (List.mem_of_getElem? (i := 26) rfl) rfl
theorem jw_2427 : (Jvm.Cond.constantLong "CoinNodeModel" (338 : Nat) (2 : Int64)) ∈ jws := jws_11 (List.mem_of_getElem? (i := 27) rfl) rfl
theorem jw_2428 : (Jvm.Cond.methodLink "CoinNodeModel" (321 : Nat) ({ cls := "CoinNodeModel", name := "back", desc := "()V" } : Jvm.MethodName)) ∈ jws := jws_11 (List.mem_of_getElem? (i := 28) rfl) rfl
theorem jw_2430 : (Jvm.Cond.instanceMethod ({ cls := "CoinNodeModel", name := "back", desc := "()V" } : Jvm.MethodName)) ∈ jws := jws_11 (List.mem_of_getElem? (i := 30) rfl) rfl
theorem jw_2431 : (Jvm.Cond.code ({ cls := "CoinNodeModel", name := "back", desc := "()V" } : Jvm.MethodName) prog_14_method_16_code (2 : Nat) (Option.none : Option Jvm.ClassFile.FieldType)) ∈ jws := jws_11 (List.mem_of_getElem? (i := 31) rfl) rfl
theorem jw_2432 : (Jvm.Cond.methodLink "CoinNodeModel" (350 : Nat) ({ cls := "CoinNodeModel$Tree", name := "spoil", desc := "(I)I" } : Jvm.MethodName)) ∈ jws := jws_11 (List.mem_of_getElem? (i := 32) rfl) rfl
theorem jw_2433 : (Jvm.Cond.instanceMethod ({ cls := "CoinNodeModel$Tree", name := "spoil", desc := "(I)I" } : Jvm.MethodName)) ∈ jws := jws_11 (List.mem_of_getElem? (i := 33) rfl) rfl
theorem jw_2434 : (Jvm.Cond.selects "CoinNodeModel$Tree" ({ cls := "CoinNodeModel$Tree", name := "spoil", desc := "(I)I" } : Jvm.MethodName) ({ cls := "CoinNodeModel$Tree", name := "spoil", desc := "(I)I" } : Jvm.MethodName)) ∈ jws := jws_11 (List.mem_of_getElem? (i := 34) rfl) rfl
theorem jw_2435 : (Jvm.Cond.code ({ cls := "CoinNodeModel$Tree", name := "spoil", desc := "(I)I" } : Jvm.MethodName) prog_20_method_20_code (4 : Nat) (Option.some Jvm.ClassFile.FieldType.int)) ∈ jws := jws_11 (List.mem_of_getElem? (i := 35) rfl) rfl
theorem jw_2436 : (Jvm.Cond.methodLink "CoinNodeModel" (464 : Nat) ({ cls := "CoinNodeModel", name := "renew", desc := "(I)V" } : Jvm.MethodName)) ∈ jws := jws_11 (List.mem_of_getElem? (i := 36) rfl) rfl
theorem jw_2438 : (Jvm.Cond.instanceMethod ({ cls := "CoinNodeModel", name := "renew", desc := "(I)V" } : Jvm.MethodName)) ∈ jws := jws_11 (List.mem_of_getElem? (i := 38) rfl) rfl
theorem jw_2439 : (Jvm.Cond.code ({ cls := "CoinNodeModel", name := "renew", desc := "(I)V" } : Jvm.MethodName) prog_14_method_30_code (6 : Nat) (Option.none : Option Jvm.ClassFile.FieldType)) ∈ jws := jws_11 (List.mem_of_getElem? (i := 39) rfl) rfl
theorem jw_2440 : (Jvm.Cond.methodLink "CoinNodeModel" (494 : Nat) ({ cls := "CoinNodeModel", name := "askBehind", desc := "(I)V" } : Jvm.MethodName)) ∈ jws := jws_11 (List.mem_of_getElem? (i := 40) rfl) rfl
theorem jw_2442 : (Jvm.Cond.instanceMethod ({ cls := "CoinNodeModel", name := "askBehind", desc := "(I)V" } : Jvm.MethodName)) ∈ jws := jws_11 (List.mem_of_getElem? (i := 42) rfl) rfl
theorem jw_2443 : (Jvm.Cond.code ({ cls := "CoinNodeModel", name := "askBehind", desc := "(I)V" } : Jvm.MethodName) prog_14_method_44_code (4 : Nat) (Option.none : Option Jvm.ClassFile.FieldType)) ∈ jws := jws_11 (List.mem_of_getElem? (i := 43) rfl) rfl
theorem jw_2444 : (Jvm.Cond.methodLink "CoinNodeModel" (482 : Nat) ({ cls := "CoinNodeModel$Tree", name := "row", desc := "(II)I" } : Jvm.MethodName)) ∈ jws := jws_11 (List.mem_of_getElem? (i := 44) rfl) rfl
theorem jw_2445 : (Jvm.Cond.instanceMethod ({ cls := "CoinNodeModel$Tree", name := "row", desc := "(II)I" } : Jvm.MethodName)) ∈ jws := jws_11 (List.mem_of_getElem? (i := 45) rfl) rfl
theorem jw_2446 : (Jvm.Cond.selects "CoinNodeModel$Tree" ({ cls := "CoinNodeModel$Tree", name := "row", desc := "(II)I" } : Jvm.MethodName) ({ cls := "CoinNodeModel$Tree", name := "row", desc := "(II)I" } : Jvm.MethodName)) ∈ jws := jws_11 (List.mem_of_getElem? (i := 46) rfl) rfl
theorem jw_2447 : (Jvm.Cond.code ({ cls := "CoinNodeModel$Tree", name := "row", desc := "(II)I" } : Jvm.MethodName) prog_20_method_27_code (6 : Nat) (Option.some Jvm.ClassFile.FieldType.int)) ∈ jws := jws_11 (List.mem_of_getElem? (i := 47) rfl) rfl
theorem jw_2448 : (Jvm.Cond.methodLink "CoinNodeModel" (497 : Nat) ({ cls := "CoinNodeModel", name := "isList", desc := "(IIII)Z" } : Jvm.MethodName)) ∈ jws := jws_11 (List.mem_of_getElem? (i := 48) rfl) rfl
theorem jw_2450 : (Jvm.Cond.instanceMethod ({ cls := "CoinNodeModel", name := "isList", desc := "(IIII)Z" } : Jvm.MethodName)) ∈ jws := jws_11 (List.mem_of_getElem? (i := 50) rfl) rfl
theorem jw_2451 : (Jvm.Cond.code ({ cls := "CoinNodeModel", name := "isList", desc := "(IIII)Z" } : Jvm.MethodName) prog_14_method_48_code (7 : Nat) (Option.some Jvm.ClassFile.FieldType.boolean)) ∈ jws := jws_11 (List.mem_of_getElem? (i := 51) rfl) rfl
theorem jw_2452 : (Jvm.Cond.methodLink "CoinNodeModel" (501 : Nat) ({ cls := "CoinNodeModel", name := "heads", desc := "(II)V" } : Jvm.MethodName)) ∈ jws := jws_11 (List.mem_of_getElem? (i := 52) rfl) rfl
theorem jw_2454 : (Jvm.Cond.instanceMethod ({ cls := "CoinNodeModel", name := "heads", desc := "(II)V" } : Jvm.MethodName)) ∈ jws := jws_11 (List.mem_of_getElem? (i := 54) rfl) rfl
theorem jw_2455 : (Jvm.Cond.code ({ cls := "CoinNodeModel", name := "heads", desc := "(II)V" } : Jvm.MethodName) prog_14_method_45_code (6 : Nat) (Option.none : Option Jvm.ClassFile.FieldType)) ∈ jws := jws_11 (List.mem_of_getElem? (i := 55) rfl) rfl
theorem jw_2456 : (Jvm.Cond.methodLink "CoinNodeModel" (504 : Nat) ({ cls := "CoinNodeModel", name := "give", desc := "(II)V" } : Jvm.MethodName)) ∈ jws := jws_11 (List.mem_of_getElem? (i := 56) rfl) rfl
theorem jw_2458 : (Jvm.Cond.instanceMethod ({ cls := "CoinNodeModel", name := "give", desc := "(II)V" } : Jvm.MethodName)) ∈ jws := jws_11 (List.mem_of_getElem? (i := 58) rfl) rfl
theorem jw_2459 : (Jvm.Cond.code ({ cls := "CoinNodeModel", name := "give", desc := "(II)V" } : Jvm.MethodName) prog_14_method_46_code (8 : Nat) (Option.none : Option Jvm.ClassFile.FieldType)) ∈ jws := jws_11 (List.mem_of_getElem? (i := 59) rfl) rfl
theorem jw_2460 : (Jvm.Cond.methodLink "CoinNodeModel" (507 : Nat) ({ cls := "CoinNodeModel", name := "want", desc := "(II)V" } : Jvm.MethodName)) ∈ jws := jws_11 (List.mem_of_getElem? (i := 60) rfl) rfl
theorem jw_2462 : (Jvm.Cond.instanceMethod ({ cls := "CoinNodeModel", name := "want", desc := "(II)V" } : Jvm.MethodName)) ∈ jws := jws_11 (List.mem_of_getElem? (i := 62) rfl) rfl
theorem jw_2463 : (Jvm.Cond.code ({ cls := "CoinNodeModel", name := "want", desc := "(II)V" } : Jvm.MethodName) prog_14_method_47_code (6 : Nat) (Option.none : Option Jvm.ClassFile.FieldType)) ∈ jws := jws_11 (List.mem_of_getElem? (i := 63) rfl) rfl
theorem jw_2464 : (Jvm.Cond.methodLink "CoinNodeLaw" (27 : Nat) ({ cls := "CoinNodeModel", name := "fetch", desc := "(I)J" } : Jvm.MethodName)) ∈ jws := jws_11 (List.mem_of_getElem? (i := 64) rfl) rfl
theorem jw_2465 : (Jvm.Cond.instanceMethod ({ cls := "CoinNodeModel", name := "fetch", desc := "(I)J" } : Jvm.MethodName)) ∈ jws := jws_11 (List.mem_of_getElem? (i := 65) rfl) rfl
theorem jw_2466 : (Jvm.Cond.selects "CoinNodeModel" ({ cls := "CoinNodeModel", name := "fetch", desc := "(I)J" } : Jvm.MethodName) ({ cls := "CoinNodeModel", name := "fetch", desc := "(I)J" } : Jvm.MethodName)) ∈ jws := jws_11 (List.mem_of_getElem? (i := 66) rfl) rfl
theorem jw_2467 : (Jvm.Cond.code ({ cls := "CoinNodeModel", name := "fetch", desc := "(I)J" } : Jvm.MethodName) prog_14_method_54_code (6 : Nat) (Option.some Jvm.ClassFile.FieldType.long)) ∈ jws := jws_11 (List.mem_of_getElem? (i := 67) rfl) rfl
theorem jw_2468 : (Jvm.Cond.methodLink "CoinNodeLaw" (32 : Nat) ({ cls := "CoinNodeModel", name := "block", desc := "(II)J" } : Jvm.MethodName)) ∈ jws := jws_11 (List.mem_of_getElem? (i := 68) rfl) rfl
theorem jw_2469 : (Jvm.Cond.instanceMethod ({ cls := "CoinNodeModel", name := "block", desc := "(II)J" } : Jvm.MethodName)) ∈ jws := jws_11 (List.mem_of_getElem? (i := 69) rfl) rfl
theorem jw_2470 : (Jvm.Cond.selects "CoinNodeModel" ({ cls := "CoinNodeModel", name := "block", desc := "(II)J" } : Jvm.MethodName) ({ cls := "CoinNodeModel", name := "block", desc := "(II)J" } : Jvm.MethodName)) ∈ jws := jws_11 (List.mem_of_getElem? (i := 70) rfl) rfl
theorem jw_2471 : (Jvm.Cond.code ({ cls := "CoinNodeModel", name := "block", desc := "(II)J" } : Jvm.MethodName) prog_14_method_55_code (7 : Nat) (Option.some Jvm.ClassFile.FieldType.long)) ∈ jws := jws_11 (List.mem_of_getElem? (i := 71) rfl) rfl
theorem jw_2472 : (Jvm.Cond.methodLink "CoinNodeLaw" (39 : Nat) ({ cls := "CoinNodeModel", name := "key", desc := "(JJJJI)V" } : Jvm.MethodName)) ∈ jws := jws_11 (List.mem_of_getElem? (i := 72) rfl) rfl
theorem jw_2473 : (Jvm.Cond.instanceMethod ({ cls := "CoinNodeModel", name := "key", desc := "(JJJJI)V" } : Jvm.MethodName)) ∈ jws := jws_11 (List.mem_of_getElem? (i := 73) rfl) rfl
theorem jw_2474 : (Jvm.Cond.selects "CoinNodeModel" ({ cls := "CoinNodeModel", name := "key", desc := "(JJJJI)V" } : Jvm.MethodName) ({ cls := "CoinNodeModel", name := "key", desc := "(JJJJI)V" } : Jvm.MethodName)) ∈ jws := jws_11 (List.mem_of_getElem? (i := 74) rfl) rfl
theorem jw_2475 : (Jvm.Cond.code ({ cls := "CoinNodeModel", name := "key", desc := "(JJJJI)V" } : Jvm.MethodName) prog_14_method_56_code (13 : Nat) (Option.none : Option Jvm.ClassFile.FieldType)) ∈ jws := jws_11 (List.mem_of_getElem? (i := 75) rfl) rfl
theorem jw_2476 : (Jvm.Cond.methodLink "CoinNodeLaw" (44 : Nat) ({ cls := "CoinNodeModel", name := "value", desc := "()J" } : Jvm.MethodName)) ∈ jws := jws_11 (List.mem_of_getElem? (i := 76) rfl) rfl
theorem jw_2477 : (Jvm.Cond.instanceMethod ({ cls := "CoinNodeModel", name := "value", desc := "()J" } : Jvm.MethodName)) ∈ jws := jws_11 (List.mem_of_getElem? (i := 77) rfl) rfl
theorem jw_2478 : (Jvm.Cond.selects "CoinNodeModel" ({ cls := "CoinNodeModel", name := "value", desc := "()J" } : Jvm.MethodName) ({ cls := "CoinNodeModel", name := "value", desc := "()J" } : Jvm.MethodName)) ∈ jws := jws_11 (List.mem_of_getElem? (i := 78) rfl) rfl
theorem jw_2479 : (Jvm.Cond.code ({ cls := "CoinNodeModel", name := "value", desc := "()J" } : Jvm.MethodName) prog_14_method_57_code (2 : Nat) (Option.some Jvm.ClassFile.FieldType.long)) ∈ jws := jws_11 (List.mem_of_getElem? (i := 79) rfl) rfl
theorem jw_2480 : (Jvm.Cond.methodLink "CoinNodeLaw" (48 : Nat) ({ cls := "CoinNodeModel", name := "total", desc := "()J" } : Jvm.MethodName)) ∈ jws := jws_11 (List.mem_of_getElem? (i := 80) rfl) rfl
theorem jw_2481 : (Jvm.Cond.instanceMethod ({ cls := "CoinNodeModel", name := "total", desc := "()J" } : Jvm.MethodName)) ∈ jws := jws_11 (List.mem_of_getElem? (i := 81) rfl) rfl
theorem jw_2482 : (Jvm.Cond.selects "CoinNodeModel" ({ cls := "CoinNodeModel", name := "total", desc := "()J" } : Jvm.MethodName) ({ cls := "CoinNodeModel", name := "total", desc := "()J" } : Jvm.MethodName)) ∈ jws := jws_11 (List.mem_of_getElem? (i := 82) rfl) rfl
theorem jw_2483 : (Jvm.Cond.code ({ cls := "CoinNodeModel", name := "total", desc := "()J" } : Jvm.MethodName) prog_14_method_58_code (4 : Nat) (Option.some Jvm.ClassFile.FieldType.long)) ∈ jws := jws_11 (List.mem_of_getElem? (i := 83) rfl) rfl
theorem jw_2484 : (Jvm.Cond.methodLink "CoinNodeLaw" (53 : Nat) ({ cls := "CoinNodeModel", name := "count", desc := "(I)I" } : Jvm.MethodName)) ∈ jws := jws_11 (List.mem_of_getElem? (i := 84) rfl) rfl
theorem jw_2485 : (Jvm.Cond.instanceMethod ({ cls := "CoinNodeModel", name := "count", desc := "(I)I" } : Jvm.MethodName)) ∈ jws := jws_11 (List.mem_of_getElem? (i := 85) rfl) rfl
theorem jw_2486 : (Jvm.Cond.selects "CoinNodeModel" ({ cls := "CoinNodeModel", name := "count", desc := "(I)I" } : Jvm.MethodName) ({ cls := "CoinNodeModel", name := "count", desc := "(I)I" } : Jvm.MethodName)) ∈ jws := jws_11 (List.mem_of_getElem? (i := 86) rfl) rfl
theorem jw_2487 : (Jvm.Cond.code ({ cls := "CoinNodeModel", name := "count", desc := "(I)I" } : Jvm.MethodName) prog_14_method_59_code (4 : Nat) (Option.some Jvm.ClassFile.FieldType.int)) ∈ jws := jws_11 (List.mem_of_getElem? (i := 87) rfl) rfl
theorem jw_2488 : (Jvm.Cond.methodLink "CoinNodeLaw" (57 : Nat) ({ cls := "CoinNodeModel", name := "fees", desc := "()J" } : Jvm.MethodName)) ∈ jws := jws_11 (List.mem_of_getElem? (i := 88) rfl) rfl
theorem jw_2489 : (Jvm.Cond.instanceMethod ({ cls := "CoinNodeModel", name := "fees", desc := "()J" } : Jvm.MethodName)) ∈ jws := jws_11 (List.mem_of_getElem? (i := 89) rfl) rfl
theorem jw_2490 : (Jvm.Cond.selects "CoinNodeModel" ({ cls := "CoinNodeModel", name := "fees", desc := "()J" } : Jvm.MethodName) ({ cls := "CoinNodeModel", name := "fees", desc := "()J" } : Jvm.MethodName)) ∈ jws := jws_11 (List.mem_of_getElem? (i := 90) rfl) rfl
theorem jw_2491 : (Jvm.Cond.code ({ cls := "CoinNodeModel", name := "fees", desc := "()J" } : Jvm.MethodName) prog_14_method_60_code (4 : Nat) (Option.some Jvm.ClassFile.FieldType.long)) ∈ jws := jws_11 (List.mem_of_getElem? (i := 91) rfl) rfl
theorem jw_2492 : (Jvm.Cond.constantLong "CoinNodeLaw" (33 : Nat) (4294967295 : Int64)) ∈ jws := jws_11 (List.mem_of_getElem? (i := 92) rfl) rfl
def jnF : List (String × Nat × String × String × String × String) := [("CoinNodeModel", 265, "CoinNodeModel$Signing", "tx", "LCoinNodeModel$Tx;", "CoinNodeModel"), ("CoinNodeModel", 266, "CoinNodeModel$Signing", "input", "I", "CoinNodeModel"), ("CoinNodeModel", 269, "CoinNodeModel$Signing", "lockFrom", "[B", "CoinNodeModel"), ("CoinNodeModel", 272, "CoinNodeModel$Signing", "lockAt", "I", "CoinNodeModel"), ("CoinNodeModel", 275, "CoinNodeModel$Signing", "lockSize", "I", "CoinNodeModel"), ("CoinNodeModel", 330, "CoinNodeModel$Scripts", "left", "I", "CoinNodeModel"), ("CoinNodeModel$Signing", 35, "CoinNodeModel$Tx", "from", "[B", "CoinNodeModel"), ("CoinNodeModel", 197, "CoinNodeModel$Tx", "from", "[B", "CoinNodeModel"), ("CoinNodeModel$Signing", 40, "CoinNodeModel$Tx", "at", "I", "CoinNodeModel"), ("CoinNodeModel", 225, "CoinNodeModel$Tx", "at", "I", "CoinNodeModel"), ("CoinNodeModel$Signing", 86, "CoinNodeModel$Tx", "place", "I", "CoinNodeModel"), ("CoinNodeModel$Signing", 47, "CoinNodeModel$Tx", "inputs", "I", "CoinNodeModel"), ("CoinNodeModel", 194, "CoinNodeModel$Tx", "inputs", "I", "CoinNodeModel"), ("CoinNodeModel$Signing", 73, "CoinNodeModel$Tx", "outputs", "I", "CoinNodeModel"), ("CoinNodeModel", 213, "CoinNodeModel$Tx", "outputs", "I", "CoinNodeModel"), ("CoinNodeModel$Signing", 57, "CoinNodeModel$Tx", "names", "[I", "CoinNodeModel"), ("CoinNodeModel", 200, "CoinNodeModel$Tx", "names", "[I", "CoinNodeModel"), ("CoinNodeModel", 202, "CoinNodeModel$Tx", "indexes", "[J", "CoinNodeModel"), ("CoinNodeModel", 281, "CoinNodeModel$Tx", "scripts", "[I", "CoinNodeModel"), ("CoinNodeModel", 283, "CoinNodeModel$Tx", "scriptSizes", "[I", "CoinNodeModel"), ("CoinNodeModel$Signing", 70, "CoinNodeModel$Tx", "sequences", "[I", "CoinNodeModel"), ("CoinNodeModel$Signing", 76, "CoinNodeModel$Tx", "values", "[J", "CoinNodeModel"), ("CoinNodeModel", 216, "CoinNodeModel$Tx", "values", "[J", "CoinNodeModel"), ("CoinNodeModel$Signing", 83, "CoinNodeModel$Tx", "locks", "[I", "CoinNodeModel"), ("CoinNodeModel", 219, "CoinNodeModel$Tx", "locks", "[I", "CoinNodeModel"), ("CoinNodeModel$Signing", 80, "CoinNodeModel$Tx", "lockSizes", "[I", "CoinNodeModel"), ("CoinNodeModel", 222, "CoinNodeModel$Tx", "lockSizes", "[I", "CoinNodeModel")]
def jnM : List (String × Nat × MethodName × String) := [("CoinNode", 33, ⟨"CoinNode$Hash", "<init>", "()V"⟩, "CoinNode"), ("CoinNode$Signature", 58, ⟨"CoinNode$Point", "<init>", "()V"⟩, "CoinNode"), ("CoinNode$Machine", 13, ⟨"CoinNode$Stack", "<init>", "()V"⟩, "CoinNode"), ("CoinNode", 49, ⟨"CoinNode$Coins", "<init>", "()V"⟩, "CoinNode"), ("CoinNodeModel", 9, ⟨"CoinNodeModel$Hashes", "<init>", "()V"⟩, "CoinNodeModel"), ("CoinNodeModel", 46, ⟨"CoinNodeModel$Tx", "<init>", "()V"⟩, "CoinNodeModel"), ("CoinNodeModel$Tx", 91, ⟨"CoinNodeModel", "like", "([BI[BII)Z"⟩, "CoinNodeModel")]
def jnA : List FieldType := [(Jvm.ClassFile.FieldType.array Jvm.ClassFile.FieldType.byte), (Jvm.ClassFile.FieldType.array Jvm.ClassFile.FieldType.int), (Jvm.ClassFile.FieldType.array Jvm.ClassFile.FieldType.long), (Jvm.ClassFile.FieldType.object "CoinNode$Point"), (Jvm.ClassFile.FieldType.object "CoinNode$Tx"), (Jvm.ClassFile.FieldType.object "CoinNode$Block")]
