/-! The static arrays: what the Statement gives of them. -/
def jNar : List Cond := flatC (Jvm.Cond.and given_1 narrow_1)
theorem jNar_in {k n : Nat} {l : List Cond} (h : (jNar.drop k).take n = l) {w : Cond} (hw : w ∈ l) : w ∈ jNar := List.mem_of_mem_drop (List.mem_of_mem_take (h ▸ hw))
def jsw (C n : String) (l : List Int32) : List Cond := .isRef (.static C n "[I") :: .arrayOf (.static C n "[I") .int :: .eq (.length (.static C n "[I")) (.int (Int32.ofNat l.length)) :: (List.range l.length).map (fun j => .eq (.elem (.static C n "[I") (.int (Int32.ofNat j))) (.int (l.getD j 0)))
theorem jsw_T {args : Array Value} {s : State} {C n : String} {l : List Int32} (hl : l.length < 2 ^ 31) (h : ∀ w ∈ jsw C n l, w.before args s = true) : ∃ t : Nat, (Term.static C n "[I").eval args s none [] s = some (.ref t) ∧ va_T .int t l.length (fun j => .int (l.getD j 0)) (fun q => s.heap.size ≤ q) s s.heap := by
  refine va_Tof hl (h _ ?_) (va_eqt (h _ ?_)) (fun j hj => va_eqt (h _ ?_)) (fun a ha => Nat.not_le.mpr ha)
  · exact List.mem_cons_of_mem _ List.mem_cons_self
  · exact List.mem_cons_of_mem _ (List.mem_cons_of_mem _ List.mem_cons_self)
  · exact List.mem_cons_of_mem _ (List.mem_cons_of_mem _ (List.mem_cons_of_mem _ (List.mem_map.mpr ⟨j, List.mem_range.mpr hj, rfl⟩)))
def jval_1 : List Int32 := [1779033703, -1150833019, 1013904242, -1521486534, 1359893119, -1694144372, 528734635, 1541459225]
theorem jsw_1 : (jNar.drop 4).take 11 = jsw "CoinNode$Hash" "START" jval_1 := by decide +kernel
theorem jlw_1 : Cond.laysStatic "CoinNode$Hash" "START" "[I" ∈ tables_1 := jt_2 (List.mem_of_getElem? (i := 138) rfl)
theorem jiw_1 : Cond.initialized "CoinNode$Hash" ∈ tables_1 := jt_1 (List.mem_of_getElem? (i := 2) rfl)
def jval_2 : List Int32 := [1116352408, 1899447441, -1245643825, -373957723, 961987163, 1508970993, -1841331548, -1424204075, -670586216, 310598401, 607225278, 1426881987, 1925078388, -2132889090, -1680079193, -1046744716, -459576895, -272742522, 264347078, 604807628, 770255983, 1249150122, 1555081692, 1996064986, -1740746414, -1473132947, -1341970488, -1084653625, -958395405, -710438585, 113926993, 338241895, 666307205, 773529912, 1294757372, 1396182291, 1695183700, 1986661051, -2117940946, -1838011259, -1564481375, -1474664885, -1035236496, -949202525, -778901479, -694614492, -200395387, 275423344, 430227734, 506948616, 659060556, 883997877, 958139571, 1322822218, 1537002063, 1747873779, 1955562222, 2024104815, -2067236844, -1933114872, -1866530822, -1538233109, -1090935817, -965641998]
theorem jsw_2 : (jNar.drop 15).take 67 = jsw "CoinNode$Hash" "ROUNDS" jval_2 := by decide +kernel
theorem jlw_2 : Cond.laysStatic "CoinNode$Hash" "ROUNDS" "[I" ∈ tables_1 := jt_2 (List.mem_of_getElem? (i := 140) rfl)
theorem jiw_2 : Cond.initialized "CoinNode$Hash" ∈ tables_1 := jt_1 (List.mem_of_getElem? (i := 2) rfl)
def jval_3 : List Int32 := [0, 1, 2, 3, 4, 5, 6, 7, 8, 9, 10, 11, 12, 13, 14, 15, 7, 4, 13, 1, 10, 6, 15, 3, 12, 0, 9, 5, 2, 14, 11, 8, 3, 10, 14, 4, 9, 15, 8, 1, 2, 7, 0, 6, 13, 11, 5, 12, 1, 9, 11, 10, 0, 8, 12, 4, 13, 3, 7, 15, 14, 5, 6, 2, 4, 0, 5, 9, 7, 12, 2, 10, 14, 1, 3, 8, 11, 6, 15, 13, 5, 14, 7, 0, 9, 2, 11, 4, 13, 6, 15, 8, 1, 10, 3, 12, 6, 11, 3, 7, 0, 13, 5, 10, 14, 15, 8, 12, 4, 9, 1, 2, 15, 5, 1, 3, 7, 14, 6, 9, 11, 8, 12, 2, 10, 0, 4, 13, 8, 6, 4, 1, 3, 11, 15, 0, 5, 12, 2, 13, 9, 7, 10, 14, 12, 15, 10, 4, 1, 5, 8, 7, 6, 2, 13, 14, 0, 3, 9, 11]
theorem jsw_3 : (jNar.drop 164).take 163 = jsw "CoinNode$Hash" "WORD" jval_3 := by decide +kernel
theorem jlw_3 : Cond.laysStatic "CoinNode$Hash" "WORD" "[I" ∈ tables_1 := jt_5 (List.mem_of_getElem? (i := 31) rfl)
theorem jiw_3 : Cond.initialized "CoinNode$Hash" ∈ tables_1 := jt_1 (List.mem_of_getElem? (i := 2) rfl)
def jval_4 : List Int32 := [11, 14, 15, 12, 5, 8, 7, 9, 11, 13, 14, 15, 6, 7, 9, 8, 7, 6, 8, 13, 11, 9, 7, 15, 7, 12, 15, 9, 11, 7, 13, 12, 11, 13, 6, 7, 14, 9, 13, 15, 14, 8, 13, 6, 5, 12, 7, 5, 11, 12, 14, 15, 14, 15, 9, 8, 9, 14, 5, 6, 8, 6, 5, 12, 9, 15, 5, 11, 6, 8, 13, 12, 5, 12, 13, 14, 11, 8, 5, 6, 8, 9, 9, 11, 13, 15, 15, 5, 7, 7, 8, 11, 14, 14, 12, 6, 9, 13, 15, 7, 12, 8, 9, 11, 7, 7, 12, 7, 6, 15, 13, 11, 9, 7, 15, 11, 8, 6, 6, 14, 12, 13, 5, 14, 13, 13, 7, 5, 15, 5, 8, 11, 14, 14, 6, 14, 6, 9, 12, 9, 12, 5, 15, 8, 8, 5, 12, 9, 12, 5, 14, 6, 8, 13, 6, 5, 15, 13, 11, 11]
theorem jsw_4 : (jNar.drop 340).take 163 = jsw "CoinNode$Hash" "TURN" jval_4 := by decide +kernel
theorem jlw_4 : Cond.laysStatic "CoinNode$Hash" "TURN" "[I" ∈ tables_1 := jt_5 (List.mem_of_getElem? (i := 35) rfl)
theorem jiw_4 : Cond.initialized "CoinNode$Hash" ∈ tables_1 := jt_1 (List.mem_of_getElem? (i := 2) rfl)
def jval_5 : List Int32 := [0, 1518500249, 1859775393, -1894007588, -1454113458, 1352829926, 1548603684, 1836072691, 2053994217, 0]
theorem jsw_5 : (jNar.drop 327).take 13 = jsw "CoinNode$Hash" "ADDED" jval_5 := by decide +kernel
theorem jlw_5 : Cond.laysStatic "CoinNode$Hash" "ADDED" "[I" ∈ tables_1 := jt_5 (List.mem_of_getElem? (i := 33) rfl)
theorem jiw_5 : Cond.initialized "CoinNode$Hash" ∈ tables_1 := jt_1 (List.mem_of_getElem? (i := 2) rfl)
def jval_6 : List Int32 := [109, 2, 0, 110, 2, 4, 1, 2, 1, 2, 111, 3, 6, 1, 2, 3, 1, 2, 3, 112, 4, 6, 1, 2, 3, 4, 1, 2, 113, 6, 6, 3, 4, 5, 6, 1, 2, 114, 4, 4, 3, 4, 1, 2, 117, 1, 0, 118, 1, 2, 1, 1, 119, 2, 1, 2, 120, 2, 3, 1, 2, 1, 123, 3, 3, 2, 3, 1, 124, 2, 2, 2, 1, 125, 2, 3, 2, 1, 2]
theorem jsw_6 : (jNar.drop 82).take 82 = jsw "CoinNode$Machine" "MOVES" jval_6 := by decide +kernel
theorem jlw_6 : Cond.laysStatic "CoinNode$Machine" "MOVES" "[I" ∈ tables_1 := jt_4 (List.mem_of_getElem? (i := 229) rfl)
theorem jiw_6 : Cond.initialized "CoinNode$Machine" ∈ tables_1 := jt_1 (List.mem_of_getElem? (i := 6) rfl)
def jval_7 : List Int32 := [-977, -2, -1, -1, -1, -1, -1, -1]
theorem jsw_7 : (jNar.drop 514).take 11 = jsw "CoinNode$Signature" "PRIME" jval_7 := by decide +kernel
theorem jlw_7 : Cond.laysStatic "CoinNode$Signature" "PRIME" "[I" ∈ tables_1 := jt_5 (List.mem_of_getElem? (i := 93) rfl)
theorem jiw_7 : Cond.initialized "CoinNode$Signature" ∈ tables_1 := jt_1 (List.mem_of_getElem? (i := 4) rfl)
def jval_8 : List Int32 := [-801750719, -1076732276, -1354194885, -1162945306, -2, -1, -1, -1]
theorem jsw_8 : (jNar.drop 503).take 11 = jsw "CoinNode$Signature" "ORDER" jval_8 := by decide +kernel
theorem jlw_8 : Cond.laysStatic "CoinNode$Signature" "ORDER" "[I" ∈ tables_1 := jt_5 (List.mem_of_getElem? (i := 70) rfl)
theorem jiw_8 : Cond.initialized "CoinNode$Signature" ∈ tables_1 := jt_1 (List.mem_of_getElem? (i := 4) rfl)
def jval_9 : List Int32 := [801750719, 1076732275, 1354194884, 1162945305, 1]
theorem jsw_9 : (jNar.drop 602).take 8 = jsw "CoinNode$Signature" "OVER" jval_9 := by decide +kernel
theorem jlw_9 : Cond.laysStatic "CoinNode$Signature" "OVER" "[I" ∈ tables_1 := jt_5 (List.mem_of_getElem? (i := 184) rfl)
theorem jiw_9 : Cond.initialized "CoinNode$Signature" ∈ tables_1 := jt_1 (List.mem_of_getElem? (i := 4) rfl)
def jval_10 : List Int32 := [385357720, 1509065051, 768485593, 43777243, -830010617, 1436574357, -102974548, 2042521214]
theorem jsw_10 : (jNar.drop 580).take 11 = jsw "CoinNode$Signature" "BASE_X" jval_10 := by decide +kernel
theorem jlw_10 : Cond.laysStatic "CoinNode$Signature" "BASE_X" "[I" ∈ tables_1 := jt_5 (List.mem_of_getElem? (i := 168) rfl)
theorem jiw_10 : Cond.initialized "CoinNode$Signature" ∈ tables_1 := jt_1 (List.mem_of_getElem? (i := 4) rfl)
def jval_11 : List Int32 := [-82783048, -1673015153, -1501211623, -48778168, 235997352, 1571093500, 648266853, 1211816567]
theorem jsw_11 : (jNar.drop 591).take 11 = jsw "CoinNode$Signature" "BASE_Y" jval_11 := by decide +kernel
theorem jlw_11 : Cond.laysStatic "CoinNode$Signature" "BASE_Y" "[I" ∈ tables_1 := jt_5 (List.mem_of_getElem? (i := 170) rfl)
theorem jiw_11 : Cond.initialized "CoinNode$Signature" ∈ tables_1 := jt_1 (List.mem_of_getElem? (i := 4) rfl)
def jval_12 : List Int32 := [0, 1, 0, 1, 1, 1, 0, 2, 2, 3, 2, 3, 3, 3, 2, 4, 4, 2, 1, 5, 5, 11, 5, 6, 6, 22, 6, 7, 7, 44, 7, 8, 8, 88, 8, 9, 9, 44, 7, 10, 10, 3, 2, 11, 11, 23, 6, 12, 12, 6, 1, 13]
theorem jsw_12 : (jNar.drop 525).take 55 = jsw "CoinNode$Point" "ROOT" jval_12 := by decide +kernel
theorem jlw_12 : Cond.laysStatic "CoinNode$Point" "ROOT" "[I" ∈ tables_1 := jt_5 (List.mem_of_getElem? (i := 108) rfl)
theorem jiw_12 : Cond.initialized "CoinNode$Point" ∈ tables_1 := jt_1 (List.mem_of_getElem? (i := 5) rfl)
def jvals : List (List Int32) := [[], jval_1, jval_2, jval_3, jval_4, jval_5, jval_6, jval_7, jval_8, jval_9, jval_10, jval_11, jval_12]
