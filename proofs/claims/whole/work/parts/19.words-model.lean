theorem gdV {W : List Cond} {a code : Cond} (hg : ∀ w ∈ W, (w.onTables && w.keeps) = true ∨ ∃ ty, w = .arrayClass ty) {own C : String} {idx : Nat} {y : MethodName} (h1 : Cond.methodLink own idx y ∈ W) (h2 : Cond.instanceMethod y ∈ W) (h3 : Cond.selects C y y ∈ W) (h4 : Cond.initialized C ∈ W) (h5 : code ∈ W) : GoodIn (a :: W) (wsV own idx C y (code :: W)) := by
  have k : ∀ w ∈ W, w ∈ a :: W ∧ ((w.onTables && w.keeps) = true ∨ ∃ ty, w = .arrayClass ty) := fun w h => ⟨List.mem_cons_of_mem _ h, hg w h⟩
  intro w hw
  unfold wsV at hw
  rcases List.mem_append.mp hw with hw | hw
  · simp only [List.mem_cons, List.not_mem_nil, or_false] at hw
    rcases hw with rfl | rfl | rfl | rfl
    · exact k _ h1
    · exact k _ h2
    · exact k _ h3
    · exact k _ h4
  · rcases List.mem_cons.mp hw with rfl | hw
    · exact k _ h5
    · exact k _ hw
theorem gdS {W : List Cond} {a code : Cond} (hg : ∀ w ∈ W, (w.onTables && w.keeps) = true ∨ ∃ ty, w = .arrayClass ty) {own : String} {idx : Nat} {y : MethodName} (h1 : Cond.methodLink own idx y ∈ W) (h2 : Cond.static y ∈ W) (h4 : Cond.initialized y.cls ∈ W) (h5 : code ∈ W) : GoodIn (a :: W) (va_wsS own idx y (code :: W)) := by
  have k : ∀ w ∈ W, w ∈ a :: W ∧ ((w.onTables && w.keeps) = true ∨ ∃ ty, w = .arrayClass ty) := fun w h => ⟨List.mem_cons_of_mem _ h, hg w h⟩
  intro w hw
  unfold va_wsS at hw
  rcases List.mem_append.mp hw with hw | hw
  · simp only [List.mem_cons, List.not_mem_nil, or_false] at hw
    rcases hw with rfl | rfl | rfl
    · exact k _ h1
    · exact k _ h2
    · exact k _ h4
  · rcases List.mem_cons.mp hw with rfl | hw
    · exact k _ h5
    · exact k _ hw
theorem gdN {W : List Cond} {a code : Cond} (hg : ∀ w ∈ W, (w.onTables && w.keeps) = true ∨ ∃ ty, w = .arrayClass ty) (h5 : code ∈ W) : GoodIn (a :: W) (code :: W) := by
  intro w hw
  rcases List.mem_cons.mp hw with rfl | hw
  · exact ⟨List.mem_cons_of_mem _ h5, hg _ h5⟩
  · exact ⟨List.mem_cons_of_mem _ hw, hg _ hw⟩
def WM_0 : List Cond := [Cond.code yX9_init cX9_init 1 none, Cond.code yX9_thrown cX9_thrown 1 (some .int), Cond.fieldLink RX9 91 "DistanceSolverModel" "thrown" "I", Cond.code yX9_isIn cX9_isIn 6 (some .boolean), Cond.code yX9_may cX9_may 4 (some .boolean), Cond.code yX9_isVariable cX9_isVariable 2 (some .boolean), Cond.constantLong RX9 94 (15), Cond.methodLink RX9 96 yX9_isIn, Cond.static yX9_isIn, Cond.initialized RX9, Cond.code yX9_constraintsAlone cX9_constraintsAlone 2 none, Cond.fieldLink RX9 19 "DistanceSolverModel" "isThere" "[Z", Cond.fieldLink RX9 100 "DistanceSolverModel" "many" "I", Cond.code yX9_findLeast cX9_findLeast 7 none, Cond.fieldLink RX9 29 "DistanceSolverModel" "least" "[J", Cond.constantLong RX9 103 (1152921504606846976), Cond.fieldLink RX9 13 "DistanceSolverModel" "cY" "[I", Cond.fieldLink RX9 16 "DistanceSolverModel" "cC" "[I", Cond.fieldLink RX9 7 "DistanceSolverModel" "cX" "[I", Cond.code yX9_findRow cX9_findRow 11 (some .boolean), Cond.fieldLink RX9 109 "DistanceSolverModel" "rowSize" "I", Cond.fieldLink RX9 33 "DistanceSolverModel" "row" "[I", Cond.methodLink RX9 105 yX9_findLeast, Cond.instanceMethod yX9_findLeast, Cond.selects RX9 yX9_findLeast yX9_findLeast, Cond.constantLong RX9 116 (-1000000), Cond.constantLong RX9 118 (1000000), Cond.constantLong RX9 127 (-1), Cond.fieldLink RX9 87 "DistanceSolverModel" "coreSize" "I", Cond.fieldLink RX9 26 "DistanceSolverModel" "coreRow" "[I", Cond.methodLink RX9 112 yX9_isVariable, Cond.instanceMethod yX9_isVariable, Cond.selects RX9 yX9_isVariable yX9_isVariable, Cond.methodLink RX9 120 yX9_may, Cond.instanceMethod yX9_may, Cond.selects RX9 yX9_may yX9_may, Cond.methodLink RX9 124 yX9_constraintsAlone, Cond.instanceMethod yX9_constraintsAlone, Cond.selects RX9 yX9_constraintsAlone yX9_constraintsAlone, Cond.methodLink RX9 129 yX9_findRow]
def WM_1 : List Cond := [Cond.instanceMethod yX9_findRow, Cond.selects RX9 yX9_findRow yX9_findRow, Cond.code yX9_add cX9_add 5 (some .int), Cond.code yX9_push cX9_push 1 (some .int), Cond.fieldLink RX9 133 "DistanceSolverModel" "levels" "I", Cond.fieldLink RX9 23 "DistanceSolverModel" "levelAt" "[I", Cond.code yX9_pop cX9_pop 2 (some .int), Cond.code yX9_core cX9_core 2 (some .int), Cond.code yX9_findValues cX9_findValues 4 (some .boolean), Cond.fieldLink RX9 36 "DistanceSolverModel" "values" "[J", Cond.methodLink RX9 136 yX9_findValues, Cond.instanceMethod yX9_findValues, Cond.selects RX9 yX9_findValues yX9_findValues, Cond.code yX9_value cX9_value 2 (some .long), Cond.code yX9_boundOf cX9_boundOf 6 (some .long), Cond.constantLong RX9 144 (-9223372036854775808), Cond.methodLink RX9 140 yX9_boundOf, Cond.instanceMethod yX9_boundOf, Cond.selects RX9 yX9_boundOf yX9_boundOf, Cond.code yX9_bound cX9_bound 5 (some .long), Cond.code yX9_why cX9_why 6 (some .int), Cond.code yX9_isIdle cX9_isIdle 2 (some .boolean), Cond.constantLong RX9 146 (4), Cond.methodLink RX9 148 yX9_isIdle, Cond.instanceMethod yX9_isIdle, Cond.selects RX9 yX9_isIdle yX9_isIdle, Cond.code yX9_constraint cX9_constraint 5 (some .int), Cond.code yX9_feed cX9_feed 5 (some .int), Cond.constantLong RX9 151 (8), Cond.fieldLink RX9 153 "DistanceSolverModel" "tapeSize" "I", Cond.fieldLink RX9 39 "DistanceSolverModel" "tape" "[I", Cond.constantLong RX9 156 (255), Cond.code yX9_fail cX9_fail 2 none, Cond.fieldLink RX9 158 "DistanceSolverModel" "faultIs" "I", Cond.fieldLink RX9 161 "DistanceSolverModel" "tokenAt" "I", Cond.fieldLink RX9 164 "DistanceSolverModel" "faultAt" "I", Cond.code yX9_byteAt cX9_byteAt 2 (some .int), Cond.code yX9_isFigure cX9_isFigure 1 (some .boolean), Cond.code yX9_signToken cX9_signToken 3 none, Cond.fieldLink RX9 180 "DistanceSolverModel" "token" "I"]
def WM_2 : List Cond := [Cond.fieldLink RX9 183 "DistanceSolverModel" "tokenIs" "I", Cond.fieldLink RX9 173 "DistanceSolverModel" "tokenEnd" "I", Cond.methodLink RX9 176 yX9_byteAt, Cond.instanceMethod yX9_byteAt, Cond.selects RX9 yX9_byteAt yX9_byteAt, Cond.methodLink RX9 170 yX9_fail, Cond.instanceMethod yX9_fail, Cond.selects RX9 yX9_fail yX9_fail, Cond.fieldLink RX9 167 "DistanceSolverModel" "tokens" "I", Cond.constant RX9 189 (1000000), Cond.methodLink RX9 186 yX9_isFigure, Cond.static yX9_isFigure, Cond.methodLink RX9 190 yX9_signToken, Cond.instanceMethod yX9_signToken, Cond.selects RX9 yX9_signToken yX9_signToken, Cond.code yX9_next cX9_next 3 none, Cond.code yX9_sign cX9_sign 2 (some .boolean), Cond.code yX9_put cX9_put 2 none, Cond.fieldLink RX9 63 "DistanceSolverModel" "newStep" "[I", Cond.fieldLink RX9 193 "DistanceSolverModel" "newSteps" "I", Cond.code yX9_opened cX9_opened 1 none, Cond.fieldLink RX9 196 "DistanceSolverModel" "opens" "I", Cond.code yX9_await1 cX9_await1 2 none, Cond.fieldLink RX9 66 "DistanceSolverModel" "waits" "[I", Cond.fieldLink RX9 199 "DistanceSolverModel" "waiting" "I", Cond.code yX9_atMost cX9_atMost 9 none, Cond.fieldLink RX9 205 "DistanceSolverModel" "newAtoms" "I", Cond.fieldLink RX9 54 "DistanceSolverModel" "newX" "[I", Cond.fieldLink RX9 57 "DistanceSolverModel" "newY" "[I", Cond.fieldLink RX9 60 "DistanceSolverModel" "newC" "[I", Cond.methodLink RX9 202 yX9_put, Cond.instanceMethod yX9_put, Cond.selects RX9 yX9_put yX9_put, Cond.code yX9_comparison cX9_comparison 6 none, Cond.methodLink RX9 208 yX9_atMost, Cond.instanceMethod yX9_atMost, Cond.selects RX9 yX9_atMost yX9_atMost, Cond.methodLink RX9 212 yX9_next, Cond.instanceMethod yX9_next, Cond.selects RX9 yX9_next yX9_next]
def WM_3 : List Cond := [Cond.methodLink RX9 215 yX9_sign, Cond.instanceMethod yX9_sign, Cond.selects RX9 yX9_sign yX9_sign, Cond.methodLink RX9 218 yX9_comparison, Cond.instanceMethod yX9_comparison, Cond.selects RX9 yX9_comparison yX9_comparison, Cond.code yX9_difference cX9_difference 6 none, Cond.code yX9_done cX9_done 2 none, Cond.code yX9_doneTo cX9_doneTo 2 none, Cond.methodLink RX9 222 yX9_done, Cond.instanceMethod yX9_done, Cond.selects RX9 yX9_done yX9_done, Cond.methodLink RX9 225 yX9_opened, Cond.instanceMethod yX9_opened, Cond.selects RX9 yX9_opened yX9_opened, Cond.methodLink RX9 228 yX9_await1, Cond.instanceMethod yX9_await1, Cond.selects RX9 yX9_await1 yX9_await1, Cond.methodLink RX9 231 yX9_difference, Cond.instanceMethod yX9_difference, Cond.selects RX9 yX9_difference yX9_difference, Cond.code yX9_unit cX9_unit 1 (some .boolean), Cond.fieldLink RX9 237 "DistanceSolverModel" "isWhole" "Z", Cond.methodLink RX9 234 yX9_doneTo, Cond.instanceMethod yX9_doneTo, Cond.selects RX9 yX9_doneTo yX9_doneTo, Cond.code yX9_behindUnit cX9_behindUnit 3 none, Cond.fieldLink RX9 247 "DistanceSolverModel" "isFormula" "Z", Cond.fieldLink RX9 250 "DistanceSolverModel" "atoms" "I", Cond.fieldLink RX9 253 "DistanceSolverModel" "steps" "I", Cond.fieldLink RX9 42 "DistanceSolverModel" "aX" "[I", Cond.fieldLink RX9 45 "DistanceSolverModel" "aY" "[I", Cond.fieldLink RX9 48 "DistanceSolverModel" "aC" "[I", Cond.fieldLink RX9 51 "DistanceSolverModel" "step" "[I", Cond.methodLink RX9 241 yX9_unit, Cond.instanceMethod yX9_unit, Cond.selects RX9 yX9_unit yX9_unit, Cond.methodLink RX9 244 yX9_behindUnit, Cond.instanceMethod yX9_behindUnit, Cond.selects RX9 yX9_behindUnit yX9_behindUnit]
def WM_4 : List Cond := [Cond.code yX9_read cX9_read 2 (some .int), Cond.code yX9_fault cX9_fault 1 (some .int), Cond.code yX9_atom cX9_atom 3 (some .int), Cond.constantLong RX9 256 (2), Cond.code yX9_judged cX9_judged 7 (some .int), Cond.fieldLink RX9 72 "DistanceSolverModel" "pile" "[I", Cond.fieldLink RX9 69 "DistanceSolverModel" "truth" "[I", Cond.code yX9_putDifference cX9_putDifference 3 none, Cond.methodLink RX9 258 yX9_judged, Cond.instanceMethod yX9_judged, Cond.selects RX9 yX9_judged yX9_judged, Cond.methodLink RX9 262 yX9_putDifference, Cond.instanceMethod yX9_putDifference, Cond.selects RX9 yX9_putDifference yX9_putDifference, Cond.code yX9_isWay cX9_isWay 3 (some .boolean), Cond.code yX9_rows cX9_rows 1 (some .int), Cond.methodLink RX9 265 yX9_rows, Cond.instanceMethod yX9_rows, Cond.selects RX9 yX9_rows yX9_rows, Cond.methodLink RX9 268 yX9_isWay, Cond.instanceMethod yX9_isWay, Cond.selects RX9 yX9_isWay yX9_isWay, Cond.code yX9_ways cX9_ways 3 (some .int), Cond.code yX9_way cX9_way 3 (some .int), Cond.code yX9_valueIn cX9_valueIn 3 (some .long), Cond.code yX9_must cX9_must 6 (some .int), Cond.code yX9_write cX9_write 2 none, Cond.fieldLink RX9 271 "DistanceSolverModel" "writtenSize" "I", Cond.fieldLink RX9 75 "DistanceSolverModel" "writtenRow" "[I", Cond.code yX9_writeItem cX9_writeItem 2 none, Cond.methodLink RX9 274 yX9_write, Cond.instanceMethod yX9_write, Cond.selects RX9 yX9_write yX9_write, Cond.code yX9_isRefused cX9_isRefused 3 (some .boolean), Cond.methodLink RX9 277 yX9_isRefused, Cond.instanceMethod yX9_isRefused, Cond.selects RX9 yX9_isRefused yX9_isRefused, Cond.methodLink RX9 280 yX9_writeItem, Cond.instanceMethod yX9_writeItem, Cond.selects RX9 yX9_writeItem yX9_writeItem]
def WM_5 : List Cond := [Cond.code yX9_writeLeaf cX9_writeLeaf 3 (some .boolean), Cond.methodLink RX9 283 yX9_writeLeaf, Cond.instanceMethod yX9_writeLeaf, Cond.selects RX9 yX9_writeLeaf yX9_writeLeaf, Cond.code yX9_writeProof cX9_writeProof 3 none, Cond.methodLink RX9 286 yX9_ways, Cond.instanceMethod yX9_ways, Cond.selects RX9 yX9_ways yX9_ways, Cond.methodLink RX9 289 yX9_writeProof, Cond.instanceMethod yX9_writeProof, Cond.selects RX9 yX9_writeProof yX9_writeProof, Cond.code yX9_prove cX9_prove 1 (some .int), Cond.code yX9_written cX9_written 2 (some .int), Cond.code yX9_here cX9_here 1 (some .int), Cond.fieldLink RX9 292 "DistanceSolverModel" "at" "I", Cond.fieldLink RX9 295 "DistanceSolverModel" "proofSize" "I", Cond.fieldLink RX9 78 "DistanceSolverModel" "proof" "[I", Cond.code yX9_wrong cX9_wrong 2 none, Cond.fieldLink RX9 298 "DistanceSolverModel" "wrongAt" "I", Cond.code yX9_takeItem cX9_takeItem 2 none, Cond.fieldLink RX9 310 "DistanceSolverModel" "itemX" "I", Cond.fieldLink RX9 313 "DistanceSolverModel" "itemY" "I", Cond.fieldLink RX9 316 "DistanceSolverModel" "itemC" "I", Cond.methodLink RX9 301 yX9_here, Cond.instanceMethod yX9_here, Cond.selects RX9 yX9_here yX9_here, Cond.methodLink RX9 304 yX9_wrong, Cond.instanceMethod yX9_wrong, Cond.selects RX9 yX9_wrong yX9_wrong, Cond.methodLink RX9 307 yX9_takeItem, Cond.instanceMethod yX9_takeItem, Cond.selects RX9 yX9_takeItem yX9_takeItem, Cond.code yX9_item cX9_item 5 none, Cond.methodLink RX9 319 yX9_item, Cond.instanceMethod yX9_item, Cond.selects RX9 yX9_item yX9_item, Cond.code yX9_round cX9_round 7 none, Cond.fieldLink RX9 81 "DistanceSolverModel" "openAtom" "[I", Cond.fieldLink RX9 84 "DistanceSolverModel" "isSecond" "[Z", Cond.methodLink RX9 322 yX9_round]
def WM_6 : List Cond := [Cond.instanceMethod yX9_round, Cond.selects RX9 yX9_round yX9_round, Cond.code yX9_leaf cX9_leaf 4 (some .boolean), Cond.methodLink RX9 325 yX9_leaf, Cond.instanceMethod yX9_leaf, Cond.selects RX9 yX9_leaf yX9_leaf, Cond.code yX9_goThrough cX9_goThrough 4 none, Cond.methodLink RX9 328 yX9_goThrough, Cond.instanceMethod yX9_goThrough, Cond.selects RX9 yX9_goThrough yX9_goThrough, Cond.code yX9_check cX9_check 3 (some .int), Cond.code yX9_told cX9_told 2 (some .int), Cond.constantLong RX9 331 (6), Cond.code yX9_clear cX9_clear 1 none]
def WM : List Cond := WM_0 ++ (WM_1 ++ (WM_2 ++ (WM_3 ++ (WM_4 ++ (WM_5 ++ (WM_6 ++ ((u_ws RX9 TX9 53))))))))
def WM_u : List Cond := u_ws RX9 TX9 53
theorem gWM_0 : WM_0.all goodWord = true := by decide +kernel
theorem gWM_1 : WM_1.all goodWord = true := by decide +kernel
theorem gWM_2 : WM_2.all goodWord = true := by decide +kernel
theorem gWM_3 : WM_3.all goodWord = true := by decide +kernel
theorem gWM_4 : WM_4.all goodWord = true := by decide +kernel
theorem gWM_5 : WM_5.all goodWord = true := by decide +kernel
theorem gWM_6 : WM_6.all goodWord = true := by decide +kernel
theorem gWM_X9 : (u_ws RX9 TX9 53).all goodWord = true := by decide +kernel
theorem gWM : ∀ w ∈ WM, (w.onTables && w.keeps) = true ∨ ∃ ty, w = .arrayClass ty := by
  intro w h
  unfold WM at h
  simp only [List.mem_append] at h
  rcases h with h | h | h | h | h | h | h | h
  · exact good_of_word (List.all_eq_true.mp gWM_0 w h)
  · exact good_of_word (List.all_eq_true.mp gWM_1 w h)
  · exact good_of_word (List.all_eq_true.mp gWM_2 w h)
  · exact good_of_word (List.all_eq_true.mp gWM_3 w h)
  · exact good_of_word (List.all_eq_true.mp gWM_4 w h)
  · exact good_of_word (List.all_eq_true.mp gWM_5 w h)
  · exact good_of_word (List.all_eq_true.mp gWM_6 w h)
  · exact good_of_word (List.all_eq_true.mp gWM_X9 w h)
theorem iWM_X9 : ∀ w ∈ u_ws RX9 TX9 53, w ∈ WM := fun w h => List.mem_append_right _ (List.mem_append_right _ (List.mem_append_right _ (List.mem_append_right _ (List.mem_append_right _ (List.mem_append_right _ (List.mem_append_right _ (h)))))))
theorem qM_2 : Cond.fieldLink RX9 91 "DistanceSolverModel" "thrown" "I" ∈ WM := List.mem_append_left _ (List.mem_of_getElem? (i := 2) rfl)
theorem qM_3 : Cond.code yX9_isIn cX9_isIn 6 (some .boolean) ∈ WM := List.mem_append_left _ (List.mem_of_getElem? (i := 3) rfl)
theorem qM_4 : Cond.code yX9_may cX9_may 4 (some .boolean) ∈ WM := List.mem_append_left _ (List.mem_of_getElem? (i := 4) rfl)
theorem qM_5 : Cond.code yX9_isVariable cX9_isVariable 2 (some .boolean) ∈ WM := List.mem_append_left _ (List.mem_of_getElem? (i := 5) rfl)
theorem qM_6 : Cond.constantLong RX9 94 (15) ∈ WM := List.mem_append_left _ (List.mem_of_getElem? (i := 6) rfl)
theorem qM_7 : Cond.methodLink RX9 96 yX9_isIn ∈ WM := List.mem_append_left _ (List.mem_of_getElem? (i := 7) rfl)
theorem qM_8 : Cond.static yX9_isIn ∈ WM := List.mem_append_left _ (List.mem_of_getElem? (i := 8) rfl)
theorem qM_9 : Cond.initialized RX9 ∈ WM := List.mem_append_left _ (List.mem_of_getElem? (i := 9) rfl)
theorem qM_10 : Cond.code yX9_constraintsAlone cX9_constraintsAlone 2 none ∈ WM := List.mem_append_left _ (List.mem_of_getElem? (i := 10) rfl)
theorem qM_11 : Cond.fieldLink RX9 19 "DistanceSolverModel" "isThere" "[Z" ∈ WM := List.mem_append_left _ (List.mem_of_getElem? (i := 11) rfl)
theorem qM_12 : Cond.fieldLink RX9 100 "DistanceSolverModel" "many" "I" ∈ WM := List.mem_append_left _ (List.mem_of_getElem? (i := 12) rfl)
theorem qM_13 : Cond.code yX9_findLeast cX9_findLeast 7 none ∈ WM := List.mem_append_left _ (List.mem_of_getElem? (i := 13) rfl)
theorem qM_14 : Cond.fieldLink RX9 29 "DistanceSolverModel" "least" "[J" ∈ WM := List.mem_append_left _ (List.mem_of_getElem? (i := 14) rfl)
theorem qM_15 : Cond.constantLong RX9 103 (1152921504606846976) ∈ WM := List.mem_append_left _ (List.mem_of_getElem? (i := 15) rfl)
theorem qM_16 : Cond.fieldLink RX9 13 "DistanceSolverModel" "cY" "[I" ∈ WM := List.mem_append_left _ (List.mem_of_getElem? (i := 16) rfl)
theorem qM_17 : Cond.fieldLink RX9 16 "DistanceSolverModel" "cC" "[I" ∈ WM := List.mem_append_left _ (List.mem_of_getElem? (i := 17) rfl)
theorem qM_18 : Cond.fieldLink RX9 7 "DistanceSolverModel" "cX" "[I" ∈ WM := List.mem_append_left _ (List.mem_of_getElem? (i := 18) rfl)
theorem qM_19 : Cond.code yX9_findRow cX9_findRow 11 (some .boolean) ∈ WM := List.mem_append_left _ (List.mem_of_getElem? (i := 19) rfl)
theorem qM_20 : Cond.fieldLink RX9 109 "DistanceSolverModel" "rowSize" "I" ∈ WM := List.mem_append_left _ (List.mem_of_getElem? (i := 20) rfl)
theorem qM_21 : Cond.fieldLink RX9 33 "DistanceSolverModel" "row" "[I" ∈ WM := List.mem_append_left _ (List.mem_of_getElem? (i := 21) rfl)
theorem qM_22 : Cond.methodLink RX9 105 yX9_findLeast ∈ WM := List.mem_append_left _ (List.mem_of_getElem? (i := 22) rfl)
theorem qM_23 : Cond.instanceMethod yX9_findLeast ∈ WM := List.mem_append_left _ (List.mem_of_getElem? (i := 23) rfl)
theorem qM_24 : Cond.selects RX9 yX9_findLeast yX9_findLeast ∈ WM := List.mem_append_left _ (List.mem_of_getElem? (i := 24) rfl)
theorem qM_25 : Cond.constantLong RX9 116 (-1000000) ∈ WM := List.mem_append_left _ (List.mem_of_getElem? (i := 25) rfl)
theorem qM_26 : Cond.constantLong RX9 118 (1000000) ∈ WM := List.mem_append_left _ (List.mem_of_getElem? (i := 26) rfl)
theorem qM_27 : Cond.constantLong RX9 127 (-1) ∈ WM := List.mem_append_left _ (List.mem_of_getElem? (i := 27) rfl)
theorem qM_28 : Cond.fieldLink RX9 87 "DistanceSolverModel" "coreSize" "I" ∈ WM := List.mem_append_left _ (List.mem_of_getElem? (i := 28) rfl)
theorem qM_29 : Cond.fieldLink RX9 26 "DistanceSolverModel" "coreRow" "[I" ∈ WM := List.mem_append_left _ (List.mem_of_getElem? (i := 29) rfl)
theorem qM_30 : Cond.methodLink RX9 112 yX9_isVariable ∈ WM := List.mem_append_left _ (List.mem_of_getElem? (i := 30) rfl)
theorem qM_31 : Cond.instanceMethod yX9_isVariable ∈ WM := List.mem_append_left _ (List.mem_of_getElem? (i := 31) rfl)
theorem qM_32 : Cond.selects RX9 yX9_isVariable yX9_isVariable ∈ WM := List.mem_append_left _ (List.mem_of_getElem? (i := 32) rfl)
theorem qM_33 : Cond.methodLink RX9 120 yX9_may ∈ WM := List.mem_append_left _ (List.mem_of_getElem? (i := 33) rfl)
theorem qM_34 : Cond.instanceMethod yX9_may ∈ WM := List.mem_append_left _ (List.mem_of_getElem? (i := 34) rfl)
theorem qM_35 : Cond.selects RX9 yX9_may yX9_may ∈ WM := List.mem_append_left _ (List.mem_of_getElem? (i := 35) rfl)
theorem qM_36 : Cond.methodLink RX9 124 yX9_constraintsAlone ∈ WM := List.mem_append_left _ (List.mem_of_getElem? (i := 36) rfl)
theorem qM_37 : Cond.instanceMethod yX9_constraintsAlone ∈ WM := List.mem_append_left _ (List.mem_of_getElem? (i := 37) rfl)
theorem qM_38 : Cond.selects RX9 yX9_constraintsAlone yX9_constraintsAlone ∈ WM := List.mem_append_left _ (List.mem_of_getElem? (i := 38) rfl)
theorem qM_39 : Cond.methodLink RX9 129 yX9_findRow ∈ WM := List.mem_append_left _ (List.mem_of_getElem? (i := 39) rfl)
theorem qM_40 : Cond.instanceMethod yX9_findRow ∈ WM := List.mem_append_right _ (List.mem_append_left _ (List.mem_of_getElem? (i := 0) rfl))
theorem qM_41 : Cond.selects RX9 yX9_findRow yX9_findRow ∈ WM := List.mem_append_right _ (List.mem_append_left _ (List.mem_of_getElem? (i := 1) rfl))
theorem qM_44 : Cond.fieldLink RX9 133 "DistanceSolverModel" "levels" "I" ∈ WM := List.mem_append_right _ (List.mem_append_left _ (List.mem_of_getElem? (i := 4) rfl))
theorem qM_45 : Cond.fieldLink RX9 23 "DistanceSolverModel" "levelAt" "[I" ∈ WM := List.mem_append_right _ (List.mem_append_left _ (List.mem_of_getElem? (i := 5) rfl))
theorem qM_48 : Cond.code yX9_findValues cX9_findValues 4 (some .boolean) ∈ WM := List.mem_append_right _ (List.mem_append_left _ (List.mem_of_getElem? (i := 8) rfl))
theorem qM_49 : Cond.fieldLink RX9 36 "DistanceSolverModel" "values" "[J" ∈ WM := List.mem_append_right _ (List.mem_append_left _ (List.mem_of_getElem? (i := 9) rfl))
theorem qM_50 : Cond.methodLink RX9 136 yX9_findValues ∈ WM := List.mem_append_right _ (List.mem_append_left _ (List.mem_of_getElem? (i := 10) rfl))
theorem qM_51 : Cond.instanceMethod yX9_findValues ∈ WM := List.mem_append_right _ (List.mem_append_left _ (List.mem_of_getElem? (i := 11) rfl))
theorem qM_52 : Cond.selects RX9 yX9_findValues yX9_findValues ∈ WM := List.mem_append_right _ (List.mem_append_left _ (List.mem_of_getElem? (i := 12) rfl))
theorem qM_54 : Cond.code yX9_boundOf cX9_boundOf 6 (some .long) ∈ WM := List.mem_append_right _ (List.mem_append_left _ (List.mem_of_getElem? (i := 14) rfl))
theorem qM_55 : Cond.constantLong RX9 144 (-9223372036854775808) ∈ WM := List.mem_append_right _ (List.mem_append_left _ (List.mem_of_getElem? (i := 15) rfl))
theorem qM_56 : Cond.methodLink RX9 140 yX9_boundOf ∈ WM := List.mem_append_right _ (List.mem_append_left _ (List.mem_of_getElem? (i := 16) rfl))
theorem qM_57 : Cond.instanceMethod yX9_boundOf ∈ WM := List.mem_append_right _ (List.mem_append_left _ (List.mem_of_getElem? (i := 17) rfl))
theorem qM_58 : Cond.selects RX9 yX9_boundOf yX9_boundOf ∈ WM := List.mem_append_right _ (List.mem_append_left _ (List.mem_of_getElem? (i := 18) rfl))
theorem qM_61 : Cond.code yX9_isIdle cX9_isIdle 2 (some .boolean) ∈ WM := List.mem_append_right _ (List.mem_append_left _ (List.mem_of_getElem? (i := 21) rfl))
theorem qM_62 : Cond.constantLong RX9 146 (4) ∈ WM := List.mem_append_right _ (List.mem_append_left _ (List.mem_of_getElem? (i := 22) rfl))
theorem qM_63 : Cond.methodLink RX9 148 yX9_isIdle ∈ WM := List.mem_append_right _ (List.mem_append_left _ (List.mem_of_getElem? (i := 23) rfl))
theorem qM_64 : Cond.instanceMethod yX9_isIdle ∈ WM := List.mem_append_right _ (List.mem_append_left _ (List.mem_of_getElem? (i := 24) rfl))
theorem qM_65 : Cond.selects RX9 yX9_isIdle yX9_isIdle ∈ WM := List.mem_append_right _ (List.mem_append_left _ (List.mem_of_getElem? (i := 25) rfl))
theorem qM_68 : Cond.constantLong RX9 151 (8) ∈ WM := List.mem_append_right _ (List.mem_append_left _ (List.mem_of_getElem? (i := 28) rfl))
theorem qM_69 : Cond.fieldLink RX9 153 "DistanceSolverModel" "tapeSize" "I" ∈ WM := List.mem_append_right _ (List.mem_append_left _ (List.mem_of_getElem? (i := 29) rfl))
theorem qM_70 : Cond.fieldLink RX9 39 "DistanceSolverModel" "tape" "[I" ∈ WM := List.mem_append_right _ (List.mem_append_left _ (List.mem_of_getElem? (i := 30) rfl))
theorem qM_71 : Cond.constantLong RX9 156 (255) ∈ WM := List.mem_append_right _ (List.mem_append_left _ (List.mem_of_getElem? (i := 31) rfl))
theorem qM_72 : Cond.code yX9_fail cX9_fail 2 none ∈ WM := List.mem_append_right _ (List.mem_append_left _ (List.mem_of_getElem? (i := 32) rfl))
theorem qM_73 : Cond.fieldLink RX9 158 "DistanceSolverModel" "faultIs" "I" ∈ WM := List.mem_append_right _ (List.mem_append_left _ (List.mem_of_getElem? (i := 33) rfl))
theorem qM_74 : Cond.fieldLink RX9 161 "DistanceSolverModel" "tokenAt" "I" ∈ WM := List.mem_append_right _ (List.mem_append_left _ (List.mem_of_getElem? (i := 34) rfl))
theorem qM_75 : Cond.fieldLink RX9 164 "DistanceSolverModel" "faultAt" "I" ∈ WM := List.mem_append_right _ (List.mem_append_left _ (List.mem_of_getElem? (i := 35) rfl))
theorem qM_76 : Cond.code yX9_byteAt cX9_byteAt 2 (some .int) ∈ WM := List.mem_append_right _ (List.mem_append_left _ (List.mem_of_getElem? (i := 36) rfl))
theorem qM_77 : Cond.code yX9_isFigure cX9_isFigure 1 (some .boolean) ∈ WM := List.mem_append_right _ (List.mem_append_left _ (List.mem_of_getElem? (i := 37) rfl))
theorem qM_78 : Cond.code yX9_signToken cX9_signToken 3 none ∈ WM := List.mem_append_right _ (List.mem_append_left _ (List.mem_of_getElem? (i := 38) rfl))
theorem qM_79 : Cond.fieldLink RX9 180 "DistanceSolverModel" "token" "I" ∈ WM := List.mem_append_right _ (List.mem_append_left _ (List.mem_of_getElem? (i := 39) rfl))
theorem qM_80 : Cond.fieldLink RX9 183 "DistanceSolverModel" "tokenIs" "I" ∈ WM := List.mem_append_right _ (List.mem_append_right _ (List.mem_append_left _ (List.mem_of_getElem? (i := 0) rfl)))
theorem qM_81 : Cond.fieldLink RX9 173 "DistanceSolverModel" "tokenEnd" "I" ∈ WM := List.mem_append_right _ (List.mem_append_right _ (List.mem_append_left _ (List.mem_of_getElem? (i := 1) rfl)))
theorem qM_82 : Cond.methodLink RX9 176 yX9_byteAt ∈ WM := List.mem_append_right _ (List.mem_append_right _ (List.mem_append_left _ (List.mem_of_getElem? (i := 2) rfl)))
theorem qM_83 : Cond.instanceMethod yX9_byteAt ∈ WM := List.mem_append_right _ (List.mem_append_right _ (List.mem_append_left _ (List.mem_of_getElem? (i := 3) rfl)))
theorem qM_84 : Cond.selects RX9 yX9_byteAt yX9_byteAt ∈ WM := List.mem_append_right _ (List.mem_append_right _ (List.mem_append_left _ (List.mem_of_getElem? (i := 4) rfl)))
theorem qM_85 : Cond.methodLink RX9 170 yX9_fail ∈ WM := List.mem_append_right _ (List.mem_append_right _ (List.mem_append_left _ (List.mem_of_getElem? (i := 5) rfl)))
theorem qM_86 : Cond.instanceMethod yX9_fail ∈ WM := List.mem_append_right _ (List.mem_append_right _ (List.mem_append_left _ (List.mem_of_getElem? (i := 6) rfl)))
theorem qM_87 : Cond.selects RX9 yX9_fail yX9_fail ∈ WM := List.mem_append_right _ (List.mem_append_right _ (List.mem_append_left _ (List.mem_of_getElem? (i := 7) rfl)))
theorem qM_88 : Cond.fieldLink RX9 167 "DistanceSolverModel" "tokens" "I" ∈ WM := List.mem_append_right _ (List.mem_append_right _ (List.mem_append_left _ (List.mem_of_getElem? (i := 8) rfl)))
theorem qM_89 : Cond.constant RX9 189 (1000000) ∈ WM := List.mem_append_right _ (List.mem_append_right _ (List.mem_append_left _ (List.mem_of_getElem? (i := 9) rfl)))
theorem qM_90 : Cond.methodLink RX9 186 yX9_isFigure ∈ WM := List.mem_append_right _ (List.mem_append_right _ (List.mem_append_left _ (List.mem_of_getElem? (i := 10) rfl)))
theorem qM_91 : Cond.static yX9_isFigure ∈ WM := List.mem_append_right _ (List.mem_append_right _ (List.mem_append_left _ (List.mem_of_getElem? (i := 11) rfl)))
theorem qM_92 : Cond.methodLink RX9 190 yX9_signToken ∈ WM := List.mem_append_right _ (List.mem_append_right _ (List.mem_append_left _ (List.mem_of_getElem? (i := 12) rfl)))
theorem qM_93 : Cond.instanceMethod yX9_signToken ∈ WM := List.mem_append_right _ (List.mem_append_right _ (List.mem_append_left _ (List.mem_of_getElem? (i := 13) rfl)))
theorem qM_94 : Cond.selects RX9 yX9_signToken yX9_signToken ∈ WM := List.mem_append_right _ (List.mem_append_right _ (List.mem_append_left _ (List.mem_of_getElem? (i := 14) rfl)))
theorem qM_95 : Cond.code yX9_next cX9_next 3 none ∈ WM := List.mem_append_right _ (List.mem_append_right _ (List.mem_append_left _ (List.mem_of_getElem? (i := 15) rfl)))
theorem qM_96 : Cond.code yX9_sign cX9_sign 2 (some .boolean) ∈ WM := List.mem_append_right _ (List.mem_append_right _ (List.mem_append_left _ (List.mem_of_getElem? (i := 16) rfl)))
theorem qM_97 : Cond.code yX9_put cX9_put 2 none ∈ WM := List.mem_append_right _ (List.mem_append_right _ (List.mem_append_left _ (List.mem_of_getElem? (i := 17) rfl)))
theorem qM_98 : Cond.fieldLink RX9 63 "DistanceSolverModel" "newStep" "[I" ∈ WM := List.mem_append_right _ (List.mem_append_right _ (List.mem_append_left _ (List.mem_of_getElem? (i := 18) rfl)))
theorem qM_99 : Cond.fieldLink RX9 193 "DistanceSolverModel" "newSteps" "I" ∈ WM := List.mem_append_right _ (List.mem_append_right _ (List.mem_append_left _ (List.mem_of_getElem? (i := 19) rfl)))
theorem qM_100 : Cond.code yX9_opened cX9_opened 1 none ∈ WM := List.mem_append_right _ (List.mem_append_right _ (List.mem_append_left _ (List.mem_of_getElem? (i := 20) rfl)))
theorem qM_101 : Cond.fieldLink RX9 196 "DistanceSolverModel" "opens" "I" ∈ WM := List.mem_append_right _ (List.mem_append_right _ (List.mem_append_left _ (List.mem_of_getElem? (i := 21) rfl)))
theorem qM_102 : Cond.code yX9_await1 cX9_await1 2 none ∈ WM := List.mem_append_right _ (List.mem_append_right _ (List.mem_append_left _ (List.mem_of_getElem? (i := 22) rfl)))
theorem qM_103 : Cond.fieldLink RX9 66 "DistanceSolverModel" "waits" "[I" ∈ WM := List.mem_append_right _ (List.mem_append_right _ (List.mem_append_left _ (List.mem_of_getElem? (i := 23) rfl)))
theorem qM_104 : Cond.fieldLink RX9 199 "DistanceSolverModel" "waiting" "I" ∈ WM := List.mem_append_right _ (List.mem_append_right _ (List.mem_append_left _ (List.mem_of_getElem? (i := 24) rfl)))
theorem qM_105 : Cond.code yX9_atMost cX9_atMost 9 none ∈ WM := List.mem_append_right _ (List.mem_append_right _ (List.mem_append_left _ (List.mem_of_getElem? (i := 25) rfl)))
theorem qM_106 : Cond.fieldLink RX9 205 "DistanceSolverModel" "newAtoms" "I" ∈ WM := List.mem_append_right _ (List.mem_append_right _ (List.mem_append_left _ (List.mem_of_getElem? (i := 26) rfl)))
theorem qM_107 : Cond.fieldLink RX9 54 "DistanceSolverModel" "newX" "[I" ∈ WM := List.mem_append_right _ (List.mem_append_right _ (List.mem_append_left _ (List.mem_of_getElem? (i := 27) rfl)))
theorem qM_108 : Cond.fieldLink RX9 57 "DistanceSolverModel" "newY" "[I" ∈ WM := List.mem_append_right _ (List.mem_append_right _ (List.mem_append_left _ (List.mem_of_getElem? (i := 28) rfl)))
theorem qM_109 : Cond.fieldLink RX9 60 "DistanceSolverModel" "newC" "[I" ∈ WM := List.mem_append_right _ (List.mem_append_right _ (List.mem_append_left _ (List.mem_of_getElem? (i := 29) rfl)))
theorem qM_110 : Cond.methodLink RX9 202 yX9_put ∈ WM := List.mem_append_right _ (List.mem_append_right _ (List.mem_append_left _ (List.mem_of_getElem? (i := 30) rfl)))
theorem qM_111 : Cond.instanceMethod yX9_put ∈ WM := List.mem_append_right _ (List.mem_append_right _ (List.mem_append_left _ (List.mem_of_getElem? (i := 31) rfl)))
theorem qM_112 : Cond.selects RX9 yX9_put yX9_put ∈ WM := List.mem_append_right _ (List.mem_append_right _ (List.mem_append_left _ (List.mem_of_getElem? (i := 32) rfl)))
theorem qM_113 : Cond.code yX9_comparison cX9_comparison 6 none ∈ WM := List.mem_append_right _ (List.mem_append_right _ (List.mem_append_left _ (List.mem_of_getElem? (i := 33) rfl)))
theorem qM_114 : Cond.methodLink RX9 208 yX9_atMost ∈ WM := List.mem_append_right _ (List.mem_append_right _ (List.mem_append_left _ (List.mem_of_getElem? (i := 34) rfl)))
theorem qM_115 : Cond.instanceMethod yX9_atMost ∈ WM := List.mem_append_right _ (List.mem_append_right _ (List.mem_append_left _ (List.mem_of_getElem? (i := 35) rfl)))
theorem qM_116 : Cond.selects RX9 yX9_atMost yX9_atMost ∈ WM := List.mem_append_right _ (List.mem_append_right _ (List.mem_append_left _ (List.mem_of_getElem? (i := 36) rfl)))
theorem qM_117 : Cond.methodLink RX9 212 yX9_next ∈ WM := List.mem_append_right _ (List.mem_append_right _ (List.mem_append_left _ (List.mem_of_getElem? (i := 37) rfl)))
theorem qM_118 : Cond.instanceMethod yX9_next ∈ WM := List.mem_append_right _ (List.mem_append_right _ (List.mem_append_left _ (List.mem_of_getElem? (i := 38) rfl)))
theorem qM_119 : Cond.selects RX9 yX9_next yX9_next ∈ WM := List.mem_append_right _ (List.mem_append_right _ (List.mem_append_left _ (List.mem_of_getElem? (i := 39) rfl)))
theorem qM_120 : Cond.methodLink RX9 215 yX9_sign ∈ WM := List.mem_append_right _ (List.mem_append_right _ (List.mem_append_right _ (List.mem_append_left _ (List.mem_of_getElem? (i := 0) rfl))))
theorem qM_121 : Cond.instanceMethod yX9_sign ∈ WM := List.mem_append_right _ (List.mem_append_right _ (List.mem_append_right _ (List.mem_append_left _ (List.mem_of_getElem? (i := 1) rfl))))
theorem qM_122 : Cond.selects RX9 yX9_sign yX9_sign ∈ WM := List.mem_append_right _ (List.mem_append_right _ (List.mem_append_right _ (List.mem_append_left _ (List.mem_of_getElem? (i := 2) rfl))))
theorem qM_123 : Cond.methodLink RX9 218 yX9_comparison ∈ WM := List.mem_append_right _ (List.mem_append_right _ (List.mem_append_right _ (List.mem_append_left _ (List.mem_of_getElem? (i := 3) rfl))))
theorem qM_124 : Cond.instanceMethod yX9_comparison ∈ WM := List.mem_append_right _ (List.mem_append_right _ (List.mem_append_right _ (List.mem_append_left _ (List.mem_of_getElem? (i := 4) rfl))))
theorem qM_125 : Cond.selects RX9 yX9_comparison yX9_comparison ∈ WM := List.mem_append_right _ (List.mem_append_right _ (List.mem_append_right _ (List.mem_append_left _ (List.mem_of_getElem? (i := 5) rfl))))
theorem qM_126 : Cond.code yX9_difference cX9_difference 6 none ∈ WM := List.mem_append_right _ (List.mem_append_right _ (List.mem_append_right _ (List.mem_append_left _ (List.mem_of_getElem? (i := 6) rfl))))
theorem qM_127 : Cond.code yX9_done cX9_done 2 none ∈ WM := List.mem_append_right _ (List.mem_append_right _ (List.mem_append_right _ (List.mem_append_left _ (List.mem_of_getElem? (i := 7) rfl))))
theorem qM_128 : Cond.code yX9_doneTo cX9_doneTo 2 none ∈ WM := List.mem_append_right _ (List.mem_append_right _ (List.mem_append_right _ (List.mem_append_left _ (List.mem_of_getElem? (i := 8) rfl))))
theorem qM_129 : Cond.methodLink RX9 222 yX9_done ∈ WM := List.mem_append_right _ (List.mem_append_right _ (List.mem_append_right _ (List.mem_append_left _ (List.mem_of_getElem? (i := 9) rfl))))
theorem qM_130 : Cond.instanceMethod yX9_done ∈ WM := List.mem_append_right _ (List.mem_append_right _ (List.mem_append_right _ (List.mem_append_left _ (List.mem_of_getElem? (i := 10) rfl))))
theorem qM_131 : Cond.selects RX9 yX9_done yX9_done ∈ WM := List.mem_append_right _ (List.mem_append_right _ (List.mem_append_right _ (List.mem_append_left _ (List.mem_of_getElem? (i := 11) rfl))))
theorem qM_132 : Cond.methodLink RX9 225 yX9_opened ∈ WM := List.mem_append_right _ (List.mem_append_right _ (List.mem_append_right _ (List.mem_append_left _ (List.mem_of_getElem? (i := 12) rfl))))
theorem qM_133 : Cond.instanceMethod yX9_opened ∈ WM := List.mem_append_right _ (List.mem_append_right _ (List.mem_append_right _ (List.mem_append_left _ (List.mem_of_getElem? (i := 13) rfl))))
theorem qM_134 : Cond.selects RX9 yX9_opened yX9_opened ∈ WM := List.mem_append_right _ (List.mem_append_right _ (List.mem_append_right _ (List.mem_append_left _ (List.mem_of_getElem? (i := 14) rfl))))
theorem qM_135 : Cond.methodLink RX9 228 yX9_await1 ∈ WM := List.mem_append_right _ (List.mem_append_right _ (List.mem_append_right _ (List.mem_append_left _ (List.mem_of_getElem? (i := 15) rfl))))
theorem qM_136 : Cond.instanceMethod yX9_await1 ∈ WM := List.mem_append_right _ (List.mem_append_right _ (List.mem_append_right _ (List.mem_append_left _ (List.mem_of_getElem? (i := 16) rfl))))
theorem qM_137 : Cond.selects RX9 yX9_await1 yX9_await1 ∈ WM := List.mem_append_right _ (List.mem_append_right _ (List.mem_append_right _ (List.mem_append_left _ (List.mem_of_getElem? (i := 17) rfl))))
theorem qM_138 : Cond.methodLink RX9 231 yX9_difference ∈ WM := List.mem_append_right _ (List.mem_append_right _ (List.mem_append_right _ (List.mem_append_left _ (List.mem_of_getElem? (i := 18) rfl))))
theorem qM_139 : Cond.instanceMethod yX9_difference ∈ WM := List.mem_append_right _ (List.mem_append_right _ (List.mem_append_right _ (List.mem_append_left _ (List.mem_of_getElem? (i := 19) rfl))))
theorem qM_140 : Cond.selects RX9 yX9_difference yX9_difference ∈ WM := List.mem_append_right _ (List.mem_append_right _ (List.mem_append_right _ (List.mem_append_left _ (List.mem_of_getElem? (i := 20) rfl))))
theorem qM_141 : Cond.code yX9_unit cX9_unit 1 (some .boolean) ∈ WM := List.mem_append_right _ (List.mem_append_right _ (List.mem_append_right _ (List.mem_append_left _ (List.mem_of_getElem? (i := 21) rfl))))
theorem qM_142 : Cond.fieldLink RX9 237 "DistanceSolverModel" "isWhole" "Z" ∈ WM := List.mem_append_right _ (List.mem_append_right _ (List.mem_append_right _ (List.mem_append_left _ (List.mem_of_getElem? (i := 22) rfl))))
theorem qM_143 : Cond.methodLink RX9 234 yX9_doneTo ∈ WM := List.mem_append_right _ (List.mem_append_right _ (List.mem_append_right _ (List.mem_append_left _ (List.mem_of_getElem? (i := 23) rfl))))
theorem qM_144 : Cond.instanceMethod yX9_doneTo ∈ WM := List.mem_append_right _ (List.mem_append_right _ (List.mem_append_right _ (List.mem_append_left _ (List.mem_of_getElem? (i := 24) rfl))))
theorem qM_145 : Cond.selects RX9 yX9_doneTo yX9_doneTo ∈ WM := List.mem_append_right _ (List.mem_append_right _ (List.mem_append_right _ (List.mem_append_left _ (List.mem_of_getElem? (i := 25) rfl))))
theorem qM_146 : Cond.code yX9_behindUnit cX9_behindUnit 3 none ∈ WM := List.mem_append_right _ (List.mem_append_right _ (List.mem_append_right _ (List.mem_append_left _ (List.mem_of_getElem? (i := 26) rfl))))
theorem qM_147 : Cond.fieldLink RX9 247 "DistanceSolverModel" "isFormula" "Z" ∈ WM := List.mem_append_right _ (List.mem_append_right _ (List.mem_append_right _ (List.mem_append_left _ (List.mem_of_getElem? (i := 27) rfl))))
theorem qM_148 : Cond.fieldLink RX9 250 "DistanceSolverModel" "atoms" "I" ∈ WM := List.mem_append_right _ (List.mem_append_right _ (List.mem_append_right _ (List.mem_append_left _ (List.mem_of_getElem? (i := 28) rfl))))
theorem qM_149 : Cond.fieldLink RX9 253 "DistanceSolverModel" "steps" "I" ∈ WM := List.mem_append_right _ (List.mem_append_right _ (List.mem_append_right _ (List.mem_append_left _ (List.mem_of_getElem? (i := 29) rfl))))
theorem qM_150 : Cond.fieldLink RX9 42 "DistanceSolverModel" "aX" "[I" ∈ WM := List.mem_append_right _ (List.mem_append_right _ (List.mem_append_right _ (List.mem_append_left _ (List.mem_of_getElem? (i := 30) rfl))))
theorem qM_151 : Cond.fieldLink RX9 45 "DistanceSolverModel" "aY" "[I" ∈ WM := List.mem_append_right _ (List.mem_append_right _ (List.mem_append_right _ (List.mem_append_left _ (List.mem_of_getElem? (i := 31) rfl))))
theorem qM_152 : Cond.fieldLink RX9 48 "DistanceSolverModel" "aC" "[I" ∈ WM := List.mem_append_right _ (List.mem_append_right _ (List.mem_append_right _ (List.mem_append_left _ (List.mem_of_getElem? (i := 32) rfl))))
theorem qM_153 : Cond.fieldLink RX9 51 "DistanceSolverModel" "step" "[I" ∈ WM := List.mem_append_right _ (List.mem_append_right _ (List.mem_append_right _ (List.mem_append_left _ (List.mem_of_getElem? (i := 33) rfl))))
theorem qM_154 : Cond.methodLink RX9 241 yX9_unit ∈ WM := List.mem_append_right _ (List.mem_append_right _ (List.mem_append_right _ (List.mem_append_left _ (List.mem_of_getElem? (i := 34) rfl))))
theorem qM_155 : Cond.instanceMethod yX9_unit ∈ WM := List.mem_append_right _ (List.mem_append_right _ (List.mem_append_right _ (List.mem_append_left _ (List.mem_of_getElem? (i := 35) rfl))))
theorem qM_156 : Cond.selects RX9 yX9_unit yX9_unit ∈ WM := List.mem_append_right _ (List.mem_append_right _ (List.mem_append_right _ (List.mem_append_left _ (List.mem_of_getElem? (i := 36) rfl))))
theorem qM_157 : Cond.methodLink RX9 244 yX9_behindUnit ∈ WM := List.mem_append_right _ (List.mem_append_right _ (List.mem_append_right _ (List.mem_append_left _ (List.mem_of_getElem? (i := 37) rfl))))
theorem qM_158 : Cond.instanceMethod yX9_behindUnit ∈ WM := List.mem_append_right _ (List.mem_append_right _ (List.mem_append_right _ (List.mem_append_left _ (List.mem_of_getElem? (i := 38) rfl))))
theorem qM_159 : Cond.selects RX9 yX9_behindUnit yX9_behindUnit ∈ WM := List.mem_append_right _ (List.mem_append_right _ (List.mem_append_right _ (List.mem_append_left _ (List.mem_of_getElem? (i := 39) rfl))))
theorem qM_163 : Cond.constantLong RX9 256 (2) ∈ WM := List.mem_append_right _ (List.mem_append_right _ (List.mem_append_right _ (List.mem_append_right _ (List.mem_append_left _ (List.mem_of_getElem? (i := 3) rfl)))))
theorem qM_164 : Cond.code yX9_judged cX9_judged 7 (some .int) ∈ WM := List.mem_append_right _ (List.mem_append_right _ (List.mem_append_right _ (List.mem_append_right _ (List.mem_append_left _ (List.mem_of_getElem? (i := 4) rfl)))))
theorem qM_165 : Cond.fieldLink RX9 72 "DistanceSolverModel" "pile" "[I" ∈ WM := List.mem_append_right _ (List.mem_append_right _ (List.mem_append_right _ (List.mem_append_right _ (List.mem_append_left _ (List.mem_of_getElem? (i := 5) rfl)))))
theorem qM_166 : Cond.fieldLink RX9 69 "DistanceSolverModel" "truth" "[I" ∈ WM := List.mem_append_right _ (List.mem_append_right _ (List.mem_append_right _ (List.mem_append_right _ (List.mem_append_left _ (List.mem_of_getElem? (i := 6) rfl)))))
theorem qM_167 : Cond.code yX9_putDifference cX9_putDifference 3 none ∈ WM := List.mem_append_right _ (List.mem_append_right _ (List.mem_append_right _ (List.mem_append_right _ (List.mem_append_left _ (List.mem_of_getElem? (i := 7) rfl)))))
theorem qM_168 : Cond.methodLink RX9 258 yX9_judged ∈ WM := List.mem_append_right _ (List.mem_append_right _ (List.mem_append_right _ (List.mem_append_right _ (List.mem_append_left _ (List.mem_of_getElem? (i := 8) rfl)))))
theorem qM_169 : Cond.instanceMethod yX9_judged ∈ WM := List.mem_append_right _ (List.mem_append_right _ (List.mem_append_right _ (List.mem_append_right _ (List.mem_append_left _ (List.mem_of_getElem? (i := 9) rfl)))))
theorem qM_170 : Cond.selects RX9 yX9_judged yX9_judged ∈ WM := List.mem_append_right _ (List.mem_append_right _ (List.mem_append_right _ (List.mem_append_right _ (List.mem_append_left _ (List.mem_of_getElem? (i := 10) rfl)))))
theorem qM_171 : Cond.methodLink RX9 262 yX9_putDifference ∈ WM := List.mem_append_right _ (List.mem_append_right _ (List.mem_append_right _ (List.mem_append_right _ (List.mem_append_left _ (List.mem_of_getElem? (i := 11) rfl)))))
theorem qM_172 : Cond.instanceMethod yX9_putDifference ∈ WM := List.mem_append_right _ (List.mem_append_right _ (List.mem_append_right _ (List.mem_append_right _ (List.mem_append_left _ (List.mem_of_getElem? (i := 12) rfl)))))
theorem qM_173 : Cond.selects RX9 yX9_putDifference yX9_putDifference ∈ WM := List.mem_append_right _ (List.mem_append_right _ (List.mem_append_right _ (List.mem_append_right _ (List.mem_append_left _ (List.mem_of_getElem? (i := 13) rfl)))))
theorem qM_174 : Cond.code yX9_isWay cX9_isWay 3 (some .boolean) ∈ WM := List.mem_append_right _ (List.mem_append_right _ (List.mem_append_right _ (List.mem_append_right _ (List.mem_append_left _ (List.mem_of_getElem? (i := 14) rfl)))))
theorem qM_175 : Cond.code yX9_rows cX9_rows 1 (some .int) ∈ WM := List.mem_append_right _ (List.mem_append_right _ (List.mem_append_right _ (List.mem_append_right _ (List.mem_append_left _ (List.mem_of_getElem? (i := 15) rfl)))))
theorem qM_176 : Cond.methodLink RX9 265 yX9_rows ∈ WM := List.mem_append_right _ (List.mem_append_right _ (List.mem_append_right _ (List.mem_append_right _ (List.mem_append_left _ (List.mem_of_getElem? (i := 16) rfl)))))
theorem qM_177 : Cond.instanceMethod yX9_rows ∈ WM := List.mem_append_right _ (List.mem_append_right _ (List.mem_append_right _ (List.mem_append_right _ (List.mem_append_left _ (List.mem_of_getElem? (i := 17) rfl)))))
theorem qM_178 : Cond.selects RX9 yX9_rows yX9_rows ∈ WM := List.mem_append_right _ (List.mem_append_right _ (List.mem_append_right _ (List.mem_append_right _ (List.mem_append_left _ (List.mem_of_getElem? (i := 18) rfl)))))
theorem qM_179 : Cond.methodLink RX9 268 yX9_isWay ∈ WM := List.mem_append_right _ (List.mem_append_right _ (List.mem_append_right _ (List.mem_append_right _ (List.mem_append_left _ (List.mem_of_getElem? (i := 19) rfl)))))
theorem qM_180 : Cond.instanceMethod yX9_isWay ∈ WM := List.mem_append_right _ (List.mem_append_right _ (List.mem_append_right _ (List.mem_append_right _ (List.mem_append_left _ (List.mem_of_getElem? (i := 20) rfl)))))
theorem qM_181 : Cond.selects RX9 yX9_isWay yX9_isWay ∈ WM := List.mem_append_right _ (List.mem_append_right _ (List.mem_append_right _ (List.mem_append_right _ (List.mem_append_left _ (List.mem_of_getElem? (i := 21) rfl)))))
theorem qM_182 : Cond.code yX9_ways cX9_ways 3 (some .int) ∈ WM := List.mem_append_right _ (List.mem_append_right _ (List.mem_append_right _ (List.mem_append_right _ (List.mem_append_left _ (List.mem_of_getElem? (i := 22) rfl)))))
theorem qM_186 : Cond.code yX9_write cX9_write 2 none ∈ WM := List.mem_append_right _ (List.mem_append_right _ (List.mem_append_right _ (List.mem_append_right _ (List.mem_append_left _ (List.mem_of_getElem? (i := 26) rfl)))))
theorem qM_187 : Cond.fieldLink RX9 271 "DistanceSolverModel" "writtenSize" "I" ∈ WM := List.mem_append_right _ (List.mem_append_right _ (List.mem_append_right _ (List.mem_append_right _ (List.mem_append_left _ (List.mem_of_getElem? (i := 27) rfl)))))
theorem qM_188 : Cond.fieldLink RX9 75 "DistanceSolverModel" "writtenRow" "[I" ∈ WM := List.mem_append_right _ (List.mem_append_right _ (List.mem_append_right _ (List.mem_append_right _ (List.mem_append_left _ (List.mem_of_getElem? (i := 28) rfl)))))
theorem qM_189 : Cond.code yX9_writeItem cX9_writeItem 2 none ∈ WM := List.mem_append_right _ (List.mem_append_right _ (List.mem_append_right _ (List.mem_append_right _ (List.mem_append_left _ (List.mem_of_getElem? (i := 29) rfl)))))
theorem qM_190 : Cond.methodLink RX9 274 yX9_write ∈ WM := List.mem_append_right _ (List.mem_append_right _ (List.mem_append_right _ (List.mem_append_right _ (List.mem_append_left _ (List.mem_of_getElem? (i := 30) rfl)))))
theorem qM_191 : Cond.instanceMethod yX9_write ∈ WM := List.mem_append_right _ (List.mem_append_right _ (List.mem_append_right _ (List.mem_append_right _ (List.mem_append_left _ (List.mem_of_getElem? (i := 31) rfl)))))
theorem qM_192 : Cond.selects RX9 yX9_write yX9_write ∈ WM := List.mem_append_right _ (List.mem_append_right _ (List.mem_append_right _ (List.mem_append_right _ (List.mem_append_left _ (List.mem_of_getElem? (i := 32) rfl)))))
theorem qM_193 : Cond.code yX9_isRefused cX9_isRefused 3 (some .boolean) ∈ WM := List.mem_append_right _ (List.mem_append_right _ (List.mem_append_right _ (List.mem_append_right _ (List.mem_append_left _ (List.mem_of_getElem? (i := 33) rfl)))))
theorem qM_194 : Cond.methodLink RX9 277 yX9_isRefused ∈ WM := List.mem_append_right _ (List.mem_append_right _ (List.mem_append_right _ (List.mem_append_right _ (List.mem_append_left _ (List.mem_of_getElem? (i := 34) rfl)))))
theorem qM_195 : Cond.instanceMethod yX9_isRefused ∈ WM := List.mem_append_right _ (List.mem_append_right _ (List.mem_append_right _ (List.mem_append_right _ (List.mem_append_left _ (List.mem_of_getElem? (i := 35) rfl)))))
theorem qM_196 : Cond.selects RX9 yX9_isRefused yX9_isRefused ∈ WM := List.mem_append_right _ (List.mem_append_right _ (List.mem_append_right _ (List.mem_append_right _ (List.mem_append_left _ (List.mem_of_getElem? (i := 36) rfl)))))
theorem qM_197 : Cond.methodLink RX9 280 yX9_writeItem ∈ WM := List.mem_append_right _ (List.mem_append_right _ (List.mem_append_right _ (List.mem_append_right _ (List.mem_append_left _ (List.mem_of_getElem? (i := 37) rfl)))))
theorem qM_198 : Cond.instanceMethod yX9_writeItem ∈ WM := List.mem_append_right _ (List.mem_append_right _ (List.mem_append_right _ (List.mem_append_right _ (List.mem_append_left _ (List.mem_of_getElem? (i := 38) rfl)))))
theorem qM_199 : Cond.selects RX9 yX9_writeItem yX9_writeItem ∈ WM := List.mem_append_right _ (List.mem_append_right _ (List.mem_append_right _ (List.mem_append_right _ (List.mem_append_left _ (List.mem_of_getElem? (i := 39) rfl)))))
theorem qM_200 : Cond.code yX9_writeLeaf cX9_writeLeaf 3 (some .boolean) ∈ WM := List.mem_append_right _ (List.mem_append_right _ (List.mem_append_right _ (List.mem_append_right _ (List.mem_append_right _ (List.mem_append_left _ (List.mem_of_getElem? (i := 0) rfl))))))
theorem qM_201 : Cond.methodLink RX9 283 yX9_writeLeaf ∈ WM := List.mem_append_right _ (List.mem_append_right _ (List.mem_append_right _ (List.mem_append_right _ (List.mem_append_right _ (List.mem_append_left _ (List.mem_of_getElem? (i := 1) rfl))))))
theorem qM_202 : Cond.instanceMethod yX9_writeLeaf ∈ WM := List.mem_append_right _ (List.mem_append_right _ (List.mem_append_right _ (List.mem_append_right _ (List.mem_append_right _ (List.mem_append_left _ (List.mem_of_getElem? (i := 2) rfl))))))
theorem qM_203 : Cond.selects RX9 yX9_writeLeaf yX9_writeLeaf ∈ WM := List.mem_append_right _ (List.mem_append_right _ (List.mem_append_right _ (List.mem_append_right _ (List.mem_append_right _ (List.mem_append_left _ (List.mem_of_getElem? (i := 3) rfl))))))
theorem qM_204 : Cond.code yX9_writeProof cX9_writeProof 3 none ∈ WM := List.mem_append_right _ (List.mem_append_right _ (List.mem_append_right _ (List.mem_append_right _ (List.mem_append_right _ (List.mem_append_left _ (List.mem_of_getElem? (i := 4) rfl))))))
theorem qM_205 : Cond.methodLink RX9 286 yX9_ways ∈ WM := List.mem_append_right _ (List.mem_append_right _ (List.mem_append_right _ (List.mem_append_right _ (List.mem_append_right _ (List.mem_append_left _ (List.mem_of_getElem? (i := 5) rfl))))))
theorem qM_206 : Cond.instanceMethod yX9_ways ∈ WM := List.mem_append_right _ (List.mem_append_right _ (List.mem_append_right _ (List.mem_append_right _ (List.mem_append_right _ (List.mem_append_left _ (List.mem_of_getElem? (i := 6) rfl))))))
theorem qM_207 : Cond.selects RX9 yX9_ways yX9_ways ∈ WM := List.mem_append_right _ (List.mem_append_right _ (List.mem_append_right _ (List.mem_append_right _ (List.mem_append_right _ (List.mem_append_left _ (List.mem_of_getElem? (i := 7) rfl))))))
theorem qM_208 : Cond.methodLink RX9 289 yX9_writeProof ∈ WM := List.mem_append_right _ (List.mem_append_right _ (List.mem_append_right _ (List.mem_append_right _ (List.mem_append_right _ (List.mem_append_left _ (List.mem_of_getElem? (i := 8) rfl))))))
theorem qM_209 : Cond.instanceMethod yX9_writeProof ∈ WM := List.mem_append_right _ (List.mem_append_right _ (List.mem_append_right _ (List.mem_append_right _ (List.mem_append_right _ (List.mem_append_left _ (List.mem_of_getElem? (i := 9) rfl))))))
theorem qM_210 : Cond.selects RX9 yX9_writeProof yX9_writeProof ∈ WM := List.mem_append_right _ (List.mem_append_right _ (List.mem_append_right _ (List.mem_append_right _ (List.mem_append_right _ (List.mem_append_left _ (List.mem_of_getElem? (i := 10) rfl))))))
theorem qM_213 : Cond.code yX9_here cX9_here 1 (some .int) ∈ WM := List.mem_append_right _ (List.mem_append_right _ (List.mem_append_right _ (List.mem_append_right _ (List.mem_append_right _ (List.mem_append_left _ (List.mem_of_getElem? (i := 13) rfl))))))
theorem qM_214 : Cond.fieldLink RX9 292 "DistanceSolverModel" "at" "I" ∈ WM := List.mem_append_right _ (List.mem_append_right _ (List.mem_append_right _ (List.mem_append_right _ (List.mem_append_right _ (List.mem_append_left _ (List.mem_of_getElem? (i := 14) rfl))))))
theorem qM_215 : Cond.fieldLink RX9 295 "DistanceSolverModel" "proofSize" "I" ∈ WM := List.mem_append_right _ (List.mem_append_right _ (List.mem_append_right _ (List.mem_append_right _ (List.mem_append_right _ (List.mem_append_left _ (List.mem_of_getElem? (i := 15) rfl))))))
theorem qM_216 : Cond.fieldLink RX9 78 "DistanceSolverModel" "proof" "[I" ∈ WM := List.mem_append_right _ (List.mem_append_right _ (List.mem_append_right _ (List.mem_append_right _ (List.mem_append_right _ (List.mem_append_left _ (List.mem_of_getElem? (i := 16) rfl))))))
theorem qM_217 : Cond.code yX9_wrong cX9_wrong 2 none ∈ WM := List.mem_append_right _ (List.mem_append_right _ (List.mem_append_right _ (List.mem_append_right _ (List.mem_append_right _ (List.mem_append_left _ (List.mem_of_getElem? (i := 17) rfl))))))
theorem qM_218 : Cond.fieldLink RX9 298 "DistanceSolverModel" "wrongAt" "I" ∈ WM := List.mem_append_right _ (List.mem_append_right _ (List.mem_append_right _ (List.mem_append_right _ (List.mem_append_right _ (List.mem_append_left _ (List.mem_of_getElem? (i := 18) rfl))))))
theorem qM_219 : Cond.code yX9_takeItem cX9_takeItem 2 none ∈ WM := List.mem_append_right _ (List.mem_append_right _ (List.mem_append_right _ (List.mem_append_right _ (List.mem_append_right _ (List.mem_append_left _ (List.mem_of_getElem? (i := 19) rfl))))))
theorem qM_220 : Cond.fieldLink RX9 310 "DistanceSolverModel" "itemX" "I" ∈ WM := List.mem_append_right _ (List.mem_append_right _ (List.mem_append_right _ (List.mem_append_right _ (List.mem_append_right _ (List.mem_append_left _ (List.mem_of_getElem? (i := 20) rfl))))))
theorem qM_221 : Cond.fieldLink RX9 313 "DistanceSolverModel" "itemY" "I" ∈ WM := List.mem_append_right _ (List.mem_append_right _ (List.mem_append_right _ (List.mem_append_right _ (List.mem_append_right _ (List.mem_append_left _ (List.mem_of_getElem? (i := 21) rfl))))))
theorem qM_222 : Cond.fieldLink RX9 316 "DistanceSolverModel" "itemC" "I" ∈ WM := List.mem_append_right _ (List.mem_append_right _ (List.mem_append_right _ (List.mem_append_right _ (List.mem_append_right _ (List.mem_append_left _ (List.mem_of_getElem? (i := 22) rfl))))))
theorem qM_223 : Cond.methodLink RX9 301 yX9_here ∈ WM := List.mem_append_right _ (List.mem_append_right _ (List.mem_append_right _ (List.mem_append_right _ (List.mem_append_right _ (List.mem_append_left _ (List.mem_of_getElem? (i := 23) rfl))))))
theorem qM_224 : Cond.instanceMethod yX9_here ∈ WM := List.mem_append_right _ (List.mem_append_right _ (List.mem_append_right _ (List.mem_append_right _ (List.mem_append_right _ (List.mem_append_left _ (List.mem_of_getElem? (i := 24) rfl))))))
theorem qM_225 : Cond.selects RX9 yX9_here yX9_here ∈ WM := List.mem_append_right _ (List.mem_append_right _ (List.mem_append_right _ (List.mem_append_right _ (List.mem_append_right _ (List.mem_append_left _ (List.mem_of_getElem? (i := 25) rfl))))))
theorem qM_226 : Cond.methodLink RX9 304 yX9_wrong ∈ WM := List.mem_append_right _ (List.mem_append_right _ (List.mem_append_right _ (List.mem_append_right _ (List.mem_append_right _ (List.mem_append_left _ (List.mem_of_getElem? (i := 26) rfl))))))
theorem qM_227 : Cond.instanceMethod yX9_wrong ∈ WM := List.mem_append_right _ (List.mem_append_right _ (List.mem_append_right _ (List.mem_append_right _ (List.mem_append_right _ (List.mem_append_left _ (List.mem_of_getElem? (i := 27) rfl))))))
theorem qM_228 : Cond.selects RX9 yX9_wrong yX9_wrong ∈ WM := List.mem_append_right _ (List.mem_append_right _ (List.mem_append_right _ (List.mem_append_right _ (List.mem_append_right _ (List.mem_append_left _ (List.mem_of_getElem? (i := 28) rfl))))))
theorem qM_229 : Cond.methodLink RX9 307 yX9_takeItem ∈ WM := List.mem_append_right _ (List.mem_append_right _ (List.mem_append_right _ (List.mem_append_right _ (List.mem_append_right _ (List.mem_append_left _ (List.mem_of_getElem? (i := 29) rfl))))))
theorem qM_230 : Cond.instanceMethod yX9_takeItem ∈ WM := List.mem_append_right _ (List.mem_append_right _ (List.mem_append_right _ (List.mem_append_right _ (List.mem_append_right _ (List.mem_append_left _ (List.mem_of_getElem? (i := 30) rfl))))))
theorem qM_231 : Cond.selects RX9 yX9_takeItem yX9_takeItem ∈ WM := List.mem_append_right _ (List.mem_append_right _ (List.mem_append_right _ (List.mem_append_right _ (List.mem_append_right _ (List.mem_append_left _ (List.mem_of_getElem? (i := 31) rfl))))))
theorem qM_232 : Cond.code yX9_item cX9_item 5 none ∈ WM := List.mem_append_right _ (List.mem_append_right _ (List.mem_append_right _ (List.mem_append_right _ (List.mem_append_right _ (List.mem_append_left _ (List.mem_of_getElem? (i := 32) rfl))))))
theorem qM_233 : Cond.methodLink RX9 319 yX9_item ∈ WM := List.mem_append_right _ (List.mem_append_right _ (List.mem_append_right _ (List.mem_append_right _ (List.mem_append_right _ (List.mem_append_left _ (List.mem_of_getElem? (i := 33) rfl))))))
theorem qM_234 : Cond.instanceMethod yX9_item ∈ WM := List.mem_append_right _ (List.mem_append_right _ (List.mem_append_right _ (List.mem_append_right _ (List.mem_append_right _ (List.mem_append_left _ (List.mem_of_getElem? (i := 34) rfl))))))
theorem qM_235 : Cond.selects RX9 yX9_item yX9_item ∈ WM := List.mem_append_right _ (List.mem_append_right _ (List.mem_append_right _ (List.mem_append_right _ (List.mem_append_right _ (List.mem_append_left _ (List.mem_of_getElem? (i := 35) rfl))))))
theorem qM_236 : Cond.code yX9_round cX9_round 7 none ∈ WM := List.mem_append_right _ (List.mem_append_right _ (List.mem_append_right _ (List.mem_append_right _ (List.mem_append_right _ (List.mem_append_left _ (List.mem_of_getElem? (i := 36) rfl))))))
theorem qM_237 : Cond.fieldLink RX9 81 "DistanceSolverModel" "openAtom" "[I" ∈ WM := List.mem_append_right _ (List.mem_append_right _ (List.mem_append_right _ (List.mem_append_right _ (List.mem_append_right _ (List.mem_append_left _ (List.mem_of_getElem? (i := 37) rfl))))))
theorem qM_238 : Cond.fieldLink RX9 84 "DistanceSolverModel" "isSecond" "[Z" ∈ WM := List.mem_append_right _ (List.mem_append_right _ (List.mem_append_right _ (List.mem_append_right _ (List.mem_append_right _ (List.mem_append_left _ (List.mem_of_getElem? (i := 38) rfl))))))
theorem qM_239 : Cond.methodLink RX9 322 yX9_round ∈ WM := List.mem_append_right _ (List.mem_append_right _ (List.mem_append_right _ (List.mem_append_right _ (List.mem_append_right _ (List.mem_append_left _ (List.mem_of_getElem? (i := 39) rfl))))))
theorem qM_240 : Cond.instanceMethod yX9_round ∈ WM := List.mem_append_right _ (List.mem_append_right _ (List.mem_append_right _ (List.mem_append_right _ (List.mem_append_right _ (List.mem_append_right _ (List.mem_append_left _ (List.mem_of_getElem? (i := 0) rfl)))))))
theorem qM_241 : Cond.selects RX9 yX9_round yX9_round ∈ WM := List.mem_append_right _ (List.mem_append_right _ (List.mem_append_right _ (List.mem_append_right _ (List.mem_append_right _ (List.mem_append_right _ (List.mem_append_left _ (List.mem_of_getElem? (i := 1) rfl)))))))
theorem qM_242 : Cond.code yX9_leaf cX9_leaf 4 (some .boolean) ∈ WM := List.mem_append_right _ (List.mem_append_right _ (List.mem_append_right _ (List.mem_append_right _ (List.mem_append_right _ (List.mem_append_right _ (List.mem_append_left _ (List.mem_of_getElem? (i := 2) rfl)))))))
theorem qM_243 : Cond.methodLink RX9 325 yX9_leaf ∈ WM := List.mem_append_right _ (List.mem_append_right _ (List.mem_append_right _ (List.mem_append_right _ (List.mem_append_right _ (List.mem_append_right _ (List.mem_append_left _ (List.mem_of_getElem? (i := 3) rfl)))))))
theorem qM_244 : Cond.instanceMethod yX9_leaf ∈ WM := List.mem_append_right _ (List.mem_append_right _ (List.mem_append_right _ (List.mem_append_right _ (List.mem_append_right _ (List.mem_append_right _ (List.mem_append_left _ (List.mem_of_getElem? (i := 4) rfl)))))))
theorem qM_245 : Cond.selects RX9 yX9_leaf yX9_leaf ∈ WM := List.mem_append_right _ (List.mem_append_right _ (List.mem_append_right _ (List.mem_append_right _ (List.mem_append_right _ (List.mem_append_right _ (List.mem_append_left _ (List.mem_of_getElem? (i := 5) rfl)))))))
theorem qM_246 : Cond.code yX9_goThrough cX9_goThrough 4 none ∈ WM := List.mem_append_right _ (List.mem_append_right _ (List.mem_append_right _ (List.mem_append_right _ (List.mem_append_right _ (List.mem_append_right _ (List.mem_append_left _ (List.mem_of_getElem? (i := 6) rfl)))))))
theorem qM_247 : Cond.methodLink RX9 328 yX9_goThrough ∈ WM := List.mem_append_right _ (List.mem_append_right _ (List.mem_append_right _ (List.mem_append_right _ (List.mem_append_right _ (List.mem_append_right _ (List.mem_append_left _ (List.mem_of_getElem? (i := 7) rfl)))))))
theorem qM_248 : Cond.instanceMethod yX9_goThrough ∈ WM := List.mem_append_right _ (List.mem_append_right _ (List.mem_append_right _ (List.mem_append_right _ (List.mem_append_right _ (List.mem_append_right _ (List.mem_append_left _ (List.mem_of_getElem? (i := 8) rfl)))))))
theorem qM_249 : Cond.selects RX9 yX9_goThrough yX9_goThrough ∈ WM := List.mem_append_right _ (List.mem_append_right _ (List.mem_append_right _ (List.mem_append_right _ (List.mem_append_right _ (List.mem_append_right _ (List.mem_append_left _ (List.mem_of_getElem? (i := 9) rfl)))))))
theorem qM_252 : Cond.constantLong RX9 331 (6) ∈ WM := List.mem_append_right _ (List.mem_append_right _ (List.mem_append_right _ (List.mem_append_right _ (List.mem_append_right _ (List.mem_append_right _ (List.mem_append_left _ (List.mem_of_getElem? (i := 12) rfl)))))))
abbrev vX9_init : List Cond := .code yX9_init cX9_init 1 none :: WM
abbrev vX9_thrown : List Cond := .code yX9_thrown cX9_thrown 1 (some .int) :: WM
abbrev vX9_isIn : List Cond := .code yX9_isIn cX9_isIn 6 (some .boolean) :: WM
abbrev vX9_may : List Cond := .code yX9_may cX9_may 4 (some .boolean) :: WM
abbrev vX9_isVariable : List Cond := .code yX9_isVariable cX9_isVariable 2 (some .boolean) :: WM
abbrev vX9_constraintsAlone : List Cond := .code yX9_constraintsAlone cX9_constraintsAlone 2 none :: WM
abbrev vX9_findLeast : List Cond := .code yX9_findLeast cX9_findLeast 7 none :: WM
abbrev vX9_findRow : List Cond := .code yX9_findRow cX9_findRow 11 (some .boolean) :: WM
abbrev vX9_add : List Cond := .code yX9_add cX9_add 5 (some .int) :: WM
abbrev vX9_push : List Cond := .code yX9_push cX9_push 1 (some .int) :: WM
abbrev vX9_pop : List Cond := .code yX9_pop cX9_pop 2 (some .int) :: WM
abbrev vX9_core : List Cond := .code yX9_core cX9_core 2 (some .int) :: WM
abbrev vX9_findValues : List Cond := .code yX9_findValues cX9_findValues 4 (some .boolean) :: WM
abbrev vX9_value : List Cond := .code yX9_value cX9_value 2 (some .long) :: WM
abbrev vX9_boundOf : List Cond := .code yX9_boundOf cX9_boundOf 6 (some .long) :: WM
abbrev vX9_bound : List Cond := .code yX9_bound cX9_bound 5 (some .long) :: WM
abbrev vX9_why : List Cond := .code yX9_why cX9_why 6 (some .int) :: WM
abbrev vX9_isIdle : List Cond := .code yX9_isIdle cX9_isIdle 2 (some .boolean) :: WM
abbrev vX9_constraint : List Cond := .code yX9_constraint cX9_constraint 5 (some .int) :: WM
abbrev vX9_feed : List Cond := .code yX9_feed cX9_feed 5 (some .int) :: WM
abbrev vX9_fail : List Cond := .code yX9_fail cX9_fail 2 none :: WM
abbrev vX9_byteAt : List Cond := .code yX9_byteAt cX9_byteAt 2 (some .int) :: WM
abbrev vX9_isFigure : List Cond := .code yX9_isFigure cX9_isFigure 1 (some .boolean) :: WM
abbrev vX9_next : List Cond := .code yX9_next cX9_next 3 none :: WM
abbrev vX9_signToken : List Cond := .code yX9_signToken cX9_signToken 3 none :: WM
abbrev vX9_sign : List Cond := .code yX9_sign cX9_sign 2 (some .boolean) :: WM
abbrev vX9_put : List Cond := .code yX9_put cX9_put 2 none :: WM
abbrev vX9_opened : List Cond := .code yX9_opened cX9_opened 1 none :: WM
abbrev vX9_await1 : List Cond := .code yX9_await1 cX9_await1 2 none :: WM
abbrev vX9_atMost : List Cond := .code yX9_atMost cX9_atMost 9 none :: WM
abbrev vX9_comparison : List Cond := .code yX9_comparison cX9_comparison 6 none :: WM
abbrev vX9_difference : List Cond := .code yX9_difference cX9_difference 6 none :: WM
abbrev vX9_done : List Cond := .code yX9_done cX9_done 2 none :: WM
abbrev vX9_doneTo : List Cond := .code yX9_doneTo cX9_doneTo 2 none :: WM
abbrev vX9_unit : List Cond := .code yX9_unit cX9_unit 1 (some .boolean) :: WM
abbrev vX9_behindUnit : List Cond := .code yX9_behindUnit cX9_behindUnit 3 none :: WM
abbrev vX9_read : List Cond := .code yX9_read cX9_read 2 (some .int) :: WM
abbrev vX9_fault : List Cond := .code yX9_fault cX9_fault 1 (some .int) :: WM
abbrev vX9_atom : List Cond := .code yX9_atom cX9_atom 3 (some .int) :: WM
abbrev vX9_judged : List Cond := .code yX9_judged cX9_judged 7 (some .int) :: WM
abbrev vX9_putDifference : List Cond := .code yX9_putDifference cX9_putDifference 3 none :: WM
abbrev vX9_isWay : List Cond := .code yX9_isWay cX9_isWay 3 (some .boolean) :: WM
abbrev vX9_rows : List Cond := .code yX9_rows cX9_rows 1 (some .int) :: WM
abbrev vX9_ways : List Cond := .code yX9_ways cX9_ways 3 (some .int) :: WM
abbrev vX9_way : List Cond := .code yX9_way cX9_way 3 (some .int) :: WM
abbrev vX9_valueIn : List Cond := .code yX9_valueIn cX9_valueIn 3 (some .long) :: WM
abbrev vX9_must : List Cond := .code yX9_must cX9_must 6 (some .int) :: WM
abbrev vX9_write : List Cond := .code yX9_write cX9_write 2 none :: WM
abbrev vX9_writeItem : List Cond := .code yX9_writeItem cX9_writeItem 2 none :: WM
abbrev vX9_isRefused : List Cond := .code yX9_isRefused cX9_isRefused 3 (some .boolean) :: WM
abbrev vX9_writeLeaf : List Cond := .code yX9_writeLeaf cX9_writeLeaf 3 (some .boolean) :: WM
abbrev vX9_writeProof : List Cond := .code yX9_writeProof cX9_writeProof 3 none :: WM
abbrev vX9_prove : List Cond := .code yX9_prove cX9_prove 1 (some .int) :: WM
abbrev vX9_written : List Cond := .code yX9_written cX9_written 2 (some .int) :: WM
abbrev vX9_here : List Cond := .code yX9_here cX9_here 1 (some .int) :: WM
abbrev vX9_wrong : List Cond := .code yX9_wrong cX9_wrong 2 none :: WM
abbrev vX9_item : List Cond := .code yX9_item cX9_item 5 none :: WM
abbrev vX9_takeItem : List Cond := .code yX9_takeItem cX9_takeItem 2 none :: WM
abbrev vX9_round : List Cond := .code yX9_round cX9_round 7 none :: WM
abbrev vX9_leaf : List Cond := .code yX9_leaf cX9_leaf 4 (some .boolean) :: WM
abbrev vX9_goThrough : List Cond := .code yX9_goThrough cX9_goThrough 4 none :: WM
abbrev vX9_check : List Cond := .code yX9_check cX9_check 3 (some .int) :: WM
abbrev vX9_told : List Cond := .code yX9_told cX9_told 2 (some .int) :: WM
abbrev vX9_clear : List Cond := .code yX9_clear cX9_clear 1 none :: WM
