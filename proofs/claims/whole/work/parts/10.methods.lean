theorem pw_tb (i : Nat) {w : Cond} (h : tables_1[i]? = some w) (hg : goodWord w = true) : w ∈ pw_ws := List.mem_filter.mpr ⟨List.mem_append_right _ (List.mem_of_getElem? h), hg⟩
theorem pw_tp (i : Nat) {w : Cond} (h : (k2_sels lw_privs)[i]? = some w) (hg : goodWord w = true) : w ∈ pw_ws := List.mem_filter.mpr ⟨List.mem_append_left _ (List.mem_of_getElem? h), hg⟩
section PWF
variable {M' : pw_M} {own : String} {idx n : Nat}
def pw_mb (M' : pw_M) (n : Nat) : Prop := Cond.initialized (pw_y M').cls ∈ pw_ws ∧ Cond.code (pw_y M') (pw_cc M') (pw_mL M') (pw_rt M') ∈ pw_ws ∧ plainName (pw_y M').cls = true ∧ ((pw_y M').cls ≠ "java/lang/invoke/MethodHandle" ∧ (pw_y M').cls ≠ "java/lang/invoke/VarHandle" ∧ (parseMethodDescriptor (pw_y M').desc).map (fun d => d.parameters.length) = some n)
abbrev pw_mv (M' : pw_M) (n : Nat) : Prop := Cond.instanceMethod (pw_y M') ∈ pw_ws ∧ Cond.selects (pw_y M').cls (pw_y M') (pw_y M') ∈ pw_ws ∧ Cond.initialized (pw_y M').cls ∈ pw_ws ∧ Cond.code (pw_y M') (pw_cc M') (pw_mL M') (pw_rt M') ∈ pw_ws ∧ plainName (pw_y M').cls = true ∧ ((pw_y M').cls ≠ "java/lang/invoke/MethodHandle" ∧ (pw_y M').cls ≠ "java/lang/invoke/VarHandle" ∧ (parseMethodDescriptor (pw_y M').desc).map (fun d => d.parameters.length) = some n)
abbrev pw_ms (M' : pw_M) (n : Nat) : Prop := Cond.static (pw_y M') ∈ pw_ws ∧ Cond.initialized (pw_y M').cls ∈ pw_ws ∧ Cond.code (pw_y M') (pw_cc M') (pw_mL M') (pw_rt M') ∈ pw_ws ∧ plainName (pw_y M').cls = true ∧ ((pw_y M').cls ≠ "java/lang/invoke/MethodHandle" ∧ (pw_y M').cls ≠ "java/lang/invoke/VarHandle" ∧ (parseMethodDescriptor (pw_y M').desc).map (fun d => d.parameters.length) = some n)
theorem pw_good1 {w : Cond} (h : w ∈ pw_ws) : w ∈ pw_ws ∧ ((w.onTables && w.keeps) = true ∨ ∃ ty, w = .arrayClass ty) := pw_ws_good w h
theorem pw_cv_of (h1 : Cond.methodLink own idx (pw_y M') ∈ pw_ws) (h : pw_mv M' n) : pw_cv own idx M' n := by
  refine ⟨fun w hw => pw_good1 ?_, h.2.2.2.2⟩
  simp only [wsV, pw_wd, List.mem_append, List.mem_cons, List.not_mem_nil, or_false] at hw
  rcases hw with (rfl | rfl | rfl | rfl) | rfl | hw
  · exact h1
  · exact h.1
  · exact h.2.1
  · exact h.2.2.1
  · exact h.2.2.2.1
  · exact hw
theorem pw_cs_of (h1 : Cond.methodLink own idx (pw_y M') ∈ pw_ws) (h : pw_ms M' n) : pw_cs own idx M' n := by
  refine ⟨fun w hw => pw_good1 ?_, h.2.2.2⟩
  simp only [va_wsS, pw_wd, List.mem_append, List.mem_cons, List.not_mem_nil, or_false] at hw
  rcases hw with (rfl | rfl | rfl) | rfl | hw
  · exact h1
  · exact h.1
  · exact h.2.1
  · exact h.2.2.1
  · exact hw
theorem pw_cn_of (h : pw_ms M' n) : pw_cn own idx M' n := by
  refine ⟨⟨fun w hw => pw_good1 ?_, h.1, h.2.1⟩, h.2.2.2⟩
  simp only [pw_wd, List.mem_cons] at hw
  rcases hw with rfl | hw
  · exact h.2.2.1
  · exact hw
end PWF
/-! the methods: name, code, locals, answer, frames, words, cells; what the tables say of each link (written by wip/gen/gen.py) -/
def mX4_checkedWord : pw_M := (yX4_checkedWord, cX4_checkedWord, 2, some .int, 6, 90, 1)
def mX3_markOf : pw_M := (yX3_markOf, cX3_markOf, 2, some .int, 0, 0, 0)
def mX3_take : pw_M := (yX3_take, cX3_take, 4, some .boolean, 0, 0, 0)
def mX4_teach : pw_M := (yX4_teach, cX4_teach, 6, some .boolean, 7, 111, 2)
def mX4_told : pw_M := (yX4_told, cX4_told, 3, some .int, 7, 111, 1)
def mX3_count : pw_M := (yX3_count, cX3_count, 1, some .int, 0, 0, 0)
def mX4_size : pw_M := (yX4_size, cX4_size, 1, some .int, 1, 20, 0)
def mJ7_fill_53178 : pw_M := (yJ7_fill_53178, cJ7_fill_53178, 4, none, 0, 0, 0)
def mX3_clear : pw_M := (yX3_clear, cX3_clear, 1, none, 1, 23, 0)
def mX4_forget : pw_M := (yX4_forget, cX4_forget, 1, none, 2, 43, 0)
def mX2_plantTree : pw_M := (yX2_plantTree, cX2_plantTree, 4, none, 1, 23, 0)
def mX2_redden : pw_M := (yX2_redden, cX2_redden, 3, none, 0, 0, 0)
def mX2_leadsToBlue : pw_M := (yX2_leadsToBlue, cX2_leadsToBlue, 2, some .boolean, 0, 0, 0)
def mX2_nameBehind : pw_M := (yX2_nameBehind, cX2_nameBehind, 2, some .int, 0, 0, 0)
def mX2_firstArrowToBlue : pw_M := (yX2_firstArrowToBlue, cX2_firstArrowToBlue, 5, some .int, 1, 21, 0)
def mX2_addPair : pw_M := (yX2_addPair, cX2_addPair, 3, none, 0, 0, 0)
def mX2_takeBack : pw_M := (yX2_takeBack, cX2_takeBack, 2, none, 0, 0, 0)
def mX2_layArrowOver : pw_M := (yX2_layArrowOver, cX2_layArrowOver, 3, none, 1, 22, 0)
def mX2_layOver : pw_M := (yX2_layOver, cX2_layOver, 4, none, 2, 44, 0)
def mX2_merges : pw_M := (yX2_merges, cX2_merges, 5, some .boolean, 3, 67, 0)
def mX2_settle : pw_M := (yX2_settle, cX2_settle, 3, none, 4, 91, 0)
def mX0_resize : pw_M := (yX0_resize, cX0_resize, 2, none, 0, 0, 0)
def mX0_put : pw_M := (yX0_put, cX0_put, 5, none, 0, 0, 0)
def mX2_writeTo : pw_M := (yX2_writeTo, cX2_writeTo, 4, none, 1, 24, 0)
def mX2_run : pw_M := (yX2_run, cX2_run, 5, none, 5, 113, 0)
def mX0_count : pw_M := (yX0_count, cX0_count, 1, some .int, 0, 0, 0)
def mX4_learn : pw_M := (yX4_learn, cX4_learn, 1, some .int, 6, 137, 0)
def mX4_states : pw_M := (yX4_states, cX4_states, 1, some .int, 1, 20, 0)
def mX0_has : pw_M := (yX0_has, cX0_has, 2, some .boolean, 0, 0, 0)
def mX4_checkState : pw_M := (yX4_checkState, cX4_checkState, 2, none, 6, 90, 1)
def mX0_arrow : pw_M := (yX0_arrow, cX0_arrow, 3, some .int, 0, 0, 0)
def mX4_next : pw_M := (yX4_next, cX4_next, 3, some .int, 7, 111, 2)
def mX0_markOf : pw_M := (yX0_markOf, cX0_markOf, 2, some .int, 0, 0, 0)
def mX4_sign : pw_M := (yX4_sign, cX4_sign, 2, some .int, 7, 111, 1)
def mX4_checkLearned : pw_M := (yX4_checkLearned, cX4_checkLearned, 1, none, 6, 90, 1)
def mX4_lengthOf : pw_M := (yX4_lengthOf, cX4_lengthOf, 2, some .int, 0, 0, 0)
def mX0_walk : pw_M := (yX0_walk, cX0_walk, 5, some .int, 1, 22, 0)
def mX4_accepts : pw_M := (yX4_accepts, cX4_accepts, 5, some .boolean, 7, 111, 2)
def mX1_splitBy : pw_M := (yX1_splitBy, cX1_splitBy, 4, none, 2, 46, 0)
def mX1_findSplitters : pw_M := (yX1_findSplitters, cX1_findSplitters, 2, none, 3, 69, 0)
def mX1_splitterOfDrawn : pw_M := (yX1_splitterOfDrawn, cX1_splitterOfDrawn, 3, some .int, 0, 0, 0)
def mX1_openClass : pw_M := (yX1_openClass, cX1_openClass, 5, none, 1, 22, 0)
def mX1_findClasses : pw_M := (yX1_findClasses, cX1_findClasses, 3, none, 2, 46, 0)
def mX1_reduce : pw_M := (yX1_reduce, cX1_reduce, 3, none, 4, 90, 0)
def mX1_begin : pw_M := (yX1_begin, cX1_begin, 3, none, 5, 112, 0)
def mX4_draft : pw_M := (yX4_draft, cX4_draft, 2, none, 6, 134, 1)
def mX1_drawn : pw_M := (yX1_drawn, cX1_drawn, 1, some (.object "WordClassLearner$Automaton"), 0, 0, 0)
def mX4_checkDrafted : pw_M := (yX4_checkDrafted, cX4_checkDrafted, 1, none, 6, 90, 1)
def mX1_change : pw_M := (yX1_change, cX1_change, 5, none, 5, 112, 0)
def mX4_define : pw_M := (yX4_define, cX4_define, 5, none, 7, 136, 4)
def mX1_reduced : pw_M := (yX1_reduced, cX1_reduced, 1, some (.object "WordClassLearner$Automaton"), 0, 0, 0)
def mX4_least : pw_M := (yX4_least, cX4_least, 1, some .int, 7, 110, 1)
def mX1_nameOf : pw_M := (yX1_nameOf, cX1_nameOf, 2, some .int, 0, 0, 0)
def mX4_codeOf : pw_M := (yX4_codeOf, cX4_codeOf, 2, some .int, 1, 21, 0)
def mX4_name : pw_M := (yX4_name, cX4_name, 2, some .int, 7, 111, 2)
def mX1_splitterOf : pw_M := (yX1_splitterOf, cX1_splitterOf, 3, some .int, 1, 22, 0)
def mX4_apart : pw_M := (yX4_apart, cX4_apart, 3, some .int, 7, 111, 3)
def mX1_addExample : pw_M := (yX1_addExample, cX1_addExample, 2, none, 2, 46, 0)
def mX4_joined : pw_M := (yX4_joined, cX4_joined, 3, some .int, 1, 21, 0)
def mX1_addExamples : pw_M := (yX1_addExamples, cX1_addExamples, 5, none, 3, 67, 0)
def mX1_examples : pw_M := (yX1_examples, cX1_examples, 3, some (.array .int), 4, 91, 0)
def mX3_contradicts : pw_M := (yX3_contradicts, cX3_contradicts, 3, some .boolean, 0, 0, 0)
def mX3_takeAll : pw_M := (yX3_takeAll, cX3_takeAll, 4, some .int, 1, 23, 0)
def mX4_exemplify : pw_M := (yX4_exemplify, cX4_exemplify, 2, some .int, 7, 113, 2)
def mX0_isLike : pw_M := (yX0_isLike, cX0_isLike, 3, some .boolean, 1, 22, 0)
def mX4_same : pw_M := (yX4_same, cX4_same, 1, some .boolean, 7, 110, 2)
def mX5_thrown : pw_M := (yX5_thrown, cX5_thrown, 1, some .int, 0, 0, 0)
def mX5_when : pw_M := (yX5_when, cX5_when, 3, some .boolean, 0, 0, 0)
def mX5_isWord : pw_M := (yX5_isWord, cX5_isWord, 2, some .boolean, 0, 0, 0)
def mX5_number : pw_M := (yX5_number, cX5_number, 2, some .int, 0, 0, 0)
def mX5_lengthOf : pw_M := (yX5_lengthOf, cX5_lengthOf, 2, some .int, 0, 0, 0)
def mX5_lettersOf : pw_M := (yX5_lettersOf, cX5_lettersOf, 1, some .int, 1, 21, 0)
def mX5_followed : pw_M := (yX5_followed, cX5_followed, 2, some .int, 0, 0, 0)
def mX5_joined : pw_M := (yX5_joined, cX5_joined, 3, some .int, 2, 41, 0)
def mX5_given : pw_M := (yX5_given, cX5_given, 1, some .int, 2, 41, 0)
def mX5_teach : pw_M := (yX5_teach, cX5_teach, 7, some .boolean, 1, 22, 0)
def mX5_told : pw_M := (yX5_told, cX5_told, 3, some .int, 1, 22, 0)
def mX5_size : pw_M := (yX5_size, cX5_size, 1, some .int, 0, 0, 0)
def mX5_forget : pw_M := (yX5_forget, cX5_forget, 2, none, 0, 0, 0)
def mX5_begin : pw_M := (yX5_begin, cX5_begin, 2, none, 0, 0, 0)
def mX5_unite : pw_M := (yX5_unite, cX5_unite, 4, some .boolean, 0, 0, 0)
def mX5_findTwins : pw_M := (yX5_findTwins, cX5_findTwins, 5, some .boolean, 1, 21, 0)
def mX5_merge : pw_M := (yX5_merge, cX5_merge, 5, some .boolean, 2, 45, 0)
def mX5_redOf : pw_M := (yX5_redOf, cX5_redOf, 4, some .int, 0, 0, 0)
def mX5_findBlue : pw_M := (yX5_findBlue, cX5_findBlue, 5, some .boolean, 1, 23, 0)
def mX5_learn : pw_M := (yX5_learn, cX5_learn, 5, some .int, 3, 69, 0)
def mX5_states : pw_M := (yX5_states, cX5_states, 1, some .int, 0, 0, 0)
def mX5_isState : pw_M := (yX5_isState, cX5_isState, 2, some .boolean, 0, 0, 0)
def mX5_next : pw_M := (yX5_next, cX5_next, 3, some .int, 1, 22, 0)
def mX5_sign : pw_M := (yX5_sign, cX5_sign, 2, some .int, 1, 22, 0)
def mX5_accepts : pw_M := (yX5_accepts, cX5_accepts, 5, some .boolean, 1, 22, 0)
def mX5_draft : pw_M := (yX5_draft, cX5_draft, 3, none, 1, 22, 0)
def mX5_isDrafted : pw_M := (yX5_isDrafted, cX5_isDrafted, 2, some .boolean, 0, 0, 0)
def mX5_define : pw_M := (yX5_define, cX5_define, 5, none, 1, 22, 0)
def mX5_lead : pw_M := (yX5_lead, cX5_lead, 7, some .int, 2, 41, 0)
def mX5_setsApart : pw_M := (yX5_setsApart, cX5_setsApart, 4, some .int, 3, 67, 0)
def mX5_classOf : pw_M := (yX5_classOf, cX5_classOf, 4, some .int, 4, 90, 0)
def mX5_reduce : pw_M := (yX5_reduce, cX5_reduce, 3, none, 5, 113, 0)
def mX5_least : pw_M := (yX5_least, cX5_least, 1, some .int, 6, 135, 0)
def mX5_name : pw_M := (yX5_name, cX5_name, 2, some .int, 6, 135, 0)
def mX5_apart : pw_M := (yX5_apart, cX5_apart, 3, some .int, 6, 135, 0)
def mX5_want : pw_M := (yX5_want, cX5_want, 4, none, 4, 90, 0)
def mX5_characteristic : pw_M := (yX5_characteristic, cX5_characteristic, 5, none, 6, 135, 0)
def mX5_signOf : pw_M := (yX5_signOf, cX5_signOf, 2, some .int, 3, 67, 0)
def mX5_exemplify : pw_M := (yX5_exemplify, cX5_exemplify, 4, some .int, 7, 159, 0)
def mX5_same : pw_M := (yX5_same, cX5_same, 4, some .boolean, 6, 135, 0)
theorem ms_X4_checkedWord : pw_ms mX4_checkedWord 2 := ⟨(pw_tb 250 (by decide +kernel) (by decide +kernel)), (pw_tb 1 (by decide +kernel) (by decide +kernel)), (pw_tb 251 (by decide +kernel) (by decide +kernel)), by decide +kernel⟩
theorem mv_X3_markOf : pw_mv mX3_markOf 1 := ⟨(pw_tb 177 (by decide +kernel) (by decide +kernel)), (pw_tb 178 (by decide +kernel) (by decide +kernel)), (pw_tb 2 (by decide +kernel) (by decide +kernel)), (pw_tb 179 (by decide +kernel) (by decide +kernel)), by decide +kernel⟩
theorem mv_X3_take : pw_mv mX3_take 2 := ⟨(pw_tb 338 (by decide +kernel) (by decide +kernel)), (pw_tb 339 (by decide +kernel) (by decide +kernel)), (pw_tb 2 (by decide +kernel) (by decide +kernel)), (pw_tb 340 (by decide +kernel) (by decide +kernel)), by decide +kernel⟩
theorem mv_X3_count : pw_mv mX3_count 0 := ⟨(pw_tb 149 (by decide +kernel) (by decide +kernel)), (pw_tb 150 (by decide +kernel) (by decide +kernel)), (pw_tb 2 (by decide +kernel) (by decide +kernel)), (pw_tb 151 (by decide +kernel) (by decide +kernel)), by decide +kernel⟩
theorem ms_J7_fill_53178 : pw_ms mJ7_fill_53178 2 := ⟨(pw_tb 161 (by decide +kernel) (by decide +kernel)), (pw_tb 12 (by decide +kernel) (by decide +kernel)), (pw_tb 162 (by decide +kernel) (by decide +kernel)), by decide +kernel⟩
theorem mv_X3_clear : pw_mv mX3_clear 0 := ⟨(pw_tb 157 (by decide +kernel) (by decide +kernel)), (pw_tb 158 (by decide +kernel) (by decide +kernel)), (pw_tb 2 (by decide +kernel) (by decide +kernel)), (pw_tb 159 (by decide +kernel) (by decide +kernel)), by decide +kernel⟩
theorem mv_X2_leadsToBlue : pw_mv mX2_leadsToBlue 1 := ⟨(pw_tb 190 (by decide +kernel) (by decide +kernel)), (pw_tp 3 (by decide +kernel) (by decide +kernel)), (pw_tb 3 (by decide +kernel) (by decide +kernel)), (pw_tb 191 (by decide +kernel) (by decide +kernel)), by decide +kernel⟩
theorem mv_X2_nameBehind : pw_mv mX2_nameBehind 1 := ⟨(pw_tb 194 (by decide +kernel) (by decide +kernel)), (pw_tp 4 (by decide +kernel) (by decide +kernel)), (pw_tb 3 (by decide +kernel) (by decide +kernel)), (pw_tb 195 (by decide +kernel) (by decide +kernel)), by decide +kernel⟩
theorem mv_X2_addPair : pw_mv mX2_addPair 2 := ⟨(pw_tb 206 (by decide +kernel) (by decide +kernel)), (pw_tp 7 (by decide +kernel) (by decide +kernel)), (pw_tb 3 (by decide +kernel) (by decide +kernel)), (pw_tb 207 (by decide +kernel) (by decide +kernel)), by decide +kernel⟩
theorem mv_X2_layArrowOver : pw_mv mX2_layArrowOver 2 := ⟨(pw_tb 218 (by decide +kernel) (by decide +kernel)), (pw_tp 10 (by decide +kernel) (by decide +kernel)), (pw_tb 3 (by decide +kernel) (by decide +kernel)), (pw_tb 219 (by decide +kernel) (by decide +kernel)), by decide +kernel⟩
theorem mv_X2_takeBack : pw_mv mX2_takeBack 0 := ⟨(pw_tb 210 (by decide +kernel) (by decide +kernel)), (pw_tp 8 (by decide +kernel) (by decide +kernel)), (pw_tb 3 (by decide +kernel) (by decide +kernel)), (pw_tb 211 (by decide +kernel) (by decide +kernel)), by decide +kernel⟩
theorem mv_X2_layOver : pw_mv mX2_layOver 2 := ⟨(pw_tb 214 (by decide +kernel) (by decide +kernel)), (pw_tp 9 (by decide +kernel) (by decide +kernel)), (pw_tb 3 (by decide +kernel) (by decide +kernel)), (pw_tb 215 (by decide +kernel) (by decide +kernel)), by decide +kernel⟩
theorem mv_X2_merges : pw_mv mX2_merges 2 := ⟨(pw_tb 202 (by decide +kernel) (by decide +kernel)), (pw_tp 6 (by decide +kernel) (by decide +kernel)), (pw_tb 3 (by decide +kernel) (by decide +kernel)), (pw_tb 203 (by decide +kernel) (by decide +kernel)), by decide +kernel⟩
theorem mv_X2_redden : pw_mv mX2_redden 2 := ⟨(pw_tb 182 (by decide +kernel) (by decide +kernel)), (pw_tp 1 (by decide +kernel) (by decide +kernel)), (pw_tb 3 (by decide +kernel) (by decide +kernel)), (pw_tb 183 (by decide +kernel) (by decide +kernel)), by decide +kernel⟩
theorem mv_X0_resize : pw_mv mX0_resize 1 := ⟨(pw_tb 225 (by decide +kernel) (by decide +kernel)), (pw_tb 226 (by decide +kernel) (by decide +kernel)), (pw_tb 4 (by decide +kernel) (by decide +kernel)), (pw_tb 227 (by decide +kernel) (by decide +kernel)), by decide +kernel⟩
theorem mv_X0_put : pw_mv mX0_put 4 := ⟨(pw_tb 229 (by decide +kernel) (by decide +kernel)), (pw_tb 230 (by decide +kernel) (by decide +kernel)), (pw_tb 4 (by decide +kernel) (by decide +kernel)), (pw_tb 231 (by decide +kernel) (by decide +kernel)), by decide +kernel⟩
theorem mv_X2_plantTree : pw_mv mX2_plantTree 1 := ⟨(pw_tb 173 (by decide +kernel) (by decide +kernel)), (pw_tp 0 (by decide +kernel) (by decide +kernel)), (pw_tb 3 (by decide +kernel) (by decide +kernel)), (pw_tb 174 (by decide +kernel) (by decide +kernel)), by decide +kernel⟩
theorem mv_X2_firstArrowToBlue : pw_mv mX2_firstArrowToBlue 0 := ⟨(pw_tb 186 (by decide +kernel) (by decide +kernel)), (pw_tp 2 (by decide +kernel) (by decide +kernel)), (pw_tb 3 (by decide +kernel) (by decide +kernel)), (pw_tb 187 (by decide +kernel) (by decide +kernel)), by decide +kernel⟩
theorem mv_X2_settle : pw_mv mX2_settle 1 := ⟨(pw_tb 198 (by decide +kernel) (by decide +kernel)), (pw_tp 5 (by decide +kernel) (by decide +kernel)), (pw_tb 3 (by decide +kernel) (by decide +kernel)), (pw_tb 199 (by decide +kernel) (by decide +kernel)), by decide +kernel⟩
theorem mv_X2_writeTo : pw_mv mX2_writeTo 1 := ⟨(pw_tb 222 (by decide +kernel) (by decide +kernel)), (pw_tp 11 (by decide +kernel) (by decide +kernel)), (pw_tb 3 (by decide +kernel) (by decide +kernel)), (pw_tb 223 (by decide +kernel) (by decide +kernel)), by decide +kernel⟩
theorem mv_X2_run : pw_mv mX2_run 2 := ⟨(pw_tb 168 (by decide +kernel) (by decide +kernel)), (pw_tb 169 (by decide +kernel) (by decide +kernel)), (pw_tb 3 (by decide +kernel) (by decide +kernel)), (pw_tb 170 (by decide +kernel) (by decide +kernel)), by decide +kernel⟩
theorem mv_X0_count : pw_mv mX0_count 0 := ⟨(pw_tb 233 (by decide +kernel) (by decide +kernel)), (pw_tb 234 (by decide +kernel) (by decide +kernel)), (pw_tb 4 (by decide +kernel) (by decide +kernel)), (pw_tb 235 (by decide +kernel) (by decide +kernel)), by decide +kernel⟩
theorem mv_X0_has : pw_mv mX0_has 1 := ⟨(pw_tb 359 (by decide +kernel) (by decide +kernel)), (pw_tb 360 (by decide +kernel) (by decide +kernel)), (pw_tb 4 (by decide +kernel) (by decide +kernel)), (pw_tb 361 (by decide +kernel) (by decide +kernel)), by decide +kernel⟩
theorem ms_X4_checkState : pw_ms mX4_checkState 2 := ⟨(pw_tb 356 (by decide +kernel) (by decide +kernel)), (pw_tb 1 (by decide +kernel) (by decide +kernel)), (pw_tb 357 (by decide +kernel) (by decide +kernel)), by decide +kernel⟩
theorem mv_X0_arrow : pw_mv mX0_arrow 2 := ⟨(pw_tb 365 (by decide +kernel) (by decide +kernel)), (pw_tb 366 (by decide +kernel) (by decide +kernel)), (pw_tb 4 (by decide +kernel) (by decide +kernel)), (pw_tb 367 (by decide +kernel) (by decide +kernel)), by decide +kernel⟩
theorem mv_X0_markOf : pw_mv mX0_markOf 1 := ⟨(pw_tb 376 (by decide +kernel) (by decide +kernel)), (pw_tb 377 (by decide +kernel) (by decide +kernel)), (pw_tb 4 (by decide +kernel) (by decide +kernel)), (pw_tb 378 (by decide +kernel) (by decide +kernel)), by decide +kernel⟩
theorem ms_X4_lengthOf : pw_ms mX4_lengthOf 1 := ⟨(pw_tb 396 (by decide +kernel) (by decide +kernel)), (pw_tb 1 (by decide +kernel) (by decide +kernel)), (pw_tb 397 (by decide +kernel) (by decide +kernel)), by decide +kernel⟩
theorem mv_X4_checkLearned : pw_mv mX4_checkLearned 0 := ⟨(pw_tb 388 (by decide +kernel) (by decide +kernel)), (pw_tp 13 (by decide +kernel) (by decide +kernel)), (pw_tb 1 (by decide +kernel) (by decide +kernel)), (pw_tb 389 (by decide +kernel) (by decide +kernel)), by decide +kernel⟩
theorem mv_X0_walk : pw_mv mX0_walk 2 := ⟨(pw_tb 392 (by decide +kernel) (by decide +kernel)), (pw_tb 393 (by decide +kernel) (by decide +kernel)), (pw_tb 4 (by decide +kernel) (by decide +kernel)), (pw_tb 394 (by decide +kernel) (by decide +kernel)), by decide +kernel⟩
theorem mv_X1_splitBy : pw_mv mX1_splitBy 1 := ⟨(pw_tb 440 (by decide +kernel) (by decide +kernel)), (pw_tp 16 (by decide +kernel) (by decide +kernel)), (pw_tb 5 (by decide +kernel) (by decide +kernel)), (pw_tb 441 (by decide +kernel) (by decide +kernel)), by decide +kernel⟩
theorem mv_X1_splitterOfDrawn : pw_mv mX1_splitterOfDrawn 2 := ⟨(pw_tb 455 (by decide +kernel) (by decide +kernel)), (pw_tp 19 (by decide +kernel) (by decide +kernel)), (pw_tb 5 (by decide +kernel) (by decide +kernel)), (pw_tb 456 (by decide +kernel) (by decide +kernel)), by decide +kernel⟩
theorem mv_X1_openClass : pw_mv mX1_openClass 2 := ⟨(pw_tb 451 (by decide +kernel) (by decide +kernel)), (pw_tp 18 (by decide +kernel) (by decide +kernel)), (pw_tb 5 (by decide +kernel) (by decide +kernel)), (pw_tb 452 (by decide +kernel) (by decide +kernel)), by decide +kernel⟩
theorem mv_X1_findSplitters : pw_mv mX1_findSplitters 0 := ⟨(pw_tb 435 (by decide +kernel) (by decide +kernel)), (pw_tp 15 (by decide +kernel) (by decide +kernel)), (pw_tb 5 (by decide +kernel) (by decide +kernel)), (pw_tb 436 (by decide +kernel) (by decide +kernel)), by decide +kernel⟩
theorem mv_X1_findClasses : pw_mv mX1_findClasses 0 := ⟨(pw_tb 447 (by decide +kernel) (by decide +kernel)), (pw_tp 17 (by decide +kernel) (by decide +kernel)), (pw_tb 5 (by decide +kernel) (by decide +kernel)), (pw_tb 448 (by decide +kernel) (by decide +kernel)), by decide +kernel⟩
theorem mv_X1_reduce : pw_mv mX1_reduce 0 := ⟨(pw_tb 431 (by decide +kernel) (by decide +kernel)), (pw_tp 14 (by decide +kernel) (by decide +kernel)), (pw_tb 5 (by decide +kernel) (by decide +kernel)), (pw_tb 432 (by decide +kernel) (by decide +kernel)), by decide +kernel⟩
theorem mv_X1_begin : pw_mv mX1_begin 1 := ⟨(pw_tb 424 (by decide +kernel) (by decide +kernel)), (pw_tb 425 (by decide +kernel) (by decide +kernel)), (pw_tb 5 (by decide +kernel) (by decide +kernel)), (pw_tb 426 (by decide +kernel) (by decide +kernel)), by decide +kernel⟩
theorem mv_X1_drawn : pw_mv mX1_drawn 0 := ⟨(pw_tb 470 (by decide +kernel) (by decide +kernel)), (pw_tb 471 (by decide +kernel) (by decide +kernel)), (pw_tb 5 (by decide +kernel) (by decide +kernel)), (pw_tb 472 (by decide +kernel) (by decide +kernel)), by decide +kernel⟩
theorem mv_X4_checkDrafted : pw_mv mX4_checkDrafted 0 := ⟨(pw_tb 467 (by decide +kernel) (by decide +kernel)), (pw_tp 20 (by decide +kernel) (by decide +kernel)), (pw_tb 1 (by decide +kernel) (by decide +kernel)), (pw_tb 468 (by decide +kernel) (by decide +kernel)), by decide +kernel⟩
theorem mv_X1_change : pw_mv mX1_change 4 := ⟨(pw_tb 475 (by decide +kernel) (by decide +kernel)), (pw_tb 476 (by decide +kernel) (by decide +kernel)), (pw_tb 5 (by decide +kernel) (by decide +kernel)), (pw_tb 477 (by decide +kernel) (by decide +kernel)), by decide +kernel⟩
theorem mv_X1_reduced : pw_mv mX1_reduced 0 := ⟨(pw_tb 486 (by decide +kernel) (by decide +kernel)), (pw_tb 487 (by decide +kernel) (by decide +kernel)), (pw_tb 5 (by decide +kernel) (by decide +kernel)), (pw_tb 488 (by decide +kernel) (by decide +kernel)), by decide +kernel⟩
theorem mv_X1_nameOf : pw_mv mX1_nameOf 1 := ⟨(pw_tb 497 (by decide +kernel) (by decide +kernel)), (pw_tb 498 (by decide +kernel) (by decide +kernel)), (pw_tb 5 (by decide +kernel) (by decide +kernel)), (pw_tb 499 (by decide +kernel) (by decide +kernel)), by decide +kernel⟩
theorem ms_X4_codeOf : pw_ms mX4_codeOf 1 := ⟨(pw_tb 501 (by decide +kernel) (by decide +kernel)), (pw_tb 1 (by decide +kernel) (by decide +kernel)), (pw_tb 502 (by decide +kernel) (by decide +kernel)), by decide +kernel⟩
theorem mv_X1_splitterOf : pw_mv mX1_splitterOf 2 := ⟨(pw_tb 512 (by decide +kernel) (by decide +kernel)), (pw_tb 513 (by decide +kernel) (by decide +kernel)), (pw_tb 5 (by decide +kernel) (by decide +kernel)), (pw_tb 514 (by decide +kernel) (by decide +kernel)), by decide +kernel⟩
theorem mv_X1_addExample : pw_mv mX1_addExample 1 := ⟨(pw_tb 532 (by decide +kernel) (by decide +kernel)), (pw_tp 22 (by decide +kernel) (by decide +kernel)), (pw_tb 5 (by decide +kernel) (by decide +kernel)), (pw_tb 533 (by decide +kernel) (by decide +kernel)), by decide +kernel⟩
theorem ms_X4_joined : pw_ms mX4_joined 2 := ⟨(pw_tb 536 (by decide +kernel) (by decide +kernel)), (pw_tb 1 (by decide +kernel) (by decide +kernel)), (pw_tb 537 (by decide +kernel) (by decide +kernel)), by decide +kernel⟩
theorem mv_X1_addExamples : pw_mv mX1_addExamples 2 := ⟨(pw_tb 528 (by decide +kernel) (by decide +kernel)), (pw_tp 21 (by decide +kernel) (by decide +kernel)), (pw_tb 5 (by decide +kernel) (by decide +kernel)), (pw_tb 529 (by decide +kernel) (by decide +kernel)), by decide +kernel⟩
theorem mv_X1_examples : pw_mv mX1_examples 0 := ⟨(pw_tb 523 (by decide +kernel) (by decide +kernel)), (pw_tb 524 (by decide +kernel) (by decide +kernel)), (pw_tb 5 (by decide +kernel) (by decide +kernel)), (pw_tb 525 (by decide +kernel) (by decide +kernel)), by decide +kernel⟩
theorem mv_X3_contradicts : pw_mv mX3_contradicts 1 := ⟨(pw_tb 539 (by decide +kernel) (by decide +kernel)), (pw_tb 540 (by decide +kernel) (by decide +kernel)), (pw_tb 2 (by decide +kernel) (by decide +kernel)), (pw_tb 541 (by decide +kernel) (by decide +kernel)), by decide +kernel⟩
theorem mv_X3_takeAll : pw_mv mX3_takeAll 1 := ⟨(pw_tb 544 (by decide +kernel) (by decide +kernel)), (pw_tb 545 (by decide +kernel) (by decide +kernel)), (pw_tb 2 (by decide +kernel) (by decide +kernel)), (pw_tb 546 (by decide +kernel) (by decide +kernel)), by decide +kernel⟩
theorem mv_X0_isLike : pw_mv mX0_isLike 1 := ⟨(pw_tb 556 (by decide +kernel) (by decide +kernel)), (pw_tb 557 (by decide +kernel) (by decide +kernel)), (pw_tb 4 (by decide +kernel) (by decide +kernel)), (pw_tb 558 (by decide +kernel) (by decide +kernel)), by decide +kernel⟩
theorem ms_X5_lengthOf : pw_ms mX5_lengthOf 1 := ⟨(pw_tb 751 (by decide +kernel) (by decide +kernel)), (pw_tb 6 (by decide +kernel) (by decide +kernel)), (pw_tb 752 (by decide +kernel) (by decide +kernel)), by decide +kernel⟩
theorem ms_X5_lettersOf : pw_ms mX5_lettersOf 1 := ⟨(pw_tb 754 (by decide +kernel) (by decide +kernel)), (pw_tb 6 (by decide +kernel) (by decide +kernel)), (pw_tb 755 (by decide +kernel) (by decide +kernel)), by decide +kernel⟩
theorem ms_X5_number : pw_ms mX5_number 2 := ⟨(pw_tb 661 (by decide +kernel) (by decide +kernel)), (pw_tb 6 (by decide +kernel) (by decide +kernel)), (pw_tb 662 (by decide +kernel) (by decide +kernel)), by decide +kernel⟩
theorem ms_X5_isWord : pw_ms mX5_isWord 2 := ⟨(pw_tb 654 (by decide +kernel) (by decide +kernel)), (pw_tb 6 (by decide +kernel) (by decide +kernel)), (pw_tb 655 (by decide +kernel) (by decide +kernel)), by decide +kernel⟩
theorem mv_X5_when : pw_mv mX5_when 2 := ⟨(pw_tb 658 (by decide +kernel) (by decide +kernel)), (pw_tp 23 (by decide +kernel) (by decide +kernel)), (pw_tb 6 (by decide +kernel) (by decide +kernel)), (pw_tb 659 (by decide +kernel) (by decide +kernel)), by decide +kernel⟩
theorem ms_X5_followed : pw_ms mX5_followed 2 := ⟨(pw_tb 692 (by decide +kernel) (by decide +kernel)), (pw_tb 6 (by decide +kernel) (by decide +kernel)), (pw_tb 693 (by decide +kernel) (by decide +kernel)), by decide +kernel⟩
theorem mv_X5_unite : pw_mv mX5_unite 2 := ⟨(pw_tb 700 (by decide +kernel) (by decide +kernel)), (pw_tp 28 (by decide +kernel) (by decide +kernel)), (pw_tb 6 (by decide +kernel) (by decide +kernel)), (pw_tb 701 (by decide +kernel) (by decide +kernel)), by decide +kernel⟩
theorem mv_X5_findTwins : pw_mv mX5_findTwins 0 := ⟨(pw_tb 704 (by decide +kernel) (by decide +kernel)), (pw_tp 29 (by decide +kernel) (by decide +kernel)), (pw_tb 6 (by decide +kernel) (by decide +kernel)), (pw_tb 705 (by decide +kernel) (by decide +kernel)), by decide +kernel⟩
theorem mv_X5_redOf : pw_mv mX5_redOf 1 := ⟨(pw_tb 689 (by decide +kernel) (by decide +kernel)), (pw_tp 26 (by decide +kernel) (by decide +kernel)), (pw_tb 6 (by decide +kernel) (by decide +kernel)), (pw_tb 690 (by decide +kernel) (by decide +kernel)), by decide +kernel⟩
theorem mv_X5_begin : pw_mv mX5_begin 0 := ⟨(pw_tb 681 (by decide +kernel) (by decide +kernel)), (pw_tp 24 (by decide +kernel) (by decide +kernel)), (pw_tb 6 (by decide +kernel) (by decide +kernel)), (pw_tb 682 (by decide +kernel) (by decide +kernel)), by decide +kernel⟩
theorem mv_X5_findBlue : pw_mv mX5_findBlue 0 := ⟨(pw_tb 685 (by decide +kernel) (by decide +kernel)), (pw_tp 25 (by decide +kernel) (by decide +kernel)), (pw_tb 6 (by decide +kernel) (by decide +kernel)), (pw_tb 686 (by decide +kernel) (by decide +kernel)), by decide +kernel⟩
theorem mv_X5_merge : pw_mv mX5_merge 2 := ⟨(pw_tb 696 (by decide +kernel) (by decide +kernel)), (pw_tp 27 (by decide +kernel) (by decide +kernel)), (pw_tb 6 (by decide +kernel) (by decide +kernel)), (pw_tb 697 (by decide +kernel) (by decide +kernel)), by decide +kernel⟩
theorem mv_X5_isState : pw_mv mX5_isState 1 := ⟨(pw_tb 716 (by decide +kernel) (by decide +kernel)), (pw_tp 30 (by decide +kernel) (by decide +kernel)), (pw_tb 6 (by decide +kernel) (by decide +kernel)), (pw_tb 717 (by decide +kernel) (by decide +kernel)), by decide +kernel⟩
theorem mv_X5_isDrafted : pw_mv mX5_isDrafted 1 := ⟨(pw_tb 736 (by decide +kernel) (by decide +kernel)), (pw_tp 31 (by decide +kernel) (by decide +kernel)), (pw_tb 6 (by decide +kernel) (by decide +kernel)), (pw_tb 737 (by decide +kernel) (by decide +kernel)), by decide +kernel⟩
theorem mv_X5_lead : pw_mv mX5_lead 2 := ⟨(pw_tb 748 (by decide +kernel) (by decide +kernel)), (pw_tp 33 (by decide +kernel) (by decide +kernel)), (pw_tb 6 (by decide +kernel) (by decide +kernel)), (pw_tb 749 (by decide +kernel) (by decide +kernel)), by decide +kernel⟩
theorem mv_X5_setsApart : pw_mv mX5_setsApart 2 := ⟨(pw_tb 762 (by decide +kernel) (by decide +kernel)), (pw_tp 35 (by decide +kernel) (by decide +kernel)), (pw_tb 6 (by decide +kernel) (by decide +kernel)), (pw_tb 763 (by decide +kernel) (by decide +kernel)), by decide +kernel⟩
theorem mv_X5_classOf : pw_mv mX5_classOf 1 := ⟨(pw_tb 758 (by decide +kernel) (by decide +kernel)), (pw_tp 34 (by decide +kernel) (by decide +kernel)), (pw_tb 6 (by decide +kernel) (by decide +kernel)), (pw_tb 759 (by decide +kernel) (by decide +kernel)), by decide +kernel⟩
theorem mv_X5_reduce : pw_mv mX5_reduce 0 := ⟨(pw_tb 744 (by decide +kernel) (by decide +kernel)), (pw_tp 32 (by decide +kernel) (by decide +kernel)), (pw_tb 6 (by decide +kernel) (by decide +kernel)), (pw_tb 745 (by decide +kernel) (by decide +kernel)), by decide +kernel⟩
theorem ms_X5_given : pw_ms mX5_given 1 := ⟨(pw_tb 769 (by decide +kernel) (by decide +kernel)), (pw_tb 6 (by decide +kernel) (by decide +kernel)), (pw_tb 770 (by decide +kernel) (by decide +kernel)), by decide +kernel⟩
theorem ms_X5_joined : pw_ms mX5_joined 2 := ⟨(pw_tb 788 (by decide +kernel) (by decide +kernel)), (pw_tb 6 (by decide +kernel) (by decide +kernel)), (pw_tb 789 (by decide +kernel) (by decide +kernel)), by decide +kernel⟩
theorem mv_X5_want : pw_mv mX5_want 2 := ⟨(pw_tb 785 (by decide +kernel) (by decide +kernel)), (pw_tp 37 (by decide +kernel) (by decide +kernel)), (pw_tb 6 (by decide +kernel) (by decide +kernel)), (pw_tb 786 (by decide +kernel) (by decide +kernel)), by decide +kernel⟩
theorem mv_X5_characteristic : pw_mv mX5_characteristic 0 := ⟨(pw_tb 781 (by decide +kernel) (by decide +kernel)), (pw_tp 36 (by decide +kernel) (by decide +kernel)), (pw_tb 6 (by decide +kernel) (by decide +kernel)), (pw_tb 782 (by decide +kernel) (by decide +kernel)), by decide +kernel⟩
theorem mv_X5_signOf : pw_mv mX5_signOf 1 := ⟨(pw_tb 792 (by decide +kernel) (by decide +kernel)), (pw_tp 38 (by decide +kernel) (by decide +kernel)), (pw_tb 6 (by decide +kernel) (by decide +kernel)), (pw_tb 793 (by decide +kernel) (by decide +kernel)), by decide +kernel⟩
theorem ck_X4_39 : pw_cs RX4 39 mX4_checkedWord 2 := pw_cs_of (pw_tb 249 (by decide +kernel) (by decide +kernel)) ms_X4_checkedWord
theorem ck_X4_43 : pw_cv RX4 43 mX3_markOf 1 := pw_cv_of (pw_tb 320 (by decide +kernel) (by decide +kernel)) mv_X3_markOf
theorem ck_X4_54 : pw_cv RX4 54 mX3_take 2 := pw_cv_of (pw_tb 337 (by decide +kernel) (by decide +kernel)) mv_X3_take
theorem ck_X4_58 : pw_cv RX4 58 mX3_count 0 := pw_cv_of (pw_tb 148 (by decide +kernel) (by decide +kernel)) mv_X3_count
theorem ck_X3_19 : pw_cs RX3 19 mJ7_fill_53178 2 := pw_cs_of (pw_tb 160 (by decide +kernel) (by decide +kernel)) ms_J7_fill_53178
theorem ck_X4_62 : pw_cv RX4 62 mX3_clear 0 := pw_cv_of (pw_tb 156 (by decide +kernel) (by decide +kernel)) mv_X3_clear
theorem ck_X2_72 : pw_cs RX2 72 mJ7_fill_53178 2 := pw_cs_of (pw_tb 175 (by decide +kernel) (by decide +kernel)) ms_J7_fill_53178
theorem ck_X2_78 : pw_cv RX2 78 mX3_markOf 1 := pw_cv_of (pw_tb 176 (by decide +kernel) (by decide +kernel)) mv_X3_markOf
theorem ck_X2_84 : pw_cv RX2 84 mX2_leadsToBlue 1 := pw_cv_of (pw_tb 188 (by decide +kernel) (by decide +kernel)) mv_X2_leadsToBlue
theorem ck_X2_88 : pw_cv RX2 88 mX2_nameBehind 1 := pw_cv_of (pw_tb 192 (by decide +kernel) (by decide +kernel)) mv_X2_nameBehind
theorem ck_X2_95 : pw_cv RX2 95 mX2_addPair 2 := pw_cv_of (pw_tb 204 (by decide +kernel) (by decide +kernel)) mv_X2_addPair
theorem ck_X2_104 : pw_cv RX2 104 mX2_layArrowOver 2 := pw_cv_of (pw_tb 216 (by decide +kernel) (by decide +kernel)) mv_X2_layArrowOver
theorem ck_X2_98 : pw_cv RX2 98 mX2_takeBack 0 := pw_cv_of (pw_tb 208 (by decide +kernel) (by decide +kernel)) mv_X2_takeBack
theorem ck_X2_101 : pw_cv RX2 101 mX2_layOver 2 := pw_cv_of (pw_tb 212 (by decide +kernel) (by decide +kernel)) mv_X2_layOver
theorem ck_X2_91 : pw_cv RX2 91 mX2_merges 2 := pw_cv_of (pw_tb 200 (by decide +kernel) (by decide +kernel)) mv_X2_merges
theorem ck_X2_56 : pw_cv RX2 56 mX2_redden 2 := pw_cv_of (pw_tb 180 (by decide +kernel) (by decide +kernel)) mv_X2_redden
theorem ck_X2_107 : pw_cv RX2 107 mX0_resize 1 := pw_cv_of (pw_tb 224 (by decide +kernel) (by decide +kernel)) mv_X0_resize
theorem ck_X2_112 : pw_cv RX2 112 mX0_put 4 := pw_cv_of (pw_tb 228 (by decide +kernel) (by decide +kernel)) mv_X0_put
theorem ck_X2_52 : pw_cv RX2 52 mX2_plantTree 1 := pw_cv_of (pw_tb 171 (by decide +kernel) (by decide +kernel)) mv_X2_plantTree
theorem ck_X2_60 : pw_cv RX2 60 mX2_firstArrowToBlue 0 := pw_cv_of (pw_tb 184 (by decide +kernel) (by decide +kernel)) mv_X2_firstArrowToBlue
theorem ck_X2_64 : pw_cv RX2 64 mX2_settle 1 := pw_cv_of (pw_tb 196 (by decide +kernel) (by decide +kernel)) mv_X2_settle
theorem ck_X2_68 : pw_cv RX2 68 mX2_writeTo 1 := pw_cv_of (pw_tb 220 (by decide +kernel) (by decide +kernel)) mv_X2_writeTo
theorem ck_X4_65 : pw_cv RX4 65 mX2_run 2 := pw_cv_of (pw_tb 167 (by decide +kernel) (by decide +kernel)) mv_X2_run
theorem ck_X4_69 : pw_cv RX4 69 mX0_count 0 := pw_cv_of (pw_tb 232 (by decide +kernel) (by decide +kernel)) mv_X0_count
theorem ck_X4_142 : pw_cv RX4 142 mX0_has 1 := pw_cv_of (pw_tb 358 (by decide +kernel) (by decide +kernel)) mv_X0_has
theorem ck_X4_70 : pw_cs RX4 70 mX4_checkState 2 := pw_cs_of (pw_tb 355 (by decide +kernel) (by decide +kernel)) ms_X4_checkState
theorem ck_X4_79 : pw_cv RX4 79 mX0_arrow 2 := pw_cv_of (pw_tb 364 (by decide +kernel) (by decide +kernel)) mv_X0_arrow
theorem ck_X4_82 : pw_cv RX4 82 mX0_markOf 1 := pw_cv_of (pw_tb 375 (by decide +kernel) (by decide +kernel)) mv_X0_markOf
theorem ck_X0_22 : pw_cn RX0 22 mX4_lengthOf 1 := pw_cn_of ms_X4_lengthOf
theorem ck_X0_26 : pw_cv RX0 26 mX0_arrow 2 := pw_cv_of (pw_tb 398 (by decide +kernel) (by decide +kernel)) mv_X0_arrow
theorem ck_X4_83 : pw_cv RX4 83 mX4_checkLearned 0 := pw_cv_of (pw_tb 386 (by decide +kernel) (by decide +kernel)) mv_X4_checkLearned
theorem ck_X4_86 : pw_cv RX4 86 mX0_walk 2 := pw_cv_of (pw_tb 391 (by decide +kernel) (by decide +kernel)) mv_X0_walk
theorem ck_X1_62 : pw_cv RX1 62 mX0_count 0 := pw_cv_of (pw_tb 442 (by decide +kernel) (by decide +kernel)) mv_X0_count
theorem ck_X1_82 : pw_cv RX1 82 mX0_walk 2 := pw_cv_of (pw_tb 443 (by decide +kernel) (by decide +kernel)) mv_X0_walk
theorem ck_X1_66 : pw_cv RX1 66 mX0_markOf 1 := pw_cv_of (pw_tb 444 (by decide +kernel) (by decide +kernel)) mv_X0_markOf
theorem ck_X1_73 : pw_cs RX1 73 mJ7_fill_53178 2 := pw_cs_of (pw_tb 437 (by decide +kernel) (by decide +kernel)) ms_J7_fill_53178
theorem ck_X1_79 : pw_cv RX1 79 mX1_splitBy 1 := pw_cv_of (pw_tb 438 (by decide +kernel) (by decide +kernel)) mv_X1_splitBy
theorem ck_X1_42 : pw_cv RX1 42 mX0_resize 1 := pw_cv_of (pw_tb 427 (by decide +kernel) (by decide +kernel)) mv_X0_resize
theorem ck_X1_52 : pw_cv RX1 52 mX1_splitterOfDrawn 2 := pw_cv_of (pw_tb 453 (by decide +kernel) (by decide +kernel)) mv_X1_splitterOfDrawn
theorem ck_X1_85 : pw_cv RX1 85 mX1_openClass 2 := pw_cv_of (pw_tb 449 (by decide +kernel) (by decide +kernel)) mv_X1_openClass
theorem ck_X1_56 : pw_cv RX1 56 mX1_findSplitters 0 := pw_cv_of (pw_tb 433 (by decide +kernel) (by decide +kernel)) mv_X1_findSplitters
theorem ck_X1_59 : pw_cv RX1 59 mX1_findClasses 0 := pw_cv_of (pw_tb 445 (by decide +kernel) (by decide +kernel)) mv_X1_findClasses
theorem ck_X1_70 : pw_cv RX1 70 mX0_arrow 2 := pw_cv_of (pw_tb 457 (by decide +kernel) (by decide +kernel)) mv_X0_arrow
theorem ck_X1_45 : pw_cv RX1 45 mX0_put 4 := pw_cv_of (pw_tb 428 (by decide +kernel) (by decide +kernel)) mv_X0_put
theorem ck_X1_49 : pw_cv RX1 49 mX1_reduce 0 := pw_cv_of (pw_tb 429 (by decide +kernel) (by decide +kernel)) mv_X1_reduce
theorem ck_X4_94 : pw_cv RX4 94 mX1_begin 1 := pw_cv_of (pw_tb 423 (by decide +kernel) (by decide +kernel)) mv_X1_begin
theorem ck_X4_100 : pw_cv RX4 100 mX1_drawn 0 := pw_cv_of (pw_tb 469 (by decide +kernel) (by decide +kernel)) mv_X1_drawn
theorem ck_X4_97 : pw_cv RX4 97 mX4_checkDrafted 0 := pw_cv_of (pw_tb 465 (by decide +kernel) (by decide +kernel)) mv_X4_checkDrafted
theorem ck_X4_104 : pw_cv RX4 104 mX1_change 4 := pw_cv_of (pw_tb 474 (by decide +kernel) (by decide +kernel)) mv_X1_change
theorem ck_X4_108 : pw_cv RX4 108 mX1_reduced 0 := pw_cv_of (pw_tb 485 (by decide +kernel) (by decide +kernel)) mv_X1_reduced
theorem ck_X4_150 : pw_cs RX4 150 mX4_lengthOf 1 := pw_cs_of (pw_tb 503 (by decide +kernel) (by decide +kernel)) ms_X4_lengthOf
theorem ck_X4_111 : pw_cv RX4 111 mX1_nameOf 1 := pw_cv_of (pw_tb 496 (by decide +kernel) (by decide +kernel)) mv_X1_nameOf
theorem ck_X4_114 : pw_cs RX4 114 mX4_codeOf 1 := pw_cs_of (pw_tb 500 (by decide +kernel) (by decide +kernel)) ms_X4_codeOf
theorem ck_X4_117 : pw_cv RX4 117 mX1_splitterOf 2 := pw_cv_of (pw_tb 511 (by decide +kernel) (by decide +kernel)) mv_X1_splitterOf
theorem ck_X1_92 : pw_cv RX1 92 mX1_addExample 1 := pw_cv_of (pw_tb 530 (by decide +kernel) (by decide +kernel)) mv_X1_addExample
theorem ck_X1_95 : pw_cv RX1 95 mX1_splitterOf 2 := pw_cv_of (pw_tb 534 (by decide +kernel) (by decide +kernel)) mv_X1_splitterOf
theorem ck_X1_98 : pw_cn RX1 98 mX4_joined 2 := pw_cn_of ms_X4_joined
theorem ck_X1_89 : pw_cv RX1 89 mX1_addExamples 2 := pw_cv_of (pw_tb 526 (by decide +kernel) (by decide +kernel)) mv_X1_addExamples
theorem ck_X3_25 : pw_cv RX3 25 mX3_take 2 := pw_cv_of (pw_tb 547 (by decide +kernel) (by decide +kernel)) mv_X3_take
theorem ck_X4_120 : pw_cv RX4 120 mX1_examples 0 := pw_cv_of (pw_tb 522 (by decide +kernel) (by decide +kernel)) mv_X1_examples
theorem ck_X4_124 : pw_cv RX4 124 mX3_contradicts 1 := pw_cv_of (pw_tb 538 (by decide +kernel) (by decide +kernel)) mv_X3_contradicts
theorem ck_X4_130 : pw_cv RX4 130 mX3_takeAll 1 := pw_cv_of (pw_tb 543 (by decide +kernel) (by decide +kernel)) mv_X3_takeAll
theorem ck_X4_134 : pw_cv RX4 134 mX0_isLike 1 := pw_cv_of (pw_tb 555 (by decide +kernel) (by decide +kernel)) mv_X0_isLike
theorem ck_X5_63 : pw_cs RX5 63 mX5_lengthOf 1 := pw_cs_of (pw_tb 750 (by decide +kernel) (by decide +kernel)) ms_X5_lengthOf
theorem ck_X5_67 : pw_cs RX5 67 mX5_lettersOf 1 := pw_cs_of (pw_tb 753 (by decide +kernel) (by decide +kernel)) ms_X5_lettersOf
theorem ck_X5_70 : pw_cs RX5 70 mX5_number 2 := pw_cs_of (pw_tb 660 (by decide +kernel) (by decide +kernel)) ms_X5_number
theorem ck_X5_74 : pw_cs RX5 74 mX5_isWord 2 := pw_cs_of (pw_tb 653 (by decide +kernel) (by decide +kernel)) ms_X5_isWord
theorem ck_X5_78 : pw_cv RX5 78 mX5_when 2 := pw_cv_of (pw_tb 656 (by decide +kernel) (by decide +kernel)) mv_X5_when
theorem ck_X5_88 : pw_cs RX5 88 mX5_followed 2 := pw_cs_of (pw_tb 691 (by decide +kernel) (by decide +kernel)) ms_X5_followed
theorem ck_X5_97 : pw_cv RX5 97 mX5_unite 2 := pw_cv_of (pw_tb 698 (by decide +kernel) (by decide +kernel)) mv_X5_unite
theorem ck_X5_100 : pw_cv RX5 100 mX5_findTwins 0 := pw_cv_of (pw_tb 702 (by decide +kernel) (by decide +kernel)) mv_X5_findTwins
theorem ck_X5_107 : pw_cv RX5 107 mX5_redOf 1 := pw_cv_of (pw_tb 687 (by decide +kernel) (by decide +kernel)) mv_X5_redOf
theorem ck_X5_113 : pw_cv RX5 113 mX5_begin 0 := pw_cv_of (pw_tb 679 (by decide +kernel) (by decide +kernel)) mv_X5_begin
theorem ck_X5_116 : pw_cv RX5 116 mX5_findBlue 0 := pw_cv_of (pw_tb 683 (by decide +kernel) (by decide +kernel)) mv_X5_findBlue
theorem ck_X5_119 : pw_cv RX5 119 mX5_merge 2 := pw_cv_of (pw_tb 694 (by decide +kernel) (by decide +kernel)) mv_X5_merge
theorem ck_X5_125 : pw_cv RX5 125 mX5_isState 1 := pw_cv_of (pw_tb 714 (by decide +kernel) (by decide +kernel)) mv_X5_isState
theorem ck_X5_132 : pw_cv RX5 132 mX5_isDrafted 1 := pw_cv_of (pw_tb 734 (by decide +kernel) (by decide +kernel)) mv_X5_isDrafted
theorem ck_X5_135 : pw_cv RX5 135 mX5_lead 2 := pw_cv_of (pw_tb 746 (by decide +kernel) (by decide +kernel)) mv_X5_lead
theorem ck_X5_141 : pw_cv RX5 141 mX5_setsApart 2 := pw_cv_of (pw_tb 760 (by decide +kernel) (by decide +kernel)) mv_X5_setsApart
theorem ck_X5_144 : pw_cv RX5 144 mX5_classOf 1 := pw_cv_of (pw_tb 756 (by decide +kernel) (by decide +kernel)) mv_X5_classOf
theorem ck_X5_147 : pw_cv RX5 147 mX5_reduce 0 := pw_cv_of (pw_tb 742 (by decide +kernel) (by decide +kernel)) mv_X5_reduce
theorem ck_X5_150 : pw_cs RX5 150 mX5_given 1 := pw_cs_of (pw_tb 768 (by decide +kernel) (by decide +kernel)) ms_X5_given
theorem ck_X5_153 : pw_cs RX5 153 mX5_joined 2 := pw_cs_of (pw_tb 787 (by decide +kernel) (by decide +kernel)) ms_X5_joined
theorem ck_X5_156 : pw_cv RX5 156 mX5_want 2 := pw_cv_of (pw_tb 783 (by decide +kernel) (by decide +kernel)) mv_X5_want
theorem ck_X5_160 : pw_cv RX5 160 mX5_characteristic 0 := pw_cv_of (pw_tb 779 (by decide +kernel) (by decide +kernel)) mv_X5_characteristic
theorem ck_X5_163 : pw_cv RX5 163 mX5_signOf 1 := pw_cv_of (pw_tb 790 (by decide +kernel) (by decide +kernel)) mv_X5_signOf
theorem fk_X3_9 : pw_fk RX3 9 3 0 := ⟨_, _, _, rfl, by decide, (pw_tb 28 (by decide +kernel) (by decide +kernel))⟩
theorem fk_X3_15 : pw_fk RX3 15 3 1 := ⟨_, _, _, rfl, by decide, (pw_tb 29 (by decide +kernel) (by decide +kernel))⟩
theorem pk_X3_15 : ∃ C T N, vwCl[3]? = some (C, T, N) ∧ 1 < N ∧ Cond.fieldLink RX3 15 (T 1).1 (T 1).2.1 (T 1).2.2.1 ∈ pw_ws ∧ (T 1).2.2.2 = false ∧ parseFieldDescriptor (T 1).2.2.1 = some .int := ⟨_, _, _, rfl, by decide, (pw_tb 29 (by decide +kernel) (by decide +kernel)), rfl, by decide +kernel⟩
theorem fk_X4_12 : pw_fk RX4 12 4 0 := ⟨_, _, _, rfl, by decide, (pw_tb 131 (by decide +kernel) (by decide +kernel))⟩
theorem fk_X2_15 : pw_fk RX2 15 2 1 := ⟨_, _, _, rfl, by decide, (pw_tb 43 (by decide +kernel) (by decide +kernel))⟩
theorem fk_X2_24 : pw_fk RX2 24 2 4 := ⟨_, _, _, rfl, by decide, (pw_tb 46 (by decide +kernel) (by decide +kernel))⟩
theorem pk_X2_27 : ∃ C T N, vwCl[2]? = some (C, T, N) ∧ 5 < N ∧ Cond.fieldLink RX2 27 (T 5).1 (T 5).2.1 (T 5).2.2.1 ∈ pw_ws ∧ (T 5).2.2.2 = false ∧ parseFieldDescriptor (T 5).2.2.1 = some .int := ⟨_, _, _, rfl, by decide, (pw_tb 47 (by decide +kernel) (by decide +kernel)), rfl, by decide +kernel⟩
theorem fk_X2_9 : pw_fk RX2 9 2 0 := ⟨_, _, _, rfl, by decide, (pw_tb 42 (by decide +kernel) (by decide +kernel))⟩
theorem fk_X2_18 : pw_fk RX2 18 2 2 := ⟨_, _, _, rfl, by decide, (pw_tb 44 (by decide +kernel) (by decide +kernel))⟩
theorem fk_X2_27 : pw_fk RX2 27 2 5 := ⟨_, _, _, rfl, by decide, (pw_tb 47 (by decide +kernel) (by decide +kernel))⟩
theorem fk_X2_21 : pw_fk RX2 21 2 3 := ⟨_, _, _, rfl, by decide, (pw_tb 45 (by decide +kernel) (by decide +kernel))⟩
theorem fk_X2_31 : pw_fk RX2 31 2 6 := ⟨_, _, _, rfl, by decide, (pw_tb 48 (by decide +kernel) (by decide +kernel))⟩
theorem fk_X2_37 : pw_fk RX2 37 2 8 := ⟨_, _, _, rfl, by decide, (pw_tb 50 (by decide +kernel) (by decide +kernel))⟩
theorem fk_X2_34 : pw_fk RX2 34 2 7 := ⟨_, _, _, rfl, by decide, (pw_tb 49 (by decide +kernel) (by decide +kernel))⟩
theorem pk_X2_37 : ∃ C T N, vwCl[2]? = some (C, T, N) ∧ 8 < N ∧ Cond.fieldLink RX2 37 (T 8).1 (T 8).2.1 (T 8).2.2.1 ∈ pw_ws ∧ (T 8).2.2.2 = false ∧ parseFieldDescriptor (T 8).2.2.1 = some .int := ⟨_, _, _, rfl, by decide, (pw_tb 50 (by decide +kernel) (by decide +kernel)), rfl, by decide +kernel⟩
theorem fk_X2_43 : pw_fk RX2 43 2 10 := ⟨_, _, _, rfl, by decide, (pw_tb 52 (by decide +kernel) (by decide +kernel))⟩
theorem fk_X2_40 : pw_fk RX2 40 2 9 := ⟨_, _, _, rfl, by decide, (pw_tb 51 (by decide +kernel) (by decide +kernel))⟩
theorem fk_X2_49 : pw_fk RX2 49 2 12 := ⟨_, _, _, rfl, by decide, (pw_tb 54 (by decide +kernel) (by decide +kernel))⟩
theorem fk_X2_46 : pw_fk RX2 46 2 11 := ⟨_, _, _, rfl, by decide, (pw_tb 53 (by decide +kernel) (by decide +kernel))⟩
theorem pk_X2_49 : ∃ C T N, vwCl[2]? = some (C, T, N) ∧ 12 < N ∧ Cond.fieldLink RX2 49 (T 12).1 (T 12).2.1 (T 12).2.2.1 ∈ pw_ws ∧ (T 12).2.2.2 = false ∧ parseFieldDescriptor (T 12).2.2.1 = some .int := ⟨_, _, _, rfl, by decide, (pw_tb 54 (by decide +kernel) (by decide +kernel)), rfl, by decide +kernel⟩
theorem pk_X2_43 : ∃ C T N, vwCl[2]? = some (C, T, N) ∧ 10 < N ∧ Cond.fieldLink RX2 43 (T 10).1 (T 10).2.1 (T 10).2.2.1 ∈ pw_ws ∧ (T 10).2.2.2 = false ∧ parseFieldDescriptor (T 10).2.2.1 = some .int := ⟨_, _, _, rfl, by decide, (pw_tb 52 (by decide +kernel) (by decide +kernel)), rfl, by decide +kernel⟩
theorem pk_X0_9 : ∃ C T N, vwCl[0]? = some (C, T, N) ∧ 2 < N ∧ Cond.fieldLink RX0 9 (T 2).1 (T 2).2.1 (T 2).2.2.1 ∈ pw_ws ∧ (T 2).2.2.2 = false ∧ parseFieldDescriptor (T 2).2.2.1 = some .int := ⟨_, _, _, rfl, by decide, (pw_tb 90 (by decide +kernel) (by decide +kernel)), rfl, by decide +kernel⟩
theorem fk_X0_15 : pw_fk RX0 15 0 0 := ⟨_, _, _, rfl, by decide, (pw_tb 88 (by decide +kernel) (by decide +kernel))⟩
theorem fk_X0_19 : pw_fk RX0 19 0 1 := ⟨_, _, _, rfl, by decide, (pw_tb 89 (by decide +kernel) (by decide +kernel))⟩
theorem fk_X0_9 : pw_fk RX0 9 0 2 := ⟨_, _, _, rfl, by decide, (pw_tb 90 (by decide +kernel) (by decide +kernel))⟩
theorem fk_X4_19 : pw_fk RX4 19 4 1 := ⟨_, _, _, rfl, by decide, (pw_tb 132 (by decide +kernel) (by decide +kernel))⟩
theorem fk_X4_28 : pw_fk RX4 28 4 2 := ⟨_, _, _, rfl, by decide, (pw_tb 133 (by decide +kernel) (by decide +kernel))⟩
theorem fk_X1_14 : pw_fk RX1 14 1 0 := ⟨_, _, _, rfl, by decide, (pw_tb 106 (by decide +kernel) (by decide +kernel))⟩
theorem fk_X1_27 : pw_fk RX1 27 1 3 := ⟨_, _, _, rfl, by decide, (pw_tb 109 (by decide +kernel) (by decide +kernel))⟩
theorem fk_X1_23 : pw_fk RX1 23 1 2 := ⟨_, _, _, rfl, by decide, (pw_tb 108 (by decide +kernel) (by decide +kernel))⟩
theorem fk_X1_20 : pw_fk RX1 20 1 1 := ⟨_, _, _, rfl, by decide, (pw_tb 107 (by decide +kernel) (by decide +kernel))⟩
theorem fk_X1_33 : pw_fk RX1 33 1 5 := ⟨_, _, _, rfl, by decide, (pw_tb 111 (by decide +kernel) (by decide +kernel))⟩
theorem fk_X1_36 : pw_fk RX1 36 1 6 := ⟨_, _, _, rfl, by decide, (pw_tb 112 (by decide +kernel) (by decide +kernel))⟩
theorem fk_X1_30 : pw_fk RX1 30 1 4 := ⟨_, _, _, rfl, by decide, (pw_tb 110 (by decide +kernel) (by decide +kernel))⟩
theorem fk_X4_35 : pw_fk RX4 35 4 3 := ⟨_, _, _, rfl, by decide, (pw_tb 134 (by decide +kernel) (by decide +kernel))⟩
theorem fk_X1_39 : pw_fk RX1 39 1 7 := ⟨_, _, _, rfl, by decide, (pw_tb 113 (by decide +kernel) (by decide +kernel))⟩
theorem fk_X5_59 : pw_fk RX5 59 5 0 := ⟨_, _, _, rfl, by decide, (pw_tb 565 (by decide +kernel) (by decide +kernel))⟩
theorem pk_X5_59 : ∃ C T N, vwCl[5]? = some (C, T, N) ∧ 0 < N ∧ Cond.fieldLink RX5 59 (T 0).1 (T 0).2.1 (T 0).2.2.1 ∈ pw_ws ∧ (T 0).2.2.2 = false ∧ parseFieldDescriptor (T 0).2.2.1 = some .int := ⟨_, _, _, rfl, by decide, (pw_tb 565 (by decide +kernel) (by decide +kernel)), rfl, by decide +kernel⟩
theorem fk_X5_7 : pw_fk RX5 7 5 2 := ⟨_, _, _, rfl, by decide, (pw_tb 567 (by decide +kernel) (by decide +kernel))⟩
theorem fk_X5_82 : pw_fk RX5 82 5 1 := ⟨_, _, _, rfl, by decide, (pw_tb 566 (by decide +kernel) (by decide +kernel))⟩
theorem pk_X5_82 : ∃ C T N, vwCl[5]? = some (C, T, N) ∧ 1 < N ∧ Cond.fieldLink RX5 82 (T 1).1 (T 1).2.1 (T 1).2.2.1 ∈ pw_ws ∧ (T 1).2.2.2 = false ∧ parseFieldDescriptor (T 1).2.2.1 = some .int := ⟨_, _, _, rfl, by decide, (pw_tb 566 (by decide +kernel) (by decide +kernel)), rfl, by decide +kernel⟩
theorem fk_X5_13 : pw_fk RX5 13 5 3 := ⟨_, _, _, rfl, by decide, (pw_tb 568 (by decide +kernel) (by decide +kernel))⟩
theorem fk_X5_17 : pw_fk RX5 17 5 4 := ⟨_, _, _, rfl, by decide, (pw_tb 569 (by decide +kernel) (by decide +kernel))⟩
theorem fk_X5_20 : pw_fk RX5 20 5 5 := ⟨_, _, _, rfl, by decide, (pw_tb 570 (by decide +kernel) (by decide +kernel))⟩
theorem pk_X5_85 : ∃ C T N, vwCl[5]? = some (C, T, N) ∧ 9 < N ∧ Cond.fieldLink RX5 85 (T 9).1 (T 9).2.1 (T 9).2.2.1 ∈ pw_ws ∧ (T 9).2.2.2 = false ∧ parseFieldDescriptor (T 9).2.2.1 = some .int := ⟨_, _, _, rfl, by decide, (pw_tb 574 (by decide +kernel) (by decide +kernel)), rfl, by decide +kernel⟩
theorem fk_X5_32 : pw_fk RX5 32 5 10 := ⟨_, _, _, rfl, by decide, (pw_tb 575 (by decide +kernel) (by decide +kernel))⟩
theorem fk_X5_35 : pw_fk RX5 35 5 11 := ⟨_, _, _, rfl, by decide, (pw_tb 576 (by decide +kernel) (by decide +kernel))⟩
theorem fk_X5_26 : pw_fk RX5 26 5 7 := ⟨_, _, _, rfl, by decide, (pw_tb 572 (by decide +kernel) (by decide +kernel))⟩
theorem fk_X5_23 : pw_fk RX5 23 5 6 := ⟨_, _, _, rfl, by decide, (pw_tb 571 (by decide +kernel) (by decide +kernel))⟩
theorem fk_X5_29 : pw_fk RX5 29 5 8 := ⟨_, _, _, rfl, by decide, (pw_tb 573 (by decide +kernel) (by decide +kernel))⟩
theorem pk_X5_91 : ∃ C T N, vwCl[5]? = some (C, T, N) ∧ 24 < N ∧ Cond.fieldLink RX5 91 (T 24).1 (T 24).2.1 (T 24).2.2.1 ∈ pw_ws ∧ (T 24).2.2.2 = false ∧ parseFieldDescriptor (T 24).2.2.1 = some .int := ⟨_, _, _, rfl, by decide, (pw_tb 589 (by decide +kernel) (by decide +kernel)), rfl, by decide +kernel⟩
theorem pk_X5_94 : ∃ C T N, vwCl[5]? = some (C, T, N) ∧ 25 < N ∧ Cond.fieldLink RX5 94 (T 25).1 (T 25).2.1 (T 25).2.2.1 ∈ pw_ws ∧ (T 25).2.2.2 = false ∧ parseFieldDescriptor (T 25).2.2.1 = some .int := ⟨_, _, _, rfl, by decide, (pw_tb 590 (by decide +kernel) (by decide +kernel)), rfl, by decide +kernel⟩
theorem fk_X5_91 : pw_fk RX5 91 5 24 := ⟨_, _, _, rfl, by decide, (pw_tb 589 (by decide +kernel) (by decide +kernel))⟩
theorem fk_X5_94 : pw_fk RX5 94 5 25 := ⟨_, _, _, rfl, by decide, (pw_tb 590 (by decide +kernel) (by decide +kernel))⟩
theorem fk_X5_85 : pw_fk RX5 85 5 9 := ⟨_, _, _, rfl, by decide, (pw_tb 574 (by decide +kernel) (by decide +kernel))⟩
theorem pk_X5_104 : ∃ C T N, vwCl[5]? = some (C, T, N) ∧ 13 < N ∧ Cond.fieldLink RX5 104 (T 13).1 (T 13).2.1 (T 13).2.2.1 ∈ pw_ws ∧ (T 13).2.2.2 = false ∧ parseFieldDescriptor (T 13).2.2.1 = some .int := ⟨_, _, _, rfl, by decide, (pw_tb 578 (by decide +kernel) (by decide +kernel)), rfl, by decide +kernel⟩
theorem fk_X5_104 : pw_fk RX5 104 5 13 := ⟨_, _, _, rfl, by decide, (pw_tb 578 (by decide +kernel) (by decide +kernel))⟩
theorem fk_X5_110 : pw_fk RX5 110 5 12 := ⟨_, _, _, rfl, by decide, (pw_tb 577 (by decide +kernel) (by decide +kernel))⟩
theorem pk_X5_110 : ∃ C T N, vwCl[5]? = some (C, T, N) ∧ 12 < N ∧ Cond.fieldLink RX5 110 (T 12).1 (T 12).2.1 (T 12).2.2.1 ∈ pw_ws ∧ (T 12).2.2.2 = false ∧ parseFieldDescriptor (T 12).2.2.1 = some .int := ⟨_, _, _, rfl, by decide, (pw_tb 577 (by decide +kernel) (by decide +kernel)), rfl, by decide +kernel⟩
theorem pk_X5_122 : ∃ C T N, vwCl[5]? = some (C, T, N) ∧ 14 < N ∧ Cond.fieldLink RX5 122 (T 14).1 (T 14).2.1 (T 14).2.2.1 ∈ pw_ws ∧ (T 14).2.2.2 = false ∧ parseFieldDescriptor (T 14).2.2.1 = some .int := ⟨_, _, _, rfl, by decide, (pw_tb 579 (by decide +kernel) (by decide +kernel)), rfl, by decide +kernel⟩
theorem fk_X5_41 : pw_fk RX5 41 5 16 := ⟨_, _, _, rfl, by decide, (pw_tb 581 (by decide +kernel) (by decide +kernel))⟩
theorem fk_X5_38 : pw_fk RX5 38 5 15 := ⟨_, _, _, rfl, by decide, (pw_tb 580 (by decide +kernel) (by decide +kernel))⟩
theorem fk_X5_122 : pw_fk RX5 122 5 14 := ⟨_, _, _, rfl, by decide, (pw_tb 579 (by decide +kernel) (by decide +kernel))⟩
theorem pk_X5_129 : ∃ C T N, vwCl[5]? = some (C, T, N) ∧ 17 < N ∧ Cond.fieldLink RX5 129 (T 17).1 (T 17).2.1 (T 17).2.2.1 ∈ pw_ws ∧ (T 17).2.2.2 = false ∧ parseFieldDescriptor (T 17).2.2.1 = some .int := ⟨_, _, _, rfl, by decide, (pw_tb 582 (by decide +kernel) (by decide +kernel)), rfl, by decide +kernel⟩
theorem fk_X5_44 : pw_fk RX5 44 5 18 := ⟨_, _, _, rfl, by decide, (pw_tb 583 (by decide +kernel) (by decide +kernel))⟩
theorem fk_X5_47 : pw_fk RX5 47 5 19 := ⟨_, _, _, rfl, by decide, (pw_tb 584 (by decide +kernel) (by decide +kernel))⟩
theorem fk_X5_129 : pw_fk RX5 129 5 17 := ⟨_, _, _, rfl, by decide, (pw_tb 582 (by decide +kernel) (by decide +kernel))⟩
theorem fk_X5_138 : pw_fk RX5 138 5 20 := ⟨_, _, _, rfl, by decide, (pw_tb 585 (by decide +kernel) (by decide +kernel))⟩
theorem fk_X5_50 : pw_fk RX5 50 5 21 := ⟨_, _, _, rfl, by decide, (pw_tb 586 (by decide +kernel) (by decide +kernel))⟩
theorem pk_X5_138 : ∃ C T N, vwCl[5]? = some (C, T, N) ∧ 20 < N ∧ Cond.fieldLink RX5 138 (T 20).1 (T 20).2.1 (T 20).2.2.1 ∈ pw_ws ∧ (T 20).2.2.2 = false ∧ parseFieldDescriptor (T 20).2.2.1 = some .int := ⟨_, _, _, rfl, by decide, (pw_tb 585 (by decide +kernel) (by decide +kernel)), rfl, by decide +kernel⟩
theorem fk_X5_53 : pw_fk RX5 53 5 22 := ⟨_, _, _, rfl, by decide, (pw_tb 587 (by decide +kernel) (by decide +kernel))⟩
theorem fk_X5_56 : pw_fk RX5 56 5 23 := ⟨_, _, _, rfl, by decide, (pw_tb 588 (by decide +kernel) (by decide +kernel))⟩
