section
-- ===== PART A: goes FIRST, ahead of the names: the tables' words, and 'selects' of the private methods out of them =====
/-- a private method of a class that the tables say can be made, by its rows of tables_1 -/
def lw_okq (q : MethodName × Nat) : Prop := (q.1.cls ≠ "java/lang/invoke/MethodHandle" ∧ q.1.cls ≠ "java/lang/invoke/VarHandle") ∧ Cond.instantiable q.1.cls q.2 ∈ tables_1 ∧ Cond.privateMethod q.1 ∈ tables_1 ∧ Cond.instanceMethod q.1 ∈ tables_1
theorem lw_p0 : lw_okq (⟨"WordClassLearner$Merger", "plantTree", "(LWordClassLearner$Sample;)V"⟩, 13) := ⟨⟨by decide +kernel, by decide +kernel⟩, List.mem_of_getElem? (i := 37) (by decide +kernel), List.mem_of_getElem? (i := 172) (by decide +kernel), List.mem_of_getElem? (i := 173) (by decide +kernel)⟩
theorem lw_p1 : lw_okq (⟨"WordClassLearner$Merger", "redden", "(II)V"⟩, 13) := ⟨⟨by decide +kernel, by decide +kernel⟩, List.mem_of_getElem? (i := 37) (by decide +kernel), List.mem_of_getElem? (i := 181) (by decide +kernel), List.mem_of_getElem? (i := 182) (by decide +kernel)⟩
theorem lw_p2 : lw_okq (⟨"WordClassLearner$Merger", "firstArrowToBlue", "()I"⟩, 13) := ⟨⟨by decide +kernel, by decide +kernel⟩, List.mem_of_getElem? (i := 37) (by decide +kernel), List.mem_of_getElem? (i := 185) (by decide +kernel), List.mem_of_getElem? (i := 186) (by decide +kernel)⟩
theorem lw_p3 : lw_okq (⟨"WordClassLearner$Merger", "leadsToBlue", "(I)Z"⟩, 13) := ⟨⟨by decide +kernel, by decide +kernel⟩, List.mem_of_getElem? (i := 37) (by decide +kernel), List.mem_of_getElem? (i := 189) (by decide +kernel), List.mem_of_getElem? (i := 190) (by decide +kernel)⟩
theorem lw_p4 : lw_okq (⟨"WordClassLearner$Merger", "nameBehind", "(I)I"⟩, 13) := ⟨⟨by decide +kernel, by decide +kernel⟩, List.mem_of_getElem? (i := 37) (by decide +kernel), List.mem_of_getElem? (i := 193) (by decide +kernel), List.mem_of_getElem? (i := 194) (by decide +kernel)⟩
theorem lw_p5 : lw_okq (⟨"WordClassLearner$Merger", "settle", "(I)V"⟩, 13) := ⟨⟨by decide +kernel, by decide +kernel⟩, List.mem_of_getElem? (i := 37) (by decide +kernel), List.mem_of_getElem? (i := 197) (by decide +kernel), List.mem_of_getElem? (i := 198) (by decide +kernel)⟩
theorem lw_p6 : lw_okq (⟨"WordClassLearner$Merger", "merges", "(II)Z"⟩, 13) := ⟨⟨by decide +kernel, by decide +kernel⟩, List.mem_of_getElem? (i := 37) (by decide +kernel), List.mem_of_getElem? (i := 201) (by decide +kernel), List.mem_of_getElem? (i := 202) (by decide +kernel)⟩
theorem lw_p7 : lw_okq (⟨"WordClassLearner$Merger", "addPair", "(II)V"⟩, 13) := ⟨⟨by decide +kernel, by decide +kernel⟩, List.mem_of_getElem? (i := 37) (by decide +kernel), List.mem_of_getElem? (i := 205) (by decide +kernel), List.mem_of_getElem? (i := 206) (by decide +kernel)⟩
theorem lw_p8 : lw_okq (⟨"WordClassLearner$Merger", "takeBack", "()V"⟩, 13) := ⟨⟨by decide +kernel, by decide +kernel⟩, List.mem_of_getElem? (i := 37) (by decide +kernel), List.mem_of_getElem? (i := 209) (by decide +kernel), List.mem_of_getElem? (i := 210) (by decide +kernel)⟩
theorem lw_p9 : lw_okq (⟨"WordClassLearner$Merger", "layOver", "(II)V"⟩, 13) := ⟨⟨by decide +kernel, by decide +kernel⟩, List.mem_of_getElem? (i := 37) (by decide +kernel), List.mem_of_getElem? (i := 213) (by decide +kernel), List.mem_of_getElem? (i := 214) (by decide +kernel)⟩
theorem lw_p10 : lw_okq (⟨"WordClassLearner$Merger", "layArrowOver", "(II)V"⟩, 13) := ⟨⟨by decide +kernel, by decide +kernel⟩, List.mem_of_getElem? (i := 37) (by decide +kernel), List.mem_of_getElem? (i := 217) (by decide +kernel), List.mem_of_getElem? (i := 218) (by decide +kernel)⟩
theorem lw_p11 : lw_okq (⟨"WordClassLearner$Merger", "writeTo", "(LWordClassLearner$Automaton;)V"⟩, 13) := ⟨⟨by decide +kernel, by decide +kernel⟩, List.mem_of_getElem? (i := 37) (by decide +kernel), List.mem_of_getElem? (i := 221) (by decide +kernel), List.mem_of_getElem? (i := 222) (by decide +kernel)⟩
theorem lw_p12 : lw_okq (⟨"java/lang/Throwable", "fillInStackTrace", "(I)Ljava/lang/Throwable;"⟩, 6) := ⟨⟨by decide +kernel, by decide +kernel⟩, List.mem_of_getElem? (i := 291) (by decide +kernel), List.mem_of_getElem? (i := 289) (by decide +kernel), List.mem_of_getElem? (i := 290) (by decide +kernel)⟩
theorem lw_p13 : lw_okq (⟨"WordClassLearner", "checkLearned", "()V"⟩, 4) := ⟨⟨by decide +kernel, by decide +kernel⟩, List.mem_of_getElem? (i := 15) (by decide +kernel), List.mem_of_getElem? (i := 387) (by decide +kernel), List.mem_of_getElem? (i := 388) (by decide +kernel)⟩
theorem lw_p14 : lw_okq (⟨"WordClassLearner$Draft", "reduce", "()V"⟩, 8) := ⟨⟨by decide +kernel, by decide +kernel⟩, List.mem_of_getElem? (i := 99) (by decide +kernel), List.mem_of_getElem? (i := 430) (by decide +kernel), List.mem_of_getElem? (i := 431) (by decide +kernel)⟩
theorem lw_p15 : lw_okq (⟨"WordClassLearner$Draft", "findSplitters", "()V"⟩, 8) := ⟨⟨by decide +kernel, by decide +kernel⟩, List.mem_of_getElem? (i := 99) (by decide +kernel), List.mem_of_getElem? (i := 434) (by decide +kernel), List.mem_of_getElem? (i := 435) (by decide +kernel)⟩
def lw_privs_1 : List (MethodName × Nat) := [(⟨"WordClassLearner$Merger", "plantTree", "(LWordClassLearner$Sample;)V"⟩, 13), (⟨"WordClassLearner$Merger", "redden", "(II)V"⟩, 13), (⟨"WordClassLearner$Merger", "firstArrowToBlue", "()I"⟩, 13), (⟨"WordClassLearner$Merger", "leadsToBlue", "(I)Z"⟩, 13), (⟨"WordClassLearner$Merger", "nameBehind", "(I)I"⟩, 13), (⟨"WordClassLearner$Merger", "settle", "(I)V"⟩, 13), (⟨"WordClassLearner$Merger", "merges", "(II)Z"⟩, 13), (⟨"WordClassLearner$Merger", "addPair", "(II)V"⟩, 13), (⟨"WordClassLearner$Merger", "takeBack", "()V"⟩, 13), (⟨"WordClassLearner$Merger", "layOver", "(II)V"⟩, 13), (⟨"WordClassLearner$Merger", "layArrowOver", "(II)V"⟩, 13), (⟨"WordClassLearner$Merger", "writeTo", "(LWordClassLearner$Automaton;)V"⟩, 13), (⟨"java/lang/Throwable", "fillInStackTrace", "(I)Ljava/lang/Throwable;"⟩, 6), (⟨"WordClassLearner", "checkLearned", "()V"⟩, 4), (⟨"WordClassLearner$Draft", "reduce", "()V"⟩, 8), (⟨"WordClassLearner$Draft", "findSplitters", "()V"⟩, 8)]
theorem lw_r1 : ∀ q ∈ lw_privs_1, lw_okq q := List.forall_mem_cons.mpr ⟨lw_p0, List.forall_mem_cons.mpr ⟨lw_p1, List.forall_mem_cons.mpr ⟨lw_p2, List.forall_mem_cons.mpr ⟨lw_p3, List.forall_mem_cons.mpr ⟨lw_p4, List.forall_mem_cons.mpr ⟨lw_p5, List.forall_mem_cons.mpr ⟨lw_p6, List.forall_mem_cons.mpr ⟨lw_p7, List.forall_mem_cons.mpr ⟨lw_p8, List.forall_mem_cons.mpr ⟨lw_p9, List.forall_mem_cons.mpr ⟨lw_p10, List.forall_mem_cons.mpr ⟨lw_p11, List.forall_mem_cons.mpr ⟨lw_p12, List.forall_mem_cons.mpr ⟨lw_p13, List.forall_mem_cons.mpr ⟨lw_p14, List.forall_mem_cons.mpr ⟨lw_p15, fun _ h => absurd h List.not_mem_nil⟩⟩⟩⟩⟩⟩⟩⟩⟩⟩⟩⟩⟩⟩⟩⟩
theorem lw_p16 : lw_okq (⟨"WordClassLearner$Draft", "splitBy", "(I)V"⟩, 8) := ⟨⟨by decide +kernel, by decide +kernel⟩, List.mem_of_getElem? (i := 99) (by decide +kernel), List.mem_of_getElem? (i := 439) (by decide +kernel), List.mem_of_getElem? (i := 440) (by decide +kernel)⟩
theorem lw_p17 : lw_okq (⟨"WordClassLearner$Draft", "findClasses", "()V"⟩, 8) := ⟨⟨by decide +kernel, by decide +kernel⟩, List.mem_of_getElem? (i := 99) (by decide +kernel), List.mem_of_getElem? (i := 446) (by decide +kernel), List.mem_of_getElem? (i := 447) (by decide +kernel)⟩
theorem lw_p18 : lw_okq (⟨"WordClassLearner$Draft", "openClass", "(II)V"⟩, 8) := ⟨⟨by decide +kernel, by decide +kernel⟩, List.mem_of_getElem? (i := 99) (by decide +kernel), List.mem_of_getElem? (i := 450) (by decide +kernel), List.mem_of_getElem? (i := 451) (by decide +kernel)⟩
theorem lw_p19 : lw_okq (⟨"WordClassLearner$Draft", "splitterOfDrawn", "(II)I"⟩, 8) := ⟨⟨by decide +kernel, by decide +kernel⟩, List.mem_of_getElem? (i := 99) (by decide +kernel), List.mem_of_getElem? (i := 454) (by decide +kernel), List.mem_of_getElem? (i := 455) (by decide +kernel)⟩
theorem lw_p20 : lw_okq (⟨"WordClassLearner", "checkDrafted", "()V"⟩, 4) := ⟨⟨by decide +kernel, by decide +kernel⟩, List.mem_of_getElem? (i := 15) (by decide +kernel), List.mem_of_getElem? (i := 466) (by decide +kernel), List.mem_of_getElem? (i := 467) (by decide +kernel)⟩
theorem lw_p21 : lw_okq (⟨"WordClassLearner$Draft", "addExamples", "(II)V"⟩, 8) := ⟨⟨by decide +kernel, by decide +kernel⟩, List.mem_of_getElem? (i := 99) (by decide +kernel), List.mem_of_getElem? (i := 527) (by decide +kernel), List.mem_of_getElem? (i := 528) (by decide +kernel)⟩
theorem lw_p22 : lw_okq (⟨"WordClassLearner$Draft", "addExample", "(I)V"⟩, 8) := ⟨⟨by decide +kernel, by decide +kernel⟩, List.mem_of_getElem? (i := 99) (by decide +kernel), List.mem_of_getElem? (i := 531) (by decide +kernel), List.mem_of_getElem? (i := 532) (by decide +kernel)⟩
theorem lw_p23 : lw_okq (⟨"WordClassLearnerModel", "when", "(ZI)Z"⟩, 26) := ⟨⟨by decide +kernel, by decide +kernel⟩, List.mem_of_getElem? (i := 560) (by decide +kernel), List.mem_of_getElem? (i := 657) (by decide +kernel), List.mem_of_getElem? (i := 658) (by decide +kernel)⟩
theorem lw_p24 : lw_okq (⟨"WordClassLearnerModel", "begin", "()V"⟩, 26) := ⟨⟨by decide +kernel, by decide +kernel⟩, List.mem_of_getElem? (i := 560) (by decide +kernel), List.mem_of_getElem? (i := 680) (by decide +kernel), List.mem_of_getElem? (i := 681) (by decide +kernel)⟩
theorem lw_p25 : lw_okq (⟨"WordClassLearnerModel", "findBlue", "()Z"⟩, 26) := ⟨⟨by decide +kernel, by decide +kernel⟩, List.mem_of_getElem? (i := 560) (by decide +kernel), List.mem_of_getElem? (i := 684) (by decide +kernel), List.mem_of_getElem? (i := 685) (by decide +kernel)⟩
theorem lw_p26 : lw_okq (⟨"WordClassLearnerModel", "redOf", "(I)I"⟩, 26) := ⟨⟨by decide +kernel, by decide +kernel⟩, List.mem_of_getElem? (i := 560) (by decide +kernel), List.mem_of_getElem? (i := 688) (by decide +kernel), List.mem_of_getElem? (i := 689) (by decide +kernel)⟩
theorem lw_p27 : lw_okq (⟨"WordClassLearnerModel", "merge", "(II)Z"⟩, 26) := ⟨⟨by decide +kernel, by decide +kernel⟩, List.mem_of_getElem? (i := 560) (by decide +kernel), List.mem_of_getElem? (i := 695) (by decide +kernel), List.mem_of_getElem? (i := 696) (by decide +kernel)⟩
theorem lw_p28 : lw_okq (⟨"WordClassLearnerModel", "unite", "(II)Z"⟩, 26) := ⟨⟨by decide +kernel, by decide +kernel⟩, List.mem_of_getElem? (i := 560) (by decide +kernel), List.mem_of_getElem? (i := 699) (by decide +kernel), List.mem_of_getElem? (i := 700) (by decide +kernel)⟩
theorem lw_p29 : lw_okq (⟨"WordClassLearnerModel", "findTwins", "()Z"⟩, 26) := ⟨⟨by decide +kernel, by decide +kernel⟩, List.mem_of_getElem? (i := 560) (by decide +kernel), List.mem_of_getElem? (i := 703) (by decide +kernel), List.mem_of_getElem? (i := 704) (by decide +kernel)⟩
theorem lw_p30 : lw_okq (⟨"WordClassLearnerModel", "isState", "(I)Z"⟩, 26) := ⟨⟨by decide +kernel, by decide +kernel⟩, List.mem_of_getElem? (i := 560) (by decide +kernel), List.mem_of_getElem? (i := 715) (by decide +kernel), List.mem_of_getElem? (i := 716) (by decide +kernel)⟩
theorem lw_p31 : lw_okq (⟨"WordClassLearnerModel", "isDrafted", "(I)Z"⟩, 26) := ⟨⟨by decide +kernel, by decide +kernel⟩, List.mem_of_getElem? (i := 560) (by decide +kernel), List.mem_of_getElem? (i := 735) (by decide +kernel), List.mem_of_getElem? (i := 736) (by decide +kernel)⟩
def lw_privs_2 : List (MethodName × Nat) := [(⟨"WordClassLearner$Draft", "splitBy", "(I)V"⟩, 8), (⟨"WordClassLearner$Draft", "findClasses", "()V"⟩, 8), (⟨"WordClassLearner$Draft", "openClass", "(II)V"⟩, 8), (⟨"WordClassLearner$Draft", "splitterOfDrawn", "(II)I"⟩, 8), (⟨"WordClassLearner", "checkDrafted", "()V"⟩, 4), (⟨"WordClassLearner$Draft", "addExamples", "(II)V"⟩, 8), (⟨"WordClassLearner$Draft", "addExample", "(I)V"⟩, 8), (⟨"WordClassLearnerModel", "when", "(ZI)Z"⟩, 26), (⟨"WordClassLearnerModel", "begin", "()V"⟩, 26), (⟨"WordClassLearnerModel", "findBlue", "()Z"⟩, 26), (⟨"WordClassLearnerModel", "redOf", "(I)I"⟩, 26), (⟨"WordClassLearnerModel", "merge", "(II)Z"⟩, 26), (⟨"WordClassLearnerModel", "unite", "(II)Z"⟩, 26), (⟨"WordClassLearnerModel", "findTwins", "()Z"⟩, 26), (⟨"WordClassLearnerModel", "isState", "(I)Z"⟩, 26), (⟨"WordClassLearnerModel", "isDrafted", "(I)Z"⟩, 26)]
theorem lw_r2 : ∀ q ∈ lw_privs_2, lw_okq q := List.forall_mem_cons.mpr ⟨lw_p16, List.forall_mem_cons.mpr ⟨lw_p17, List.forall_mem_cons.mpr ⟨lw_p18, List.forall_mem_cons.mpr ⟨lw_p19, List.forall_mem_cons.mpr ⟨lw_p20, List.forall_mem_cons.mpr ⟨lw_p21, List.forall_mem_cons.mpr ⟨lw_p22, List.forall_mem_cons.mpr ⟨lw_p23, List.forall_mem_cons.mpr ⟨lw_p24, List.forall_mem_cons.mpr ⟨lw_p25, List.forall_mem_cons.mpr ⟨lw_p26, List.forall_mem_cons.mpr ⟨lw_p27, List.forall_mem_cons.mpr ⟨lw_p28, List.forall_mem_cons.mpr ⟨lw_p29, List.forall_mem_cons.mpr ⟨lw_p30, List.forall_mem_cons.mpr ⟨lw_p31, fun _ h => absurd h List.not_mem_nil⟩⟩⟩⟩⟩⟩⟩⟩⟩⟩⟩⟩⟩⟩⟩⟩
theorem lw_p32 : lw_okq (⟨"WordClassLearnerModel", "reduce", "()V"⟩, 26) := ⟨⟨by decide +kernel, by decide +kernel⟩, List.mem_of_getElem? (i := 560) (by decide +kernel), List.mem_of_getElem? (i := 743) (by decide +kernel), List.mem_of_getElem? (i := 744) (by decide +kernel)⟩
theorem lw_p33 : lw_okq (⟨"WordClassLearnerModel", "lead", "(II)I"⟩, 26) := ⟨⟨by decide +kernel, by decide +kernel⟩, List.mem_of_getElem? (i := 560) (by decide +kernel), List.mem_of_getElem? (i := 747) (by decide +kernel), List.mem_of_getElem? (i := 748) (by decide +kernel)⟩
theorem lw_p34 : lw_okq (⟨"WordClassLearnerModel", "classOf", "(I)I"⟩, 26) := ⟨⟨by decide +kernel, by decide +kernel⟩, List.mem_of_getElem? (i := 560) (by decide +kernel), List.mem_of_getElem? (i := 757) (by decide +kernel), List.mem_of_getElem? (i := 758) (by decide +kernel)⟩
theorem lw_p35 : lw_okq (⟨"WordClassLearnerModel", "setsApart", "(II)I"⟩, 26) := ⟨⟨by decide +kernel, by decide +kernel⟩, List.mem_of_getElem? (i := 560) (by decide +kernel), List.mem_of_getElem? (i := 761) (by decide +kernel), List.mem_of_getElem? (i := 762) (by decide +kernel)⟩
theorem lw_p36 : lw_okq (⟨"WordClassLearnerModel", "characteristic", "()V"⟩, 26) := ⟨⟨by decide +kernel, by decide +kernel⟩, List.mem_of_getElem? (i := 560) (by decide +kernel), List.mem_of_getElem? (i := 780) (by decide +kernel), List.mem_of_getElem? (i := 781) (by decide +kernel)⟩
theorem lw_p37 : lw_okq (⟨"WordClassLearnerModel", "want", "(II)V"⟩, 26) := ⟨⟨by decide +kernel, by decide +kernel⟩, List.mem_of_getElem? (i := 560) (by decide +kernel), List.mem_of_getElem? (i := 784) (by decide +kernel), List.mem_of_getElem? (i := 785) (by decide +kernel)⟩
theorem lw_p38 : lw_okq (⟨"WordClassLearnerModel", "signOf", "(I)I"⟩, 26) := ⟨⟨by decide +kernel, by decide +kernel⟩, List.mem_of_getElem? (i := 560) (by decide +kernel), List.mem_of_getElem? (i := 791) (by decide +kernel), List.mem_of_getElem? (i := 792) (by decide +kernel)⟩
def lw_privs_3 : List (MethodName × Nat) := [(⟨"WordClassLearnerModel", "reduce", "()V"⟩, 26), (⟨"WordClassLearnerModel", "lead", "(II)I"⟩, 26), (⟨"WordClassLearnerModel", "classOf", "(I)I"⟩, 26), (⟨"WordClassLearnerModel", "setsApart", "(II)I"⟩, 26), (⟨"WordClassLearnerModel", "characteristic", "()V"⟩, 26), (⟨"WordClassLearnerModel", "want", "(II)V"⟩, 26), (⟨"WordClassLearnerModel", "signOf", "(I)I"⟩, 26)]
theorem lw_r3 : ∀ q ∈ lw_privs_3, lw_okq q := List.forall_mem_cons.mpr ⟨lw_p32, List.forall_mem_cons.mpr ⟨lw_p33, List.forall_mem_cons.mpr ⟨lw_p34, List.forall_mem_cons.mpr ⟨lw_p35, List.forall_mem_cons.mpr ⟨lw_p36, List.forall_mem_cons.mpr ⟨lw_p37, List.forall_mem_cons.mpr ⟨lw_p38, fun _ h => absurd h List.not_mem_nil⟩⟩⟩⟩⟩⟩⟩
def lw_privs : List (MethodName × Nat) := lw_privs_1 ++ (lw_privs_2 ++ (lw_privs_3))
def lw_tbl : List Cond := k2_sels lw_privs ++ tables_1
theorem lw_privs_ok : ∀ q ∈ lw_privs, lw_okq q := by
  show ∀ q ∈ lw_privs_1 ++ (lw_privs_2 ++ (lw_privs_3)), lw_okq q
  exact List.forall_mem_append.mpr ⟨lw_r1, List.forall_mem_append.mpr ⟨lw_r2, lw_r3⟩⟩
-- ===== end of PART A; then your names; then what follows =====
end
section
/-! ===== BEGIN words of one list among another's, by their places ===== -/
theorem goodIn_r {big : List Cond} (ws : List Cond) (ps : List Nat) (hp : ws = ps.filterMap (fun i => big[i]?)) (h : ws.all goodWord = true) : GoodIn big ws := by
  intro w hw
  have h1 := List.all_eq_true.mp h w hw
  rw [hp] at hw
  obtain ⟨i, -, hi⟩ := List.mem_filterMap.mp hw
  have hm : w ∈ big := by first | exact List.mem_of_getElem? hi | exact List.getElem?_mem hi
  exact ⟨hm, good_of_word h1⟩
theorem goodIn_app {big a b : List Cond} (ha : GoodIn big a) (hb : GoodIn big b) : GoodIn big (a ++ b) := fun w h => (List.mem_append.mp h).elim (ha w) (hb w)
theorem goodIn_ca {big a b : List Cond} {c : Cond} (ha : GoodIn big (c :: a)) (hb : GoodIn big b) : GoodIn big (c :: (a ++ b)) := fun w h => (List.mem_cons.mp h).elim (fun e => ha w (List.mem_cons.mpr (Or.inl e))) (fun h => (List.mem_append.mp h).elim (fun h => ha w (List.mem_cons.mpr (Or.inr h))) (hb w))
theorem goodIn_sub {big ws : List Cond} (hm : ∀ w ∈ ws, w ∈ big) (h : ws.all goodWord = true) : GoodIn big ws := fun w hw => ⟨hm w hw, good_of_word (List.all_eq_true.mp h w hw)⟩
/-! ===== END ===== -/

/-! ===== BEGIN exceptions that leave a method, and their catching by the caller (launches without stack traces) ===== -/
section VXA
/-! The laws vx_back, vx_callV, vx_callS, vx_callSW, vx_throw0, vx_throwS follow proofs of the library, with one case more: JvmDerived/Free/Laws.lean (Back.of_free), Shelf42/LK1.lean (callV, callS), Shelf/KitTraced.lean (throwNew0V, throwNewS). -/
/-- where a method has thrown q: the class by its name, the cell, what was written, the world -/
def vx_T (XC : String → State → State → Prop) (st : State) (q : Addr) (t : State) (mc ms : Nat) (free : Addr → Prop) : Prop :=
  ∃ (E : String) (ce : Cell) (L : List Loc), XC E st t ∧ t.heap[q]? = some ce ∧ ce.vm = .none ∧ st.vm.findClass E = some ce.cls ∧ st.WarmedH t.vm ∧ st.sameButNew ({ t with vm := st.vm } : State) L mc ms ∧ ∀ z ∈ L, free z.base
def vx_Q (Qc : Array Value → State → Outcome → State → Prop) (XC : String → State → State → Prop) (mc ms : Nat) (free : Addr → Prop) : Array Value → State → Outcome → State → Prop := fun a st o t =>
  (Qc a st o t ∧ ∃ L, FrameEnd st o t L mc ms ∧ ∀ q ∈ L, free q.base) ∨ ∃ q, o = .threw q ∧ vx_T XC st q t mc ms free
/-- a callee that returns or throws -/
def vx_Met (l : Launch) (y : MethodName) (ws : List Cond) (rm : Room) (Pc : Array Value → State → Prop) (Qc : Array Value → State → Outcome → State → Prop) (XC : String → State → State → Prop) (mc ms : Nat) (free : Addr → Prop) : Prop :=
  MetFree l y (headSpec ws rm) Pc (fun _ _ _ _ _ => True) (vx_Q Qc XC mc ms free)
def vx_Post (XC : String → State → State → Prop) (mc ms : Nat) (free : Addr → Prop) : Pt → Array Value → Addr → Pt → Prop := fun A a q B =>
  ∃ (g : JFrame) (mk : MethodId) (t : State) (L : List Loc) (E : String) (ce : Cell), B.U.heap = t.heap ∧ B.U.vm = t.vm ∧ XC E (A.U.calling g mk a) t ∧ t.heap[q]? = some ce ∧ ce.vm = .none ∧ A.U.vm.findClass E = some ce.cls ∧ B.locs = A.locs ++ L ∧ (∀ z ∈ L, free z.base) ∧ B.cells = A.cells + mc ∧ B.slots = A.slots + ms
def vx_Back (l : Launch) (R : Room) (p : Program) (e : Env) (below : List Frame) (s : State) (sargs : Array Value) (y : MethodName) (len W9 : Nat)
    (Pre : Pt → Array Value → Prop) (Post : Pt → Array Value → Option Value → Pt → Prop) (PostX : Pt → Array Value → Addr → Pt → Prop) : Prop :=
  ∀ (m : MethodId) (meth : Method) (c : Code) (A : Pt) (g : JFrame) (ig : Instr) (mk : MethodId) (a : Array Value),
    Stand p l e R s m sargs below meth c A.U A.locs A.cells A.slots → g.method = m → g.locals.size = c.maxLocals → decode c.code g.pc = .ok (ig, len) →
    2 * g.monitorRoom + (g.stack.map fun v => v.category).sum ≤ W9 → A.U.methodNamed? y = some mk → Pre A a →
    (∃ (v : Option Value) (B : Pt), Stand p l e R s m sargs below meth c B.U B.locs B.cells B.slots ∧ Post A a v B ∧
      Steps p.tables e below (doInvoke e (A.U.setTop g) [] mk a).1 (B.U.setTop { g with pc := g.pc + len, stack := v.toList ++ g.stack })) ∨
    (∃ (q : Addr) (B : Pt), Stand p l e R s m sargs below meth c B.U B.locs B.cells B.slots ∧ PostX A a q B ∧
      Steps p.tables e below (doInvoke e (A.U.setTop g) [] mk a).1 ((B.U.setTop g).pushFrame (.throwing q)))
section Payer
variable {l : Launch} {R : Room} {p : Program} {e : Env} {below : List Frame} {s : State} {sargs : Array Value} {y : MethodName} {len W9 : Nat}
theorem vx_back {ws : List Cond} {rm : Room} {Pc : Array Value → State → Prop} {Qc : Array Value → State → Outcome → State → Prop} {XC : String → State → State → Prop} {mc ms : Nat} {free : Addr → Prop} {bytes : ByteArray} {maxL : Nat} {ret : Option FieldType}
    (hM : vx_Met l y ws rm Pc Qc XC mc ms free) (hblind : FrameBlind Pc) (hrc : rm.cells = mc) (hrs : rm.slots = ms)
    (hframes : rm.frames + 1 ≤ R.frames) (hlocals : W9 + (maxL + 11) + rm.locals ≤ R.locals)
    (hws : ∀ w ∈ ws, ∀ a' U, s.WarmedH U.vm → w.before a' U = true) (hcode : Cond.code y bytes maxL ret ∈ ws) (hinit : ∀ a' U, s.WarmedH U.vm → (Cond.initialized y.cls).before a' U = true) :
    vx_Back l R p e below s sargs y len W9 (PreOf R mc ms Pc) (PostOf Qc mc ms free) (vx_Post XC mc ms free) := by
  intro m meth c A g ig mk a X hg hsize hdg hW hn hp
  have h1 : (headSpec ws rm).pre.before a A.U = true := atoms_intro fun w hw => hws w hw _ _ X.warmed
  have h2 : (Cond.code y bytes maxL ret).before a A.U = true := hws _ hcode _ _ X.warmed
  have h3 : (Cond.initialized y.cls).before a A.U = true := hinit _ _ X.warmed
  have h4 : A.cells + (headSpec ws rm).room.cells ≤ R.cells := by rw [show (headSpec ws rm).room.cells = mc from hrc]; exact hp.1
  have h5 : A.slots + (headSpec ws rm).room.slots ≤ R.slots := by rw [show (headSpec ws rm).room.slots = ms from hrs]; exact hp.2.1
  have hPc : Pc a (A.U.calling g mk a) := hblind _ _ _ _ hp.2.2
  obtain ⟨U, Ls, c0, s0⟩ := A
  dsimp only [Pt.U, Pt.locs, Pt.cells, Pt.slots] at h1 h2 h3 h4 h5 X hn hPc ⊢
  obtain ⟨methY, cY, hmY, hcY, -, hlY, -, -, -, -⟩ := Cond.code_spec hn h2
  obtain ⟨kY, hkY, -⟩ := className_of_methodNamed hn
  have hinitY : kY.init = .initialized := Cond.initialized_spec (findClass_of_methodNamed hn) hkY h3
  have h : At U g.method c below := by rw [hg]; exact X.here
  have hlocals9 : W9 + (maxL + 11) + (headSpec ws rm).room.locals ≤ R.locals := hlocals
  have happ : (headSpec ws rm).appliesLoose y e.platform (U.calling g mk a) = true :=
    Spec.appliesLoose_calling (g := g) h hdg hn hkY hinitY
      (X.room_calling (g := g) (R' := (headSpec ws rm).room) hsize hmY hcY hframes (by rw [hlY]; omega) h4 h5) h1
  obtain ⟨mid, hmid⟩ := h.above
  have hfr : (U.setTop g).frames = (.java g :: mid) ++ below := by rw [State.frames_setTop' g h.top, hmid]; rfl
  obtain ⟨o, s₂, hsteps, -, hend, hq⟩ := Steps.callFree hM p X.admits X.cas X.clock (acts := []) hfr happ hPc trivial
  have hq' : vx_Q Qc XC mc ms free a (U.calling g mk a) o s₂ := hq
  rw [State.frames_setTop' g h.top] at hend
  obtain ⟨g₀, hg0⟩ := Option.isSome_iff_exists.mp h.top
  obtain ⟨r, hr⟩ := State.topJava?_eq_some.mp hg0
  have hr' : (({ U with heap := s₂.heap, slotsUsed := s₂.slotsUsed } : State).setVm s₂.vm).frames = .java g₀ :: r := hr
  rcases hq' with ⟨hqc, L, hfe, hL⟩ | ⟨q, rfl, E, ce, L, hx, hce, hcv, hcl, hW₂, hsm, hL⟩
  · obtain ⟨⟨v, rfl⟩, hW₂, e2, q2, q3, q4, q5, q6⟩ := id hfe
    have e3 : s₂ = ({ (U.calling g mk a).setFrames s₂.frames with heap := s₂.heap, slotsUsed := s₂.slotsUsed } : State).setVm s₂.vm := by
      have : s₂ = ({ s₂ with vm := (U.calling g mk a).vm } : State).setVm s₂.vm := rfl
      rw [e2] at this
      exact this
    obtain ⟨c₂, i₂, len₂, hc₂, hd₂, hf₂⟩ := hend
    have hW' : U.WarmedH s₂.vm := hW₂
    have hcc : c₂ = c := by
      have h1 : s₂.code? g.method = U.code? g.method := by
        rw [State.code?_eq, State.code?_eq, hW'.alike.method?]
      exact Option.some.inj (hc₂.symm.trans (h1.trans h.code))
    subst hcc
    have hlen : len₂ = len := by rw [hdg] at hd₂; cases hd₂; rfl
    subst hlen
    have hs₂ : s₂ = (({ U with heap := s₂.heap, slotsUsed := s₂.slotsUsed } : State).setVm s₂.vm).setTop { g with pc := g.pc + len₂, stack := v.toList ++ g.stack } := by
      refine e3.trans ?_
      rw [hf₂, State.calling_eq h.top, State.setFrames_setFrames, State.setTop_of_frames _ hr', hr]
      rfl
    have hsame : U.sameButNew ({ U with heap := s₂.heap, slotsUsed := s₂.slotsUsed } : State) L mc ms := by
      refine ⟨?_, q2, q3, q4, q5, q6⟩
      obtain ⟨t, ht, -⟩ := State.frames_cons hr
      show ({ U with heap := s₂.heap, slotsUsed := s₂.slotsUsed } : State) = { U.setFrames U.frames with heap := s₂.heap, slotsUsed := s₂.slotsUsed }
      rw [State.setFrames_self ht]
    subst hg
    refine Or.inl ⟨v, ⟨(({ U with heap := s₂.heap, slotsUsed := s₂.slotsUsed } : State).setVm s₂.vm), Ls ++ L, c0 + mc, s0 + ms⟩,
      ⟨X.admits, X.cas, X.clock, X.frames, X.room, X.hears, X.method, X.code, (X.here.setHeapUsed s₂.heap s₂.slotsUsed).setVm hW'.alike, X.tail, State.WarmedH.trans X.warmed hW', X.limits, X.bytes, X.same.trans (hsame.setVm s.vm)⟩,
      ⟨g, mk, s₂, L, rfl, rfl, hqc, rfl, hL, rfl, rfl⟩, ?_⟩
    show Steps p.tables e below _ ((({ U with heap := s₂.heap, slotsUsed := s₂.slotsUsed } : State).setVm s₂.vm).setTop { g with pc := g.pc + len₂, stack := v.toList ++ g.stack })
    rw [← hs₂]
    exact hsteps
  · obtain ⟨e2, q2, q3, q4, q5, q6⟩ := id hsm
    have e3 : s₂ = ({ (U.calling g mk a).setFrames s₂.frames with heap := s₂.heap, slotsUsed := s₂.slotsUsed } : State).setVm s₂.vm := by
      have : s₂ = ({ s₂ with vm := (U.calling g mk a).vm } : State).setVm s₂.vm := rfl
      rw [e2] at this
      exact this
    have hf₂ : s₂.frames = .throwing q :: .java g :: U.frames.tail := hend
    have hW' : U.WarmedH s₂.vm := hW₂
    have hs₂ : s₂ = ((({ U with heap := s₂.heap, slotsUsed := s₂.slotsUsed } : State).setVm s₂.vm).setTop g).pushFrame (.throwing q) := by
      refine e3.trans ?_
      rw [hf₂, State.calling_eq h.top, State.setFrames_setFrames, State.pushFrame, State.frames_setTop _ hr', State.setTop_of_frames _ hr', State.setFrames_setFrames, hr]
      rfl
    have hsame : U.sameButNew ({ U with heap := s₂.heap, slotsUsed := s₂.slotsUsed } : State) L mc ms := by
      refine ⟨?_, q2, q3, q4, q5, q6⟩
      obtain ⟨t, ht, -⟩ := State.frames_cons hr
      show ({ U with heap := s₂.heap, slotsUsed := s₂.slotsUsed } : State) = { U.setFrames U.frames with heap := s₂.heap, slotsUsed := s₂.slotsUsed }
      rw [State.setFrames_self ht]
    subst hg
    refine Or.inr ⟨q, ⟨(({ U with heap := s₂.heap, slotsUsed := s₂.slotsUsed } : State).setVm s₂.vm), Ls ++ L, c0 + mc, s0 + ms⟩,
      ⟨X.admits, X.cas, X.clock, X.frames, X.room, X.hears, X.method, X.code, (X.here.setHeapUsed s₂.heap s₂.slotsUsed).setVm hW'.alike, X.tail, State.WarmedH.trans X.warmed hW', X.limits, X.bytes, X.same.trans (hsame.setVm s.vm)⟩,
      ⟨g, mk, s₂, L, E, ce, rfl, rfl, hx, hce, hcv, hcl, rfl, hL, rfl, rfl⟩, ?_⟩
    show Steps p.tables e below _ (((({ U with heap := s₂.heap, slotsUsed := s₂.slotsUsed } : State).setVm s₂.vm).setTop g).pushFrame (.throwing q))
    rw [← hs₂]
    exact hsteps
end Payer
section Calls
variable {p : Program} {l : Launch} {e : Env} {R : Room} {s : State} {m : MethodId} {args : Array Value} {below : List Frame} {meth : Method} {c : Code} {T : State} {locs : List Loc} {cells slots : Nat}
theorem vx_callV (X : Stand p l e R s m args below meth c T locs cells slots) (hexec : p.tables.exec = Jvm.exec) {own C : String} {index : Nat} {y : MethodName} {bytes : ByteArray} {maxL : Nat} {ret : Option FieldType}
    (hown : s.vm.findClass own = some m.cls) (hlink : (Cond.methodLink own index y).before args s = true) (hinst : (Cond.instanceMethod y).before args s = true) (hsel : (Cond.selects C y y).before args s = true)
    (hcode : (Cond.code y bytes maxL ret).before args s = true) (hy : y.cls ≠ "java/lang/invoke/MethodHandle" ∧ y.cls ≠ "java/lang/invoke/VarHandle")
    {W9 : Nat} {Pre : Pt → Array Value → Prop} {Post : Pt → Array Value → Option Value → Pt → Prop} {PostX : Pt → Array Value → Addr → Pt → Prop} (hK : vx_Back l R p e below s args y 3 W9 Pre Post PostX)
    {b : Addr} {cellB : Cell} (hcell : T.heap[b]? = some cellB) (hobj : cellB.vm.isStatics = false) (hcls : s.vm.findClass C = some cellB.cls)
    {g : JFrame} (hg : g.method = m) (hsize : g.locals.size = c.maxLocals) {argsL rest : List Value} (hlen : ∀ sig, parseMethodDescriptor y.desc = some sig → argsL.length = sig.parameters.length)
    (hstack : g.stack = argsL.reverse ++ .ref b :: rest) (hW : 2 * g.monitorRoom + (rest.map fun v => v.category).sum ≤ W9) (hdg : decode c.code g.pc = .ok (.invokevirtual index, 3))
    (hpre : ∀ vm₁, s.WarmedH vm₁ → Pre ⟨T.setVm vm₁, locs, cells, slots⟩ (Value.ref b :: argsL).toArray) :
    (∃ (v : Option Value) (vm₁ : Vm) (B : Pt), s.WarmedH vm₁ ∧ Stand p l e R s m args below meth c B.U B.locs B.cells B.slots ∧ Post ⟨T.setVm vm₁, locs, cells, slots⟩ (Value.ref b :: argsL).toArray v B ∧
      ∀ target, Steps p.tables e below (B.U.setTop { g with pc := g.pc + 3, stack := v.toList ++ rest }) target → Steps p.tables e below (T.setTop g) target) ∨
    (∃ (q : Addr) (vm₁ : Vm) (B : Pt), s.WarmedH vm₁ ∧ Stand p l e R s m args below meth c B.U B.locs B.cells B.slots ∧ PostX ⟨T.setVm vm₁, locs, cells, slots⟩ (Value.ref b :: argsL).toArray q B ∧
      Steps p.tables e below (T.setTop g) ((B.U.setTop { g with stack := rest }).pushFrame (.throwing q))) := by
  obtain ⟨mk, methM, hnamed, hmethM, hstM, habM⟩ := Cond.instanceMethod_spec hinst
  obtain ⟨methM', cM, hmethM', -, -, -, -, -, -, hsigM⟩ := Cond.code_spec hnamed hcode
  cases hmethM.symm.trans hmethM'
  obtain ⟨c2, r2, m2, q1, q2, q3, q4, kP, hkP, hkPi⟩ := Cond.selects_spec hsel
  cases hcls.symm.trans q1
  cases (State.methodFound?_of_named hnamed hy).symm.trans q2
  cases hnamed.symm.trans q3
  have hselP : selectMethod e.platform s.vm cellB.cls mk = .method mk := by rw [Launch.admits_selectMethod X.admits]; exact q4
  obtain ⟨vm₁, X₁, hstep₁⟩ := X.invokevirtual hexec hown hlink hnamed hmethM hstM hkP hkPi hy (a := b) (cell := cellB) hcell
    (fun z h => by rw [h] at hobj; cases hobj) hselP hmethM habM hkP hkPi (g := g) hg (argsL := argsL) (rest := rest) (hlen _ hsigM) hstack hdg
  rcases hK m meth c ⟨T.setVm vm₁, locs, cells, slots⟩ { g with stack := rest } (.invokevirtual index) mk (Value.ref b :: argsL).toArray X₁ hg hsize hdg hW (X₁.named hnamed) (hpre vm₁ X₁.warmed) with ⟨v, B, X', hpost, hsteps⟩ | ⟨q, B, X', hpost, hsteps⟩
  · exact Or.inl ⟨v, vm₁, B, X₁.warmed, X', hpost, fun target h => hstep₁ _ fun acts => by rw [doInvoke_state]; exact hsteps.trans h⟩
  · exact Or.inr ⟨q, vm₁, B, X₁.warmed, X', hpost, hstep₁ _ fun acts => by rw [doInvoke_state]; exact hsteps⟩
theorem vx_callS (X : Stand p l e R s m args below meth c T locs cells slots) (hexec : p.tables.exec = Jvm.exec) {own : String} {index : Nat} {y : MethodName} {bytes : ByteArray} {maxL : Nat} {ret : Option FieldType}
    (hown : s.vm.findClass own = some m.cls) (hlink : (Cond.methodLink own index y).before args s = true) (hstat : (Cond.static y).before args s = true) (hinit : (Cond.initialized y.cls).before args s = true)
    (hcode : (Cond.code y bytes maxL ret).before args s = true) (hy : y.cls ≠ "java/lang/invoke/MethodHandle" ∧ y.cls ≠ "java/lang/invoke/VarHandle")
    {W9 : Nat} {Pre : Pt → Array Value → Prop} {Post : Pt → Array Value → Option Value → Pt → Prop} {PostX : Pt → Array Value → Addr → Pt → Prop} (hK : vx_Back l R p e below s args y 3 W9 Pre Post PostX)
    {g : JFrame} (hg : g.method = m) (hsize : g.locals.size = c.maxLocals) {argsL rest : List Value} (hlen : ∀ sig, parseMethodDescriptor y.desc = some sig → argsL.length = sig.parameters.length)
    (hstack : g.stack = argsL.reverse ++ rest) (hW : 2 * g.monitorRoom + (rest.map fun v => v.category).sum ≤ W9) (hdg : decode c.code g.pc = .ok (.invokestatic index, 3))
    (hpre : ∀ vm₁, s.WarmedH vm₁ → Pre ⟨T.setVm vm₁, locs, cells, slots⟩ argsL.toArray) :
    (∃ (v : Option Value) (vm₁ : Vm) (B : Pt), s.WarmedH vm₁ ∧ Stand p l e R s m args below meth c B.U B.locs B.cells B.slots ∧ Post ⟨T.setVm vm₁, locs, cells, slots⟩ argsL.toArray v B ∧
      ∀ target, Steps p.tables e below (B.U.setTop { g with pc := g.pc + 3, stack := v.toList ++ rest }) target → Steps p.tables e below (T.setTop g) target) ∨
    (∃ (q : Addr) (vm₁ : Vm) (B : Pt), s.WarmedH vm₁ ∧ Stand p l e R s m args below meth c B.U B.locs B.cells B.slots ∧ PostX ⟨T.setVm vm₁, locs, cells, slots⟩ argsL.toArray q B ∧
      Steps p.tables e below (T.setTop g) ((B.U.setTop { g with stack := rest }).pushFrame (.throwing q))) := by
  obtain ⟨mk, hnamed⟩ := Cond.code_named hcode
  obtain ⟨methM, cM, hmethM, -, -, -, -, -, -, hsigM⟩ := Cond.code_spec hnamed hcode
  have hstatic : methM.isStatic = true := Cond.static_spec hnamed hmethM hstat
  obtain ⟨kP, hkP, -⟩ := className_of_methodNamed hnamed
  have hinitP : kP.init = .initialized := Cond.initialized_spec (findClass_of_methodNamed hnamed) hkP hinit
  obtain ⟨vm₁, X₁, hstep₁⟩ := X.invokestatic hexec hown hlink hnamed hmethM hstatic hkP hinitP hy (g := g) hg (argsL := argsL) (rest := rest) (hlen _ hsigM) hstack hdg
  rcases hK m meth c ⟨T.setVm vm₁, locs, cells, slots⟩ { g with stack := rest } (.invokestatic index) mk argsL.toArray X₁ hg hsize hdg hW (X₁.named hnamed) (hpre vm₁ X₁.warmed) with ⟨v, B, X', hpost, hsteps⟩ | ⟨q, B, X', hpost, hsteps⟩
  · exact Or.inl ⟨v, vm₁, B, X₁.warmed, X', hpost, fun target h => hstep₁ _ fun acts => by rw [doInvoke_state]; exact hsteps.trans h⟩
  · exact Or.inr ⟨q, vm₁, B, X₁.warmed, X', hpost, hstep₁ _ fun acts => by rw [doInvoke_state]; exact hsteps⟩
end Calls
theorem vx_cls {s : State} {T : State} {vm₁ : Vm} {E : String} {k : ClassId} (hW : s.WarmedH vm₁) (h : (T.setVm vm₁).vm.findClass E = some k) : s.vm.findClass E = some k := by
  have h1 : vm₁.findClass E = some k := h
  rw [hW.alike.findClass] at h1
  exact h1
/-- the method's frame g, with q thrown over it -/
def vx_W (p : Program) (l : Launch) (e : Env) (R : Room) (s : State) (m : MethodId) (args : Array Value) (below : List Frame) (meth : Method) (c : Code) (H : Heap) (locs : List Loc) (cells slots : Nat) (Q : State → Prop) (g : JFrame) (q : Addr) : Prop :=
  ∀ T : State, T.heap = H → Stand p l e R s m args below meth c T locs cells slots → ∃ t, Steps p.tables e below ((T.setTop g).pushFrame (.throwing q)) t ∧ Q t
def vx_Run (p : Program) (l : Launch) (e : Env) (R : Room) (s : State) (m : MethodId) (args : Array Value) (below : List Frame) (meth : Method) (c : Code) (H : Heap) (locs : List Loc) (cells slots mc ms : Nat) (g : JFrame) (rest : List Value) (Qa : State → Outcome → State → Prop) (XC : String → State → State → Prop) (free : Addr → Prop) : Prop :=
  ∀ T : State, T.heap = H → Stand p l e R s m args below meth c T locs cells slots →
    (∃ (v : Option Value) (st₀ t T' : State) (L : List Loc), st₀.heap = H ∧ Stand p l e R s m args below meth c T' (locs ++ L) (cells + mc) (slots + ms) ∧ (∀ q ∈ L, free q.base) ∧ T'.heap = t.heap ∧ T'.vm = t.vm ∧ Qa st₀ (.returned v) t ∧
      Goes p e below T g T' { g with pc := g.pc + 3, stack := v.toList ++ rest }) ∨
    (∃ (q : Addr) (st₀ t T' : State) (L : List Loc) (E : String) (ce : Cell), st₀.heap = H ∧ Stand p l e R s m args below meth c T' (locs ++ L) (cells + mc) (slots + ms) ∧ (∀ z ∈ L, free z.base) ∧ T'.heap = t.heap ∧ T'.vm = t.vm ∧ XC E st₀ t ∧ t.heap[q]? = some ce ∧ ce.vm = .none ∧ s.vm.findClass E = some ce.cls ∧
      Steps p.tables e below (T.setTop g) ((T'.setTop { g with stack := rest }).pushFrame (.throwing q)))
def vx_X {S : Type} (px : S → Prop) (B : String → S → State → Prop) (A : Nat → Prop) : String → State → State → Prop := fun E st t => ∃ u : S, px u ∧ B E u t ∧ va_F A st t
section Runs
variable {p : Program} {l : Launch} {e : Env} {R : Room} {s : State} {m : MethodId} {args : Array Value} {below : List Frame} {meth : Method} {c : Code} {H : Heap} {locs : List Loc} {cells slots : Nat}
variable {y : MethodName} {bytes cc : ByteArray} {maxL nL mc ms n index : Nat} {ret : Option FieldType} {ws : List Cond} {rm : Room} {Pc : Array Value → State → Prop} {Qc : Array Value → State → Outcome → State → Prop} {XC : String → State → State → Prop} {free : Addr → Prop} {Ts : List Cond} {own C : String} {b : Addr} {As rest : List Value} {g : JFrame}
theorem vx_callBack (cb : CallB R s args own index y bytes maxL ret ws rm mc ms n) (hM : vx_Met l y ws rm Pc Qc XC mc ms free) (hbl : FrameBlind Pc) : vx_Back l R p e below s args y 3 8 (PreOf R mc ms Pc) (PostOf Qc mc ms free) (vx_Post XC mc ms free) := by
  obtain ⟨hrc, hrs, hfr, hlo, hws, hcw, -, hini, -⟩ := cb
  exact vx_back (bytes := bytes) (maxL := maxL) (ret := ret) hM hbl hrc hrs hfr hlo hws hcw (fun a' U hW => word_at hW (Or.inl (by first | rfl | simp [Cond.onTables, Cond.keeps, Cond.steady])) hini)
theorem vx_runV (S : CallFix p m c cc nL s args Ts own) (hM : vx_Met l y ws rm Pc Qc XC mc ms free) (cw : CallW R s args own C index y bytes maxL ret ws rm mc ms n) (hp : PreV s H C b Pc As)
    (hg : g.method = m) (hn : As.length = n) (hsize : g.locals.size = nL) (hstack : g.stack = As.reverse ++ .ref b :: rest) (hW : 2 * g.monitorRoom + (rest.map fun v => v.category).sum ≤ 8) (hdg : decode cc g.pc = .ok (.invokevirtual index, 3)) (hf : cells + mc ≤ R.cells ∧ slots + ms ≤ R.slots) :
    vx_Run p l e R s m args below meth c H locs cells slots mc ms g rest (Qc (Value.ref b :: As).toArray) XC free := by
  have hK : vx_Back l R p e below s args y 3 8 (PreOf R mc ms Pc) (PostOf Qc mc ms free) (vx_Post XC mc ms free) := vx_callBack cw.1 hM hp.1
  obtain ⟨⟨-, -, -, -, -, -, hcode, -, hy, hlen, hl⟩, hin, hse⟩ := cw
  obtain ⟨hx, hb, hml, ho, -⟩ := S
  obtain ⟨-, ⟨cellB, hcB, hoB, hclB⟩, hPc⟩ := hp
  intro T hT X
  rcases vx_callV X hx (C := C) (bytes := bytes) (maxL := maxL) (ret := ret) ho hl hin hse hcode hy hK (by rw [hT]; exact hcB) hoB hclB hg (hsize.trans hml.symm) (argsL := As) (rest := rest) (fun sig h => hn.trans (hlen sig h)) hstack hW (by rw [hb]; exact hdg)
    (fun vm₁ hW₁ => ⟨hf.1, hf.2, hPc (T.setVm vm₁) hT hW₁⟩) with ⟨v, vm₁, ⟨U', l2, c2, s2⟩, hW₁, X', ⟨g', mk, t, L, e1, e2, hq, h1, hL, h2, h3⟩, st⟩ | ⟨q, vm₁, ⟨U', l2, c2, s2⟩, hW₁, X', ⟨g', mk, t, L, E, ce, e1, e2, hq, hce, hcv, hcl, h1, hL, h2, h3⟩, st⟩
  · dsimp only [Pt.U, Pt.locs, Pt.cells, Pt.slots] at X' e1 e2 h1 h2 h3 st
    subst h1; subst h2; subst h3
    exact Or.inl ⟨v, (T.setVm vm₁).calling g' mk (Value.ref b :: As).toArray, t, U', L, hT, X', hL, e1, e2, hq, st⟩
  · dsimp only [Pt.U, Pt.locs, Pt.cells, Pt.slots] at X' e1 e2 h1 h2 h3 st hcl
    subst h1; subst h2; subst h3
    exact Or.inr ⟨q, (T.setVm vm₁).calling g' mk (Value.ref b :: As).toArray, t, U', L, E, ce, hT, X', hL, e1, e2, hq, hce, hcv, vx_cls hW₁ hcl, st⟩
theorem vx_runS (S : CallFix p m c cc nL s args Ts own) (hM : vx_Met l y ws rm Pc Qc XC mc ms free) (cw : CallB R s args own index y bytes maxL ret ws rm mc ms n ∧ (Cond.static y).before args s = true) (hp : PreS s H Pc As)
    (hg : g.method = m) (hn : As.length = n) (hsize : g.locals.size = nL) (hstack : g.stack = As.reverse ++ rest) (hW : 2 * g.monitorRoom + (rest.map fun v => v.category).sum ≤ 8) (hdg : decode cc g.pc = .ok (.invokestatic index, 3)) (hf : cells + mc ≤ R.cells ∧ slots + ms ≤ R.slots) :
    vx_Run p l e R s m args below meth c H locs cells slots mc ms g rest (Qc As.toArray) XC free := by
  have hK : vx_Back l R p e below s args y 3 8 (PreOf R mc ms Pc) (PostOf Qc mc ms free) (vx_Post XC mc ms free) := vx_callBack cw.1 hM hp.1
  obtain ⟨⟨-, -, -, -, -, -, hcode, hini, hy, hlen, hl⟩, hstt⟩ := cw
  obtain ⟨hx, hb, hml, ho, -⟩ := S
  intro T hT X
  rcases vx_callS X hx (bytes := bytes) (maxL := maxL) (ret := ret) ho hl hstt hini hcode hy hK hg (hsize.trans hml.symm) (argsL := As) (rest := rest) (fun sig h => hn.trans (hlen sig h)) hstack hW (by rw [hb]; exact hdg)
    (fun vm₁ hW₁ => ⟨hf.1, hf.2, hp.2 (T.setVm vm₁) hT hW₁⟩) with ⟨v, vm₁, ⟨U', l2, c2, s2⟩, hW₁, X', ⟨g', mk, t, L, e1, e2, hq, h1, hL, h2, h3⟩, st⟩ | ⟨q, vm₁, ⟨U', l2, c2, s2⟩, hW₁, X', ⟨g', mk, t, L, E, ce, e1, e2, hq, hce, hcv, hcl, h1, hL, h2, h3⟩, st⟩
  · dsimp only [Pt.U, Pt.locs, Pt.cells, Pt.slots] at X' e1 e2 h1 h2 h3 st
    subst h1; subst h2; subst h3
    exact Or.inl ⟨v, (T.setVm vm₁).calling g' mk As.toArray, t, U', L, hT, X', hL, e1, e2, hq, st⟩
  · dsimp only [Pt.U, Pt.locs, Pt.cells, Pt.slots] at X' e1 e2 h1 h2 h3 st hcl
    subst h1; subst h2; subst h3
    exact Or.inr ⟨q, (T.setVm vm₁).calling g' mk As.toArray, t, U', L, E, ce, hT, X', hL, e1, e2, hq, hce, hcv, vx_cls hW₁ hcl, st⟩
end Runs
section Rows
variable {p : Program} {l : Launch} {e : Env} {R : Room} {s : State} {m : MethodId} {args : Array Value} {below : List Frame} {meth : Method} {c : Code} {H : Heap} {locs : List Loc} {cells slots : Nat} {Q : State → Prop}
variable {mc ms : Nat} {free : Addr → Prop} {A0 A1 : Nat → Prop} {H0 : Heap} {a : Array Value} {pc : Nat} {ls : Array Slot} {st0 rest : List Value}
theorem vx_keep {st₀ t T' : State} {L : List Loc} (h0 : st₀.heap = H) (e1 : T'.heap = t.heap) (hS : va_S A0 H0 H locs) (hA : ∀ q, q < H.size → A1 q → A0 q) (hf : ∀ q, free q → A0 q) (hL : ∀ q ∈ L, free q.base) (hF : va_F A1 st₀ t) :
    H.size ≤ T'.heap.size ∧ (∀ q : Nat, q < H.size → ¬ A1 q → T'.heap[q]? = H[q]?) ∧ va_S A0 H0 T'.heap (locs ++ L) := by
  obtain ⟨hz, hk⟩ := hF
  rw [h0] at hz hk
  exact ⟨by rw [e1]; exact hz, fun q h1 h2 => by rw [e1]; exact hk q h1 h2,
    ⟨Nat.le_trans hS.1 (by rw [e1]; exact hz), fun q h1 h2 => by rw [e1, hk q (Nat.lt_of_lt_of_le h1 hS.1) (fun z => h2 (hA q (Nat.lt_of_lt_of_le h1 hS.1) z))]; exact hS.2.1 q h1 h2, fun q hq => by
      rcases List.mem_append.mp hq with h | h
      · exact hS.2.2 q h
      · exact hf _ (hL q h)⟩⟩
theorem vx_calli {S SX : Type} {post : Int32 → S → Prop} {px : SX → Prop} {B : S → State → Prop} {BX : String → SX → State → Prop} {AX : Nat → Prop} (hr : vx_Run p l e R s m args below meth c H locs cells slots mc ms (F0 m pc ls st0) rest (va_Qi post B A1 a) (vx_X px BX AX) free) (hS : va_S A0 H0 H locs) (hA : ∀ q, q < H.size → A1 q → A0 q) (hf : ∀ q, free q → A0 q) (hAX : ∀ q, q < H.size → AX q → A0 q)
    (kx : ∀ (E : String) (ce : Cell) (q9 : Addr) (u : SX) (t : State) (H1 : Heap) (locs1 : List Loc), t.heap = H1 → s.vm.Alike t.vm → px u → BX E u t → H.size ≤ H1.size → (∀ q : Nat, q < H.size → ¬ AX q → H1[q]? = H[q]?) → va_S A0 H0 H1 locs1 → H1[q9]? = some ce → ce.vm = .none → s.vm.findClass E = some ce.cls → vx_W p l e R s m args below meth c H1 locs1 (cells + mc) (slots + ms) Q (F0 m pc ls rest) q9)
    (kk : ∀ (r : Int32) (u : S) (t : State) (H1 : Heap) (locs1 : List Loc), t.heap = H1 → s.vm.Alike t.vm → post r u → B u t → H.size ≤ H1.size → (∀ q : Nat, q < H.size → ¬ A1 q → H1[q]? = H[q]?) → va_S A0 H0 H1 locs1 → W p l e R s m args below meth c H1 locs1 (cells + mc) (slots + ms) Q (F0 m (pc + 3) ls (.int r :: rest))) : W p l e R s m args below meth c H locs cells slots Q (F0 m pc ls st0) := by
  intro T hT X
  rcases hr T hT X with ⟨v, st₀, t, T', L, h0, X', hL, e1, e2, ⟨⟨r, u, hv, hp, hb⟩, hF⟩, st⟩ | ⟨q, st₀, t, T', L, E, ce, h0, X', hL, e1, e2, ⟨u, hp, hb, hF⟩, hce, hcv, hcl, st⟩
  · cases hv
    obtain ⟨k1, k2, k3⟩ := vx_keep h0 e1 hS hA hf hL hF
    obtain ⟨t2, a1, b1⟩ := kk r u t T'.heap (locs ++ L) e1.symm (by rw [← e2]; exact X'.warmed.alike) hp hb k1 k2 k3 T' rfl X'
    exact ⟨t2, st t2 a1, b1⟩
  · obtain ⟨k1, k2, k3⟩ := vx_keep h0 e1 hS hAX hf hL hF
    obtain ⟨t2, a1, b1⟩ := kx E ce q u t T'.heap (locs ++ L) e1.symm (by rw [← e2]; exact X'.warmed.alike) hp hb k1 k2 k3 (by rw [e1]; exact hce) hcv hcl T' rfl X'
    exact ⟨t2, st.trans a1, b1⟩
theorem vx_calll {S SX : Type} {post : Int64 → S → Prop} {px : SX → Prop} {B : S → State → Prop} {BX : String → SX → State → Prop} {AX : Nat → Prop} (hr : vx_Run p l e R s m args below meth c H locs cells slots mc ms (F0 m pc ls st0) rest (va_Ql post B A1 a) (vx_X px BX AX) free) (hS : va_S A0 H0 H locs) (hA : ∀ q, q < H.size → A1 q → A0 q) (hf : ∀ q, free q → A0 q) (hAX : ∀ q, q < H.size → AX q → A0 q)
    (kx : ∀ (E : String) (ce : Cell) (q9 : Addr) (u : SX) (t : State) (H1 : Heap) (locs1 : List Loc), t.heap = H1 → s.vm.Alike t.vm → px u → BX E u t → H.size ≤ H1.size → (∀ q : Nat, q < H.size → ¬ AX q → H1[q]? = H[q]?) → va_S A0 H0 H1 locs1 → H1[q9]? = some ce → ce.vm = .none → s.vm.findClass E = some ce.cls → vx_W p l e R s m args below meth c H1 locs1 (cells + mc) (slots + ms) Q (F0 m pc ls rest) q9)
    (kk : ∀ (r : Int64) (u : S) (t : State) (H1 : Heap) (locs1 : List Loc), t.heap = H1 → s.vm.Alike t.vm → post r u → B u t → H.size ≤ H1.size → (∀ q : Nat, q < H.size → ¬ A1 q → H1[q]? = H[q]?) → va_S A0 H0 H1 locs1 → W p l e R s m args below meth c H1 locs1 (cells + mc) (slots + ms) Q (F0 m (pc + 3) ls (.long r :: rest))) : W p l e R s m args below meth c H locs cells slots Q (F0 m pc ls st0) := by
  intro T hT X
  rcases hr T hT X with ⟨v, st₀, t, T', L, h0, X', hL, e1, e2, ⟨⟨r, u, hv, hp, hb⟩, hF⟩, st⟩ | ⟨q, st₀, t, T', L, E, ce, h0, X', hL, e1, e2, ⟨u, hp, hb, hF⟩, hce, hcv, hcl, st⟩
  · cases hv
    obtain ⟨k1, k2, k3⟩ := vx_keep h0 e1 hS hA hf hL hF
    obtain ⟨t2, a1, b1⟩ := kk r u t T'.heap (locs ++ L) e1.symm (by rw [← e2]; exact X'.warmed.alike) hp hb k1 k2 k3 T' rfl X'
    exact ⟨t2, st t2 a1, b1⟩
  · obtain ⟨k1, k2, k3⟩ := vx_keep h0 e1 hS hAX hf hL hF
    obtain ⟨t2, a1, b1⟩ := kx E ce q u t T'.heap (locs ++ L) e1.symm (by rw [← e2]; exact X'.warmed.alike) hp hb k1 k2 k3 (by rw [e1]; exact hce) hcv hcl T' rfl X'
    exact ⟨t2, st.trans a1, b1⟩
theorem vx_callf {S SX : Type} {post : UInt32 → S → Prop} {px : SX → Prop} {B : S → State → Prop} {BX : String → SX → State → Prop} {AX : Nat → Prop} (hr : vx_Run p l e R s m args below meth c H locs cells slots mc ms (F0 m pc ls st0) rest (va_Qf post B A1 a) (vx_X px BX AX) free) (hS : va_S A0 H0 H locs) (hA : ∀ q, q < H.size → A1 q → A0 q) (hf : ∀ q, free q → A0 q) (hAX : ∀ q, q < H.size → AX q → A0 q)
    (kx : ∀ (E : String) (ce : Cell) (q9 : Addr) (u : SX) (t : State) (H1 : Heap) (locs1 : List Loc), t.heap = H1 → s.vm.Alike t.vm → px u → BX E u t → H.size ≤ H1.size → (∀ q : Nat, q < H.size → ¬ AX q → H1[q]? = H[q]?) → va_S A0 H0 H1 locs1 → H1[q9]? = some ce → ce.vm = .none → s.vm.findClass E = some ce.cls → vx_W p l e R s m args below meth c H1 locs1 (cells + mc) (slots + ms) Q (F0 m pc ls rest) q9)
    (kk : ∀ (r : UInt32) (u : S) (t : State) (H1 : Heap) (locs1 : List Loc), t.heap = H1 → s.vm.Alike t.vm → post r u → B u t → H.size ≤ H1.size → (∀ q : Nat, q < H.size → ¬ A1 q → H1[q]? = H[q]?) → va_S A0 H0 H1 locs1 → W p l e R s m args below meth c H1 locs1 (cells + mc) (slots + ms) Q (F0 m (pc + 3) ls (.float r :: rest))) : W p l e R s m args below meth c H locs cells slots Q (F0 m pc ls st0) := by
  intro T hT X
  rcases hr T hT X with ⟨v, st₀, t, T', L, h0, X', hL, e1, e2, ⟨⟨r, u, hv, hp, hb⟩, hF⟩, st⟩ | ⟨q, st₀, t, T', L, E, ce, h0, X', hL, e1, e2, ⟨u, hp, hb, hF⟩, hce, hcv, hcl, st⟩
  · cases hv
    obtain ⟨k1, k2, k3⟩ := vx_keep h0 e1 hS hA hf hL hF
    obtain ⟨t2, a1, b1⟩ := kk r u t T'.heap (locs ++ L) e1.symm (by rw [← e2]; exact X'.warmed.alike) hp hb k1 k2 k3 T' rfl X'
    exact ⟨t2, st t2 a1, b1⟩
  · obtain ⟨k1, k2, k3⟩ := vx_keep h0 e1 hS hAX hf hL hF
    obtain ⟨t2, a1, b1⟩ := kx E ce q u t T'.heap (locs ++ L) e1.symm (by rw [← e2]; exact X'.warmed.alike) hp hb k1 k2 k3 (by rw [e1]; exact hce) hcv hcl T' rfl X'
    exact ⟨t2, st.trans a1, b1⟩
theorem vx_calld {S SX : Type} {post : UInt64 → S → Prop} {px : SX → Prop} {B : S → State → Prop} {BX : String → SX → State → Prop} {AX : Nat → Prop} (hr : vx_Run p l e R s m args below meth c H locs cells slots mc ms (F0 m pc ls st0) rest (va_Qd post B A1 a) (vx_X px BX AX) free) (hS : va_S A0 H0 H locs) (hA : ∀ q, q < H.size → A1 q → A0 q) (hf : ∀ q, free q → A0 q) (hAX : ∀ q, q < H.size → AX q → A0 q)
    (kx : ∀ (E : String) (ce : Cell) (q9 : Addr) (u : SX) (t : State) (H1 : Heap) (locs1 : List Loc), t.heap = H1 → s.vm.Alike t.vm → px u → BX E u t → H.size ≤ H1.size → (∀ q : Nat, q < H.size → ¬ AX q → H1[q]? = H[q]?) → va_S A0 H0 H1 locs1 → H1[q9]? = some ce → ce.vm = .none → s.vm.findClass E = some ce.cls → vx_W p l e R s m args below meth c H1 locs1 (cells + mc) (slots + ms) Q (F0 m pc ls rest) q9)
    (kk : ∀ (r : UInt64) (u : S) (t : State) (H1 : Heap) (locs1 : List Loc), t.heap = H1 → s.vm.Alike t.vm → post r u → B u t → H.size ≤ H1.size → (∀ q : Nat, q < H.size → ¬ A1 q → H1[q]? = H[q]?) → va_S A0 H0 H1 locs1 → W p l e R s m args below meth c H1 locs1 (cells + mc) (slots + ms) Q (F0 m (pc + 3) ls (.double r :: rest))) : W p l e R s m args below meth c H locs cells slots Q (F0 m pc ls st0) := by
  intro T hT X
  rcases hr T hT X with ⟨v, st₀, t, T', L, h0, X', hL, e1, e2, ⟨⟨r, u, hv, hp, hb⟩, hF⟩, st⟩ | ⟨q, st₀, t, T', L, E, ce, h0, X', hL, e1, e2, ⟨u, hp, hb, hF⟩, hce, hcv, hcl, st⟩
  · cases hv
    obtain ⟨k1, k2, k3⟩ := vx_keep h0 e1 hS hA hf hL hF
    obtain ⟨t2, a1, b1⟩ := kk r u t T'.heap (locs ++ L) e1.symm (by rw [← e2]; exact X'.warmed.alike) hp hb k1 k2 k3 T' rfl X'
    exact ⟨t2, st t2 a1, b1⟩
  · obtain ⟨k1, k2, k3⟩ := vx_keep h0 e1 hS hAX hf hL hF
    obtain ⟨t2, a1, b1⟩ := kx E ce q u t T'.heap (locs ++ L) e1.symm (by rw [← e2]; exact X'.warmed.alike) hp hb k1 k2 k3 (by rw [e1]; exact hce) hcv hcl T' rfl X'
    exact ⟨t2, st.trans a1, b1⟩
theorem vx_callv {S SX : Type} {post : S → Prop} {px : SX → Prop} {B : S → State → Prop} {BX : String → SX → State → Prop} {AX : Nat → Prop} (hr : vx_Run p l e R s m args below meth c H locs cells slots mc ms (F0 m pc ls st0) rest (va_Qv post B A1 a) (vx_X px BX AX) free) (hS : va_S A0 H0 H locs) (hA : ∀ q, q < H.size → A1 q → A0 q) (hf : ∀ q, free q → A0 q) (hAX : ∀ q, q < H.size → AX q → A0 q)
    (kx : ∀ (E : String) (ce : Cell) (q9 : Addr) (u : SX) (t : State) (H1 : Heap) (locs1 : List Loc), t.heap = H1 → s.vm.Alike t.vm → px u → BX E u t → H.size ≤ H1.size → (∀ q : Nat, q < H.size → ¬ AX q → H1[q]? = H[q]?) → va_S A0 H0 H1 locs1 → H1[q9]? = some ce → ce.vm = .none → s.vm.findClass E = some ce.cls → vx_W p l e R s m args below meth c H1 locs1 (cells + mc) (slots + ms) Q (F0 m pc ls rest) q9)
    (kk : ∀ (u : S) (t : State) (H1 : Heap) (locs1 : List Loc), t.heap = H1 → s.vm.Alike t.vm → post u → B u t → H.size ≤ H1.size → (∀ q : Nat, q < H.size → ¬ A1 q → H1[q]? = H[q]?) → va_S A0 H0 H1 locs1 → W p l e R s m args below meth c H1 locs1 (cells + mc) (slots + ms) Q (F0 m (pc + 3) ls (rest))) : W p l e R s m args below meth c H locs cells slots Q (F0 m pc ls st0) := by
  intro T hT X
  rcases hr T hT X with ⟨v, st₀, t, T', L, h0, X', hL, e1, e2, ⟨⟨u, hv, hp, hb⟩, hF⟩, st⟩ | ⟨q, st₀, t, T', L, E, ce, h0, X', hL, e1, e2, ⟨u, hp, hb, hF⟩, hce, hcv, hcl, st⟩
  · cases hv
    obtain ⟨k1, k2, k3⟩ := vx_keep h0 e1 hS hA hf hL hF
    obtain ⟨t2, a1, b1⟩ := kk u t T'.heap (locs ++ L) e1.symm (by rw [← e2]; exact X'.warmed.alike) hp hb k1 k2 k3 T' rfl X'
    exact ⟨t2, st t2 a1, b1⟩
  · obtain ⟨k1, k2, k3⟩ := vx_keep h0 e1 hS hAX hf hL hF
    obtain ⟨t2, a1, b1⟩ := kx E ce q u t T'.heap (locs ++ L) e1.symm (by rw [← e2]; exact X'.warmed.alike) hp hb k1 k2 k3 (by rw [e1]; exact hce) hcv hcl T' rfl X'
    exact ⟨t2, st.trans a1, b1⟩
end Rows
section Ends
variable {p : Program} {l : Launch} {e : Env} {R : Room} {s : State} {m : MethodId} {args : Array Value} {below : List Frame} {meth : Method} {c : Code} {H : Heap} {locs : List Loc} {cells slots : Nat} {Q : State → Prop}
variable {mc ms : Nat} {free : Addr → Prop} {A0 A1 : Nat → Prop} {H0 : Heap} {a : Array Value} {ls : Array Slot} {st0 rest : List Value}
variable {Qc : Array Value → State → Outcome → State → Prop} {XC : String → State → State → Prop}
/-- what a body that may throw owes at its end -/
def vx_MQ (below : List Frame) (Qc : Array Value → State → Outcome → State → Prop) (XC : String → State → State → Prop) (a : Array Value) (s : State) (mc ms : Nat) (free : Addr → Prop) : State → Prop := fun t =>
  ∃ o, t.status = .running ∧ Ended t below o ∧ vx_Q Qc XC mc ms free a s o t
theorem vx_ret {g : JFrame} {mc ms : Nat} (k : W p l e R s m args below meth c H locs cells slots (MQ below Qc args s mc ms free) g) : W p l e R s m args below meth c H locs cells slots (vx_MQ below Qc XC args s mc ms free) g := by
  intro T hT X
  obtain ⟨t, a1, o, b1, b2, b3, b4⟩ := k T hT X
  exact ⟨t, a1, o, b1, b2, Or.inl ⟨b3, b4⟩⟩
/-- not caught here: it goes on to the caller -/
theorem vx_widen {g : JFrame} {q : Addr} {k n : Nat} (h1 : cells ≤ k) (h2 : slots ≤ n) (kk : vx_W p l e R s m args below meth c H locs k n Q g q) : vx_W p l e R s m args below meth c H locs cells slots Q g q := fun T hT X => kk T hT (stand_widen X h1 h2)
theorem vx_out {pc : Nat} {E : String} {ce : Cell} {q : Addr} {mc ms : Nat} (hout : ∀ x ∈ c.exceptionTable.toList, covers x pc = false) (hlocks : meth.locks = false) (hcell : H[q]? = some ce) (hv : ce.vm = .none) (hcl : s.vm.findClass E = some ce.cls)
    (hx : ∀ t : State, t.heap = H → s.vm.Alike t.vm → XC E s t) (hf : ∀ z ∈ locs, free z.base) (hc : cells ≤ mc) (hs : slots ≤ ms) :
    vx_W p l e R s m args below meth c H locs cells slots (vx_MQ below Qc XC args s mc ms free) (F0 m pc ls rest) q := by
  intro T hT X
  obtain ⟨st1, hrun, hend, hW, hsm⟩ := X.leaveThrown q (g := F0 m pc ls rest) rfl rfl rfl hout hlocks
  have hcell9 : (T.setFrames (.throwing q :: below)).heap[q]? = some ce := by
    show T.heap[q]? = some ce
    rw [hT]; exact hcell
  exact ⟨_, st1, .threw q, hrun, hend, Or.inr ⟨q, rfl, E, ce, locs, hx _ hT hW.alike, hcell9, hv, hcl, hW, hsm.mono hc hs, hf⟩⟩
theorem vx_frame {U : State} {k n : Nat} (h : s.sameButNew ({ U with vm := s.vm } : State) locs k n) : s.heap.size ≤ U.heap.size ∧ ∀ q : Nat, q < s.heap.size → (∀ z ∈ locs, z.base ≠ q) → U.heap[q]? = s.heap[q]? := by
  obtain ⟨-, h2, -, -, -, h6⟩ := h
  refine ⟨h2, fun q hq hz => ?_⟩
  obtain ⟨c9, e1, e2, e3, e4⟩ := h6 q _ (Array.getElem?_eq_getElem hq)
  have hs : c9.slots = (s.heap[q]).slots := Array.ext_getElem? fun i => e4 i fun hm => hz _ hm rfl
  have h9 : c9 = s.heap[q] := by
    rw [hs] at e2
    exact e2
  have e5 : U.heap[q]? = some c9 := e1
  rw [e5, h9, Array.getElem?_eq_getElem hq]
/-- the words of a throw but the four that speak of the heap -/
def vx_no (w : Cond) : Bool := decide (w ≠ .isRef (.static Bundle.tN "UNASSIGNED_STACK" Bundle.steD)) && decide (w ≠ .isRef (.static Bundle.tN "SUPPRESSED_SENTINEL" Bundle.listD)) && decide (w ≠ .laysStatic Bundle.tN "UNASSIGNED_STACK" Bundle.steD) && decide (w ≠ .laysStatic Bundle.tN "SUPPRESSED_SENTINEL" Bundle.listD)
def vx_at0 (own : String) (ic : Nat) (X : String) (names : List String) : List Cond := (Bundle.ownAtoms0 own ic X names).filter vx_no
def vx_atS (own : String) (ic : Nat) (X : String) (names : List String) : List Cond := (Bundle.ownAtoms own ic X names).filter vx_no
/-- a word that the tables alone decide, or a good one -/
def vx_ot (w : Cond) : Bool := w.onTables || goodWord w
theorem vx_ot_at {args a' : Array Value} {s U : State} {w : Cond} (hW : s.WarmedH U.vm) (hvm : s.vm = U.vm) (hg : vx_ot w = true) (h : w.before args s = true) : w.before a' U = true := by
  simp only [vx_ot, Bool.or_eq_true] at hg
  rcases hg with hg | hg
  · exact va_tabs hg hvm h
  · exact word_at hW (good_of_word hg) h
/-- a list's words: the good ones out of the method's own list, the others by premises of their own -/
theorem vx_hat {args : Array Value} {s : State} {L B : List Cond} (h1 : ∀ w ∈ L.filter goodWord, w.before args s = true) (h2 : ∀ w ∈ L.filter (fun w => !goodWord w), w ∈ B) (h3 : ∀ w ∈ B, w.before args s = true) : ∀ w ∈ L, w.before args s = true := by
  intro w hw
  by_cases g : goodWord w = true
  · exact h1 w (List.mem_filter.mpr ⟨hw, g⟩)
  · refine h3 w (h2 w (List.mem_filter.mpr ⟨hw, ?_⟩))
    show (!goodWord w) = true
    cases hgw : goodWord w
    · rfl
    · exact absurd hgw g
theorem vx_c {args : Array Value} {s : State} {w : Cond} {B : List Cond} (h : w.before args s = true) (t : ∀ w ∈ B, w.before args s = true) : ∀ w' ∈ w :: B, w'.before args s = true := fun w' h' => (List.mem_cons.mp h').elim (fun e => by rw [e]; exact h) (t w')
theorem vx_n {args : Array Value} {s : State} : ∀ w ∈ ([] : List Cond), w.before args s = true := fun _ h => nomatch h
theorem vx_own {args : Array Value} {s : State} {L : List Cond} (h1 : ∀ w ∈ L.filter vx_no, w.before args s = true)
    (hU : (Cond.isRef (.static Bundle.tN "UNASSIGNED_STACK" Bundle.steD)).before args s = true) (hN : (Cond.isRef (.static Bundle.tN "SUPPRESSED_SENTINEL" Bundle.listD)).before args s = true)
    (lU : (Cond.laysStatic Bundle.tN "UNASSIGNED_STACK" Bundle.steD).before args s = true) (lN : (Cond.laysStatic Bundle.tN "SUPPRESSED_SENTINEL" Bundle.listD).before args s = true) : ∀ w ∈ L, w.before args s = true := by
  intro w hw
  by_cases e1 : w = .isRef (.static Bundle.tN "UNASSIGNED_STACK" Bundle.steD)
  · rw [e1]; exact hU
  · by_cases e2 : w = .isRef (.static Bundle.tN "SUPPRESSED_SENTINEL" Bundle.listD)
    · rw [e2]; exact hN
    · by_cases e3 : w = .laysStatic Bundle.tN "UNASSIGNED_STACK" Bundle.steD
      · rw [e3]; exact lU
      · by_cases e4 : w = .laysStatic Bundle.tN "SUPPRESSED_SENTINEL" Bundle.listD
        · rw [e4]; exact lN
        · exact h1 w (List.mem_filter.mpr ⟨hw, by unfold vx_no; rw [decide_eq_true e1, decide_eq_true e2, decide_eq_true e3, decide_eq_true e4]; rfl⟩)
/-- where a static field lies, its class's statics cell in H -/
def vx_L (C n d : String) (A : Nat → Prop) (U : State) (H : Heap) : Prop := ∃ (c : ClassId) (k : Class) (i : Nat) (f : Field) (a : Nat) (cell : Cell), U.vm.findClass C = some c ∧ U.fieldFound? C n d = some (c, k, i, f) ∧ f.isStatic = true ∧ k.statics = some a ∧ H[a]? = some cell ∧ cell.vm.isStatics = true ∧ cell.cls = c ∧ f.slot < cell.slots.size ∧ k.staticTypes[f.slot]? = some f.type ∧ ¬ A a
theorem vx_L.moved {C n d : String} {A : Nat → Prop} {u U : State} {H : Heap} (hvm : u.vm.Alike U.vm) (h : vx_L C n d A u H) : vx_L C n d A U H := by
  obtain ⟨c, k, i, f, a, cell, h1, h2, h3, h4, h5, h6, h7, h8, h9, h10⟩ := h
  obtain ⟨k', hi', he⟩ := State.fieldFound?_setVm hvm h2
  exact ⟨c, k', i, f, a, cell, by rw [hvm.findClass]; exact h1, hi', h3, by rw [he]; exact h4, h5, h6, h7, h8, by rw [he]; exact h9, h10⟩
theorem vx_L.kept {C n d : String} {A : Nat → Prop} {U : State} {H H1 : Heap} (h : vx_L C n d A U H) (hq : ∀ a : Nat, a < H.size → ¬ A a → H1[a]? = H[a]?) : vx_L C n d A U H1 := by
  obtain ⟨c, k, i, f, a, cell, h1, h2, h3, h4, h5, h6, h7, h8, h9, h10⟩ := h
  exact ⟨c, k, i, f, a, cell, h1, h2, h3, h4, by rw [hq a (Array.getElem?_eq_some_iff.mp h5).1 h10]; exact h5, h6, h7, h8, h9, h10⟩
theorem vx_L.narrow {C n d : String} {A B : Nat → Prop} {U : State} {H : Heap} (h : vx_L C n d A U H) (hAB : ∀ q, B q → A q) : vx_L C n d B U H := by
  obtain ⟨c, k, i, f, a, cell, h1, h2, h3, h4, h5, h6, h7, h8, h9, h10⟩ := h
  exact ⟨c, k, i, f, a, cell, h1, h2, h3, h4, h5, h6, h7, h8, h9, fun z => h10 (hAB _ z)⟩
theorem vx_L.word {C n d : String} {A : Nat → Prop} {s : State} {args : Array Value} (h : vx_L C n d A s s.heap) : (Cond.laysStatic C n d).before args s = true := by
  obtain ⟨c, k, i, f, a, cell, h1, h2, h3, h4, h5, h6, h7, h8, h9, -⟩ := h
  show (Cond.laysStatic C n d).holds args s none s [] = true
  exact Cond.laysStatic_of h1 h2 h3 h4 h5 h6 h7 h8 h9
/-- .. and what it holds: null or some reference -/
def vx_Zq (C n d : String) (A : Nat → Prop) (U : State) (H : Heap) : Prop := va_Zq C n d A U H ∧ vx_L C n d A U H
theorem vx_Zq.moved {C n d : String} {A : Nat → Prop} {u U : State} {H : Heap} (hvm : u.vm.Alike U.vm) (h : vx_Zq C n d A u H) : vx_Zq C n d A U H := ⟨va_Zq.moved hvm h.1, vx_L.moved hvm h.2⟩
theorem vx_Zq.kept {C n d : String} {A : Nat → Prop} {U : State} {H H1 : Heap} (h : vx_Zq C n d A U H) (hq : ∀ a : Nat, a < H.size → ¬ A a → H1[a]? = H[a]?) : vx_Zq C n d A U H1 := ⟨va_Zq.kept h.1 hq, vx_L.kept h.2 hq⟩
theorem vx_Zq.narrow {C n d : String} {A B : Nat → Prop} {U : State} {H : Heap} (h : vx_Zq C n d A U H) (hAB : ∀ q, B q → A q) : vx_Zq C n d B U H := ⟨va_Zq.narrow h.1 hAB, vx_L.narrow h.2 hAB⟩
theorem vx_Zqof {args : Array Value} {s : State} {C n d : String} {A : Nat → Prop} (hl : (Cond.laysStatic C n d).before args s = true) (hini : (Cond.initialized C).before args s = true) (h : (Cond.isRef (.static C n d)).before args s = true) (hA : ∀ a : Nat, a < s.heap.size → ¬ A a) : vx_Zq C n d A s s.heap := by
  refine ⟨va_Zqof hl hini h hA, ?_⟩
  obtain ⟨c, k, i, f, a, cell, h1, h2, h3, h4, h5, h6, h7, h8, h9⟩ := Cond.laysStatic_spec hl
  exact ⟨c, k, i, f, a, cell, h1, h2, h3, h4, h5, h6, h7, h8, h9, hA a (Array.getElem?_eq_some_iff.mp h5).1⟩
theorem vx_isRef {C n d : String} {v : Value} {A : Nat → Prop} {s : State} {args : Array Value} (h : va_Z C n d v A s s.heap) (hv : v.isRef = true) : (Cond.isRef (.static C n d)).before args s = true := by
  obtain ⟨cf, kf, fi, f, a, cell, h1, h2, h3, h4, h5, h6, h7, -⟩ := h
  have he : (Term.static C n d).eval args s none [] s = some v := by
    simp [Term.eval, State.fieldNamed?, h1, h2, h4, h5, h6, h7]
  simp only [Cond.before, Cond.holds, Cond.value, he]
  cases v <;> simp_all [Value.isRef]
theorem vx_isRefq {C n d : String} {A : Nat → Prop} {s : State} {args : Array Value} (h : va_Zq C n d A s s.heap) : (Cond.isRef (.static C n d)).before args s = true := by
  rcases h with h | ⟨t, h⟩
  · exact vx_isRef h rfl
  · exact vx_isRef h rfl
/-- the same frame, seen from here: as if the method were called anew in this heap -/
theorem vx_rebase {T : State} (X : Stand p l e R s m args below meth c T locs cells slots) {R' : Room} (hf : R'.frames ≤ R.frames) (hl : R'.locals ≤ R.locals) (hc : cells + R'.cells ≤ R.cells) (hs : slots + R'.slots ≤ R.slots) :
    Stand p l e R' ((T.setVm s.vm).setFrames (.invoking m args :: below)) m args below meth c T [] 0 0 := by
  have htop : (T.setVm s.vm).topJava?.isSome := X.here.top
  have hF : ((T.setVm s.vm).setFrames (.invoking m args :: below)).frames = .invoking m args :: below := State.frames_setFrames _ (State.cur_lt_of_top htop)
  obtain ⟨g₀, hg0⟩ := Option.isSome_iff_exists.mp htop
  obtain ⟨r, hr⟩ := State.topJava?_eq_some.mp hg0
  have hl9 : e.platform.stackLimits (T.setVm s.vm).me = e.platform.stackLimits s.me := X.limits
  have hb9 : (T.setVm s.vm).me.stackBytes = s.me.stackBytes := X.bytes
  refine ⟨X.admits, X.cas, X.clock, hF, ?_, X.hears, X.method, X.code, X.here, X.tail, X.warmed, ?_, ?_, ?_⟩
  · have h := X.room
    have hU : ((T.setVm s.vm).setFrames (.invoking m args :: below)).localsInUse = s.localsInUse := by
      rw [State.localsInUse_invoking hF (meth := meth) (c := c) X.method X.code, State.localsInUse_invoking X.frames X.method X.code]
    simp only [State.hasRoom, Bool.and_eq_true, decide_eq_true_eq] at h ⊢
    obtain ⟨⟨⟨⟨h1, h2, h3, h4, h5, h6⟩, h7⟩, h8⟩, h9⟩ := h
    rw [X.frames, List.length_cons] at h2 h3
    have q1 := X.heapSize
    have q2 := X.used
    simp only [hF, hU, List.length_cons, State.stackLimits_setFrames, State.stackBytes_setFrames, hl9, hb9]
    refine ⟨⟨⟨⟨by omega, by omega, by omega, by omega, by omega, h6⟩, ?_⟩, ?_⟩, X.book⟩
    · show T.heap.size + R'.cells ≤ e.platform.maxCells
      omega
    · show T.slotsUsed + R'.slots ≤ e.platform.maxSlots
      omega
  · rw [State.stackLimits_setFrames]; rfl
  · rw [State.stackBytes_setFrames]; rfl
  · refine ⟨?_, Nat.le_refl _, Nat.le_refl _, ?_, ?_, fun a c9 h9 => ⟨c9, h9, rfl, rfl, fun _ _ => rfl⟩⟩
    · obtain ⟨t, ht, -⟩ := State.frames_cons hr
      show T.setVm s.vm = { ((T.setVm s.vm).setFrames (.invoking m args :: below)).setFrames (T.setVm s.vm).frames with heap := T.heap, slotsUsed := T.slotsUsed }
      rw [State.setFrames_setFrames, State.setFrames_self ht]
      rfl
    · show T.slotsUsed = T.slotsUsed + ((T.heap.toList.drop T.heap.size).map (·.slots.size)).sum
      rw [List.drop_eq_nil_of_le (Nat.le_of_eq Array.length_toList)]
      rfl
    · show ((T.heap.toList.drop T.heap.size).map (·.slots.size)).sum ≤ 0
      rw [List.drop_eq_nil_of_le (Nat.le_of_eq Array.length_toList)]
      exact Nat.le_refl _
/-- 'throw new E()': new; dup; invokespecial; athrow -/
theorem vx_throw0 {cc : ByteArray} {pc : Nat} (hexec : p.tables.exec = Jvm.exec) (hb : c.code = cc) (hl : l.stackTraces = false) {own cls : String} {names : List String} {ik ic mc ms : Nat} {A : Nat → Prop}
    (hown : s.vm.findClass own = some m.cls) (hcls : Bundle.fit cls = true) (hnames : ∀ n ∈ names, Bundle.fit n = true)
    (hk : (Cond.classLink own ik cls).before args s = true) (hini : (Cond.initialized cls).before args s = true) (hat : ∀ w ∈ vx_at0 own ic cls names, w.before args s = true)
    (hgood : ∀ w ∈ Cond.classLink own ik cls :: Cond.initialized cls :: vx_at0 own ic cls names, vx_ot w = true)
    (hU : vx_Zq Bundle.tN "UNASSIGNED_STACK" Bundle.steD A s s.heap) (hN : vx_Zq Bundle.tN "SUPPRESSED_SENTINEL" Bundle.listD A s s.heap) (hS : va_S A s.heap H locs) (hsize : ls.size = c.maxLocals)
    (d0 : decode cc pc = .ok (.new ik, 3)) (d3 : decode cc (pc + 3) = .ok (.dup, 1)) (d4 : decode cc (pc + 4) = .ok (.invokespecial ic, 3)) (d7 : decode cc (pc + 7) = .ok (.athrow, 1))
    (hout : ∀ x ∈ c.exceptionTable.toList, covers x (pc + 7) = false)
    (hRframes : names.length + 3 < R.frames) (hRlocals : (rest.map fun v => v.category).sum + (13 * (names.length + 1) + 42) ≤ R.locals) (hRcells : cells + 1 ≤ R.cells) (hRslots : slots + 6 ≤ R.slots) (hlocks : meth.locks = false)
    (hx : ∀ t : State, s.vm.Alike t.vm → H.size ≤ t.heap.size → (∀ q : Nat, q < H.size → t.heap[q]? = H[q]?) → XC cls s t)
    (hf : ∀ z ∈ locs, free z.base) (hc : cells + 1 ≤ mc) (hs : slots + 6 ≤ ms) :
    W p l e R s m args below meth c H locs cells slots (vx_MQ below Qc XC args s mc ms free) (F0 m pc ls rest) := by
  intro T hT X
  have htr : e.platform.stackTraces = false := (show e.platform.stackTraces = l.stackTraces by rw [X.admits.platform]).trans hl
  have Y := vx_rebase X (R' := { frames := R.frames, locals := R.locals, cells := 1, slots := 6 }) (Nat.le_refl _) (Nat.le_refl _) hRcells hRslots
  obtain ⟨s', hA⟩ : ∃ z, z = (T.setVm s.vm).setFrames (.invoking m args :: below) := ⟨_, rfl⟩
  rw [← hA] at Y
  have hvm : s'.vm = s.vm := by rw [hA]; rfl
  have hhp : s'.heap = H := by rw [hA]; exact hT
  have hW0 : s.WarmedH s'.vm := by rw [hvm]; exact State.WarmedH.refl s
  have hat' : ∀ w ∈ vx_at0 own ic cls names, w.before args s' = true := fun w hw => vx_ot_at hW0 hvm.symm (hgood w (List.mem_cons_of_mem _ (List.mem_cons_of_mem _ hw))) (hat w hw)
  have hk' : (Cond.classLink own ik cls).before args s' = true := vx_ot_at hW0 hvm.symm (hgood _ List.mem_cons_self) hk
  have hini' : (Cond.initialized cls).before args s' = true := vx_ot_at hW0 hvm.symm (hgood _ (List.mem_cons_of_mem _ List.mem_cons_self)) hini
  have hU' : vx_Zq Bundle.tN "UNASSIGNED_STACK" Bundle.steD A s' s'.heap := by rw [hhp]; exact vx_Zq.moved hW0.alike (hU.kept hS.2.1)
  have hN' : vx_Zq Bundle.tN "SUPPRESSED_SENTINEL" Bundle.listD A s' s'.heap := by rw [hhp]; exact vx_Zq.moved hW0.alike (hN.kept hS.2.1)
  have h : ∀ w ∈ Bundle.ownAtoms0 own ic cls names, w.before args s' = true := vx_own hat' (vx_isRefq hU'.1) (vx_isRefq hN'.1) hU'.2.word hN'.2.word
  have hown' : s'.vm.findClass own = some m.cls := by rw [hvm]; exact hown
  have hins : (Cond.instantiable cls 6).before args s' = true := h _ (by simp [Bundle.ownAtoms0])
  obtain ⟨vm₁, cX, kX, hfX, hkX, -, -, X₁, st1⟩ := Y.newCold hexec (own := own) (C := cls) (index := ik) (n := 6) hown' hk' hins hini'
    (g := F0 m pc ls rest) rfl (by rw [hb]; exact d0) (Nat.le_refl _) (Nat.le_refl _)
  generalize hT1 : (T.setVm vm₁).pushCell { cls := cX, slots := kX.instanceTypes.map defaultValue, vm := .none } = T1 at X₁ st1
  have hcat : (Value.ref T.heap.size).category = 1 := rfl
  have hcellA : T1.heap[T.heap.size]? = some (freshCell cX kX) := by rw [← hT1]; exact State.heap_pushCell_size _ _
  have d3' : decode c.code (pc + 3) = .ok (.dup, 1) := by rw [hb]; exact d3
  obtain ⟨U, hsteps, hrun, hend, hW, hsame, ce, hce, hO⟩ := X₁.ctorThrow0 hexec htr (own := own) (cls := cls) (names := names) (ic := ic) hown' hcls hnames h (fun x hx => nomatch hx) hfX hkX hcellA (by rw [hhp, hT]; exact Nat.le_refl _)
    (g := { method := m, pc := pc + 4, locals := ls, stack := .ref T.heap.size :: .ref T.heap.size :: rest, locked := none }) rfl hsize rfl rfl (rest := rest) rfl
    (by rw [hb]; exact d4) (by rw [hb]; exact d7) hout hRframes (by simp only [List.map_cons, List.sum_cons, hcat]; omega) hlocks
  obtain ⟨f1, f2⟩ := vx_frame hsame
  rw [hhp] at f1 f2
  have hWs : s.WarmedH U.vm := State.WarmedH.trans hW0 hW
  have hcl : s.vm.findClass cls = some ce.cls := by
    have h9 := hO.cls
    rw [hvm] at h9
    exact h9
  have hall : s.sameButNew ({ U with vm := s.vm } : State) locs mc ms := by
    subst hA
    obtain ⟨e1, e2⟩ := hsame
    rw [State.setFrames_setFrames] at e1
    have h2 : (T.setVm s.vm).sameButNew ({ U with vm := s.vm } : State) [] (0 + 1) (0 + 6) := ⟨e1, e2⟩
    have h3 := X.same.trans h2
    rw [List.append_nil] at h3
    exact h3.mono hc hs
  refine ⟨U, ?_, .threw T.heap.size, hrun, hend, Or.inr ⟨T.heap.size, rfl, cls, ce, locs, hx U hWs.alike f1 (fun q hq => f2 q hq (fun z hz => nomatch hz)), hce, hO.vm, hcl, hWs, hall, hf⟩⟩
  refine st1 _ ?_
  show Steps p.tables e below (T1.setTop { method := m, pc := pc + 3, locals := ls, stack := .ref T.heap.size :: rest, locked := none }) _
  jvm_step X₁.here [X₁.here.top, hexec, d3', Value.category]
  exact hsteps
/-- 'throw new E("text")': new; dup; ldc; invokespecial; athrow -/
theorem vx_throwS {cc : ByteArray} {pc : Nat} (hexec : p.tables.exec = Jvm.exec) (hb : c.code = cc) (hl : l.stackTraces = false) {own cls text : String} {names : List String} {ik is ic mc ms sa : Nat} {A : Nat → Prop}
    (hown : s.vm.findClass own = some m.cls) (hcls : Bundle.fit cls = true) (hnames : ∀ n ∈ names, Bundle.fit n = true)
    (hk : (Cond.classLink own ik cls).before args s = true) (hini : (Cond.initialized cls).before args s = true) (hstr : vk_R own is text sa s) (hat : ∀ w ∈ vx_atS own ic cls names, w.before args s = true)
    (hgood : ∀ w ∈ Cond.classLink own ik cls :: Cond.initialized cls :: vx_atS own ic cls names, vx_ot w = true)
    (hU : vx_Zq Bundle.tN "UNASSIGNED_STACK" Bundle.steD A s s.heap) (hN : vx_Zq Bundle.tN "SUPPRESSED_SENTINEL" Bundle.listD A s s.heap) (hS : va_S A s.heap H locs) (hsize : ls.size = c.maxLocals)
    (d0 : decode cc pc = .ok (.new ik, 3)) (d3 : decode cc (pc + 3) = .ok (.dup, 1)) (d4 : decode cc (pc + 4) = .ok (.ldc is, 2)) (d6 : decode cc (pc + 6) = .ok (.invokespecial ic, 3)) (d9 : decode cc (pc + 9) = .ok (.athrow, 1))
    (hout : ∀ x ∈ c.exceptionTable.toList, covers x (pc + 9) = false)
    (hRframes : names.length + 3 < R.frames) (hRlocals : (rest.map fun v => v.category).sum + (13 * (names.length + 1) + 43) ≤ R.locals) (hRcells : cells + 1 ≤ R.cells) (hRslots : slots + 6 ≤ R.slots) (hlocks : meth.locks = false)
    (hx : ∀ t : State, s.vm.Alike t.vm → H.size ≤ t.heap.size → (∀ q : Nat, q < H.size → t.heap[q]? = H[q]?) → XC cls s t)
    (hf : ∀ z ∈ locs, free z.base) (hc : cells + 1 ≤ mc) (hs : slots + 6 ≤ ms) :
    W p l e R s m args below meth c H locs cells slots (vx_MQ below Qc XC args s mc ms free) (F0 m pc ls rest) := by
  intro T hT X
  have htr : e.platform.stackTraces = false := (show e.platform.stackTraces = l.stackTraces by rw [X.admits.platform]).trans hl
  have Y := vx_rebase X (R' := { frames := R.frames, locals := R.locals, cells := 1, slots := 6 }) (Nat.le_refl _) (Nat.le_refl _) hRcells hRslots
  obtain ⟨s', hA⟩ : ∃ z, z = (T.setVm s.vm).setFrames (.invoking m args :: below) := ⟨_, rfl⟩
  rw [← hA] at Y
  have hvm : s'.vm = s.vm := by rw [hA]; rfl
  have hhp : s'.heap = H := by rw [hA]; exact hT
  have hW0 : s.WarmedH s'.vm := by rw [hvm]; exact State.WarmedH.refl s
  have hat' : ∀ w ∈ vx_atS own ic cls names, w.before args s' = true := fun w hw => vx_ot_at hW0 hvm.symm (hgood w (List.mem_cons_of_mem _ (List.mem_cons_of_mem _ hw))) (hat w hw)
  have hk' : (Cond.classLink own ik cls).before args s' = true := vx_ot_at hW0 hvm.symm (hgood _ List.mem_cons_self) hk
  have hini' : (Cond.initialized cls).before args s' = true := vx_ot_at hW0 hvm.symm (hgood _ (List.mem_cons_of_mem _ List.mem_cons_self)) hini
  have hU' : vx_Zq Bundle.tN "UNASSIGNED_STACK" Bundle.steD A s' s'.heap := by rw [hhp]; exact vx_Zq.moved hW0.alike (hU.kept hS.2.1)
  have hN' : vx_Zq Bundle.tN "SUPPRESSED_SENTINEL" Bundle.listD A s' s'.heap := by rw [hhp]; exact vx_Zq.moved hW0.alike (hN.kept hS.2.1)
  have h : ∀ w ∈ Bundle.ownAtoms own ic cls names, w.before args s' = true := vx_own hat' (vx_isRefq hU'.1) (vx_isRefq hN'.1) hU'.2.word hN'.2.word
  have hown' : s'.vm.findClass own = some m.cls := by rw [hvm]; exact hown
  have hins : (Cond.instantiable cls 6).before args s' = true := h _ (by simp [Bundle.ownAtoms])
  obtain ⟨vm₁, cX, kX, hfX, hkX, -, -, X₁, st1⟩ := Y.newCold hexec (own := own) (C := cls) (index := ik) (n := 6) hown' hk' hins hini'
    (g := F0 m pc ls rest) rfl (by rw [hb]; exact d0) (Nat.le_refl _) (Nat.le_refl _)
  generalize hT1 : (T.setVm vm₁).pushCell { cls := cX, slots := kX.instanceTypes.map defaultValue, vm := .none } = T1 at X₁ st1
  have hcat : (Value.ref T.heap.size).category = 1 := rfl
  have hcellA : T1.heap[T.heap.size]? = some (freshCell cX kX) := by rw [← hT1]; exact State.heap_pushCell_size _ _
  have d3' : decode c.code (pc + 3) = .ok (.dup, 1) := by rw [hb]; exact d3
  have d4' : decode c.code (pc + 4) = .ok (.ldc is, 2) := by rw [hb]; exact d4
  have hstr' : vk_R own is text sa s' := vk_R.warm hW0 hstr
  obtain ⟨U, hsteps, hrun, hend, hW, hsame, ce, hce, hO⟩ := X₁.ctorThrowS hexec htr (own := own) (cls := cls) (names := names) (ic := ic) hown' hcls hnames h (fun x hx => nomatch hx) hfX hkX hcellA (by rw [hhp, hT]; exact Nat.le_refl _) (msg := .ref sa) rfl
    (g := { method := m, pc := pc + 6, locals := ls, stack := .ref sa :: .ref T.heap.size :: .ref T.heap.size :: rest, locked := none }) rfl hsize rfl rfl (rest := rest) rfl
    (by rw [hb]; exact d6) (by rw [hb]; exact d9) hout hRframes (by simp only [List.map_cons, List.sum_cons, hcat]; omega) hlocks
  obtain ⟨f1, f2⟩ := vx_frame hsame
  rw [hhp] at f1 f2
  have hWs : s.WarmedH U.vm := State.WarmedH.trans hW0 hW
  have hcl : s.vm.findClass cls = some ce.cls := by
    have h9 := hO.cls
    rw [hvm] at h9
    exact h9
  have hall : s.sameButNew ({ U with vm := s.vm } : State) locs mc ms := by
    subst hA
    obtain ⟨e1, e2⟩ := hsame
    rw [State.setFrames_setFrames] at e1
    have h2 : (T.setVm s.vm).sameButNew ({ U with vm := s.vm } : State) [] (0 + 1) (0 + 6) := ⟨e1, e2⟩
    have h3 := X.same.trans h2
    rw [List.append_nil] at h3
    exact h3.mono hc hs
  refine ⟨U, ?_, .threw T.heap.size, hrun, hend, Or.inr ⟨T.heap.size, rfl, cls, ce, locs, hx U hWs.alike f1 (fun q hq => f2 q hq (fun z hz => nomatch hz)), hce, hO.vm, hcl, hWs, hall, hf⟩⟩
  refine st1 _ ?_
  show Steps p.tables e below (T1.setTop { method := m, pc := pc + 3, locals := ls, stack := .ref T.heap.size :: rest, locked := none }) _
  jvm_step X₁.here [X₁.here.top, hexec, d3', Value.category]
  exact X₁.ldcString hexec (own := own) (text := text) (index := is) (a := sa) hown' hstr'.1 hstr'.2
    (g := { method := m, pc := pc + 4, locals := ls, stack := .ref T.heap.size :: .ref T.heap.size :: rest, locked := none }) rfl d4' _ hsteps
/-- 'throw new E("text")', the text by a wide index -/
theorem vx_throwSW {cc : ByteArray} {pc : Nat} (hexec : p.tables.exec = Jvm.exec) (hb : c.code = cc) (hl : l.stackTraces = false) {own cls text : String} {names : List String} {ik is ic mc ms sa : Nat} {A : Nat → Prop}
    (hown : s.vm.findClass own = some m.cls) (hcls : Bundle.fit cls = true) (hnames : ∀ n ∈ names, Bundle.fit n = true)
    (hk : (Cond.classLink own ik cls).before args s = true) (hini : (Cond.initialized cls).before args s = true) (hstr : vk_R own is text sa s) (hat : ∀ w ∈ vx_atS own ic cls names, w.before args s = true)
    (hgood : ∀ w ∈ Cond.classLink own ik cls :: Cond.initialized cls :: vx_atS own ic cls names, vx_ot w = true)
    (hU : vx_Zq Bundle.tN "UNASSIGNED_STACK" Bundle.steD A s s.heap) (hN : vx_Zq Bundle.tN "SUPPRESSED_SENTINEL" Bundle.listD A s s.heap) (hS : va_S A s.heap H locs) (hsize : ls.size = c.maxLocals)
    (d0 : decode cc pc = .ok (.new ik, 3)) (d3 : decode cc (pc + 3) = .ok (.dup, 1)) (d4 : decode cc (pc + 4) = .ok (.ldc_w is, 3)) (d7 : decode cc (pc + 7) = .ok (.invokespecial ic, 3)) (d10 : decode cc (pc + 10) = .ok (.athrow, 1))
    (hout : ∀ x ∈ c.exceptionTable.toList, covers x (pc + 10) = false)
    (hRframes : names.length + 3 < R.frames) (hRlocals : (rest.map fun v => v.category).sum + (13 * (names.length + 1) + 43) ≤ R.locals) (hRcells : cells + 1 ≤ R.cells) (hRslots : slots + 6 ≤ R.slots) (hlocks : meth.locks = false)
    (hx : ∀ t : State, s.vm.Alike t.vm → H.size ≤ t.heap.size → (∀ q : Nat, q < H.size → t.heap[q]? = H[q]?) → XC cls s t)
    (hf : ∀ z ∈ locs, free z.base) (hc : cells + 1 ≤ mc) (hs : slots + 6 ≤ ms) :
    W p l e R s m args below meth c H locs cells slots (vx_MQ below Qc XC args s mc ms free) (F0 m pc ls rest) := by
  intro T hT X
  have htr : e.platform.stackTraces = false := (show e.platform.stackTraces = l.stackTraces by rw [X.admits.platform]).trans hl
  have Y := vx_rebase X (R' := { frames := R.frames, locals := R.locals, cells := 1, slots := 6 }) (Nat.le_refl _) (Nat.le_refl _) hRcells hRslots
  obtain ⟨s', hA⟩ : ∃ z, z = (T.setVm s.vm).setFrames (.invoking m args :: below) := ⟨_, rfl⟩
  rw [← hA] at Y
  have hvm : s'.vm = s.vm := by rw [hA]; rfl
  have hhp : s'.heap = H := by rw [hA]; exact hT
  have hW0 : s.WarmedH s'.vm := by rw [hvm]; exact State.WarmedH.refl s
  have hat' : ∀ w ∈ vx_atS own ic cls names, w.before args s' = true := fun w hw => vx_ot_at hW0 hvm.symm (hgood w (List.mem_cons_of_mem _ (List.mem_cons_of_mem _ hw))) (hat w hw)
  have hk' : (Cond.classLink own ik cls).before args s' = true := vx_ot_at hW0 hvm.symm (hgood _ List.mem_cons_self) hk
  have hini' : (Cond.initialized cls).before args s' = true := vx_ot_at hW0 hvm.symm (hgood _ (List.mem_cons_of_mem _ List.mem_cons_self)) hini
  have hU' : vx_Zq Bundle.tN "UNASSIGNED_STACK" Bundle.steD A s' s'.heap := by rw [hhp]; exact vx_Zq.moved hW0.alike (hU.kept hS.2.1)
  have hN' : vx_Zq Bundle.tN "SUPPRESSED_SENTINEL" Bundle.listD A s' s'.heap := by rw [hhp]; exact vx_Zq.moved hW0.alike (hN.kept hS.2.1)
  have h : ∀ w ∈ Bundle.ownAtoms own ic cls names, w.before args s' = true := vx_own hat' (vx_isRefq hU'.1) (vx_isRefq hN'.1) hU'.2.word hN'.2.word
  have hown' : s'.vm.findClass own = some m.cls := by rw [hvm]; exact hown
  have hins : (Cond.instantiable cls 6).before args s' = true := h _ (by simp [Bundle.ownAtoms])
  obtain ⟨vm₁, cX, kX, hfX, hkX, -, -, X₁, st1⟩ := Y.newCold hexec (own := own) (C := cls) (index := ik) (n := 6) hown' hk' hins hini'
    (g := F0 m pc ls rest) rfl (by rw [hb]; exact d0) (Nat.le_refl _) (Nat.le_refl _)
  generalize hT1 : (T.setVm vm₁).pushCell { cls := cX, slots := kX.instanceTypes.map defaultValue, vm := .none } = T1 at X₁ st1
  have hcat : (Value.ref T.heap.size).category = 1 := rfl
  have hcellA : T1.heap[T.heap.size]? = some (freshCell cX kX) := by rw [← hT1]; exact State.heap_pushCell_size _ _
  have d3' : decode c.code (pc + 3) = .ok (.dup, 1) := by rw [hb]; exact d3
  have d4' : decode c.code (pc + 4) = .ok (.ldc_w is, 3) := by rw [hb]; exact d4
  have hstr' : vk_R own is text sa s' := vk_R.warm hW0 hstr
  obtain ⟨U, hsteps, hrun, hend, hW, hsame, ce, hce, hO⟩ := X₁.ctorThrowS hexec htr (own := own) (cls := cls) (names := names) (ic := ic) hown' hcls hnames h (fun x hx => nomatch hx) hfX hkX hcellA (by rw [hhp, hT]; exact Nat.le_refl _) (msg := .ref sa) rfl
    (g := { method := m, pc := pc + 7, locals := ls, stack := .ref sa :: .ref T.heap.size :: .ref T.heap.size :: rest, locked := none }) rfl hsize rfl rfl (rest := rest) rfl
    (by rw [hb]; exact d7) (by rw [hb]; exact d10) hout hRframes (by simp only [List.map_cons, List.sum_cons, hcat]; omega) hlocks
  obtain ⟨f1, f2⟩ := vx_frame hsame
  rw [hhp] at f1 f2
  have hWs : s.WarmedH U.vm := State.WarmedH.trans hW0 hW
  have hcl : s.vm.findClass cls = some ce.cls := by
    have h9 := hO.cls
    rw [hvm] at h9
    exact h9
  have hall : s.sameButNew ({ U with vm := s.vm } : State) locs mc ms := by
    subst hA
    obtain ⟨e1, e2⟩ := hsame
    rw [State.setFrames_setFrames] at e1
    have h2 : (T.setVm s.vm).sameButNew ({ U with vm := s.vm } : State) [] (0 + 1) (0 + 6) := ⟨e1, e2⟩
    have h3 := X.same.trans h2
    rw [List.append_nil] at h3
    exact h3.mono hc hs
  refine ⟨U, ?_, .threw T.heap.size, hrun, hend, Or.inr ⟨T.heap.size, rfl, cls, ce, locs, hx U hWs.alike f1 (fun q hq => f2 q hq (fun z hz => nomatch hz)), hce, hO.vm, hcl, hWs, hall, hf⟩⟩
  refine st1 _ ?_
  show Steps p.tables e below (T1.setTop { method := m, pc := pc + 3, locals := ls, stack := .ref T.heap.size :: rest, locked := none }) _
  jvm_step X₁.here [X₁.here.top, hexec, d3', Value.category]
  exact X₁.ldcStringW hexec (own := own) (text := text) (index := is) (a := sa) hown' hstr'.1 hstr'.2
    (g := { method := m, pc := pc + 4, locals := ls, stack := .ref T.heap.size :: .ref T.heap.size :: rest, locked := none }) rfl d4' _ hsteps
end Ends
section Bodies
variable {l : Launch}
theorem vx_ofW {y : MethodName} {ws ws' : List Cond} {rm : Room} {Pc : Array Value → State → Prop} {Qc : Array Value → State → Outcome → State → Prop} {XC : String → State → State → Prop} {mc ms : Nat} {free : Addr → Prop} {cc : ByteArray} {maxL : Nat} {ret : Option FieldType}
    (hy : plainName y.cls = true) (hw : ws = Cond.code y cc maxL ret :: ws')
    (body : ∀ p e s m args below meth c s₁, BodyLoose p l y (headSpec ws rm) cc maxL ret e s m args below meth c s₁ → c.maxLocals = maxL → (∀ x ∈ c.exceptionTable.toList, False) → Pc args s →
      W p l e (headSpec ws rm).room s m args below meth c s.heap [] 0 0 (vx_MQ below Qc XC args s mc ms free) (entryFrame m args maxL)) : vx_Met l y ws rm Pc Qc XC mc ms free := by
  refine MetFree.of_bodyS (code := cc) (maxLocals := maxL) (ret := ret) hy ?_ ?_
  · intro args s m h hn
    obtain ⟨meth, c, h1, h2, h3, h4, h5, h6, -, -⟩ := Cond.code_spec hn (atoms_spec (ws := ws) h _ (by rw [hw]; exact List.mem_cons_self))
    exact ⟨meth, c, h1, h2, h3, h4, h5, h6⟩
  · intro p e s m args below meth c s₁ B hml hP _
    have hh0 : s₁.heap = s.heap := by rw [B.state]; rfl
    have ht : ∀ x ∈ c.exceptionTable.toList, False := by
      obtain ⟨meth9, c9, h1, h2, -, -, -, -, h7, -⟩ := Cond.code_spec B.named (atoms_spec (ws := ws) B.pre _ (by rw [hw]; exact List.mem_cons_self))
      cases Option.some.inj (h1.symm.trans B.method)
      cases Option.some.inj (h2.symm.trans (Stand.of_body B).code)
      intro x hx
      rw [Array.isEmpty_iff.mp h7] at hx
      cases hx
    obtain ⟨t, a1, o, b1, b2, b3⟩ := body p e s m args below meth c s₁ B hml ht hP s₁ hh0 (Stand.of_body B)
    exact ⟨t, o, a1, b1, b2, b3⟩
/-- the table of a body with handlers -/
theorem vx_table {p : Program} {x y : MethodName} {S : Spec} {cc bytes : ByteArray} {maxL maxL' : Nat} {ret ret' : Option FieldType} {e : Env} {s s₁ : State} {m : MethodId} {args : Array Value} {below : List Frame} {meth : Method} {c : Code} {hh : List (Nat × Nat × Nat × Nat)}
    (B : BodyLoose p l y S cc maxL ret e s m args below meth c s₁) (h : (Cond.codeWith y bytes maxL' ret' hh).before args s = true) : c.exceptionTable.toList = tableOf hh := by
  obtain ⟨m9, meth9, c9, hn9, h1, h2, -, -, h6, -⟩ := Cond.codeWith_spec h
  cases Option.some.inj (hn9.symm.trans B.named)
  cases Option.some.inj (h1.symm.trans B.method)
  cases Option.some.inj (h2.symm.trans (Stand.of_body B).code)
  rw [← h6, table_eq]
end Bodies
end VXA
/-! ===== END ===== -/
/-! ===== BEGIN a static call of a method with an exception table ===== -/
section VXS
variable {p : Program} {l : Launch} {e : Env} {R : Room} {s : State} {m : MethodId} {args : Array Value} {below : List Frame} {meth : Method} {c : Code} {T : State} {H : Heap} {locs : List Loc} {cells slots : Nat}
abbrev vx_CSW (R : Room) (s : State) (args : Array Value) (own : String) (index : Nat) (y : MethodName) (bytes : ByteArray) (maxL : Nat) (ret : Option FieldType) (hh : List (Nat × Nat × Nat × Nat)) (ws : List Cond) (rm : Room) (mc ms n : Nat) : Prop :=
  (rm.cells = mc ∧ rm.slots = ms ∧ rm.frames + 1 ≤ R.frames ∧ 8 + (maxL + 11) + rm.locals ≤ R.locals ∧ (∀ w ∈ ws, ∀ (a' : Array Value) (U : State), s.WarmedH U.vm → w.before a' U = true) ∧ Cond.codeWith y bytes maxL ret hh ∈ ws) ∧
  (Cond.codeWith y bytes maxL ret hh).before args s = true ∧ (Cond.initialized y.cls).before args s = true ∧ (y.cls ≠ "java/lang/invoke/MethodHandle" ∧ y.cls ≠ "java/lang/invoke/VarHandle") ∧
  (∀ sig, parseMethodDescriptor y.desc = some sig → n = sig.parameters.length) ∧ (Cond.methodLink own index y).before args s = true ∧ (Cond.static y).before args s = true
theorem vx_cwSW {own : String} {index maxL mc ms : Nat} {y : MethodName} {bytes : ByteArray} {ret : Option FieldType} {hh : List (Nat × Nat × Nat × Nat)} {Ts ws ws' : List Cond} {rm : Room} (n : Nat) (ht : ∀ w ∈ Ts, w.before args s = true) (hT : GoodIn Ts (va_wsS own index y ws)) (hw : ws = Cond.codeWith y bytes maxL ret hh :: ws') (hrc : rm.cells = mc) (hrs : rm.slots = ms)
    (hd : y.cls ≠ "java/lang/invoke/MethodHandle" ∧ y.cls ≠ "java/lang/invoke/VarHandle" ∧ (parseMethodDescriptor y.desc).map (fun d => d.parameters.length) = some n) (hR : rm.frames + 1 ≤ R.frames ∧ 8 + (maxL + 11) + rm.locals ≤ R.locals) :
    vx_CSW R s args own index y bytes maxL ret hh ws rm mc ms n := by
  have ok : ∀ w ∈ va_wsS own index y ws, w.before args s = true := fun w h => ht w (hT w h).1
  have hG : GoodIn Ts ws := fun w h => hT w (by unfold va_wsS; exact List.mem_append_right _ h)
  have hc : Cond.codeWith y bytes maxL ret hh ∈ ws := by rw [hw]; exact List.mem_cons_self
  refine ⟨⟨hrc, hrs, hR.1, hR.2, pay_in ht hG, hc⟩, ht _ (hG _ hc).1, ok _ (by simp [va_wsS]), ⟨hd.1, hd.2.1⟩, fun sig h => ?_, ok _ (by simp [va_wsS]), ok _ (by simp [va_wsS])⟩
  have h2 := hd.2.2
  rw [h] at h2
  exact (Option.some.inj h2).symm
theorem vx_callSW (X : Stand p l e R s m args below meth c T locs cells slots) (hexec : p.tables.exec = Jvm.exec) {own : String} {index : Nat} {y : MethodName} {bytes : ByteArray} {maxL : Nat} {ret : Option FieldType} {hh : List (Nat × Nat × Nat × Nat)}
    (hown : s.vm.findClass own = some m.cls) (hlink : (Cond.methodLink own index y).before args s = true) (hstat : (Cond.static y).before args s = true) (hinit : (Cond.initialized y.cls).before args s = true)
    (hcode : (Cond.codeWith y bytes maxL ret hh).before args s = true) (hy : y.cls ≠ "java/lang/invoke/MethodHandle" ∧ y.cls ≠ "java/lang/invoke/VarHandle")
    {W9 : Nat} {Pre : Pt → Array Value → Prop} {Post : Pt → Array Value → Option Value → Pt → Prop} (hK : Back l R p e below s args y 3 W9 Pre Post)
    {g : JFrame} (hg : g.method = m) (hsize : g.locals.size = c.maxLocals) {argsL rest : List Value} (hlen : ∀ sig, parseMethodDescriptor y.desc = some sig → argsL.length = sig.parameters.length)
    (hstack : g.stack = argsL.reverse ++ rest) (hW : 2 * g.monitorRoom + (rest.map fun v => v.category).sum ≤ W9) (hdg : decode c.code g.pc = .ok (.invokestatic index, 3))
    (hpre : ∀ vm₁, s.WarmedH vm₁ → Pre ⟨T.setVm vm₁, locs, cells, slots⟩ argsL.toArray) :
    ∃ (v : Option Value) (vm₁ : Vm) (B : Pt), s.WarmedH vm₁ ∧ Stand p l e R s m args below meth c B.U B.locs B.cells B.slots ∧ Post ⟨T.setVm vm₁, locs, cells, slots⟩ argsL.toArray v B ∧
      ∀ target, Steps p.tables e below (B.U.setTop { g with pc := g.pc + 3, stack := v.toList ++ rest }) target → Steps p.tables e below (T.setTop g) target := by
  obtain ⟨mk, methM, cM, hnamed, hmethM, -, -, -, -, -, -, hsigM⟩ := Cond.codeWith_spec hcode
  have hstatic : methM.isStatic = true := Cond.static_spec hnamed hmethM hstat
  obtain ⟨kP, hkP, -⟩ := className_of_methodNamed hnamed
  have hinitP : kP.init = .initialized := Cond.initialized_spec (findClass_of_methodNamed hnamed) hkP hinit
  obtain ⟨vm₁, X₁, hstep₁⟩ := X.invokestatic hexec hown hlink hnamed hmethM hstatic hkP hinitP hy (g := g) hg (argsL := argsL) (rest := rest) (hlen _ hsigM) hstack hdg
  obtain ⟨v, B, X', hpost, hsteps⟩ := hK m meth c ⟨T.setVm vm₁, locs, cells, slots⟩ { g with stack := rest } (.invokestatic index) mk argsL.toArray X₁ hg hsize hdg hW (X₁.named hnamed) (hpre vm₁ X₁.warmed)
  exact ⟨v, vm₁, B, X₁.warmed, X', hpost, fun target h => hstep₁ _ fun acts => by rw [doInvoke_state]; exact hsteps.trans h⟩
theorem vx_runSW {y : MethodName} {bytes cc : ByteArray} {maxL nL mc ms n index : Nat} {ret : Option FieldType} {hh : List (Nat × Nat × Nat × Nat)} {ws : List Cond} {rm : Room} {Pc : Array Value → State → Prop} {Qc : Array Value → State → Outcome → State → Prop} {free : Addr → Prop} {Ts : List Cond} {own : String} {As rest : List Value} {g : JFrame}
    (S : CallFix p m c cc nL s args Ts own) (hM : Met l y ws rm Pc Qc mc ms free) (cw : vx_CSW R s args own index y bytes maxL ret hh ws rm mc ms n) (hp : PreS s H Pc As)
    (hg : g.method = m) (hn : As.length = n) (hsize : g.locals.size = nL) (hstack : g.stack = As.reverse ++ rest) (hW : 2 * g.monitorRoom + (rest.map fun v => v.category).sum ≤ 8) (hdg : decode cc g.pc = .ok (.invokestatic index, 3)) (hf : cells + mc ≤ R.cells ∧ slots + ms ≤ R.slots) :
    va_Run p l e R s m args below meth c H locs cells slots mc ms g rest (Qc As.toArray) (free) := by
  obtain ⟨⟨hrc, hrs, hfr, hlo, hws, hcw⟩, hcode, hini, hy, hlen, hl, hstt⟩ := cw
  have hK : Back l R p e below s args y 3 8 (PreOf R mc ms Pc) (PostOf Qc mc ms free) := va_backW (hh := hh) (bytes := bytes) (maxL := maxL) (ret := ret) hM hp.1 hrc hrs hfr hlo hws hcw (fun a' U hW => word_at hW (Or.inl (by first | rfl | simp [Cond.onTables, Cond.keeps, Cond.steady])) hini)
  obtain ⟨hx, hb, hml, ho, -⟩ := S
  intro T hT X
  obtain ⟨v, vm₁, ⟨U', l2, c2, s2⟩, hW₁, X', ⟨g', mk, t, L, e1, e2, hq, h1, hL, h2, h3⟩, st⟩ := vx_callSW X hx (hh := hh) (bytes := bytes) (maxL := maxL) (ret := ret) ho hl hstt hini hcode hy hK hg (hsize.trans hml.symm) (argsL := As) (rest := rest) (fun sig h => hn.trans (hlen sig h)) hstack hW (by rw [hb]; exact hdg)
    (fun vm₁ hW₁ => ⟨hf.1, hf.2, hp.2 (T.setVm vm₁) hT hW₁⟩)
  dsimp only [Pt.U, Pt.locs, Pt.cells, Pt.slots] at X' e1 e2 h1 h2 h3 st
  subst h1; subst h2; subst h3
  exact ⟨v, (T.setVm vm₁).calling g' mk As.toArray, t, U', L, hT, X', hL, e1, e2, hq, st⟩
/-- a thing of a world lies in the heap -/
theorem vx_lt {D : va_G} {cl : List vw_C} {ws : va_W} {H1 : Heap} (h : va_P D cl ws H1) {k : Nat} {q : Nat × va_E} (hk : ws[k]? = some q) : q.1 < H1.size := (h k q hk).lt
end VXS
/-! ===== END ===== -/
/-! ===== BEGIN methods with a table of their own: called by a name, returning or throwing ===== -/
section VXH
/-! vx_backW, vx_callVX, vx_callSX, vx_callVW, vx_runVW, vx_runVX, vx_runSX, vx_ofWH follow the same proofs as their sisters above (Free/Laws.lean, Shelf42/LK1.lean); vx_outP calls Shelf42/NT130.lean (outThrough). -/
section
variable {l : Launch} {R : Room} {p : Program} {e : Env} {below : List Frame} {s : State} {sargs : Array Value} {y : MethodName} {len W9 : Nat}
theorem vx_backW {ws : List Cond} {rm : Room} {Pc : Array Value → State → Prop} {Qc : Array Value → State → Outcome → State → Prop} {XC : String → State → State → Prop} {mc ms : Nat} {free : Addr → Prop} {bytes : ByteArray} {maxL : Nat} {ret : Option FieldType} {hh : List (Nat × Nat × Nat × Nat)}
    (hM : vx_Met l y ws rm Pc Qc XC mc ms free) (hblind : FrameBlind Pc) (hrc : rm.cells = mc) (hrs : rm.slots = ms)
    (hframes : rm.frames + 1 ≤ R.frames) (hlocals : W9 + (maxL + 11) + rm.locals ≤ R.locals)
    (hws : ∀ w ∈ ws, ∀ a' U, s.WarmedH U.vm → w.before a' U = true) (hcode : Cond.codeWith y bytes maxL ret hh ∈ ws) (hinit : ∀ a' U, s.WarmedH U.vm → (Cond.initialized y.cls).before a' U = true) :
    vx_Back l R p e below s sargs y len W9 (PreOf R mc ms Pc) (PostOf Qc mc ms free) (vx_Post XC mc ms free) := by
  intro m meth c A g ig mk a X hg hsize hdg hW hn hp
  have h1 : (headSpec ws rm).pre.before a A.U = true := atoms_intro fun w hw => hws w hw _ _ X.warmed
  have h2 : (Cond.codeWith y bytes maxL ret hh).before a A.U = true := hws _ hcode _ _ X.warmed
  have h3 : (Cond.initialized y.cls).before a A.U = true := hinit _ _ X.warmed
  have h4 : A.cells + (headSpec ws rm).room.cells ≤ R.cells := by rw [show (headSpec ws rm).room.cells = mc from hrc]; exact hp.1
  have h5 : A.slots + (headSpec ws rm).room.slots ≤ R.slots := by rw [show (headSpec ws rm).room.slots = ms from hrs]; exact hp.2.1
  have hPc : Pc a (A.U.calling g mk a) := hblind _ _ _ _ hp.2.2
  obtain ⟨U, Ls, c0, s0⟩ := A
  dsimp only [Pt.U, Pt.locs, Pt.cells, Pt.slots] at h1 h2 h3 h4 h5 X hn hPc ⊢
  obtain ⟨m9, methY, cY, hn9, hmY, hcY, -, hlY, -⟩ := Cond.codeWith_spec h2
  cases Option.some.inj (hn9.symm.trans hn)
  obtain ⟨kY, hkY, -⟩ := className_of_methodNamed hn
  have hinitY : kY.init = .initialized := Cond.initialized_spec (findClass_of_methodNamed hn) hkY h3
  have h : At U g.method c below := by rw [hg]; exact X.here
  have hlocals9 : W9 + (maxL + 11) + (headSpec ws rm).room.locals ≤ R.locals := hlocals
  have happ : (headSpec ws rm).appliesLoose y e.platform (U.calling g mk a) = true :=
    Spec.appliesLoose_calling (g := g) h hdg hn hkY hinitY
      (X.room_calling (g := g) (R' := (headSpec ws rm).room) hsize hmY hcY hframes (by rw [hlY]; omega) h4 h5) h1
  obtain ⟨mid, hmid⟩ := h.above
  have hfr : (U.setTop g).frames = (.java g :: mid) ++ below := by rw [State.frames_setTop' g h.top, hmid]; rfl
  obtain ⟨o, s₂, hsteps, -, hend, hq⟩ := Steps.callFree hM p X.admits X.cas X.clock (acts := []) hfr happ hPc trivial
  have hq' : vx_Q Qc XC mc ms free a (U.calling g mk a) o s₂ := hq
  rw [State.frames_setTop' g h.top] at hend
  obtain ⟨g₀, hg0⟩ := Option.isSome_iff_exists.mp h.top
  obtain ⟨r, hr⟩ := State.topJava?_eq_some.mp hg0
  have hr' : (({ U with heap := s₂.heap, slotsUsed := s₂.slotsUsed } : State).setVm s₂.vm).frames = .java g₀ :: r := hr
  rcases hq' with ⟨hqc, L, hfe, hL⟩ | ⟨q, rfl, E, ce, L, hx, hce, hcv, hcl, hW₂, hsm, hL⟩
  · obtain ⟨⟨v, rfl⟩, hW₂, e2, q2, q3, q4, q5, q6⟩ := id hfe
    have e3 : s₂ = ({ (U.calling g mk a).setFrames s₂.frames with heap := s₂.heap, slotsUsed := s₂.slotsUsed } : State).setVm s₂.vm := by
      have : s₂ = ({ s₂ with vm := (U.calling g mk a).vm } : State).setVm s₂.vm := rfl
      rw [e2] at this
      exact this
    obtain ⟨c₂, i₂, len₂, hc₂, hd₂, hf₂⟩ := hend
    have hW' : U.WarmedH s₂.vm := hW₂
    have hcc : c₂ = c := by
      have h1 : s₂.code? g.method = U.code? g.method := by
        rw [State.code?_eq, State.code?_eq, hW'.alike.method?]
      exact Option.some.inj (hc₂.symm.trans (h1.trans h.code))
    subst hcc
    have hlen : len₂ = len := by rw [hdg] at hd₂; cases hd₂; rfl
    subst hlen
    have hs₂ : s₂ = (({ U with heap := s₂.heap, slotsUsed := s₂.slotsUsed } : State).setVm s₂.vm).setTop { g with pc := g.pc + len₂, stack := v.toList ++ g.stack } := by
      refine e3.trans ?_
      rw [hf₂, State.calling_eq h.top, State.setFrames_setFrames, State.setTop_of_frames _ hr', hr]
      rfl
    have hsame : U.sameButNew ({ U with heap := s₂.heap, slotsUsed := s₂.slotsUsed } : State) L mc ms := by
      refine ⟨?_, q2, q3, q4, q5, q6⟩
      obtain ⟨t, ht, -⟩ := State.frames_cons hr
      show ({ U with heap := s₂.heap, slotsUsed := s₂.slotsUsed } : State) = { U.setFrames U.frames with heap := s₂.heap, slotsUsed := s₂.slotsUsed }
      rw [State.setFrames_self ht]
    subst hg
    refine Or.inl ⟨v, ⟨(({ U with heap := s₂.heap, slotsUsed := s₂.slotsUsed } : State).setVm s₂.vm), Ls ++ L, c0 + mc, s0 + ms⟩,
      ⟨X.admits, X.cas, X.clock, X.frames, X.room, X.hears, X.method, X.code, (X.here.setHeapUsed s₂.heap s₂.slotsUsed).setVm hW'.alike, X.tail, State.WarmedH.trans X.warmed hW', X.limits, X.bytes, X.same.trans (hsame.setVm s.vm)⟩,
      ⟨g, mk, s₂, L, rfl, rfl, hqc, rfl, hL, rfl, rfl⟩, ?_⟩
    show Steps p.tables e below _ ((({ U with heap := s₂.heap, slotsUsed := s₂.slotsUsed } : State).setVm s₂.vm).setTop { g with pc := g.pc + len₂, stack := v.toList ++ g.stack })
    rw [← hs₂]
    exact hsteps
  · obtain ⟨e2, q2, q3, q4, q5, q6⟩ := id hsm
    have e3 : s₂ = ({ (U.calling g mk a).setFrames s₂.frames with heap := s₂.heap, slotsUsed := s₂.slotsUsed } : State).setVm s₂.vm := by
      have : s₂ = ({ s₂ with vm := (U.calling g mk a).vm } : State).setVm s₂.vm := rfl
      rw [e2] at this
      exact this
    have hf₂ : s₂.frames = .throwing q :: .java g :: U.frames.tail := hend
    have hW' : U.WarmedH s₂.vm := hW₂
    have hs₂ : s₂ = ((({ U with heap := s₂.heap, slotsUsed := s₂.slotsUsed } : State).setVm s₂.vm).setTop g).pushFrame (.throwing q) := by
      refine e3.trans ?_
      rw [hf₂, State.calling_eq h.top, State.setFrames_setFrames, State.pushFrame, State.frames_setTop _ hr', State.setTop_of_frames _ hr', State.setFrames_setFrames, hr]
      rfl
    have hsame : U.sameButNew ({ U with heap := s₂.heap, slotsUsed := s₂.slotsUsed } : State) L mc ms := by
      refine ⟨?_, q2, q3, q4, q5, q6⟩
      obtain ⟨t, ht, -⟩ := State.frames_cons hr
      show ({ U with heap := s₂.heap, slotsUsed := s₂.slotsUsed } : State) = { U.setFrames U.frames with heap := s₂.heap, slotsUsed := s₂.slotsUsed }
      rw [State.setFrames_self ht]
    subst hg
    refine Or.inr ⟨q, ⟨(({ U with heap := s₂.heap, slotsUsed := s₂.slotsUsed } : State).setVm s₂.vm), Ls ++ L, c0 + mc, s0 + ms⟩,
      ⟨X.admits, X.cas, X.clock, X.frames, X.room, X.hears, X.method, X.code, (X.here.setHeapUsed s₂.heap s₂.slotsUsed).setVm hW'.alike, X.tail, State.WarmedH.trans X.warmed hW', X.limits, X.bytes, X.same.trans (hsame.setVm s.vm)⟩,
      ⟨g, mk, s₂, L, E, ce, rfl, rfl, hx, hce, hcv, hcl, rfl, hL, rfl, rfl⟩, ?_⟩
    show Steps p.tables e below _ (((({ U with heap := s₂.heap, slotsUsed := s₂.slotsUsed } : State).setVm s₂.vm).setTop g).pushFrame (.throwing q))
    rw [← hs₂]
    exact hsteps
end
variable {p : Program} {l : Launch} {e : Env} {R : Room} {s : State} {m : MethodId} {args : Array Value} {below : List Frame} {meth : Method} {c : Code} {T : State} {H : Heap} {locs : List Loc} {cells slots : Nat}
theorem vx_callVX (X : Stand p l e R s m args below meth c T locs cells slots) (hexec : p.tables.exec = Jvm.exec) {own C : String} {index : Nat} {y : MethodName} {bytes : ByteArray} {maxL : Nat} {ret : Option FieldType} {hh : List (Nat × Nat × Nat × Nat)}
    (hown : s.vm.findClass own = some m.cls) (hlink : (Cond.methodLink own index y).before args s = true) (hinst : (Cond.instanceMethod y).before args s = true) (hsel : (Cond.selects C y y).before args s = true)
    (hcode : (Cond.codeWith y bytes maxL ret hh).before args s = true) (hy : y.cls ≠ "java/lang/invoke/MethodHandle" ∧ y.cls ≠ "java/lang/invoke/VarHandle")
    {W9 : Nat} {Pre : Pt → Array Value → Prop} {Post : Pt → Array Value → Option Value → Pt → Prop} {PostX : Pt → Array Value → Addr → Pt → Prop} (hK : vx_Back l R p e below s args y 3 W9 Pre Post PostX)
    {b : Addr} {cellB : Cell} (hcell : T.heap[b]? = some cellB) (hobj : cellB.vm.isStatics = false) (hcls : s.vm.findClass C = some cellB.cls)
    {g : JFrame} (hg : g.method = m) (hsize : g.locals.size = c.maxLocals) {argsL rest : List Value} (hlen : ∀ sig, parseMethodDescriptor y.desc = some sig → argsL.length = sig.parameters.length)
    (hstack : g.stack = argsL.reverse ++ .ref b :: rest) (hW : 2 * g.monitorRoom + (rest.map fun v => v.category).sum ≤ W9) (hdg : decode c.code g.pc = .ok (.invokevirtual index, 3))
    (hpre : ∀ vm₁, s.WarmedH vm₁ → Pre ⟨T.setVm vm₁, locs, cells, slots⟩ (Value.ref b :: argsL).toArray) :
    (∃ (v : Option Value) (vm₁ : Vm) (B : Pt), s.WarmedH vm₁ ∧ Stand p l e R s m args below meth c B.U B.locs B.cells B.slots ∧ Post ⟨T.setVm vm₁, locs, cells, slots⟩ (Value.ref b :: argsL).toArray v B ∧
      ∀ target, Steps p.tables e below (B.U.setTop { g with pc := g.pc + 3, stack := v.toList ++ rest }) target → Steps p.tables e below (T.setTop g) target) ∨
    (∃ (q : Addr) (vm₁ : Vm) (B : Pt), s.WarmedH vm₁ ∧ Stand p l e R s m args below meth c B.U B.locs B.cells B.slots ∧ PostX ⟨T.setVm vm₁, locs, cells, slots⟩ (Value.ref b :: argsL).toArray q B ∧
      Steps p.tables e below (T.setTop g) ((B.U.setTop { g with stack := rest }).pushFrame (.throwing q))) := by
  obtain ⟨mk, methM, hnamed, hmethM, hstM, habM⟩ := Cond.instanceMethod_spec hinst
  obtain ⟨m8, methM', cM, hn8, hmethM', -, -, -, -, -, -, hsigM⟩ := Cond.codeWith_spec hcode
  cases Option.some.inj (hn8.symm.trans hnamed)
  cases hmethM.symm.trans hmethM'
  obtain ⟨c2, r2, m2, q1, q2, q3, q4, kP, hkP, hkPi⟩ := Cond.selects_spec hsel
  cases hcls.symm.trans q1
  cases (State.methodFound?_of_named hnamed hy).symm.trans q2
  cases hnamed.symm.trans q3
  have hselP : selectMethod e.platform s.vm cellB.cls mk = .method mk := by rw [Launch.admits_selectMethod X.admits]; exact q4
  obtain ⟨vm₁, X₁, hstep₁⟩ := X.invokevirtual hexec hown hlink hnamed hmethM hstM hkP hkPi hy (a := b) (cell := cellB) hcell
    (fun z h => by rw [h] at hobj; cases hobj) hselP hmethM habM hkP hkPi (g := g) hg (argsL := argsL) (rest := rest) (hlen _ hsigM) hstack hdg
  rcases hK m meth c ⟨T.setVm vm₁, locs, cells, slots⟩ { g with stack := rest } (.invokevirtual index) mk (Value.ref b :: argsL).toArray X₁ hg hsize hdg hW (X₁.named hnamed) (hpre vm₁ X₁.warmed) with ⟨v, B, X', hpost, hsteps⟩ | ⟨q, B, X', hpost, hsteps⟩
  · exact Or.inl ⟨v, vm₁, B, X₁.warmed, X', hpost, fun target h => hstep₁ _ fun acts => by rw [doInvoke_state]; exact hsteps.trans h⟩
  · exact Or.inr ⟨q, vm₁, B, X₁.warmed, X', hpost, hstep₁ _ fun acts => by rw [doInvoke_state]; exact hsteps⟩
theorem vx_callSX (X : Stand p l e R s m args below meth c T locs cells slots) (hexec : p.tables.exec = Jvm.exec) {own : String} {index : Nat} {y : MethodName} {bytes : ByteArray} {maxL : Nat} {ret : Option FieldType} {hh : List (Nat × Nat × Nat × Nat)}
    (hown : s.vm.findClass own = some m.cls) (hlink : (Cond.methodLink own index y).before args s = true) (hstat : (Cond.static y).before args s = true) (hinit : (Cond.initialized y.cls).before args s = true)
    (hcode : (Cond.codeWith y bytes maxL ret hh).before args s = true) (hy : y.cls ≠ "java/lang/invoke/MethodHandle" ∧ y.cls ≠ "java/lang/invoke/VarHandle")
    {W9 : Nat} {Pre : Pt → Array Value → Prop} {Post : Pt → Array Value → Option Value → Pt → Prop} {PostX : Pt → Array Value → Addr → Pt → Prop} (hK : vx_Back l R p e below s args y 3 W9 Pre Post PostX)
    {g : JFrame} (hg : g.method = m) (hsize : g.locals.size = c.maxLocals) {argsL rest : List Value} (hlen : ∀ sig, parseMethodDescriptor y.desc = some sig → argsL.length = sig.parameters.length)
    (hstack : g.stack = argsL.reverse ++ rest) (hW : 2 * g.monitorRoom + (rest.map fun v => v.category).sum ≤ W9) (hdg : decode c.code g.pc = .ok (.invokestatic index, 3))
    (hpre : ∀ vm₁, s.WarmedH vm₁ → Pre ⟨T.setVm vm₁, locs, cells, slots⟩ argsL.toArray) :
    (∃ (v : Option Value) (vm₁ : Vm) (B : Pt), s.WarmedH vm₁ ∧ Stand p l e R s m args below meth c B.U B.locs B.cells B.slots ∧ Post ⟨T.setVm vm₁, locs, cells, slots⟩ argsL.toArray v B ∧
      ∀ target, Steps p.tables e below (B.U.setTop { g with pc := g.pc + 3, stack := v.toList ++ rest }) target → Steps p.tables e below (T.setTop g) target) ∨
    (∃ (q : Addr) (vm₁ : Vm) (B : Pt), s.WarmedH vm₁ ∧ Stand p l e R s m args below meth c B.U B.locs B.cells B.slots ∧ PostX ⟨T.setVm vm₁, locs, cells, slots⟩ argsL.toArray q B ∧
      Steps p.tables e below (T.setTop g) ((B.U.setTop { g with stack := rest }).pushFrame (.throwing q))) := by
  obtain ⟨mk, methM, cM, hnamed, hmethM, -, -, -, -, -, -, hsigM⟩ := Cond.codeWith_spec hcode
  have hstatic : methM.isStatic = true := Cond.static_spec hnamed hmethM hstat
  obtain ⟨kP, hkP, -⟩ := className_of_methodNamed hnamed
  have hinitP : kP.init = .initialized := Cond.initialized_spec (findClass_of_methodNamed hnamed) hkP hinit
  obtain ⟨vm₁, X₁, hstep₁⟩ := X.invokestatic hexec hown hlink hnamed hmethM hstatic hkP hinitP hy (g := g) hg (argsL := argsL) (rest := rest) (hlen _ hsigM) hstack hdg
  rcases hK m meth c ⟨T.setVm vm₁, locs, cells, slots⟩ { g with stack := rest } (.invokestatic index) mk argsL.toArray X₁ hg hsize hdg hW (X₁.named hnamed) (hpre vm₁ X₁.warmed) with ⟨v, B, X', hpost, hsteps⟩ | ⟨q, B, X', hpost, hsteps⟩
  · exact Or.inl ⟨v, vm₁, B, X₁.warmed, X', hpost, fun target h => hstep₁ _ fun acts => by rw [doInvoke_state]; exact hsteps.trans h⟩
  · exact Or.inr ⟨q, vm₁, B, X₁.warmed, X', hpost, hstep₁ _ fun acts => by rw [doInvoke_state]; exact hsteps⟩
theorem vx_callVW (X : Stand p l e R s m args below meth c T locs cells slots) (hexec : p.tables.exec = Jvm.exec) {own C : String} {index : Nat} {y : MethodName} {bytes : ByteArray} {maxL : Nat} {ret : Option FieldType} {hh : List (Nat × Nat × Nat × Nat)}
    (hown : s.vm.findClass own = some m.cls) (hlink : (Cond.methodLink own index y).before args s = true) (hinst : (Cond.instanceMethod y).before args s = true) (hsel : (Cond.selects C y y).before args s = true)
    (hcode : (Cond.codeWith y bytes maxL ret hh).before args s = true) (hy : y.cls ≠ "java/lang/invoke/MethodHandle" ∧ y.cls ≠ "java/lang/invoke/VarHandle")
    {W9 : Nat} {Pre : Pt → Array Value → Prop} {Post : Pt → Array Value → Option Value → Pt → Prop} (hK : Back l R p e below s args y 3 W9 Pre Post)
    {b : Addr} {cellB : Cell} (hcell : T.heap[b]? = some cellB) (hobj : cellB.vm.isStatics = false) (hcls : s.vm.findClass C = some cellB.cls)
    {g : JFrame} (hg : g.method = m) (hsize : g.locals.size = c.maxLocals) {argsL rest : List Value} (hlen : ∀ sig, parseMethodDescriptor y.desc = some sig → argsL.length = sig.parameters.length)
    (hstack : g.stack = argsL.reverse ++ .ref b :: rest) (hW : 2 * g.monitorRoom + (rest.map fun v => v.category).sum ≤ W9) (hdg : decode c.code g.pc = .ok (.invokevirtual index, 3))
    (hpre : ∀ vm₁, s.WarmedH vm₁ → Pre ⟨T.setVm vm₁, locs, cells, slots⟩ (Value.ref b :: argsL).toArray) :
    ∃ (v : Option Value) (vm₁ : Vm) (B : Pt), s.WarmedH vm₁ ∧ Stand p l e R s m args below meth c B.U B.locs B.cells B.slots ∧ Post ⟨T.setVm vm₁, locs, cells, slots⟩ (Value.ref b :: argsL).toArray v B ∧
      ∀ target, Steps p.tables e below (B.U.setTop { g with pc := g.pc + 3, stack := v.toList ++ rest }) target → Steps p.tables e below (T.setTop g) target := by
  obtain ⟨mk, methM, hnamed, hmethM, hstM, habM⟩ := Cond.instanceMethod_spec hinst
  obtain ⟨m8, methM', cM, hn8, hmethM', -, -, -, -, -, -, hsigM⟩ := Cond.codeWith_spec hcode
  cases Option.some.inj (hn8.symm.trans hnamed)
  cases hmethM.symm.trans hmethM'
  obtain ⟨c2, r2, m2, q1, q2, q3, q4, kP, hkP, hkPi⟩ := Cond.selects_spec hsel
  cases hcls.symm.trans q1
  cases (State.methodFound?_of_named hnamed hy).symm.trans q2
  cases hnamed.symm.trans q3
  have hselP : selectMethod e.platform s.vm cellB.cls mk = .method mk := by rw [Launch.admits_selectMethod X.admits]; exact q4
  obtain ⟨vm₁, X₁, hstep₁⟩ := X.invokevirtual hexec hown hlink hnamed hmethM hstM hkP hkPi hy (a := b) (cell := cellB) hcell
    (fun z h => by rw [h] at hobj; cases hobj) hselP hmethM habM hkP hkPi (g := g) hg (argsL := argsL) (rest := rest) (hlen _ hsigM) hstack hdg
  obtain ⟨v, B, X', hpost, hsteps⟩ := hK m meth c ⟨T.setVm vm₁, locs, cells, slots⟩ { g with stack := rest } (.invokevirtual index) mk (Value.ref b :: argsL).toArray X₁ hg hsize hdg hW (X₁.named hnamed) (hpre vm₁ X₁.warmed)
  exact ⟨v, vm₁, B, X₁.warmed, X', hpost, fun target h => hstep₁ _ fun acts => by rw [doInvoke_state]; exact hsteps.trans h⟩
abbrev vx_CVW (R : Room) (s : State) (args : Array Value) (own C : String) (index : Nat) (y : MethodName) (bytes : ByteArray) (maxL : Nat) (ret : Option FieldType) (hh : List (Nat × Nat × Nat × Nat)) (ws : List Cond) (rm : Room) (mc ms n : Nat) : Prop :=
  (rm.cells = mc ∧ rm.slots = ms ∧ rm.frames + 1 ≤ R.frames ∧ 8 + (maxL + 11) + rm.locals ≤ R.locals ∧ (∀ w ∈ ws, ∀ (a' : Array Value) (U : State), s.WarmedH U.vm → w.before a' U = true) ∧ Cond.codeWith y bytes maxL ret hh ∈ ws) ∧
  (Cond.codeWith y bytes maxL ret hh).before args s = true ∧ (Cond.initialized y.cls).before args s = true ∧ (y.cls ≠ "java/lang/invoke/MethodHandle" ∧ y.cls ≠ "java/lang/invoke/VarHandle") ∧
  (∀ sig, parseMethodDescriptor y.desc = some sig → n = sig.parameters.length) ∧ (Cond.methodLink own index y).before args s = true ∧ (Cond.instanceMethod y).before args s = true ∧ (Cond.selects C y y).before args s = true
theorem vx_cwVW {own C : String} {index maxL mc ms : Nat} {y : MethodName} {bytes : ByteArray} {ret : Option FieldType} {hh : List (Nat × Nat × Nat × Nat)} {Ts ws ws' : List Cond} {rm : Room} (n : Nat) (ht : ∀ w ∈ Ts, w.before args s = true) (hT : GoodIn Ts (wsV own index C y ws)) (hw : ws = Cond.codeWith y bytes maxL ret hh :: ws') (hrc : rm.cells = mc) (hrs : rm.slots = ms)
    (hd : y.cls = C ∧ y.cls ≠ "java/lang/invoke/MethodHandle" ∧ y.cls ≠ "java/lang/invoke/VarHandle" ∧ (parseMethodDescriptor y.desc).map (fun d => d.parameters.length) = some n) (hR : rm.frames + 1 ≤ R.frames ∧ 8 + (maxL + 11) + rm.locals ≤ R.locals) :
    vx_CVW R s args own C index y bytes maxL ret hh ws rm mc ms n := by
  obtain ⟨hC, hd⟩ := hd
  subst hC
  have ok : ∀ w ∈ wsV own index y.cls y ws, w.before args s = true := fun w h => ht w (hT w h).1
  have hG : GoodIn Ts ws := fun w h => hT w (by unfold wsV; exact List.mem_append_right _ h)
  have hc : Cond.codeWith y bytes maxL ret hh ∈ ws := by rw [hw]; exact List.mem_cons_self
  refine ⟨⟨hrc, hrs, hR.1, hR.2, pay_in ht hG, hc⟩, ht _ (hG _ hc).1, ok _ (by simp [wsV]), ⟨hd.1, hd.2.1⟩, fun sig h => ?_, ok _ (by simp [wsV]), ok _ (by simp [wsV]), ok _ (by simp [wsV])⟩
  have h2 := hd.2.2
  rw [h] at h2
  exact (Option.some.inj h2).symm
theorem vx_runVW {y : MethodName} {bytes cc : ByteArray} {maxL nL mc ms n index : Nat} {ret : Option FieldType} {hh : List (Nat × Nat × Nat × Nat)} {ws : List Cond} {rm : Room} {Pc : Array Value → State → Prop} {Qc : Array Value → State → Outcome → State → Prop} {free : Addr → Prop} {Ts : List Cond} {own C : String} {b : Addr} {As rest : List Value} {g : JFrame}
    (S : CallFix p m c cc nL s args Ts own) (hM : Met l y ws rm Pc Qc mc ms free) (cw : vx_CVW R s args own C index y bytes maxL ret hh ws rm mc ms n) (hp : PreV s H C b Pc As)
    (hg : g.method = m) (hn : As.length = n) (hsize : g.locals.size = nL) (hstack : g.stack = As.reverse ++ .ref b :: rest) (hW : 2 * g.monitorRoom + (rest.map fun v => v.category).sum ≤ 8) (hdg : decode cc g.pc = .ok (.invokevirtual index, 3)) (hf : cells + mc ≤ R.cells ∧ slots + ms ≤ R.slots) :
    va_Run p l e R s m args below meth c H locs cells slots mc ms g rest (Qc (Value.ref b :: As).toArray) free := by
  obtain ⟨⟨hrc, hrs, hfr, hlo, hws, hcw⟩, hcode, hini, hy, hlen, hl, hin, hse⟩ := cw
  have hK : Back l R p e below s args y 3 8 (PreOf R mc ms Pc) (PostOf Qc mc ms free) := va_backW (hh := hh) (bytes := bytes) (maxL := maxL) (ret := ret) hM hp.1 hrc hrs hfr hlo hws hcw (fun a' U hW => word_at hW (Or.inl (by first | rfl | simp [Cond.onTables, Cond.keeps, Cond.steady])) hini)
  obtain ⟨hx, hb, hml, ho, -⟩ := S
  obtain ⟨-, ⟨cellB, hcB, hoB, hclB⟩, hPc⟩ := hp
  intro T hT X
  obtain ⟨v, vm₁, ⟨U', l2, c2, s2⟩, hW₁, X', ⟨g', mk, t, L, e1, e2, hq, h1, hL, h2, h3⟩, st⟩ := vx_callVW X hx (C := C) (hh := hh) (bytes := bytes) (maxL := maxL) (ret := ret) ho hl hin hse hcode hy hK (by rw [hT]; exact hcB) hoB hclB hg (hsize.trans hml.symm) (argsL := As) (rest := rest) (fun sig h => hn.trans (hlen sig h)) hstack hW (by rw [hb]; exact hdg)
    (fun vm₁ hW₁ => ⟨hf.1, hf.2, hPc (T.setVm vm₁) hT hW₁⟩)
  dsimp only [Pt.U, Pt.locs, Pt.cells, Pt.slots] at X' e1 e2 h1 h2 h3 st
  subst h1; subst h2; subst h3
  exact ⟨v, (T.setVm vm₁).calling g' mk (Value.ref b :: As).toArray, t, U', L, hT, X', hL, e1, e2, hq, st⟩
section
variable {y : MethodName} {bytes cc : ByteArray} {maxL nL mc ms n index : Nat} {ret : Option FieldType} {ws : List Cond} {rm : Room} {Pc : Array Value → State → Prop} {Qc : Array Value → State → Outcome → State → Prop} {XC : String → State → State → Prop} {free : Addr → Prop} {Ts : List Cond} {own C : String} {b : Addr} {As rest : List Value} {g : JFrame}
theorem vx_runVX {hh : List (Nat × Nat × Nat × Nat)} (S : CallFix p m c cc nL s args Ts own) (hM : vx_Met l y ws rm Pc Qc XC mc ms free) (cw : vx_CVW R s args own C index y bytes maxL ret hh ws rm mc ms n) (hp : PreV s H C b Pc As)
    (hg : g.method = m) (hn : As.length = n) (hsize : g.locals.size = nL) (hstack : g.stack = As.reverse ++ .ref b :: rest) (hW : 2 * g.monitorRoom + (rest.map fun v => v.category).sum ≤ 8) (hdg : decode cc g.pc = .ok (.invokevirtual index, 3)) (hf : cells + mc ≤ R.cells ∧ slots + ms ≤ R.slots) :
    vx_Run p l e R s m args below meth c H locs cells slots mc ms g rest (Qc (Value.ref b :: As).toArray) XC free := by
  obtain ⟨⟨hrc, hrs, hfr, hlo, hws, hcw⟩, hcode, hini, hy, hlen, hl, hin, hse⟩ := cw
  have hK : vx_Back l R p e below s args y 3 8 (PreOf R mc ms Pc) (PostOf Qc mc ms free) (vx_Post XC mc ms free) := vx_backW (hh := hh) (bytes := bytes) (maxL := maxL) (ret := ret) hM hp.1 hrc hrs hfr hlo hws hcw (fun a' U hW => word_at hW (Or.inl (by first | rfl | simp [Cond.onTables, Cond.keeps, Cond.steady])) hini)
  obtain ⟨hx, hb, hml, ho, -⟩ := S
  obtain ⟨-, ⟨cellB, hcB, hoB, hclB⟩, hPc⟩ := hp
  intro T hT X
  rcases vx_callVX X hx (C := C) (hh := hh) (bytes := bytes) (maxL := maxL) (ret := ret) ho hl hin hse hcode hy hK (by rw [hT]; exact hcB) hoB hclB hg (hsize.trans hml.symm) (argsL := As) (rest := rest) (fun sig h => hn.trans (hlen sig h)) hstack hW (by rw [hb]; exact hdg)
    (fun vm₁ hW₁ => ⟨hf.1, hf.2, hPc (T.setVm vm₁) hT hW₁⟩) with ⟨v, vm₁, ⟨U', l2, c2, s2⟩, hW₁, X', ⟨g', mk, t, L, e1, e2, hq, h1, hL, h2, h3⟩, st⟩ | ⟨q, vm₁, ⟨U', l2, c2, s2⟩, hW₁, X', ⟨g', mk, t, L, E, ce, e1, e2, hq, hce, hcv, hcl, h1, hL, h2, h3⟩, st⟩
  · dsimp only [Pt.U, Pt.locs, Pt.cells, Pt.slots] at X' e1 e2 h1 h2 h3 st
    subst h1; subst h2; subst h3
    exact Or.inl ⟨v, (T.setVm vm₁).calling g' mk (Value.ref b :: As).toArray, t, U', L, hT, X', hL, e1, e2, hq, st⟩
  · dsimp only [Pt.U, Pt.locs, Pt.cells, Pt.slots] at X' e1 e2 h1 h2 h3 st hcl
    subst h1; subst h2; subst h3
    exact Or.inr ⟨q, (T.setVm vm₁).calling g' mk (Value.ref b :: As).toArray, t, U', L, E, ce, hT, X', hL, e1, e2, hq, hce, hcv, vx_cls hW₁ hcl, st⟩
theorem vx_runSX {hh : List (Nat × Nat × Nat × Nat)} (S : CallFix p m c cc nL s args Ts own) (hM : vx_Met l y ws rm Pc Qc XC mc ms free) (cw : vx_CSW R s args own index y bytes maxL ret hh ws rm mc ms n) (hp : PreS s H Pc As)
    (hg : g.method = m) (hn : As.length = n) (hsize : g.locals.size = nL) (hstack : g.stack = As.reverse ++ rest) (hW : 2 * g.monitorRoom + (rest.map fun v => v.category).sum ≤ 8) (hdg : decode cc g.pc = .ok (.invokestatic index, 3)) (hf : cells + mc ≤ R.cells ∧ slots + ms ≤ R.slots) :
    vx_Run p l e R s m args below meth c H locs cells slots mc ms g rest (Qc As.toArray) XC free := by
  obtain ⟨⟨hrc, hrs, hfr, hlo, hws, hcw⟩, hcode, hini, hy, hlen, hl, hstt⟩ := cw
  have hK : vx_Back l R p e below s args y 3 8 (PreOf R mc ms Pc) (PostOf Qc mc ms free) (vx_Post XC mc ms free) := vx_backW (hh := hh) (bytes := bytes) (maxL := maxL) (ret := ret) hM hp.1 hrc hrs hfr hlo hws hcw (fun a' U hW => word_at hW (Or.inl (by first | rfl | simp [Cond.onTables, Cond.keeps, Cond.steady])) hini)
  obtain ⟨hx, hb, hml, ho, -⟩ := S
  intro T hT X
  rcases vx_callSX X hx (hh := hh) (bytes := bytes) (maxL := maxL) (ret := ret) ho hl hstt hini hcode hy hK hg (hsize.trans hml.symm) (argsL := As) (rest := rest) (fun sig h => hn.trans (hlen sig h)) hstack hW (by rw [hb]; exact hdg)
    (fun vm₁ hW₁ => ⟨hf.1, hf.2, hp.2 (T.setVm vm₁) hT hW₁⟩) with ⟨v, vm₁, ⟨U', l2, c2, s2⟩, hW₁, X', ⟨g', mk, t, L, e1, e2, hq, h1, hL, h2, h3⟩, st⟩ | ⟨q, vm₁, ⟨U', l2, c2, s2⟩, hW₁, X', ⟨g', mk, t, L, E, ce, e1, e2, hq, hce, hcv, hcl, h1, hL, h2, h3⟩, st⟩
  · dsimp only [Pt.U, Pt.locs, Pt.cells, Pt.slots] at X' e1 e2 h1 h2 h3 st
    subst h1; subst h2; subst h3
    exact Or.inl ⟨v, (T.setVm vm₁).calling g' mk As.toArray, t, U', L, hT, X', hL, e1, e2, hq, st⟩
  · dsimp only [Pt.U, Pt.locs, Pt.cells, Pt.slots] at X' e1 e2 h1 h2 h3 st hcl
    subst h1; subst h2; subst h3
    exact Or.inr ⟨q, (T.setVm vm₁).calling g' mk As.toArray, t, U', L, E, ce, hT, X', hL, e1, e2, hq, hce, hcv, vx_cls hW₁ hcl, st⟩
end
end VXH
theorem vx_ofWH {l : Launch} {y : MethodName} {ws ws' : List Cond} {rm : Room} {Pc : Array Value → State → Prop} {Qc : Array Value → State → Outcome → State → Prop} {XC : String → State → State → Prop} {mc ms : Nat} {free : Addr → Prop} {cc : ByteArray} {maxL : Nat} {ret : Option FieldType} {hh : List (Nat × Nat × Nat × Nat)}
    (hy : plainName y.cls = true) (hw : ws = Cond.codeWith y cc maxL ret hh :: ws')
    (body : ∀ p e s m args below meth c s₁, BodyLoose p l y (headSpec ws rm) cc maxL ret e s m args below meth c s₁ → c.maxLocals = maxL → Pc args s →
      W p l e (headSpec ws rm).room s m args below meth c s.heap [] 0 0 (vx_MQ below Qc XC args s mc ms free) (entryFrame m args maxL)) : vx_Met l y ws rm Pc Qc XC mc ms free := by
  refine MetFree.of_bodyS (code := cc) (maxLocals := maxL) (ret := ret) hy ?_ ?_
  · intro args s m h hn
    obtain ⟨m9, meth, c, hn9, h1, h2, h3, h4, -, h5, h6, -⟩ := Cond.codeWith_spec (atoms_spec (ws := ws) h _ (by rw [hw]; exact List.mem_cons_self))
    cases hn.symm.trans hn9
    exact ⟨meth, c, h1, h2, h3, h4, h5, h6⟩
  · intro p e s m args below meth c s₁ B hml hP _
    have hh0 : s₁.heap = s.heap := by rw [B.state]; rfl
    obtain ⟨t, a1, o, b1, b2, b3⟩ := body p e s m args below meth c s₁ B hml hP s₁ hh0 (Stand.of_body B)
    exact ⟨t, o, a1, b1, b2, b3⟩
/-! ===== END ===== -/
end
section
/-! ===== BEGIN printed: names, fields, word lists, decode rows ===== -/
def RX0 : String := "WordClassLearner$Automaton"
def TX0 : u_T := fun k => match k with
  | 0 => ("WordClassLearner$Automaton", "marks", "[I", true)
  | 1 => ("WordClassLearner$Automaton", "arrows", "[I", true)
  | _ => ("WordClassLearner$Automaton", "count", "I", false)
def tyX0 : Nat → FieldType := fun k => match k with
  | 0 => .array .int
  | 1 => .array .int
  | _ => .int
abbrev wsX00 : List Cond := u_ws RX0 TX0 3
theorem nmX0 : ∀ a, a < 3 → ∀ b, b < 3 → a ≠ b → (TX0 a).2.1 ≠ (TX0 b).2.1 := by decide +kernel
theorem tyX0_ok : ∀ k, k < 3 → parseFieldDescriptor (TX0 k).2.2.1 = some (tyX0 k) := by decide +kernel
abbrev cX0_init : ByteArray := prog_2_method_1_code
def yX0_init : MethodName := ⟨RX0, "<init>", "(I)V"⟩
abbrev cX0_count : ByteArray := prog_2_method_2_code
def yX0_count : MethodName := ⟨RX0, "count", "()I"⟩
abbrev cX0_resize : ByteArray := prog_2_method_3_code
def yX0_resize : MethodName := ⟨RX0, "resize", "(I)V"⟩
abbrev cX0_has : ByteArray := prog_2_method_4_code
def yX0_has : MethodName := ⟨RX0, "has", "(I)Z"⟩
abbrev cX0_markOf : ByteArray := prog_2_method_5_code
def yX0_markOf : MethodName := ⟨RX0, "markOf", "(I)I"⟩
abbrev cX0_arrow : ByteArray := prog_2_method_6_code
def yX0_arrow : MethodName := ⟨RX0, "arrow", "(II)I"⟩
abbrev cX0_put : ByteArray := prog_2_method_7_code
def yX0_put : MethodName := ⟨RX0, "put", "(IIII)V"⟩
abbrev cX0_walk : ByteArray := prog_2_method_8_code
def yX0_walk : MethodName := ⟨RX0, "walk", "(II)I"⟩
abbrev cX0_isLike : ByteArray := prog_2_method_9_code
def yX0_isLike : MethodName := ⟨RX0, "isLike", "(LWordClassLearner$Automaton;)Z"⟩
def RX1 : String := "WordClassLearner$Draft"
def TX1 : u_T := fun k => match k with
  | 0 => ("WordClassLearner$Draft", "drawn", "LWordClassLearner$Automaton;", true)
  | 1 => ("WordClassLearner$Draft", "reduced", "LWordClassLearner$Automaton;", true)
  | 2 => ("WordClassLearner$Draft", "splitters", "[I", true)
  | 3 => ("WordClassLearner$Draft", "ends", "[I", true)
  | 4 => ("WordClassLearner$Draft", "classes", "[I", true)
  | 5 => ("WordClassLearner$Draft", "members", "[I", true)
  | 6 => ("WordClassLearner$Draft", "names", "[I", true)
  | _ => ("WordClassLearner$Draft", "examples", "[I", true)
def tyX1 : Nat → FieldType := fun k => match k with
  | 0 => .object "WordClassLearner$Automaton"
  | 1 => .object "WordClassLearner$Automaton"
  | 2 => .array .int
  | 3 => .array .int
  | 4 => .array .int
  | 5 => .array .int
  | 6 => .array .int
  | _ => .array .int
abbrev wsX10 : List Cond := u_ws RX1 TX1 8
theorem nmX1 : ∀ a, a < 8 → ∀ b, b < 8 → a ≠ b → (TX1 a).2.1 ≠ (TX1 b).2.1 := by decide +kernel
theorem tyX1_ok : ∀ k, k < 8 → parseFieldDescriptor (TX1 k).2.2.1 = some (tyX1 k) := by decide +kernel
abbrev cX1_init : ByteArray := prog_3_method_1_code
def yX1_init : MethodName := ⟨RX1, "<init>", "()V"⟩
abbrev cX1_drawn : ByteArray := prog_3_method_2_code
def yX1_drawn : MethodName := ⟨RX1, "drawn", "()LWordClassLearner$Automaton;"⟩
abbrev cX1_reduced : ByteArray := prog_3_method_3_code
def yX1_reduced : MethodName := ⟨RX1, "reduced", "()LWordClassLearner$Automaton;"⟩
abbrev cX1_begin : ByteArray := prog_3_method_4_code
def yX1_begin : MethodName := ⟨RX1, "begin", "(I)V"⟩
abbrev cX1_change : ByteArray := prog_3_method_5_code
def yX1_change : MethodName := ⟨RX1, "change", "(IIII)V"⟩
abbrev cX1_nameOf : ByteArray := prog_3_method_6_code
def yX1_nameOf : MethodName := ⟨RX1, "nameOf", "(I)I"⟩
abbrev cX1_splitterOf : ByteArray := prog_3_method_7_code
def yX1_splitterOf : MethodName := ⟨RX1, "splitterOf", "(II)I"⟩
abbrev cX1_splitterOfDrawn : ByteArray := prog_3_method_8_code
def yX1_splitterOfDrawn : MethodName := ⟨RX1, "splitterOfDrawn", "(II)I"⟩
abbrev cX1_reduce : ByteArray := prog_3_method_9_code
def yX1_reduce : MethodName := ⟨RX1, "reduce", "()V"⟩
abbrev cX1_findSplitters : ByteArray := prog_3_method_10_code
def yX1_findSplitters : MethodName := ⟨RX1, "findSplitters", "()V"⟩
abbrev cX1_splitBy : ByteArray := prog_3_method_11_code
def yX1_splitBy : MethodName := ⟨RX1, "splitBy", "(I)V"⟩
abbrev cX1_findClasses : ByteArray := prog_3_method_12_code
def yX1_findClasses : MethodName := ⟨RX1, "findClasses", "()V"⟩
abbrev cX1_openClass : ByteArray := prog_3_method_13_code
def yX1_openClass : MethodName := ⟨RX1, "openClass", "(II)V"⟩
abbrev cX1_examples : ByteArray := prog_3_method_14_code
def yX1_examples : MethodName := ⟨RX1, "examples", "()[I"⟩
abbrev cX1_addExamples : ByteArray := prog_3_method_15_code
def yX1_addExamples : MethodName := ⟨RX1, "addExamples", "(II)V"⟩
abbrev cX1_addExample : ByteArray := prog_3_method_16_code
def yX1_addExample : MethodName := ⟨RX1, "addExample", "(I)V"⟩
def RX2 : String := "WordClassLearner$Merger"
def TX2 : u_T := fun k => match k with
  | 0 => ("WordClassLearner$Merger", "marks", "[I", true)
  | 1 => ("WordClassLearner$Merger", "arrows", "[I", true)
  | 2 => ("WordClassLearner$Merger", "reds", "[I", true)
  | 3 => ("WordClassLearner$Merger", "redNames", "[I", true)
  | 4 => ("WordClassLearner$Merger", "places", "[I", true)
  | 5 => ("WordClassLearner$Merger", "redCount", "I", false)
  | 6 => ("WordClassLearner$Merger", "unders", "[I", true)
  | 7 => ("WordClassLearner$Merger", "overs", "[I", true)
  | 8 => ("WordClassLearner$Merger", "pairCount", "I", false)
  | 9 => ("WordClassLearner$Merger", "newMarks", "[I", true)
  | 10 => ("WordClassLearner$Merger", "newMarkCount", "I", false)
  | 11 => ("WordClassLearner$Merger", "newArrows", "[I", true)
  | _ => ("WordClassLearner$Merger", "newArrowCount", "I", false)
def tyX2 : Nat → FieldType := fun k => match k with
  | 0 => .array .int
  | 1 => .array .int
  | 2 => .array .int
  | 3 => .array .int
  | 4 => .array .int
  | 5 => .int
  | 6 => .array .int
  | 7 => .array .int
  | 8 => .int
  | 9 => .array .int
  | 10 => .int
  | 11 => .array .int
  | _ => .int
abbrev wsX20 : List Cond := u_ws RX2 TX2 13
theorem nmX2 : ∀ a, a < 13 → ∀ b, b < 13 → a ≠ b → (TX2 a).2.1 ≠ (TX2 b).2.1 := by decide +kernel
theorem tyX2_ok : ∀ k, k < 13 → parseFieldDescriptor (TX2 k).2.2.1 = some (tyX2 k) := by decide +kernel
abbrev cX2_init : ByteArray := prog_4_method_1_code
def yX2_init : MethodName := ⟨RX2, "<init>", "()V"⟩
abbrev cX2_run : ByteArray := prog_4_method_2_code
def yX2_run : MethodName := ⟨RX2, "run", "(LWordClassLearner$Sample;LWordClassLearner$Automaton;)V"⟩
abbrev cX2_plantTree : ByteArray := prog_4_method_3_code
def yX2_plantTree : MethodName := ⟨RX2, "plantTree", "(LWordClassLearner$Sample;)V"⟩
abbrev cX2_redden : ByteArray := prog_4_method_4_code
def yX2_redden : MethodName := ⟨RX2, "redden", "(II)V"⟩
abbrev cX2_nameBehind : ByteArray := prog_4_method_5_code
def yX2_nameBehind : MethodName := ⟨RX2, "nameBehind", "(I)I"⟩
abbrev cX2_firstArrowToBlue : ByteArray := prog_4_method_6_code
def yX2_firstArrowToBlue : MethodName := ⟨RX2, "firstArrowToBlue", "()I"⟩
abbrev cX2_leadsToBlue : ByteArray := prog_4_method_7_code
def yX2_leadsToBlue : MethodName := ⟨RX2, "leadsToBlue", "(I)Z"⟩
abbrev cX2_settle : ByteArray := prog_4_method_8_code
def yX2_settle : MethodName := ⟨RX2, "settle", "(I)V"⟩
abbrev cX2_merges : ByteArray := prog_4_method_9_code
def yX2_merges : MethodName := ⟨RX2, "merges", "(II)Z"⟩
abbrev cX2_addPair : ByteArray := prog_4_method_10_code
def yX2_addPair : MethodName := ⟨RX2, "addPair", "(II)V"⟩
abbrev cX2_layOver : ByteArray := prog_4_method_11_code
def yX2_layOver : MethodName := ⟨RX2, "layOver", "(II)V"⟩
abbrev cX2_layArrowOver : ByteArray := prog_4_method_12_code
def yX2_layArrowOver : MethodName := ⟨RX2, "layArrowOver", "(II)V"⟩
abbrev cX2_takeBack : ByteArray := prog_4_method_13_code
def yX2_takeBack : MethodName := ⟨RX2, "takeBack", "()V"⟩
abbrev cX2_writeTo : ByteArray := prog_4_method_14_code
def yX2_writeTo : MethodName := ⟨RX2, "writeTo", "(LWordClassLearner$Automaton;)V"⟩
def RX3 : String := "WordClassLearner$Sample"
def TX3 : u_T := fun k => match k with
  | 0 => ("WordClassLearner$Sample", "marks", "[I", true)
  | _ => ("WordClassLearner$Sample", "count", "I", false)
def tyX3 : Nat → FieldType := fun k => match k with
  | 0 => .array .int
  | _ => .int
abbrev wsX30 : List Cond := u_ws RX3 TX3 2
theorem nmX3 : ∀ a, a < 2 → ∀ b, b < 2 → a ≠ b → (TX3 a).2.1 ≠ (TX3 b).2.1 := by decide +kernel
theorem tyX3_ok : ∀ k, k < 2 → parseFieldDescriptor (TX3 k).2.2.1 = some (tyX3 k) := by decide +kernel
abbrev cX3_init : ByteArray := prog_5_method_1_code
def yX3_init : MethodName := ⟨RX3, "<init>", "()V"⟩
abbrev cX3_count : ByteArray := prog_5_method_2_code
def yX3_count : MethodName := ⟨RX3, "count", "()I"⟩
abbrev cX3_markOf : ByteArray := prog_5_method_3_code
def yX3_markOf : MethodName := ⟨RX3, "markOf", "(I)I"⟩
abbrev cX3_clear : ByteArray := prog_5_method_4_code
def yX3_clear : MethodName := ⟨RX3, "clear", "()V"⟩
abbrev cX3_take : ByteArray := prog_5_method_5_code
def yX3_take : MethodName := ⟨RX3, "take", "(II)Z"⟩
abbrev cX3_contradicts : ByteArray := prog_5_method_6_code
def yX3_contradicts : MethodName := ⟨RX3, "contradicts", "([I)Z"⟩
abbrev cX3_takeAll : ByteArray := prog_5_method_7_code
def yX3_takeAll : MethodName := ⟨RX3, "takeAll", "([I)I"⟩
def RX4 : String := "WordClassLearner"
def TX4 : u_T := fun k => match k with
  | 0 => ("WordClassLearner", "sample", "LWordClassLearner$Sample;", true)
  | 1 => ("WordClassLearner", "merger", "LWordClassLearner$Merger;", true)
  | 2 => ("WordClassLearner", "learned", "LWordClassLearner$Automaton;", true)
  | _ => ("WordClassLearner", "plan", "LWordClassLearner$Draft;", true)
def tyX4 : Nat → FieldType := fun k => match k with
  | 0 => .object "WordClassLearner$Sample"
  | 1 => .object "WordClassLearner$Merger"
  | 2 => .object "WordClassLearner$Automaton"
  | _ => .object "WordClassLearner$Draft"
abbrev wsX40 : List Cond := u_ws RX4 TX4 4
theorem nmX4 : ∀ a, a < 4 → ∀ b, b < 4 → a ≠ b → (TX4 a).2.1 ≠ (TX4 b).2.1 := by decide +kernel
theorem tyX4_ok : ∀ k, k < 4 → parseFieldDescriptor (TX4 k).2.2.1 = some (tyX4 k) := by decide +kernel
abbrev cX4_init : ByteArray := prog_1_method_1_code
def yX4_init : MethodName := ⟨RX4, "<init>", "()V"⟩
abbrev cX4_teach : ByteArray := prog_1_method_2_code
def yX4_teach : MethodName := ⟨RX4, "teach", "(IIZ)Z"⟩
abbrev cX4_told : ByteArray := prog_1_method_3_code
def yX4_told : MethodName := ⟨RX4, "told", "(II)I"⟩
abbrev cX4_size : ByteArray := prog_1_method_4_code
def yX4_size : MethodName := ⟨RX4, "size", "()I"⟩
abbrev cX4_forget : ByteArray := prog_1_method_5_code
def yX4_forget : MethodName := ⟨RX4, "forget", "()V"⟩
abbrev cX4_learn : ByteArray := prog_1_method_6_code
def yX4_learn : MethodName := ⟨RX4, "learn", "()I"⟩
abbrev cX4_states : ByteArray := prog_1_method_7_code
def yX4_states : MethodName := ⟨RX4, "states", "()I"⟩
abbrev cX4_next : ByteArray := prog_1_method_8_code
def yX4_next : MethodName := ⟨RX4, "next", "(II)I"⟩
abbrev cX4_sign : ByteArray := prog_1_method_9_code
def yX4_sign : MethodName := ⟨RX4, "sign", "(I)I"⟩
abbrev cX4_accepts : ByteArray := prog_1_method_10_code
def yX4_accepts : MethodName := ⟨RX4, "accepts", "(II)Z"⟩
abbrev cX4_draft : ByteArray := prog_1_method_11_code
def yX4_draft : MethodName := ⟨RX4, "draft", "(I)V"⟩
abbrev cX4_define : ByteArray := prog_1_method_12_code
def yX4_define : MethodName := ⟨RX4, "define", "(IZII)V"⟩
abbrev cX4_least : ByteArray := prog_1_method_13_code
def yX4_least : MethodName := ⟨RX4, "least", "()I"⟩
abbrev cX4_name : ByteArray := prog_1_method_14_code
def yX4_name : MethodName := ⟨RX4, "name", "(I)I"⟩
abbrev cX4_apart : ByteArray := prog_1_method_15_code
def yX4_apart : MethodName := ⟨RX4, "apart", "(II)I"⟩
abbrev cX4_exemplify : ByteArray := prog_1_method_16_code
def yX4_exemplify : MethodName := ⟨RX4, "exemplify", "()I"⟩
abbrev cX4_same : ByteArray := prog_1_method_17_code
def yX4_same : MethodName := ⟨RX4, "same", "()Z"⟩
abbrev cX4_checkLearned : ByteArray := prog_1_method_18_code
def yX4_checkLearned : MethodName := ⟨RX4, "checkLearned", "()V"⟩
abbrev cX4_checkDrafted : ByteArray := prog_1_method_19_code
def yX4_checkDrafted : MethodName := ⟨RX4, "checkDrafted", "()V"⟩
abbrev cX4_checkState : ByteArray := prog_1_method_20_code
def yX4_checkState : MethodName := ⟨RX4, "checkState", "(LWordClassLearner$Automaton;I)V"⟩
abbrev cX4_checkedWord : ByteArray := prog_1_method_21_code
def yX4_checkedWord : MethodName := ⟨RX4, "checkedWord", "(II)I"⟩
abbrev cX4_lengthOf : ByteArray := prog_1_method_22_code
def yX4_lengthOf : MethodName := ⟨RX4, "lengthOf", "(I)I"⟩
abbrev cX4_codeOf : ByteArray := prog_1_method_23_code
def yX4_codeOf : MethodName := ⟨RX4, "codeOf", "(I)I"⟩
abbrev cX4_joined : ByteArray := prog_1_method_24_code
def yX4_joined : MethodName := ⟨RX4, "joined", "(II)I"⟩
def RX5 : String := "WordClassLearnerModel"
def TX5 : u_T := fun k => match k with
  | 0 => ("WordClassLearnerModel", "fault", "I", false)
  | 1 => ("WordClassLearnerModel", "told", "I", false)
  | 2 => ("WordClassLearnerModel", "sample", "[I", true)
  | 3 => ("WordClassLearnerModel", "isNode", "[Z", true)
  | 4 => ("WordClassLearnerModel", "block", "[I", true)
  | 5 => ("WordClassLearnerModel", "mark", "[I", true)
  | 6 => ("WordClassLearnerModel", "tried", "[I", true)
  | 7 => ("WordClassLearnerModel", "triedMark", "[I", true)
  | 8 => ("WordClassLearnerModel", "behind", "[I", true)
  | 9 => ("WordClassLearnerModel", "reds", "I", false)
  | 10 => ("WordClassLearnerModel", "red", "[I", true)
  | 11 => ("WordClassLearnerModel", "redName", "[I", true)
  | 12 => ("WordClassLearnerModel", "blueNode", "I", false)
  | 13 => ("WordClassLearnerModel", "blueName", "I", false)
  | 14 => ("WordClassLearnerModel", "states", "I", false)
  | 15 => ("WordClassLearnerModel", "arrow", "[I", true)
  | 16 => ("WordClassLearnerModel", "signs", "[I", true)
  | 17 => ("WordClassLearnerModel", "drafted", "I", false)
  | 18 => ("WordClassLearnerModel", "good", "[Z", true)
  | 19 => ("WordClassLearnerModel", "to", "[I", true)
  | 20 => ("WordClassLearnerModel", "classes", "I", false)
  | 21 => ("WordClassLearnerModel", "member", "[I", true)
  | 22 => ("WordClassLearnerModel", "named", "[I", true)
  | 23 => ("WordClassLearnerModel", "wanted", "[Z", true)
  | 24 => ("WordClassLearnerModel", "twin", "I", false)
  | _ => ("WordClassLearnerModel", "other", "I", false)
def tyX5 : Nat → FieldType := fun k => match k with
  | 0 => .int
  | 1 => .int
  | 2 => .array .int
  | 3 => .array .boolean
  | 4 => .array .int
  | 5 => .array .int
  | 6 => .array .int
  | 7 => .array .int
  | 8 => .array .int
  | 9 => .int
  | 10 => .array .int
  | 11 => .array .int
  | 12 => .int
  | 13 => .int
  | 14 => .int
  | 15 => .array .int
  | 16 => .array .int
  | 17 => .int
  | 18 => .array .boolean
  | 19 => .array .int
  | 20 => .int
  | 21 => .array .int
  | 22 => .array .int
  | 23 => .array .boolean
  | 24 => .int
  | _ => .int
abbrev wsX50 : List Cond := u_ws RX5 TX5 26
theorem nmX5 : ∀ a, a < 26 → ∀ b, b < 26 → a ≠ b → (TX5 a).2.1 ≠ (TX5 b).2.1 := by decide +kernel
theorem tyX5_ok : ∀ k, k < 26 → parseFieldDescriptor (TX5 k).2.2.1 = some (tyX5 k) := by decide +kernel
abbrev cX5_init : ByteArray := prog_7_method_1_code
def yX5_init : MethodName := ⟨RX5, "<init>", "()V"⟩
abbrev cX5_thrown : ByteArray := prog_7_method_2_code
def yX5_thrown : MethodName := ⟨RX5, "thrown", "()I"⟩
abbrev cX5_when : ByteArray := prog_7_method_3_code
def yX5_when : MethodName := ⟨RX5, "when", "(ZI)Z"⟩
abbrev cX5_isWord : ByteArray := prog_7_method_4_code
def yX5_isWord : MethodName := ⟨RX5, "isWord", "(II)Z"⟩
abbrev cX5_number : ByteArray := prog_7_method_5_code
def yX5_number : MethodName := ⟨RX5, "number", "(II)I"⟩
abbrev cX5_lengthOf : ByteArray := prog_7_method_6_code
def yX5_lengthOf : MethodName := ⟨RX5, "lengthOf", "(I)I"⟩
abbrev cX5_lettersOf : ByteArray := prog_7_method_7_code
def yX5_lettersOf : MethodName := ⟨RX5, "lettersOf", "(I)I"⟩
abbrev cX5_followed : ByteArray := prog_7_method_8_code
def yX5_followed : MethodName := ⟨RX5, "followed", "(II)I"⟩
abbrev cX5_joined : ByteArray := prog_7_method_9_code
def yX5_joined : MethodName := ⟨RX5, "joined", "(II)I"⟩
abbrev cX5_given : ByteArray := prog_7_method_10_code
def yX5_given : MethodName := ⟨RX5, "given", "(I)I"⟩
abbrev cX5_teach : ByteArray := prog_7_method_11_code
def yX5_teach : MethodName := ⟨RX5, "teach", "(IIZ)Z"⟩
abbrev cX5_told : ByteArray := prog_7_method_12_code
def yX5_told : MethodName := ⟨RX5, "told", "(II)I"⟩
abbrev cX5_size : ByteArray := prog_7_method_13_code
def yX5_size : MethodName := ⟨RX5, "size", "()I"⟩
abbrev cX5_forget : ByteArray := prog_7_method_14_code
def yX5_forget : MethodName := ⟨RX5, "forget", "()V"⟩
abbrev cX5_begin : ByteArray := prog_7_method_15_code
def yX5_begin : MethodName := ⟨RX5, "begin", "()V"⟩
abbrev cX5_unite : ByteArray := prog_7_method_16_code
def yX5_unite : MethodName := ⟨RX5, "unite", "(II)Z"⟩
abbrev cX5_findTwins : ByteArray := prog_7_method_17_code
def yX5_findTwins : MethodName := ⟨RX5, "findTwins", "()Z"⟩
abbrev cX5_merge : ByteArray := prog_7_method_18_code
def yX5_merge : MethodName := ⟨RX5, "merge", "(II)Z"⟩
abbrev cX5_redOf : ByteArray := prog_7_method_19_code
def yX5_redOf : MethodName := ⟨RX5, "redOf", "(I)I"⟩
abbrev cX5_findBlue : ByteArray := prog_7_method_20_code
def yX5_findBlue : MethodName := ⟨RX5, "findBlue", "()Z"⟩
abbrev cX5_learn : ByteArray := prog_7_method_21_code
def yX5_learn : MethodName := ⟨RX5, "learn", "()I"⟩
abbrev cX5_states : ByteArray := prog_7_method_22_code
def yX5_states : MethodName := ⟨RX5, "states", "()I"⟩
abbrev cX5_isState : ByteArray := prog_7_method_23_code
def yX5_isState : MethodName := ⟨RX5, "isState", "(I)Z"⟩
abbrev cX5_next : ByteArray := prog_7_method_24_code
def yX5_next : MethodName := ⟨RX5, "next", "(II)I"⟩
abbrev cX5_sign : ByteArray := prog_7_method_25_code
def yX5_sign : MethodName := ⟨RX5, "sign", "(I)I"⟩
abbrev cX5_accepts : ByteArray := prog_7_method_26_code
def yX5_accepts : MethodName := ⟨RX5, "accepts", "(II)Z"⟩
abbrev cX5_draft : ByteArray := prog_7_method_27_code
def yX5_draft : MethodName := ⟨RX5, "draft", "(I)V"⟩
abbrev cX5_isDrafted : ByteArray := prog_7_method_28_code
def yX5_isDrafted : MethodName := ⟨RX5, "isDrafted", "(I)Z"⟩
abbrev cX5_define : ByteArray := prog_7_method_29_code
def yX5_define : MethodName := ⟨RX5, "define", "(IZII)V"⟩
abbrev cX5_lead : ByteArray := prog_7_method_30_code
def yX5_lead : MethodName := ⟨RX5, "lead", "(II)I"⟩
abbrev cX5_setsApart : ByteArray := prog_7_method_31_code
def yX5_setsApart : MethodName := ⟨RX5, "setsApart", "(II)I"⟩
abbrev cX5_classOf : ByteArray := prog_7_method_32_code
def yX5_classOf : MethodName := ⟨RX5, "classOf", "(I)I"⟩
abbrev cX5_reduce : ByteArray := prog_7_method_33_code
def yX5_reduce : MethodName := ⟨RX5, "reduce", "()V"⟩
abbrev cX5_least : ByteArray := prog_7_method_34_code
def yX5_least : MethodName := ⟨RX5, "least", "()I"⟩
abbrev cX5_name : ByteArray := prog_7_method_35_code
def yX5_name : MethodName := ⟨RX5, "name", "(I)I"⟩
abbrev cX5_apart : ByteArray := prog_7_method_36_code
def yX5_apart : MethodName := ⟨RX5, "apart", "(II)I"⟩
abbrev cX5_want : ByteArray := prog_7_method_37_code
def yX5_want : MethodName := ⟨RX5, "want", "(II)V"⟩
abbrev cX5_characteristic : ByteArray := prog_7_method_38_code
def yX5_characteristic : MethodName := ⟨RX5, "characteristic", "()V"⟩
abbrev cX5_signOf : ByteArray := prog_7_method_39_code
def yX5_signOf : MethodName := ⟨RX5, "signOf", "(I)I"⟩
abbrev cX5_exemplify : ByteArray := prog_7_method_40_code
def yX5_exemplify : MethodName := ⟨RX5, "exemplify", "()I"⟩
abbrev cX5_same : ByteArray := prog_7_method_41_code
def yX5_same : MethodName := ⟨RX5, "same", "()Z"⟩
def RJ0 : String := "java/lang/String"
def TJ0 : u_T := fun k => match k with
  | _ => ("", "", "", false)
def tyJ0 : Nat → FieldType := fun k => match k with
  | _ => .int
abbrev wsJ00 : List Cond := u_ws RJ0 TJ0 0
theorem nmJ0 : ∀ a, a < 0 → ∀ b, b < 0 → a ≠ b → (TJ0 a).2.1 ≠ (TJ0 b).2.1 := by decide +kernel
theorem tyJ0_ok : ∀ k, k < 0 → parseFieldDescriptor (TJ0 k).2.2.1 = some (tyJ0 k) := by decide +kernel
def RJ7 : String := "java/util/Arrays"
def TJ7 : u_T := fun k => match k with
  | _ => ("", "", "", false)
def tyJ7 : Nat → FieldType := fun k => match k with
  | _ => .int
abbrev wsJ70 : List Cond := u_ws RJ7 TJ7 0
theorem nmJ7 : ∀ a, a < 0 → ∀ b, b < 0 → a ≠ b → (TJ7 a).2.1 ≠ (TJ7 b).2.1 := by decide +kernel
theorem tyJ7_ok : ∀ k, k < 0 → parseFieldDescriptor (TJ7 k).2.2.1 = some (tyJ7 k) := by decide +kernel
abbrev cJ7_fill_53178 : ByteArray := prog_15_method_103_code
def yJ7_fill_53178 : MethodName := ⟨RJ7, "fill", "([II)V"⟩
def RL : String := "WordClassLearnerLaw"
abbrev cL_teach : ByteArray := method_3_code
def yL_teach : MethodName := ⟨RL, "teach", "(LWordClassLearner;IIZ[J)I"⟩
abbrev cL_told : ByteArray := method_4_code
def yL_told : MethodName := ⟨RL, "told", "(LWordClassLearner;II[J)I"⟩
abbrev cL_next : ByteArray := method_5_code
def yL_next : MethodName := ⟨RL, "next", "(LWordClassLearner;II[J)I"⟩
abbrev cL_sign : ByteArray := method_6_code
def yL_sign : MethodName := ⟨RL, "sign", "(LWordClassLearner;I[J)I"⟩
abbrev cL_accepts : ByteArray := method_7_code
def yL_accepts : MethodName := ⟨RL, "accepts", "(LWordClassLearner;II[J)I"⟩
abbrev cL_draft : ByteArray := method_8_code
def yL_draft : MethodName := ⟨RL, "draft", "(LWordClassLearner;I)I"⟩
abbrev cL_define : ByteArray := method_9_code
def yL_define : MethodName := ⟨RL, "define", "(LWordClassLearner;IZII)I"⟩
abbrev cL_least : ByteArray := method_10_code
def yL_least : MethodName := ⟨RL, "least", "(LWordClassLearner;[J)I"⟩
abbrev cL_name : ByteArray := method_11_code
def yL_name : MethodName := ⟨RL, "name", "(LWordClassLearner;I[J)I"⟩
abbrev cL_apart : ByteArray := method_12_code
def yL_apart : MethodName := ⟨RL, "apart", "(LWordClassLearner;II[J)I"⟩
abbrev cL_exemplify : ByteArray := method_13_code
def yL_exemplify : MethodName := ⟨RL, "exemplify", "(LWordClassLearner;[J)I"⟩
abbrev cL_same : ByteArray := method_14_code
def yL_same : MethodName := ⟨RL, "same", "(LWordClassLearner;[J)I"⟩
abbrev cL_law : ByteArray := code
def yL_law : MethodName := ⟨RL, "law", "([I)Z"⟩
abbrev vwCl : List vw_C := [(RX0, TX0, 3), (RX1, TX1, 8), (RX2, TX2, 13), (RX3, TX3, 2), (RX4, TX4, 4), (RX5, TX5, 26)]
end
section
theorem dX0_init_0 : decode cX0_init 0 = .ok (.aload_n 0, 1) := by decide +kernel
theorem dX0_init_1 : decode cX0_init 1 = .ok (.invokespecial 3, 3) := by decide +kernel
theorem dX0_init_4 : decode cX0_init 4 = .ok (.aload_n 0, 1) := by decide +kernel
theorem dX0_init_5 : decode cX0_init 5 = .ok (.iconst 0, 1) := by decide +kernel
theorem dX0_init_6 : decode cX0_init 6 = .ok (.putfield 9, 3) := by decide +kernel
theorem dX0_init_9 : decode cX0_init 9 = .ok (.aload_n 0, 1) := by decide +kernel
theorem dX0_init_10 : decode cX0_init 10 = .ok (.iload_n 1, 1) := by decide +kernel
theorem dX0_init_11 : decode cX0_init 11 = .ok (.newarray .int, 2) := by decide +kernel
theorem dX0_init_13 : decode cX0_init 13 = .ok (.putfield 15, 3) := by decide +kernel
theorem dX0_init_16 : decode cX0_init 16 = .ok (.aload_n 0, 1) := by decide +kernel
theorem dX0_init_17 : decode cX0_init 17 = .ok (.iconst 2, 1) := by decide +kernel
theorem dX0_init_18 : decode cX0_init 18 = .ok (.iload_n 1, 1) := by decide +kernel
theorem dX0_init_19 : decode cX0_init 19 = .ok (.imul, 1) := by decide +kernel
theorem dX0_init_20 : decode cX0_init 20 = .ok (.newarray .int, 2) := by decide +kernel
theorem dX0_init_22 : decode cX0_init 22 = .ok (.putfield 19, 3) := by decide +kernel
theorem dX0_init_25 : decode cX0_init 25 = .ok (.return_, 1) := by decide +kernel
theorem dX0_count_0 : decode cX0_count 0 = .ok (.aload_n 0, 1) := by decide +kernel
theorem dX0_count_1 : decode cX0_count 1 = .ok (.getfield 9, 3) := by decide +kernel
theorem dX0_count_4 : decode cX0_count 4 = .ok (.ireturn, 1) := by decide +kernel
theorem dX0_resize_0 : decode cX0_resize 0 = .ok (.aload_n 0, 1) := by decide +kernel
theorem dX0_resize_1 : decode cX0_resize 1 = .ok (.iload_n 1, 1) := by decide +kernel
theorem dX0_resize_2 : decode cX0_resize 2 = .ok (.putfield 9, 3) := by decide +kernel
theorem dX0_resize_5 : decode cX0_resize 5 = .ok (.return_, 1) := by decide +kernel
theorem dX0_has_0 : decode cX0_has 0 = .ok (.iload_n 1, 1) := by decide +kernel
theorem dX0_has_1 : decode cX0_has 1 = .ok (.ifCond .lt 15, 3) := by decide +kernel
theorem dX0_has_4 : decode cX0_has 4 = .ok (.iload_n 1, 1) := by decide +kernel
theorem dX0_has_5 : decode cX0_has 5 = .ok (.aload_n 0, 1) := by decide +kernel
theorem dX0_has_6 : decode cX0_has 6 = .ok (.getfield 9, 3) := by decide +kernel
theorem dX0_has_9 : decode cX0_has 9 = .ok (.if_icmp .ge 7, 3) := by decide +kernel
theorem dX0_has_12 : decode cX0_has 12 = .ok (.iconst 1, 1) := by decide +kernel
theorem dX0_has_13 : decode cX0_has 13 = .ok (.goto 4, 3) := by decide +kernel
theorem dX0_has_16 : decode cX0_has 16 = .ok (.iconst 0, 1) := by decide +kernel
theorem dX0_has_17 : decode cX0_has 17 = .ok (.ireturn, 1) := by decide +kernel
theorem dX0_markOf_0 : decode cX0_markOf 0 = .ok (.aload_n 0, 1) := by decide +kernel
theorem dX0_markOf_1 : decode cX0_markOf 1 = .ok (.getfield 15, 3) := by decide +kernel
theorem dX0_markOf_4 : decode cX0_markOf 4 = .ok (.iload_n 1, 1) := by decide +kernel
theorem dX0_markOf_5 : decode cX0_markOf 5 = .ok (.iaload, 1) := by decide +kernel
theorem dX0_markOf_6 : decode cX0_markOf 6 = .ok (.ireturn, 1) := by decide +kernel
theorem dX0_arrow_0 : decode cX0_arrow 0 = .ok (.aload_n 0, 1) := by decide +kernel
theorem dX0_arrow_1 : decode cX0_arrow 1 = .ok (.getfield 19, 3) := by decide +kernel
theorem dX0_arrow_4 : decode cX0_arrow 4 = .ok (.iconst 2, 1) := by decide +kernel
theorem dX0_arrow_5 : decode cX0_arrow 5 = .ok (.iload_n 1, 1) := by decide +kernel
theorem dX0_arrow_6 : decode cX0_arrow 6 = .ok (.imul, 1) := by decide +kernel
theorem dX0_arrow_7 : decode cX0_arrow 7 = .ok (.iload_n 2, 1) := by decide +kernel
theorem dX0_arrow_8 : decode cX0_arrow 8 = .ok (.iadd, 1) := by decide +kernel
theorem dX0_arrow_9 : decode cX0_arrow 9 = .ok (.iaload, 1) := by decide +kernel
theorem dX0_arrow_10 : decode cX0_arrow 10 = .ok (.ireturn, 1) := by decide +kernel
theorem dX0_put_0 : decode cX0_put 0 = .ok (.aload_n 0, 1) := by decide +kernel
theorem dX0_put_1 : decode cX0_put 1 = .ok (.getfield 15, 3) := by decide +kernel
theorem dX0_put_4 : decode cX0_put 4 = .ok (.iload_n 1, 1) := by decide +kernel
theorem dX0_put_5 : decode cX0_put 5 = .ok (.iload_n 2, 1) := by decide +kernel
theorem dX0_put_6 : decode cX0_put 6 = .ok (.iastore, 1) := by decide +kernel
theorem dX0_put_7 : decode cX0_put 7 = .ok (.aload_n 0, 1) := by decide +kernel
theorem dX0_put_8 : decode cX0_put 8 = .ok (.getfield 19, 3) := by decide +kernel
theorem dX0_put_11 : decode cX0_put 11 = .ok (.iconst 2, 1) := by decide +kernel
theorem dX0_put_12 : decode cX0_put 12 = .ok (.iload_n 1, 1) := by decide +kernel
theorem dX0_put_13 : decode cX0_put 13 = .ok (.imul, 1) := by decide +kernel
theorem dX0_put_14 : decode cX0_put 14 = .ok (.iload_n 3, 1) := by decide +kernel
theorem dX0_put_15 : decode cX0_put 15 = .ok (.iastore, 1) := by decide +kernel
theorem dX0_put_16 : decode cX0_put 16 = .ok (.aload_n 0, 1) := by decide +kernel
theorem dX0_put_17 : decode cX0_put 17 = .ok (.getfield 19, 3) := by decide +kernel
theorem dX0_put_20 : decode cX0_put 20 = .ok (.iconst 2, 1) := by decide +kernel
theorem dX0_put_21 : decode cX0_put 21 = .ok (.iload_n 1, 1) := by decide +kernel
theorem dX0_put_22 : decode cX0_put 22 = .ok (.imul, 1) := by decide +kernel
theorem dX0_put_23 : decode cX0_put 23 = .ok (.iconst 1, 1) := by decide +kernel
theorem dX0_put_24 : decode cX0_put 24 = .ok (.iadd, 1) := by decide +kernel
theorem dX0_put_25 : decode cX0_put 25 = .ok (.iload 4, 2) := by decide +kernel
theorem dX0_put_27 : decode cX0_put 27 = .ok (.iastore, 1) := by decide +kernel
theorem dX0_put_28 : decode cX0_put 28 = .ok (.return_, 1) := by decide +kernel
theorem dX0_walk_0 : decode cX0_walk 0 = .ok (.iload_n 1, 1) := by decide +kernel
theorem dX0_walk_1 : decode cX0_walk 1 = .ok (.istore_n 3, 1) := by decide +kernel
theorem dX0_walk_2 : decode cX0_walk 2 = .ok (.iload_n 2, 1) := by decide +kernel
theorem dX0_walk_3 : decode cX0_walk 3 = .ok (.invokestatic 22, 3) := by decide +kernel
theorem dX0_walk_6 : decode cX0_walk 6 = .ok (.iconst 1, 1) := by decide +kernel
theorem dX0_walk_7 : decode cX0_walk 7 = .ok (.isub, 1) := by decide +kernel
theorem dX0_walk_8 : decode cX0_walk 8 = .ok (.istore 4, 2) := by decide +kernel
theorem dX0_walk_10 : decode cX0_walk 10 = .ok (.iload 4, 2) := by decide +kernel
theorem dX0_walk_12 : decode cX0_walk 12 = .ok (.ifCond .lt 26, 3) := by decide +kernel
theorem dX0_walk_15 : decode cX0_walk 15 = .ok (.iload_n 3, 1) := by decide +kernel
theorem dX0_walk_16 : decode cX0_walk 16 = .ok (.iconst (-1), 1) := by decide +kernel
theorem dX0_walk_17 : decode cX0_walk 17 = .ok (.if_icmp .eq 21, 3) := by decide +kernel
theorem dX0_walk_20 : decode cX0_walk 20 = .ok (.aload_n 0, 1) := by decide +kernel
theorem dX0_walk_21 : decode cX0_walk 21 = .ok (.iload_n 3, 1) := by decide +kernel
theorem dX0_walk_22 : decode cX0_walk 22 = .ok (.iload_n 2, 1) := by decide +kernel
theorem dX0_walk_23 : decode cX0_walk 23 = .ok (.iload 4, 2) := by decide +kernel
theorem dX0_walk_25 : decode cX0_walk 25 = .ok (.ishr, 1) := by decide +kernel
theorem dX0_walk_26 : decode cX0_walk 26 = .ok (.iconst 1, 1) := by decide +kernel
theorem dX0_walk_27 : decode cX0_walk 27 = .ok (.iand, 1) := by decide +kernel
theorem dX0_walk_28 : decode cX0_walk 28 = .ok (.invokevirtual 26, 3) := by decide +kernel
theorem dX0_walk_31 : decode cX0_walk 31 = .ok (.istore_n 3, 1) := by decide +kernel
theorem dX0_walk_32 : decode cX0_walk 32 = .ok (.iinc 4 (-1), 3) := by decide +kernel
theorem dX0_walk_35 : decode cX0_walk 35 = .ok (.goto (-25), 3) := by decide +kernel
theorem dX0_walk_38 : decode cX0_walk 38 = .ok (.iload_n 3, 1) := by decide +kernel
theorem dX0_walk_39 : decode cX0_walk 39 = .ok (.ireturn, 1) := by decide +kernel
theorem dX0_isLike_0 : decode cX0_isLike 0 = .ok (.aload_n 0, 1) := by decide +kernel
theorem dX0_isLike_1 : decode cX0_isLike 1 = .ok (.getfield 9, 3) := by decide +kernel
theorem dX0_isLike_4 : decode cX0_isLike 4 = .ok (.aload_n 1, 1) := by decide +kernel
theorem dX0_isLike_5 : decode cX0_isLike 5 = .ok (.getfield 9, 3) := by decide +kernel
theorem dX0_isLike_8 : decode cX0_isLike 8 = .ok (.if_icmp .eq 5, 3) := by decide +kernel
theorem dX0_isLike_11 : decode cX0_isLike 11 = .ok (.iconst 0, 1) := by decide +kernel
theorem dX0_isLike_12 : decode cX0_isLike 12 = .ok (.ireturn, 1) := by decide +kernel
theorem dX0_isLike_13 : decode cX0_isLike 13 = .ok (.iconst 0, 1) := by decide +kernel
theorem dX0_isLike_14 : decode cX0_isLike 14 = .ok (.istore_n 2, 1) := by decide +kernel
theorem dX0_isLike_15 : decode cX0_isLike 15 = .ok (.iload_n 2, 1) := by decide +kernel
theorem dX0_isLike_16 : decode cX0_isLike 16 = .ok (.aload_n 0, 1) := by decide +kernel
theorem dX0_isLike_17 : decode cX0_isLike 17 = .ok (.getfield 9, 3) := by decide +kernel
theorem dX0_isLike_20 : decode cX0_isLike 20 = .ok (.if_icmp .ge 56, 3) := by decide +kernel
theorem dX0_isLike_23 : decode cX0_isLike 23 = .ok (.aload_n 0, 1) := by decide +kernel
theorem dX0_isLike_24 : decode cX0_isLike 24 = .ok (.getfield 15, 3) := by decide +kernel
theorem dX0_isLike_27 : decode cX0_isLike 27 = .ok (.iload_n 2, 1) := by decide +kernel
theorem dX0_isLike_28 : decode cX0_isLike 28 = .ok (.iaload, 1) := by decide +kernel
theorem dX0_isLike_29 : decode cX0_isLike 29 = .ok (.aload_n 1, 1) := by decide +kernel
theorem dX0_isLike_30 : decode cX0_isLike 30 = .ok (.getfield 15, 3) := by decide +kernel
theorem dX0_isLike_33 : decode cX0_isLike 33 = .ok (.iload_n 2, 1) := by decide +kernel
theorem dX0_isLike_34 : decode cX0_isLike 34 = .ok (.iaload, 1) := by decide +kernel
theorem dX0_isLike_35 : decode cX0_isLike 35 = .ok (.if_icmp .ne 33, 3) := by decide +kernel
theorem dX0_isLike_38 : decode cX0_isLike 38 = .ok (.aload_n 0, 1) := by decide +kernel
theorem dX0_isLike_39 : decode cX0_isLike 39 = .ok (.iload_n 2, 1) := by decide +kernel
theorem dX0_isLike_40 : decode cX0_isLike 40 = .ok (.iconst 0, 1) := by decide +kernel
theorem dX0_isLike_41 : decode cX0_isLike 41 = .ok (.invokevirtual 26, 3) := by decide +kernel
theorem dX0_isLike_44 : decode cX0_isLike 44 = .ok (.aload_n 1, 1) := by decide +kernel
theorem dX0_isLike_45 : decode cX0_isLike 45 = .ok (.iload_n 2, 1) := by decide +kernel
theorem dX0_isLike_46 : decode cX0_isLike 46 = .ok (.iconst 0, 1) := by decide +kernel
theorem dX0_isLike_47 : decode cX0_isLike 47 = .ok (.invokevirtual 26, 3) := by decide +kernel
theorem dX0_isLike_50 : decode cX0_isLike 50 = .ok (.if_icmp .ne 18, 3) := by decide +kernel
theorem dX0_isLike_53 : decode cX0_isLike 53 = .ok (.aload_n 0, 1) := by decide +kernel
theorem dX0_isLike_54 : decode cX0_isLike 54 = .ok (.iload_n 2, 1) := by decide +kernel
theorem dX0_isLike_55 : decode cX0_isLike 55 = .ok (.iconst 1, 1) := by decide +kernel
theorem dX0_isLike_56 : decode cX0_isLike 56 = .ok (.invokevirtual 26, 3) := by decide +kernel
theorem dX0_isLike_59 : decode cX0_isLike 59 = .ok (.aload_n 1, 1) := by decide +kernel
theorem dX0_isLike_60 : decode cX0_isLike 60 = .ok (.iload_n 2, 1) := by decide +kernel
theorem dX0_isLike_61 : decode cX0_isLike 61 = .ok (.iconst 1, 1) := by decide +kernel
theorem dX0_isLike_62 : decode cX0_isLike 62 = .ok (.invokevirtual 26, 3) := by decide +kernel
theorem dX0_isLike_65 : decode cX0_isLike 65 = .ok (.if_icmp .eq 5, 3) := by decide +kernel
theorem dX0_isLike_68 : decode cX0_isLike 68 = .ok (.iconst 0, 1) := by decide +kernel
theorem dX0_isLike_69 : decode cX0_isLike 69 = .ok (.ireturn, 1) := by decide +kernel
theorem dX0_isLike_70 : decode cX0_isLike 70 = .ok (.iinc 2 1, 3) := by decide +kernel
theorem dX0_isLike_73 : decode cX0_isLike 73 = .ok (.goto (-58), 3) := by decide +kernel
theorem dX0_isLike_76 : decode cX0_isLike 76 = .ok (.iconst 1, 1) := by decide +kernel
theorem dX0_isLike_77 : decode cX0_isLike 77 = .ok (.ireturn, 1) := by decide +kernel
theorem dX1_init_0 : decode cX1_init 0 = .ok (.aload_n 0, 1) := by decide +kernel
theorem dX1_init_1 : decode cX1_init 1 = .ok (.invokespecial 3, 3) := by decide +kernel
theorem dX1_init_4 : decode cX1_init 4 = .ok (.aload_n 0, 1) := by decide +kernel
theorem dX1_init_5 : decode cX1_init 5 = .ok (.new 9, 3) := by decide +kernel
theorem dX1_init_8 : decode cX1_init 8 = .ok (.dup, 1) := by decide +kernel
theorem dX1_init_9 : decode cX1_init 9 = .ok (.iconst 5, 1) := by decide +kernel
theorem dX1_init_10 : decode cX1_init 10 = .ok (.invokespecial 11, 3) := by decide +kernel
theorem dX1_init_13 : decode cX1_init 13 = .ok (.putfield 14, 3) := by decide +kernel
theorem dX1_init_16 : decode cX1_init 16 = .ok (.aload_n 0, 1) := by decide +kernel
theorem dX1_init_17 : decode cX1_init 17 = .ok (.new 9, 3) := by decide +kernel
theorem dX1_init_20 : decode cX1_init 20 = .ok (.dup, 1) := by decide +kernel
theorem dX1_init_21 : decode cX1_init 21 = .ok (.iconst 5, 1) := by decide +kernel
theorem dX1_init_22 : decode cX1_init 22 = .ok (.invokespecial 11, 3) := by decide +kernel
theorem dX1_init_25 : decode cX1_init 25 = .ok (.putfield 20, 3) := by decide +kernel
theorem dX1_init_28 : decode cX1_init 28 = .ok (.aload_n 0, 1) := by decide +kernel
theorem dX1_init_29 : decode cX1_init 29 = .ok (.bipush 25, 2) := by decide +kernel
theorem dX1_init_31 : decode cX1_init 31 = .ok (.newarray .int, 2) := by decide +kernel
theorem dX1_init_33 : decode cX1_init 33 = .ok (.putfield 23, 3) := by decide +kernel
theorem dX1_init_36 : decode cX1_init 36 = .ok (.aload_n 0, 1) := by decide +kernel
theorem dX1_init_37 : decode cX1_init 37 = .ok (.iconst 5, 1) := by decide +kernel
theorem dX1_init_38 : decode cX1_init 38 = .ok (.newarray .int, 2) := by decide +kernel
theorem dX1_init_40 : decode cX1_init 40 = .ok (.putfield 27, 3) := by decide +kernel
theorem dX1_init_43 : decode cX1_init 43 = .ok (.aload_n 0, 1) := by decide +kernel
theorem dX1_init_44 : decode cX1_init 44 = .ok (.iconst 5, 1) := by decide +kernel
theorem dX1_init_45 : decode cX1_init 45 = .ok (.newarray .int, 2) := by decide +kernel
theorem dX1_init_47 : decode cX1_init 47 = .ok (.putfield 30, 3) := by decide +kernel
theorem dX1_init_50 : decode cX1_init 50 = .ok (.aload_n 0, 1) := by decide +kernel
theorem dX1_init_51 : decode cX1_init 51 = .ok (.iconst 5, 1) := by decide +kernel
theorem dX1_init_52 : decode cX1_init 52 = .ok (.newarray .int, 2) := by decide +kernel
theorem dX1_init_54 : decode cX1_init 54 = .ok (.putfield 33, 3) := by decide +kernel
theorem dX1_init_57 : decode cX1_init 57 = .ok (.aload_n 0, 1) := by decide +kernel
theorem dX1_init_58 : decode cX1_init 58 = .ok (.iconst 5, 1) := by decide +kernel
theorem dX1_init_59 : decode cX1_init 59 = .ok (.newarray .int, 2) := by decide +kernel
theorem dX1_init_61 : decode cX1_init 61 = .ok (.putfield 36, 3) := by decide +kernel
theorem dX1_init_64 : decode cX1_init 64 = .ok (.aload_n 0, 1) := by decide +kernel
theorem dX1_init_65 : decode cX1_init 65 = .ok (.sipush 512, 3) := by decide +kernel
theorem dX1_init_68 : decode cX1_init 68 = .ok (.newarray .int, 2) := by decide +kernel
theorem dX1_init_70 : decode cX1_init 70 = .ok (.putfield 39, 3) := by decide +kernel
theorem dX1_init_73 : decode cX1_init 73 = .ok (.return_, 1) := by decide +kernel
theorem dX1_drawn_0 : decode cX1_drawn 0 = .ok (.aload_n 0, 1) := by decide +kernel
theorem dX1_drawn_1 : decode cX1_drawn 1 = .ok (.getfield 14, 3) := by decide +kernel
theorem dX1_drawn_4 : decode cX1_drawn 4 = .ok (.areturn, 1) := by decide +kernel
theorem dX1_reduced_0 : decode cX1_reduced 0 = .ok (.aload_n 0, 1) := by decide +kernel
theorem dX1_reduced_1 : decode cX1_reduced 1 = .ok (.getfield 20, 3) := by decide +kernel
theorem dX1_reduced_4 : decode cX1_reduced 4 = .ok (.areturn, 1) := by decide +kernel
theorem dX1_begin_0 : decode cX1_begin 0 = .ok (.aload_n 0, 1) := by decide +kernel
theorem dX1_begin_1 : decode cX1_begin 1 = .ok (.getfield 14, 3) := by decide +kernel
theorem dX1_begin_4 : decode cX1_begin 4 = .ok (.iload_n 1, 1) := by decide +kernel
theorem dX1_begin_5 : decode cX1_begin 5 = .ok (.invokevirtual 42, 3) := by decide +kernel
theorem dX1_begin_8 : decode cX1_begin 8 = .ok (.iconst 0, 1) := by decide +kernel
theorem dX1_begin_9 : decode cX1_begin 9 = .ok (.istore_n 2, 1) := by decide +kernel
theorem dX1_begin_10 : decode cX1_begin 10 = .ok (.iload_n 2, 1) := by decide +kernel
theorem dX1_begin_11 : decode cX1_begin 11 = .ok (.iload_n 1, 1) := by decide +kernel
theorem dX1_begin_12 : decode cX1_begin 12 = .ok (.if_icmp .ge 20, 3) := by decide +kernel
theorem dX1_begin_15 : decode cX1_begin 15 = .ok (.aload_n 0, 1) := by decide +kernel
theorem dX1_begin_16 : decode cX1_begin 16 = .ok (.getfield 14, 3) := by decide +kernel
theorem dX1_begin_19 : decode cX1_begin 19 = .ok (.iload_n 2, 1) := by decide +kernel
theorem dX1_begin_20 : decode cX1_begin 20 = .ok (.iconst (-1), 1) := by decide +kernel
theorem dX1_begin_21 : decode cX1_begin 21 = .ok (.iload_n 2, 1) := by decide +kernel
theorem dX1_begin_22 : decode cX1_begin 22 = .ok (.iload_n 2, 1) := by decide +kernel
theorem dX1_begin_23 : decode cX1_begin 23 = .ok (.invokevirtual 45, 3) := by decide +kernel
theorem dX1_begin_26 : decode cX1_begin 26 = .ok (.iinc 2 1, 3) := by decide +kernel
theorem dX1_begin_29 : decode cX1_begin 29 = .ok (.goto (-19), 3) := by decide +kernel
theorem dX1_begin_32 : decode cX1_begin 32 = .ok (.aload_n 0, 1) := by decide +kernel
theorem dX1_begin_33 : decode cX1_begin 33 = .ok (.invokevirtual 49, 3) := by decide +kernel
theorem dX1_begin_36 : decode cX1_begin 36 = .ok (.return_, 1) := by decide +kernel
theorem dX1_change_0 : decode cX1_change 0 = .ok (.aload_n 0, 1) := by decide +kernel
theorem dX1_change_1 : decode cX1_change 1 = .ok (.getfield 14, 3) := by decide +kernel
theorem dX1_change_4 : decode cX1_change 4 = .ok (.iload_n 1, 1) := by decide +kernel
theorem dX1_change_5 : decode cX1_change 5 = .ok (.iload_n 2, 1) := by decide +kernel
theorem dX1_change_6 : decode cX1_change 6 = .ok (.iload_n 3, 1) := by decide +kernel
theorem dX1_change_7 : decode cX1_change 7 = .ok (.iload 4, 2) := by decide +kernel
theorem dX1_change_9 : decode cX1_change 9 = .ok (.invokevirtual 45, 3) := by decide +kernel
theorem dX1_change_12 : decode cX1_change 12 = .ok (.aload_n 0, 1) := by decide +kernel
theorem dX1_change_13 : decode cX1_change 13 = .ok (.invokevirtual 49, 3) := by decide +kernel
theorem dX1_change_16 : decode cX1_change 16 = .ok (.return_, 1) := by decide +kernel
theorem dX1_nameOf_0 : decode cX1_nameOf 0 = .ok (.aload_n 0, 1) := by decide +kernel
theorem dX1_nameOf_1 : decode cX1_nameOf 1 = .ok (.getfield 36, 3) := by decide +kernel
theorem dX1_nameOf_4 : decode cX1_nameOf 4 = .ok (.iload_n 1, 1) := by decide +kernel
theorem dX1_nameOf_5 : decode cX1_nameOf 5 = .ok (.iaload, 1) := by decide +kernel
theorem dX1_nameOf_6 : decode cX1_nameOf 6 = .ok (.ireturn, 1) := by decide +kernel
theorem dX1_splitterOf_0 : decode cX1_splitterOf 0 = .ok (.aload_n 0, 1) := by decide +kernel
theorem dX1_splitterOf_1 : decode cX1_splitterOf 1 = .ok (.aload_n 0, 1) := by decide +kernel
theorem dX1_splitterOf_2 : decode cX1_splitterOf 2 = .ok (.getfield 33, 3) := by decide +kernel
theorem dX1_splitterOf_5 : decode cX1_splitterOf 5 = .ok (.iload_n 1, 1) := by decide +kernel
theorem dX1_splitterOf_6 : decode cX1_splitterOf 6 = .ok (.iaload, 1) := by decide +kernel
theorem dX1_splitterOf_7 : decode cX1_splitterOf 7 = .ok (.aload_n 0, 1) := by decide +kernel
theorem dX1_splitterOf_8 : decode cX1_splitterOf 8 = .ok (.getfield 33, 3) := by decide +kernel
theorem dX1_splitterOf_11 : decode cX1_splitterOf 11 = .ok (.iload_n 2, 1) := by decide +kernel
theorem dX1_splitterOf_12 : decode cX1_splitterOf 12 = .ok (.iaload, 1) := by decide +kernel
theorem dX1_splitterOf_13 : decode cX1_splitterOf 13 = .ok (.invokevirtual 52, 3) := by decide +kernel
theorem dX1_splitterOf_16 : decode cX1_splitterOf 16 = .ok (.ireturn, 1) := by decide +kernel
theorem dX1_splitterOfDrawn_0 : decode cX1_splitterOfDrawn 0 = .ok (.aload_n 0, 1) := by decide +kernel
theorem dX1_splitterOfDrawn_1 : decode cX1_splitterOfDrawn 1 = .ok (.getfield 23, 3) := by decide +kernel
theorem dX1_splitterOfDrawn_4 : decode cX1_splitterOfDrawn 4 = .ok (.iconst 5, 1) := by decide +kernel
theorem dX1_splitterOfDrawn_5 : decode cX1_splitterOfDrawn 5 = .ok (.iload_n 1, 1) := by decide +kernel
theorem dX1_splitterOfDrawn_6 : decode cX1_splitterOfDrawn 6 = .ok (.imul, 1) := by decide +kernel
theorem dX1_splitterOfDrawn_7 : decode cX1_splitterOfDrawn 7 = .ok (.iload_n 2, 1) := by decide +kernel
theorem dX1_splitterOfDrawn_8 : decode cX1_splitterOfDrawn 8 = .ok (.iadd, 1) := by decide +kernel
theorem dX1_splitterOfDrawn_9 : decode cX1_splitterOfDrawn 9 = .ok (.iaload, 1) := by decide +kernel
theorem dX1_splitterOfDrawn_10 : decode cX1_splitterOfDrawn 10 = .ok (.ireturn, 1) := by decide +kernel
theorem dX1_reduce_0 : decode cX1_reduce 0 = .ok (.aload_n 0, 1) := by decide +kernel
theorem dX1_reduce_1 : decode cX1_reduce 1 = .ok (.invokevirtual 56, 3) := by decide +kernel
theorem dX1_reduce_4 : decode cX1_reduce 4 = .ok (.aload_n 0, 1) := by decide +kernel
theorem dX1_reduce_5 : decode cX1_reduce 5 = .ok (.invokevirtual 59, 3) := by decide +kernel
theorem dX1_reduce_8 : decode cX1_reduce 8 = .ok (.iconst 0, 1) := by decide +kernel
theorem dX1_reduce_9 : decode cX1_reduce 9 = .ok (.istore_n 1, 1) := by decide +kernel
theorem dX1_reduce_10 : decode cX1_reduce 10 = .ok (.iload_n 1, 1) := by decide +kernel
theorem dX1_reduce_11 : decode cX1_reduce 11 = .ok (.aload_n 0, 1) := by decide +kernel
theorem dX1_reduce_12 : decode cX1_reduce 12 = .ok (.getfield 20, 3) := by decide +kernel
theorem dX1_reduce_15 : decode cX1_reduce 15 = .ok (.invokevirtual 62, 3) := by decide +kernel
theorem dX1_reduce_18 : decode cX1_reduce 18 = .ok (.if_icmp .ge 60, 3) := by decide +kernel
theorem dX1_reduce_21 : decode cX1_reduce 21 = .ok (.aload_n 0, 1) := by decide +kernel
theorem dX1_reduce_22 : decode cX1_reduce 22 = .ok (.getfield 33, 3) := by decide +kernel
theorem dX1_reduce_25 : decode cX1_reduce 25 = .ok (.iload_n 1, 1) := by decide +kernel
theorem dX1_reduce_26 : decode cX1_reduce 26 = .ok (.iaload, 1) := by decide +kernel
theorem dX1_reduce_27 : decode cX1_reduce 27 = .ok (.istore_n 2, 1) := by decide +kernel
theorem dX1_reduce_28 : decode cX1_reduce 28 = .ok (.aload_n 0, 1) := by decide +kernel
theorem dX1_reduce_29 : decode cX1_reduce 29 = .ok (.getfield 20, 3) := by decide +kernel
theorem dX1_reduce_32 : decode cX1_reduce 32 = .ok (.iload_n 1, 1) := by decide +kernel
theorem dX1_reduce_33 : decode cX1_reduce 33 = .ok (.aload_n 0, 1) := by decide +kernel
theorem dX1_reduce_34 : decode cX1_reduce 34 = .ok (.getfield 14, 3) := by decide +kernel
theorem dX1_reduce_37 : decode cX1_reduce 37 = .ok (.iload_n 2, 1) := by decide +kernel
theorem dX1_reduce_38 : decode cX1_reduce 38 = .ok (.invokevirtual 66, 3) := by decide +kernel
theorem dX1_reduce_41 : decode cX1_reduce 41 = .ok (.aload_n 0, 1) := by decide +kernel
theorem dX1_reduce_42 : decode cX1_reduce 42 = .ok (.getfield 30, 3) := by decide +kernel
theorem dX1_reduce_45 : decode cX1_reduce 45 = .ok (.aload_n 0, 1) := by decide +kernel
theorem dX1_reduce_46 : decode cX1_reduce 46 = .ok (.getfield 14, 3) := by decide +kernel
theorem dX1_reduce_49 : decode cX1_reduce 49 = .ok (.iload_n 2, 1) := by decide +kernel
theorem dX1_reduce_50 : decode cX1_reduce 50 = .ok (.iconst 0, 1) := by decide +kernel
theorem dX1_reduce_51 : decode cX1_reduce 51 = .ok (.invokevirtual 70, 3) := by decide +kernel
theorem dX1_reduce_54 : decode cX1_reduce 54 = .ok (.iaload, 1) := by decide +kernel
theorem dX1_reduce_55 : decode cX1_reduce 55 = .ok (.aload_n 0, 1) := by decide +kernel
theorem dX1_reduce_56 : decode cX1_reduce 56 = .ok (.getfield 30, 3) := by decide +kernel
theorem dX1_reduce_59 : decode cX1_reduce 59 = .ok (.aload_n 0, 1) := by decide +kernel
theorem dX1_reduce_60 : decode cX1_reduce 60 = .ok (.getfield 14, 3) := by decide +kernel
theorem dX1_reduce_63 : decode cX1_reduce 63 = .ok (.iload_n 2, 1) := by decide +kernel
theorem dX1_reduce_64 : decode cX1_reduce 64 = .ok (.iconst 1, 1) := by decide +kernel
theorem dX1_reduce_65 : decode cX1_reduce 65 = .ok (.invokevirtual 70, 3) := by decide +kernel
theorem dX1_reduce_68 : decode cX1_reduce 68 = .ok (.iaload, 1) := by decide +kernel
theorem dX1_reduce_69 : decode cX1_reduce 69 = .ok (.invokevirtual 45, 3) := by decide +kernel
theorem dX1_reduce_72 : decode cX1_reduce 72 = .ok (.iinc 1 1, 3) := by decide +kernel
theorem dX1_reduce_75 : decode cX1_reduce 75 = .ok (.goto (-65), 3) := by decide +kernel
theorem dX1_reduce_78 : decode cX1_reduce 78 = .ok (.return_, 1) := by decide +kernel
theorem dX1_findSplitters_0 : decode cX1_findSplitters 0 = .ok (.aload_n 0, 1) := by decide +kernel
theorem dX1_findSplitters_1 : decode cX1_findSplitters 1 = .ok (.getfield 23, 3) := by decide +kernel
theorem dX1_findSplitters_4 : decode cX1_findSplitters 4 = .ok (.iconst 0, 1) := by decide +kernel
theorem dX1_findSplitters_5 : decode cX1_findSplitters 5 = .ok (.invokestatic 73, 3) := by decide +kernel
theorem dX1_findSplitters_8 : decode cX1_findSplitters 8 = .ok (.bipush 15, 2) := by decide +kernel
theorem dX1_findSplitters_10 : decode cX1_findSplitters 10 = .ok (.istore_n 1, 1) := by decide +kernel
theorem dX1_findSplitters_11 : decode cX1_findSplitters 11 = .ok (.iload_n 1, 1) := by decide +kernel
theorem dX1_findSplitters_12 : decode cX1_findSplitters 12 = .ok (.iconst 1, 1) := by decide +kernel
theorem dX1_findSplitters_13 : decode cX1_findSplitters 13 = .ok (.if_icmp .lt 14, 3) := by decide +kernel
theorem dX1_findSplitters_16 : decode cX1_findSplitters 16 = .ok (.aload_n 0, 1) := by decide +kernel
theorem dX1_findSplitters_17 : decode cX1_findSplitters 17 = .ok (.iload_n 1, 1) := by decide +kernel
theorem dX1_findSplitters_18 : decode cX1_findSplitters 18 = .ok (.invokevirtual 79, 3) := by decide +kernel
theorem dX1_findSplitters_21 : decode cX1_findSplitters 21 = .ok (.iinc 1 (-1), 3) := by decide +kernel
theorem dX1_findSplitters_24 : decode cX1_findSplitters 24 = .ok (.goto (-13), 3) := by decide +kernel
theorem dX1_findSplitters_27 : decode cX1_findSplitters 27 = .ok (.return_, 1) := by decide +kernel
theorem dX1_splitBy_0 : decode cX1_splitBy 0 = .ok (.iconst 0, 1) := by decide +kernel
theorem dX1_splitBy_1 : decode cX1_splitBy 1 = .ok (.istore_n 2, 1) := by decide +kernel
theorem dX1_splitBy_2 : decode cX1_splitBy 2 = .ok (.iload_n 2, 1) := by decide +kernel
theorem dX1_splitBy_3 : decode cX1_splitBy 3 = .ok (.aload_n 0, 1) := by decide +kernel
theorem dX1_splitBy_4 : decode cX1_splitBy 4 = .ok (.getfield 14, 3) := by decide +kernel
theorem dX1_splitBy_7 : decode cX1_splitBy 7 = .ok (.invokevirtual 62, 3) := by decide +kernel
theorem dX1_splitBy_10 : decode cX1_splitBy 10 = .ok (.if_icmp .ge 24, 3) := by decide +kernel
theorem dX1_splitBy_13 : decode cX1_splitBy 13 = .ok (.aload_n 0, 1) := by decide +kernel
theorem dX1_splitBy_14 : decode cX1_splitBy 14 = .ok (.getfield 27, 3) := by decide +kernel
theorem dX1_splitBy_17 : decode cX1_splitBy 17 = .ok (.iload_n 2, 1) := by decide +kernel
theorem dX1_splitBy_18 : decode cX1_splitBy 18 = .ok (.aload_n 0, 1) := by decide +kernel
theorem dX1_splitBy_19 : decode cX1_splitBy 19 = .ok (.getfield 14, 3) := by decide +kernel
theorem dX1_splitBy_22 : decode cX1_splitBy 22 = .ok (.iload_n 2, 1) := by decide +kernel
theorem dX1_splitBy_23 : decode cX1_splitBy 23 = .ok (.iload_n 1, 1) := by decide +kernel
theorem dX1_splitBy_24 : decode cX1_splitBy 24 = .ok (.invokevirtual 82, 3) := by decide +kernel
theorem dX1_splitBy_27 : decode cX1_splitBy 27 = .ok (.iastore, 1) := by decide +kernel
theorem dX1_splitBy_28 : decode cX1_splitBy 28 = .ok (.iinc 2 1, 3) := by decide +kernel
theorem dX1_splitBy_31 : decode cX1_splitBy 31 = .ok (.goto (-29), 3) := by decide +kernel
theorem dX1_splitBy_34 : decode cX1_splitBy 34 = .ok (.iconst 0, 1) := by decide +kernel
theorem dX1_splitBy_35 : decode cX1_splitBy 35 = .ok (.istore_n 2, 1) := by decide +kernel
theorem dX1_splitBy_36 : decode cX1_splitBy 36 = .ok (.iload_n 2, 1) := by decide +kernel
theorem dX1_splitBy_37 : decode cX1_splitBy 37 = .ok (.aload_n 0, 1) := by decide +kernel
theorem dX1_splitBy_38 : decode cX1_splitBy 38 = .ok (.getfield 14, 3) := by decide +kernel
theorem dX1_splitBy_41 : decode cX1_splitBy 41 = .ok (.invokevirtual 62, 3) := by decide +kernel
theorem dX1_splitBy_44 : decode cX1_splitBy 44 = .ok (.if_icmp .ge 68, 3) := by decide +kernel
theorem dX1_splitBy_47 : decode cX1_splitBy 47 = .ok (.iconst 0, 1) := by decide +kernel
theorem dX1_splitBy_48 : decode cX1_splitBy 48 = .ok (.istore_n 3, 1) := by decide +kernel
theorem dX1_splitBy_49 : decode cX1_splitBy 49 = .ok (.iload_n 3, 1) := by decide +kernel
theorem dX1_splitBy_50 : decode cX1_splitBy 50 = .ok (.aload_n 0, 1) := by decide +kernel
theorem dX1_splitBy_51 : decode cX1_splitBy 51 = .ok (.getfield 14, 3) := by decide +kernel
theorem dX1_splitBy_54 : decode cX1_splitBy 54 = .ok (.invokevirtual 62, 3) := by decide +kernel
theorem dX1_splitBy_57 : decode cX1_splitBy 57 = .ok (.if_icmp .ge 49, 3) := by decide +kernel
theorem dX1_splitBy_60 : decode cX1_splitBy 60 = .ok (.aload_n 0, 1) := by decide +kernel
theorem dX1_splitBy_61 : decode cX1_splitBy 61 = .ok (.getfield 14, 3) := by decide +kernel
theorem dX1_splitBy_64 : decode cX1_splitBy 64 = .ok (.aload_n 0, 1) := by decide +kernel
theorem dX1_splitBy_65 : decode cX1_splitBy 65 = .ok (.getfield 27, 3) := by decide +kernel
theorem dX1_splitBy_68 : decode cX1_splitBy 68 = .ok (.iload_n 2, 1) := by decide +kernel
theorem dX1_splitBy_69 : decode cX1_splitBy 69 = .ok (.iaload, 1) := by decide +kernel
theorem dX1_splitBy_70 : decode cX1_splitBy 70 = .ok (.invokevirtual 66, 3) := by decide +kernel
theorem dX1_splitBy_73 : decode cX1_splitBy 73 = .ok (.aload_n 0, 1) := by decide +kernel
theorem dX1_splitBy_74 : decode cX1_splitBy 74 = .ok (.getfield 14, 3) := by decide +kernel
theorem dX1_splitBy_77 : decode cX1_splitBy 77 = .ok (.aload_n 0, 1) := by decide +kernel
theorem dX1_splitBy_78 : decode cX1_splitBy 78 = .ok (.getfield 27, 3) := by decide +kernel
theorem dX1_splitBy_81 : decode cX1_splitBy 81 = .ok (.iload_n 3, 1) := by decide +kernel
theorem dX1_splitBy_82 : decode cX1_splitBy 82 = .ok (.iaload, 1) := by decide +kernel
theorem dX1_splitBy_83 : decode cX1_splitBy 83 = .ok (.invokevirtual 66, 3) := by decide +kernel
theorem dX1_splitBy_86 : decode cX1_splitBy 86 = .ok (.if_icmp .eq 14, 3) := by decide +kernel
theorem dX1_splitBy_89 : decode cX1_splitBy 89 = .ok (.aload_n 0, 1) := by decide +kernel
theorem dX1_splitBy_90 : decode cX1_splitBy 90 = .ok (.getfield 23, 3) := by decide +kernel
theorem dX1_splitBy_93 : decode cX1_splitBy 93 = .ok (.iconst 5, 1) := by decide +kernel
theorem dX1_splitBy_94 : decode cX1_splitBy 94 = .ok (.iload_n 2, 1) := by decide +kernel
theorem dX1_splitBy_95 : decode cX1_splitBy 95 = .ok (.imul, 1) := by decide +kernel
theorem dX1_splitBy_96 : decode cX1_splitBy 96 = .ok (.iload_n 3, 1) := by decide +kernel
theorem dX1_splitBy_97 : decode cX1_splitBy 97 = .ok (.iadd, 1) := by decide +kernel
theorem dX1_splitBy_98 : decode cX1_splitBy 98 = .ok (.iload_n 1, 1) := by decide +kernel
theorem dX1_splitBy_99 : decode cX1_splitBy 99 = .ok (.iastore, 1) := by decide +kernel
theorem dX1_splitBy_100 : decode cX1_splitBy 100 = .ok (.iinc 3 1, 3) := by decide +kernel
theorem dX1_splitBy_103 : decode cX1_splitBy 103 = .ok (.goto (-54), 3) := by decide +kernel
theorem dX1_splitBy_106 : decode cX1_splitBy 106 = .ok (.iinc 2 1, 3) := by decide +kernel
theorem dX1_splitBy_109 : decode cX1_splitBy 109 = .ok (.goto (-73), 3) := by decide +kernel
theorem dX1_splitBy_112 : decode cX1_splitBy 112 = .ok (.return_, 1) := by decide +kernel
theorem dX1_findClasses_0 : decode cX1_findClasses 0 = .ok (.aload_n 0, 1) := by decide +kernel
theorem dX1_findClasses_1 : decode cX1_findClasses 1 = .ok (.getfield 30, 3) := by decide +kernel
theorem dX1_findClasses_4 : decode cX1_findClasses 4 = .ok (.iconst (-1), 1) := by decide +kernel
theorem dX1_findClasses_5 : decode cX1_findClasses 5 = .ok (.invokestatic 73, 3) := by decide +kernel
theorem dX1_findClasses_8 : decode cX1_findClasses 8 = .ok (.aload_n 0, 1) := by decide +kernel
theorem dX1_findClasses_9 : decode cX1_findClasses 9 = .ok (.getfield 20, 3) := by decide +kernel
theorem dX1_findClasses_12 : decode cX1_findClasses 12 = .ok (.iconst 0, 1) := by decide +kernel
theorem dX1_findClasses_13 : decode cX1_findClasses 13 = .ok (.invokevirtual 42, 3) := by decide +kernel
theorem dX1_findClasses_16 : decode cX1_findClasses 16 = .ok (.iconst 1, 1) := by decide +kernel
theorem dX1_findClasses_17 : decode cX1_findClasses 17 = .ok (.istore_n 1, 1) := by decide +kernel
theorem dX1_findClasses_18 : decode cX1_findClasses 18 = .ok (.iload_n 1, 1) := by decide +kernel
theorem dX1_findClasses_19 : decode cX1_findClasses 19 = .ok (.bipush 32, 2) := by decide +kernel
theorem dX1_findClasses_21 : decode cX1_findClasses 21 = .ok (.if_icmp .ge 35, 3) := by decide +kernel
theorem dX1_findClasses_24 : decode cX1_findClasses 24 = .ok (.aload_n 0, 1) := by decide +kernel
theorem dX1_findClasses_25 : decode cX1_findClasses 25 = .ok (.getfield 14, 3) := by decide +kernel
theorem dX1_findClasses_28 : decode cX1_findClasses 28 = .ok (.iconst 0, 1) := by decide +kernel
theorem dX1_findClasses_29 : decode cX1_findClasses 29 = .ok (.iload_n 1, 1) := by decide +kernel
theorem dX1_findClasses_30 : decode cX1_findClasses 30 = .ok (.invokevirtual 82, 3) := by decide +kernel
theorem dX1_findClasses_33 : decode cX1_findClasses 33 = .ok (.istore_n 2, 1) := by decide +kernel
theorem dX1_findClasses_34 : decode cX1_findClasses 34 = .ok (.aload_n 0, 1) := by decide +kernel
theorem dX1_findClasses_35 : decode cX1_findClasses 35 = .ok (.getfield 30, 3) := by decide +kernel
theorem dX1_findClasses_38 : decode cX1_findClasses 38 = .ok (.iload_n 2, 1) := by decide +kernel
theorem dX1_findClasses_39 : decode cX1_findClasses 39 = .ok (.iaload, 1) := by decide +kernel
theorem dX1_findClasses_40 : decode cX1_findClasses 40 = .ok (.iconst (-1), 1) := by decide +kernel
theorem dX1_findClasses_41 : decode cX1_findClasses 41 = .ok (.if_icmp .ne 9, 3) := by decide +kernel
theorem dX1_findClasses_44 : decode cX1_findClasses 44 = .ok (.aload_n 0, 1) := by decide +kernel
theorem dX1_findClasses_45 : decode cX1_findClasses 45 = .ok (.iload_n 2, 1) := by decide +kernel
theorem dX1_findClasses_46 : decode cX1_findClasses 46 = .ok (.iload_n 1, 1) := by decide +kernel
theorem dX1_findClasses_47 : decode cX1_findClasses 47 = .ok (.invokevirtual 85, 3) := by decide +kernel
theorem dX1_findClasses_50 : decode cX1_findClasses 50 = .ok (.iinc 1 1, 3) := by decide +kernel
theorem dX1_findClasses_53 : decode cX1_findClasses 53 = .ok (.goto (-35), 3) := by decide +kernel
theorem dX1_findClasses_56 : decode cX1_findClasses 56 = .ok (.return_, 1) := by decide +kernel
theorem dX1_openClass_0 : decode cX1_openClass 0 = .ok (.aload_n 0, 1) := by decide +kernel
theorem dX1_openClass_1 : decode cX1_openClass 1 = .ok (.getfield 20, 3) := by decide +kernel
theorem dX1_openClass_4 : decode cX1_openClass 4 = .ok (.invokevirtual 62, 3) := by decide +kernel
theorem dX1_openClass_7 : decode cX1_openClass 7 = .ok (.istore_n 3, 1) := by decide +kernel
theorem dX1_openClass_8 : decode cX1_openClass 8 = .ok (.aload_n 0, 1) := by decide +kernel
theorem dX1_openClass_9 : decode cX1_openClass 9 = .ok (.getfield 20, 3) := by decide +kernel
theorem dX1_openClass_12 : decode cX1_openClass 12 = .ok (.iload_n 3, 1) := by decide +kernel
theorem dX1_openClass_13 : decode cX1_openClass 13 = .ok (.iconst 1, 1) := by decide +kernel
theorem dX1_openClass_14 : decode cX1_openClass 14 = .ok (.iadd, 1) := by decide +kernel
theorem dX1_openClass_15 : decode cX1_openClass 15 = .ok (.invokevirtual 42, 3) := by decide +kernel
theorem dX1_openClass_18 : decode cX1_openClass 18 = .ok (.aload_n 0, 1) := by decide +kernel
theorem dX1_openClass_19 : decode cX1_openClass 19 = .ok (.getfield 33, 3) := by decide +kernel
theorem dX1_openClass_22 : decode cX1_openClass 22 = .ok (.iload_n 3, 1) := by decide +kernel
theorem dX1_openClass_23 : decode cX1_openClass 23 = .ok (.iload_n 1, 1) := by decide +kernel
theorem dX1_openClass_24 : decode cX1_openClass 24 = .ok (.iastore, 1) := by decide +kernel
theorem dX1_openClass_25 : decode cX1_openClass 25 = .ok (.aload_n 0, 1) := by decide +kernel
theorem dX1_openClass_26 : decode cX1_openClass 26 = .ok (.getfield 36, 3) := by decide +kernel
theorem dX1_openClass_29 : decode cX1_openClass 29 = .ok (.iload_n 3, 1) := by decide +kernel
theorem dX1_openClass_30 : decode cX1_openClass 30 = .ok (.iload_n 2, 1) := by decide +kernel
theorem dX1_openClass_31 : decode cX1_openClass 31 = .ok (.iastore, 1) := by decide +kernel
theorem dX1_openClass_32 : decode cX1_openClass 32 = .ok (.iconst 0, 1) := by decide +kernel
theorem dX1_openClass_33 : decode cX1_openClass 33 = .ok (.istore 4, 2) := by decide +kernel
theorem dX1_openClass_35 : decode cX1_openClass 35 = .ok (.iload 4, 2) := by decide +kernel
theorem dX1_openClass_37 : decode cX1_openClass 37 = .ok (.aload_n 0, 1) := by decide +kernel
theorem dX1_openClass_38 : decode cX1_openClass 38 = .ok (.getfield 14, 3) := by decide +kernel
theorem dX1_openClass_41 : decode cX1_openClass 41 = .ok (.invokevirtual 62, 3) := by decide +kernel
theorem dX1_openClass_44 : decode cX1_openClass 44 = .ok (.if_icmp .ge 27, 3) := by decide +kernel
theorem dX1_openClass_47 : decode cX1_openClass 47 = .ok (.aload_n 0, 1) := by decide +kernel
theorem dX1_openClass_48 : decode cX1_openClass 48 = .ok (.iload_n 1, 1) := by decide +kernel
theorem dX1_openClass_49 : decode cX1_openClass 49 = .ok (.iload 4, 2) := by decide +kernel
theorem dX1_openClass_51 : decode cX1_openClass 51 = .ok (.invokevirtual 52, 3) := by decide +kernel
theorem dX1_openClass_54 : decode cX1_openClass 54 = .ok (.ifCond .ne 11, 3) := by decide +kernel
theorem dX1_openClass_57 : decode cX1_openClass 57 = .ok (.aload_n 0, 1) := by decide +kernel
theorem dX1_openClass_58 : decode cX1_openClass 58 = .ok (.getfield 30, 3) := by decide +kernel
theorem dX1_openClass_61 : decode cX1_openClass 61 = .ok (.iload 4, 2) := by decide +kernel
theorem dX1_openClass_63 : decode cX1_openClass 63 = .ok (.iload_n 3, 1) := by decide +kernel
theorem dX1_openClass_64 : decode cX1_openClass 64 = .ok (.iastore, 1) := by decide +kernel
theorem dX1_openClass_65 : decode cX1_openClass 65 = .ok (.iinc 4 1, 3) := by decide +kernel
theorem dX1_openClass_68 : decode cX1_openClass 68 = .ok (.goto (-33), 3) := by decide +kernel
theorem dX1_openClass_71 : decode cX1_openClass 71 = .ok (.return_, 1) := by decide +kernel
theorem dX1_examples_0 : decode cX1_examples 0 = .ok (.aload_n 0, 1) := by decide +kernel
theorem dX1_examples_1 : decode cX1_examples 1 = .ok (.getfield 39, 3) := by decide +kernel
theorem dX1_examples_4 : decode cX1_examples 4 = .ok (.iconst 0, 1) := by decide +kernel
theorem dX1_examples_5 : decode cX1_examples 5 = .ok (.invokestatic 73, 3) := by decide +kernel
theorem dX1_examples_8 : decode cX1_examples 8 = .ok (.iconst 0, 1) := by decide +kernel
theorem dX1_examples_9 : decode cX1_examples 9 = .ok (.istore_n 1, 1) := by decide +kernel
theorem dX1_examples_10 : decode cX1_examples 10 = .ok (.iload_n 1, 1) := by decide +kernel
theorem dX1_examples_11 : decode cX1_examples 11 = .ok (.aload_n 0, 1) := by decide +kernel
theorem dX1_examples_12 : decode cX1_examples 12 = .ok (.getfield 20, 3) := by decide +kernel
theorem dX1_examples_15 : decode cX1_examples 15 = .ok (.invokevirtual 62, 3) := by decide +kernel
theorem dX1_examples_18 : decode cX1_examples 18 = .ok (.if_icmp .ge 62, 3) := by decide +kernel
theorem dX1_examples_21 : decode cX1_examples 21 = .ok (.aload_n 0, 1) := by decide +kernel
theorem dX1_examples_22 : decode cX1_examples 22 = .ok (.iload_n 1, 1) := by decide +kernel
theorem dX1_examples_23 : decode cX1_examples 23 = .ok (.iconst 1, 1) := by decide +kernel
theorem dX1_examples_24 : decode cX1_examples 24 = .ok (.invokevirtual 89, 3) := by decide +kernel
theorem dX1_examples_27 : decode cX1_examples 27 = .ok (.iconst 0, 1) := by decide +kernel
theorem dX1_examples_28 : decode cX1_examples 28 = .ok (.istore_n 2, 1) := by decide +kernel
theorem dX1_examples_29 : decode cX1_examples 29 = .ok (.iload_n 2, 1) := by decide +kernel
theorem dX1_examples_30 : decode cX1_examples 30 = .ok (.aload_n 0, 1) := by decide +kernel
theorem dX1_examples_31 : decode cX1_examples 31 = .ok (.getfield 20, 3) := by decide +kernel
theorem dX1_examples_34 : decode cX1_examples 34 = .ok (.invokevirtual 62, 3) := by decide +kernel
theorem dX1_examples_37 : decode cX1_examples 37 = .ok (.if_icmp .ge 37, 3) := by decide +kernel
theorem dX1_examples_40 : decode cX1_examples 40 = .ok (.aload_n 0, 1) := by decide +kernel
theorem dX1_examples_41 : decode cX1_examples 41 = .ok (.iload_n 1, 1) := by decide +kernel
theorem dX1_examples_42 : decode cX1_examples 42 = .ok (.iconst 2, 1) := by decide +kernel
theorem dX1_examples_43 : decode cX1_examples 43 = .ok (.aload_n 0, 1) := by decide +kernel
theorem dX1_examples_44 : decode cX1_examples 44 = .ok (.getfield 36, 3) := by decide +kernel
theorem dX1_examples_47 : decode cX1_examples 47 = .ok (.iload_n 2, 1) := by decide +kernel
theorem dX1_examples_48 : decode cX1_examples 48 = .ok (.iaload, 1) := by decide +kernel
theorem dX1_examples_49 : decode cX1_examples 49 = .ok (.imul, 1) := by decide +kernel
theorem dX1_examples_50 : decode cX1_examples 50 = .ok (.invokevirtual 89, 3) := by decide +kernel
theorem dX1_examples_53 : decode cX1_examples 53 = .ok (.aload_n 0, 1) := by decide +kernel
theorem dX1_examples_54 : decode cX1_examples 54 = .ok (.iload_n 1, 1) := by decide +kernel
theorem dX1_examples_55 : decode cX1_examples 55 = .ok (.iconst 2, 1) := by decide +kernel
theorem dX1_examples_56 : decode cX1_examples 56 = .ok (.aload_n 0, 1) := by decide +kernel
theorem dX1_examples_57 : decode cX1_examples 57 = .ok (.getfield 36, 3) := by decide +kernel
theorem dX1_examples_60 : decode cX1_examples 60 = .ok (.iload_n 2, 1) := by decide +kernel
theorem dX1_examples_61 : decode cX1_examples 61 = .ok (.iaload, 1) := by decide +kernel
theorem dX1_examples_62 : decode cX1_examples 62 = .ok (.imul, 1) := by decide +kernel
theorem dX1_examples_63 : decode cX1_examples 63 = .ok (.iconst 1, 1) := by decide +kernel
theorem dX1_examples_64 : decode cX1_examples 64 = .ok (.iadd, 1) := by decide +kernel
theorem dX1_examples_65 : decode cX1_examples 65 = .ok (.invokevirtual 89, 3) := by decide +kernel
theorem dX1_examples_68 : decode cX1_examples 68 = .ok (.iinc 2 1, 3) := by decide +kernel
theorem dX1_examples_71 : decode cX1_examples 71 = .ok (.goto (-42), 3) := by decide +kernel
theorem dX1_examples_74 : decode cX1_examples 74 = .ok (.iinc 1 1, 3) := by decide +kernel
theorem dX1_examples_77 : decode cX1_examples 77 = .ok (.goto (-67), 3) := by decide +kernel
theorem dX1_examples_80 : decode cX1_examples 80 = .ok (.aload_n 0, 1) := by decide +kernel
theorem dX1_examples_81 : decode cX1_examples 81 = .ok (.getfield 39, 3) := by decide +kernel
theorem dX1_examples_84 : decode cX1_examples 84 = .ok (.areturn, 1) := by decide +kernel
theorem dX1_addExamples_0 : decode cX1_addExamples 0 = .ok (.aload_n 0, 1) := by decide +kernel
theorem dX1_addExamples_1 : decode cX1_addExamples 1 = .ok (.aload_n 0, 1) := by decide +kernel
theorem dX1_addExamples_2 : decode cX1_addExamples 2 = .ok (.getfield 36, 3) := by decide +kernel
theorem dX1_addExamples_5 : decode cX1_addExamples 5 = .ok (.iload_n 1, 1) := by decide +kernel
theorem dX1_addExamples_6 : decode cX1_addExamples 6 = .ok (.iaload, 1) := by decide +kernel
theorem dX1_addExamples_7 : decode cX1_addExamples 7 = .ok (.invokevirtual 92, 3) := by decide +kernel
theorem dX1_addExamples_10 : decode cX1_addExamples 10 = .ok (.aload_n 0, 1) := by decide +kernel
theorem dX1_addExamples_11 : decode cX1_addExamples 11 = .ok (.iload_n 2, 1) := by decide +kernel
theorem dX1_addExamples_12 : decode cX1_addExamples 12 = .ok (.invokevirtual 92, 3) := by decide +kernel
theorem dX1_addExamples_15 : decode cX1_addExamples 15 = .ok (.aload_n 0, 1) := by decide +kernel
theorem dX1_addExamples_16 : decode cX1_addExamples 16 = .ok (.getfield 20, 3) := by decide +kernel
theorem dX1_addExamples_19 : decode cX1_addExamples 19 = .ok (.iconst 0, 1) := by decide +kernel
theorem dX1_addExamples_20 : decode cX1_addExamples 20 = .ok (.iload_n 2, 1) := by decide +kernel
theorem dX1_addExamples_21 : decode cX1_addExamples 21 = .ok (.invokevirtual 82, 3) := by decide +kernel
theorem dX1_addExamples_24 : decode cX1_addExamples 24 = .ok (.istore_n 3, 1) := by decide +kernel
theorem dX1_addExamples_25 : decode cX1_addExamples 25 = .ok (.iload_n 3, 1) := by decide +kernel
theorem dX1_addExamples_26 : decode cX1_addExamples 26 = .ok (.iload_n 1, 1) := by decide +kernel
theorem dX1_addExamples_27 : decode cX1_addExamples 27 = .ok (.if_icmp .eq 36, 3) := by decide +kernel
theorem dX1_addExamples_30 : decode cX1_addExamples 30 = .ok (.aload_n 0, 1) := by decide +kernel
theorem dX1_addExamples_31 : decode cX1_addExamples 31 = .ok (.iload_n 1, 1) := by decide +kernel
theorem dX1_addExamples_32 : decode cX1_addExamples 32 = .ok (.iload_n 3, 1) := by decide +kernel
theorem dX1_addExamples_33 : decode cX1_addExamples 33 = .ok (.invokevirtual 95, 3) := by decide +kernel
theorem dX1_addExamples_36 : decode cX1_addExamples 36 = .ok (.istore 4, 2) := by decide +kernel
theorem dX1_addExamples_38 : decode cX1_addExamples 38 = .ok (.aload_n 0, 1) := by decide +kernel
theorem dX1_addExamples_39 : decode cX1_addExamples 39 = .ok (.aload_n 0, 1) := by decide +kernel
theorem dX1_addExamples_40 : decode cX1_addExamples 40 = .ok (.getfield 36, 3) := by decide +kernel
theorem dX1_addExamples_43 : decode cX1_addExamples 43 = .ok (.iload_n 1, 1) := by decide +kernel
theorem dX1_addExamples_44 : decode cX1_addExamples 44 = .ok (.iaload, 1) := by decide +kernel
theorem dX1_addExamples_45 : decode cX1_addExamples 45 = .ok (.iload 4, 2) := by decide +kernel
theorem dX1_addExamples_47 : decode cX1_addExamples 47 = .ok (.invokestatic 98, 3) := by decide +kernel
theorem dX1_addExamples_50 : decode cX1_addExamples 50 = .ok (.invokevirtual 92, 3) := by decide +kernel
theorem dX1_addExamples_53 : decode cX1_addExamples 53 = .ok (.aload_n 0, 1) := by decide +kernel
theorem dX1_addExamples_54 : decode cX1_addExamples 54 = .ok (.iload_n 2, 1) := by decide +kernel
theorem dX1_addExamples_55 : decode cX1_addExamples 55 = .ok (.iload 4, 2) := by decide +kernel
theorem dX1_addExamples_57 : decode cX1_addExamples 57 = .ok (.invokestatic 98, 3) := by decide +kernel
theorem dX1_addExamples_60 : decode cX1_addExamples 60 = .ok (.invokevirtual 92, 3) := by decide +kernel
theorem dX1_addExamples_63 : decode cX1_addExamples 63 = .ok (.return_, 1) := by decide +kernel
theorem dX1_addExample_0 : decode cX1_addExample 0 = .ok (.aload_n 0, 1) := by decide +kernel
theorem dX1_addExample_1 : decode cX1_addExample 1 = .ok (.getfield 39, 3) := by decide +kernel
theorem dX1_addExample_4 : decode cX1_addExample 4 = .ok (.iload_n 1, 1) := by decide +kernel
theorem dX1_addExample_5 : decode cX1_addExample 5 = .ok (.aload_n 0, 1) := by decide +kernel
theorem dX1_addExample_6 : decode cX1_addExample 6 = .ok (.getfield 20, 3) := by decide +kernel
theorem dX1_addExample_9 : decode cX1_addExample 9 = .ok (.aload_n 0, 1) := by decide +kernel
theorem dX1_addExample_10 : decode cX1_addExample 10 = .ok (.getfield 20, 3) := by decide +kernel
theorem dX1_addExample_13 : decode cX1_addExample 13 = .ok (.iconst 0, 1) := by decide +kernel
theorem dX1_addExample_14 : decode cX1_addExample 14 = .ok (.iload_n 1, 1) := by decide +kernel
theorem dX1_addExample_15 : decode cX1_addExample 15 = .ok (.invokevirtual 82, 3) := by decide +kernel
theorem dX1_addExample_18 : decode cX1_addExample 18 = .ok (.invokevirtual 66, 3) := by decide +kernel
theorem dX1_addExample_21 : decode cX1_addExample 21 = .ok (.iastore, 1) := by decide +kernel
theorem dX1_addExample_22 : decode cX1_addExample 22 = .ok (.return_, 1) := by decide +kernel
theorem dX2_init_0 : decode cX2_init 0 = .ok (.aload_n 0, 1) := by decide +kernel
theorem dX2_init_1 : decode cX2_init 1 = .ok (.invokespecial 3, 3) := by decide +kernel
theorem dX2_init_4 : decode cX2_init 4 = .ok (.aload_n 0, 1) := by decide +kernel
theorem dX2_init_5 : decode cX2_init 5 = .ok (.sipush 512, 3) := by decide +kernel
theorem dX2_init_8 : decode cX2_init 8 = .ok (.newarray .int, 2) := by decide +kernel
theorem dX2_init_10 : decode cX2_init 10 = .ok (.putfield 9, 3) := by decide +kernel
theorem dX2_init_13 : decode cX2_init 13 = .ok (.aload_n 0, 1) := by decide +kernel
theorem dX2_init_14 : decode cX2_init 14 = .ok (.sipush 1024, 3) := by decide +kernel
theorem dX2_init_17 : decode cX2_init 17 = .ok (.newarray .int, 2) := by decide +kernel
theorem dX2_init_19 : decode cX2_init 19 = .ok (.putfield 15, 3) := by decide +kernel
theorem dX2_init_22 : decode cX2_init 22 = .ok (.aload_n 0, 1) := by decide +kernel
theorem dX2_init_23 : decode cX2_init 23 = .ok (.sipush 512, 3) := by decide +kernel
theorem dX2_init_26 : decode cX2_init 26 = .ok (.newarray .int, 2) := by decide +kernel
theorem dX2_init_28 : decode cX2_init 28 = .ok (.putfield 18, 3) := by decide +kernel
theorem dX2_init_31 : decode cX2_init 31 = .ok (.aload_n 0, 1) := by decide +kernel
theorem dX2_init_32 : decode cX2_init 32 = .ok (.sipush 512, 3) := by decide +kernel
theorem dX2_init_35 : decode cX2_init 35 = .ok (.newarray .int, 2) := by decide +kernel
theorem dX2_init_37 : decode cX2_init 37 = .ok (.putfield 21, 3) := by decide +kernel
theorem dX2_init_40 : decode cX2_init 40 = .ok (.aload_n 0, 1) := by decide +kernel
theorem dX2_init_41 : decode cX2_init 41 = .ok (.sipush 512, 3) := by decide +kernel
theorem dX2_init_44 : decode cX2_init 44 = .ok (.newarray .int, 2) := by decide +kernel
theorem dX2_init_46 : decode cX2_init 46 = .ok (.putfield 24, 3) := by decide +kernel
theorem dX2_init_49 : decode cX2_init 49 = .ok (.aload_n 0, 1) := by decide +kernel
theorem dX2_init_50 : decode cX2_init 50 = .ok (.iconst 0, 1) := by decide +kernel
theorem dX2_init_51 : decode cX2_init 51 = .ok (.putfield 27, 3) := by decide +kernel
theorem dX2_init_54 : decode cX2_init 54 = .ok (.aload_n 0, 1) := by decide +kernel
theorem dX2_init_55 : decode cX2_init 55 = .ok (.sipush 512, 3) := by decide +kernel
theorem dX2_init_58 : decode cX2_init 58 = .ok (.newarray .int, 2) := by decide +kernel
theorem dX2_init_60 : decode cX2_init 60 = .ok (.putfield 31, 3) := by decide +kernel
theorem dX2_init_63 : decode cX2_init 63 = .ok (.aload_n 0, 1) := by decide +kernel
theorem dX2_init_64 : decode cX2_init 64 = .ok (.sipush 512, 3) := by decide +kernel
theorem dX2_init_67 : decode cX2_init 67 = .ok (.newarray .int, 2) := by decide +kernel
theorem dX2_init_69 : decode cX2_init 69 = .ok (.putfield 34, 3) := by decide +kernel
theorem dX2_init_72 : decode cX2_init 72 = .ok (.aload_n 0, 1) := by decide +kernel
theorem dX2_init_73 : decode cX2_init 73 = .ok (.iconst 0, 1) := by decide +kernel
theorem dX2_init_74 : decode cX2_init 74 = .ok (.putfield 37, 3) := by decide +kernel
theorem dX2_init_77 : decode cX2_init 77 = .ok (.aload_n 0, 1) := by decide +kernel
theorem dX2_init_78 : decode cX2_init 78 = .ok (.sipush 512, 3) := by decide +kernel
theorem dX2_init_81 : decode cX2_init 81 = .ok (.newarray .int, 2) := by decide +kernel
theorem dX2_init_83 : decode cX2_init 83 = .ok (.putfield 40, 3) := by decide +kernel
theorem dX2_init_86 : decode cX2_init 86 = .ok (.aload_n 0, 1) := by decide +kernel
theorem dX2_init_87 : decode cX2_init 87 = .ok (.iconst 0, 1) := by decide +kernel
theorem dX2_init_88 : decode cX2_init 88 = .ok (.putfield 43, 3) := by decide +kernel
theorem dX2_init_91 : decode cX2_init 91 = .ok (.aload_n 0, 1) := by decide +kernel
theorem dX2_init_92 : decode cX2_init 92 = .ok (.sipush 512, 3) := by decide +kernel
theorem dX2_init_95 : decode cX2_init 95 = .ok (.newarray .int, 2) := by decide +kernel
theorem dX2_init_97 : decode cX2_init 97 = .ok (.putfield 46, 3) := by decide +kernel
theorem dX2_init_100 : decode cX2_init 100 = .ok (.aload_n 0, 1) := by decide +kernel
theorem dX2_init_101 : decode cX2_init 101 = .ok (.iconst 0, 1) := by decide +kernel
theorem dX2_init_102 : decode cX2_init 102 = .ok (.putfield 49, 3) := by decide +kernel
theorem dX2_init_105 : decode cX2_init 105 = .ok (.return_, 1) := by decide +kernel
theorem dX2_run_0 : decode cX2_run 0 = .ok (.aload_n 0, 1) := by decide +kernel
theorem dX2_run_1 : decode cX2_run 1 = .ok (.aload_n 1, 1) := by decide +kernel
theorem dX2_run_2 : decode cX2_run 2 = .ok (.invokevirtual 52, 3) := by decide +kernel
theorem dX2_run_5 : decode cX2_run 5 = .ok (.aload_n 0, 1) := by decide +kernel
theorem dX2_run_6 : decode cX2_run 6 = .ok (.iconst 1, 1) := by decide +kernel
theorem dX2_run_7 : decode cX2_run 7 = .ok (.iconst 1, 1) := by decide +kernel
theorem dX2_run_8 : decode cX2_run 8 = .ok (.invokevirtual 56, 3) := by decide +kernel
theorem dX2_run_11 : decode cX2_run 11 = .ok (.iconst 0, 1) := by decide +kernel
theorem dX2_run_12 : decode cX2_run 12 = .ok (.istore_n 3, 1) := by decide +kernel
theorem dX2_run_13 : decode cX2_run 13 = .ok (.iload_n 3, 1) := by decide +kernel
theorem dX2_run_14 : decode cX2_run 14 = .ok (.sipush 512, 3) := by decide +kernel
theorem dX2_run_17 : decode cX2_run 17 = .ok (.if_icmp .ge 29, 3) := by decide +kernel
theorem dX2_run_20 : decode cX2_run 20 = .ok (.aload_n 0, 1) := by decide +kernel
theorem dX2_run_21 : decode cX2_run 21 = .ok (.invokevirtual 60, 3) := by decide +kernel
theorem dX2_run_24 : decode cX2_run 24 = .ok (.istore 4, 2) := by decide +kernel
theorem dX2_run_26 : decode cX2_run 26 = .ok (.iload 4, 2) := by decide +kernel
theorem dX2_run_28 : decode cX2_run 28 = .ok (.ifCond .ne 6, 3) := by decide +kernel
theorem dX2_run_31 : decode cX2_run 31 = .ok (.goto 15, 3) := by decide +kernel
theorem dX2_run_34 : decode cX2_run 34 = .ok (.aload_n 0, 1) := by decide +kernel
theorem dX2_run_35 : decode cX2_run 35 = .ok (.iload 4, 2) := by decide +kernel
theorem dX2_run_37 : decode cX2_run 37 = .ok (.invokevirtual 64, 3) := by decide +kernel
theorem dX2_run_40 : decode cX2_run 40 = .ok (.iinc 3 1, 3) := by decide +kernel
theorem dX2_run_43 : decode cX2_run 43 = .ok (.goto (-30), 3) := by decide +kernel
theorem dX2_run_46 : decode cX2_run 46 = .ok (.aload_n 0, 1) := by decide +kernel
theorem dX2_run_47 : decode cX2_run 47 = .ok (.aload_n 2, 1) := by decide +kernel
theorem dX2_run_48 : decode cX2_run 48 = .ok (.invokevirtual 68, 3) := by decide +kernel
theorem dX2_run_51 : decode cX2_run 51 = .ok (.return_, 1) := by decide +kernel
theorem dX2_plantTree_0 : decode cX2_plantTree 0 = .ok (.aload_n 0, 1) := by decide +kernel
theorem dX2_plantTree_1 : decode cX2_plantTree 1 = .ok (.getfield 15, 3) := by decide +kernel
theorem dX2_plantTree_4 : decode cX2_plantTree 4 = .ok (.iconst 0, 1) := by decide +kernel
theorem dX2_plantTree_5 : decode cX2_plantTree 5 = .ok (.invokestatic 72, 3) := by decide +kernel
theorem dX2_plantTree_8 : decode cX2_plantTree 8 = .ok (.aload_n 0, 1) := by decide +kernel
theorem dX2_plantTree_9 : decode cX2_plantTree 9 = .ok (.getfield 24, 3) := by decide +kernel
theorem dX2_plantTree_12 : decode cX2_plantTree 12 = .ok (.iconst (-1), 1) := by decide +kernel
theorem dX2_plantTree_13 : decode cX2_plantTree 13 = .ok (.invokestatic 72, 3) := by decide +kernel
theorem dX2_plantTree_16 : decode cX2_plantTree 16 = .ok (.aload_n 0, 1) := by decide +kernel
theorem dX2_plantTree_17 : decode cX2_plantTree 17 = .ok (.iconst 0, 1) := by decide +kernel
theorem dX2_plantTree_18 : decode cX2_plantTree 18 = .ok (.putfield 27, 3) := by decide +kernel
theorem dX2_plantTree_21 : decode cX2_plantTree 21 = .ok (.sipush 511, 3) := by decide +kernel
theorem dX2_plantTree_24 : decode cX2_plantTree 24 = .ok (.istore_n 2, 1) := by decide +kernel
theorem dX2_plantTree_25 : decode cX2_plantTree 25 = .ok (.iload_n 2, 1) := by decide +kernel
theorem dX2_plantTree_26 : decode cX2_plantTree 26 = .ok (.iconst 1, 1) := by decide +kernel
theorem dX2_plantTree_27 : decode cX2_plantTree 27 = .ok (.if_icmp .lt 74, 3) := by decide +kernel
theorem dX2_plantTree_30 : decode cX2_plantTree 30 = .ok (.aload_n 0, 1) := by decide +kernel
theorem dX2_plantTree_31 : decode cX2_plantTree 31 = .ok (.getfield 9, 3) := by decide +kernel
theorem dX2_plantTree_34 : decode cX2_plantTree 34 = .ok (.iload_n 2, 1) := by decide +kernel
theorem dX2_plantTree_35 : decode cX2_plantTree 35 = .ok (.aload_n 1, 1) := by decide +kernel
theorem dX2_plantTree_36 : decode cX2_plantTree 36 = .ok (.iload_n 2, 1) := by decide +kernel
theorem dX2_plantTree_37 : decode cX2_plantTree 37 = .ok (.invokevirtual 78, 3) := by decide +kernel
theorem dX2_plantTree_40 : decode cX2_plantTree 40 = .ok (.iastore, 1) := by decide +kernel
theorem dX2_plantTree_41 : decode cX2_plantTree 41 = .ok (.aload_n 0, 1) := by decide +kernel
theorem dX2_plantTree_42 : decode cX2_plantTree 42 = .ok (.getfield 9, 3) := by decide +kernel
theorem dX2_plantTree_45 : decode cX2_plantTree 45 = .ok (.iload_n 2, 1) := by decide +kernel
theorem dX2_plantTree_46 : decode cX2_plantTree 46 = .ok (.iaload, 1) := by decide +kernel
theorem dX2_plantTree_47 : decode cX2_plantTree 47 = .ok (.ifCond .ne 27, 3) := by decide +kernel
theorem dX2_plantTree_50 : decode cX2_plantTree 50 = .ok (.aload_n 0, 1) := by decide +kernel
theorem dX2_plantTree_51 : decode cX2_plantTree 51 = .ok (.getfield 15, 3) := by decide +kernel
theorem dX2_plantTree_54 : decode cX2_plantTree 54 = .ok (.iconst 2, 1) := by decide +kernel
theorem dX2_plantTree_55 : decode cX2_plantTree 55 = .ok (.iload_n 2, 1) := by decide +kernel
theorem dX2_plantTree_56 : decode cX2_plantTree 56 = .ok (.imul, 1) := by decide +kernel
theorem dX2_plantTree_57 : decode cX2_plantTree 57 = .ok (.iaload, 1) := by decide +kernel
theorem dX2_plantTree_58 : decode cX2_plantTree 58 = .ok (.ifCond .ne 16, 3) := by decide +kernel
theorem dX2_plantTree_61 : decode cX2_plantTree 61 = .ok (.aload_n 0, 1) := by decide +kernel
theorem dX2_plantTree_62 : decode cX2_plantTree 62 = .ok (.getfield 15, 3) := by decide +kernel
theorem dX2_plantTree_65 : decode cX2_plantTree 65 = .ok (.iconst 2, 1) := by decide +kernel
theorem dX2_plantTree_66 : decode cX2_plantTree 66 = .ok (.iload_n 2, 1) := by decide +kernel
theorem dX2_plantTree_67 : decode cX2_plantTree 67 = .ok (.imul, 1) := by decide +kernel
theorem dX2_plantTree_68 : decode cX2_plantTree 68 = .ok (.iconst 1, 1) := by decide +kernel
theorem dX2_plantTree_69 : decode cX2_plantTree 69 = .ok (.iadd, 1) := by decide +kernel
theorem dX2_plantTree_70 : decode cX2_plantTree 70 = .ok (.iaload, 1) := by decide +kernel
theorem dX2_plantTree_71 : decode cX2_plantTree 71 = .ok (.ifCond .eq 7, 3) := by decide +kernel
theorem dX2_plantTree_74 : decode cX2_plantTree 74 = .ok (.iconst 1, 1) := by decide +kernel
theorem dX2_plantTree_75 : decode cX2_plantTree 75 = .ok (.goto 4, 3) := by decide +kernel
theorem dX2_plantTree_78 : decode cX2_plantTree 78 = .ok (.iconst 0, 1) := by decide +kernel
theorem dX2_plantTree_79 : decode cX2_plantTree 79 = .ok (.istore_n 3, 1) := by decide +kernel
theorem dX2_plantTree_80 : decode cX2_plantTree 80 = .ok (.aload_n 0, 1) := by decide +kernel
theorem dX2_plantTree_81 : decode cX2_plantTree 81 = .ok (.getfield 15, 3) := by decide +kernel
theorem dX2_plantTree_84 : decode cX2_plantTree 84 = .ok (.iload_n 2, 1) := by decide +kernel
theorem dX2_plantTree_85 : decode cX2_plantTree 85 = .ok (.iload_n 3, 1) := by decide +kernel
theorem dX2_plantTree_86 : decode cX2_plantTree 86 = .ok (.ifCond .eq 7, 3) := by decide +kernel
theorem dX2_plantTree_89 : decode cX2_plantTree 89 = .ok (.iload_n 2, 1) := by decide +kernel
theorem dX2_plantTree_90 : decode cX2_plantTree 90 = .ok (.goto 4, 3) := by decide +kernel
theorem dX2_plantTree_93 : decode cX2_plantTree 93 = .ok (.iconst 0, 1) := by decide +kernel
theorem dX2_plantTree_94 : decode cX2_plantTree 94 = .ok (.iastore, 1) := by decide +kernel
theorem dX2_plantTree_95 : decode cX2_plantTree 95 = .ok (.iinc 2 (-1), 3) := by decide +kernel
theorem dX2_plantTree_98 : decode cX2_plantTree 98 = .ok (.goto (-73), 3) := by decide +kernel
theorem dX2_plantTree_101 : decode cX2_plantTree 101 = .ok (.return_, 1) := by decide +kernel
theorem dX2_redden_0 : decode cX2_redden 0 = .ok (.aload_n 0, 1) := by decide +kernel
theorem dX2_redden_1 : decode cX2_redden 1 = .ok (.getfield 18, 3) := by decide +kernel
theorem dX2_redden_4 : decode cX2_redden 4 = .ok (.aload_n 0, 1) := by decide +kernel
theorem dX2_redden_5 : decode cX2_redden 5 = .ok (.getfield 27, 3) := by decide +kernel
theorem dX2_redden_8 : decode cX2_redden 8 = .ok (.iload_n 1, 1) := by decide +kernel
theorem dX2_redden_9 : decode cX2_redden 9 = .ok (.iastore, 1) := by decide +kernel
theorem dX2_redden_10 : decode cX2_redden 10 = .ok (.aload_n 0, 1) := by decide +kernel
theorem dX2_redden_11 : decode cX2_redden 11 = .ok (.getfield 21, 3) := by decide +kernel
theorem dX2_redden_14 : decode cX2_redden 14 = .ok (.aload_n 0, 1) := by decide +kernel
theorem dX2_redden_15 : decode cX2_redden 15 = .ok (.getfield 27, 3) := by decide +kernel
theorem dX2_redden_18 : decode cX2_redden 18 = .ok (.iload_n 2, 1) := by decide +kernel
theorem dX2_redden_19 : decode cX2_redden 19 = .ok (.iastore, 1) := by decide +kernel
theorem dX2_redden_20 : decode cX2_redden 20 = .ok (.aload_n 0, 1) := by decide +kernel
theorem dX2_redden_21 : decode cX2_redden 21 = .ok (.getfield 24, 3) := by decide +kernel
theorem dX2_redden_24 : decode cX2_redden 24 = .ok (.iload_n 1, 1) := by decide +kernel
theorem dX2_redden_25 : decode cX2_redden 25 = .ok (.aload_n 0, 1) := by decide +kernel
theorem dX2_redden_26 : decode cX2_redden 26 = .ok (.getfield 27, 3) := by decide +kernel
theorem dX2_redden_29 : decode cX2_redden 29 = .ok (.iastore, 1) := by decide +kernel
theorem dX2_redden_30 : decode cX2_redden 30 = .ok (.aload_n 0, 1) := by decide +kernel
theorem dX2_redden_31 : decode cX2_redden 31 = .ok (.dup, 1) := by decide +kernel
theorem dX2_redden_32 : decode cX2_redden 32 = .ok (.getfield 27, 3) := by decide +kernel
theorem dX2_redden_35 : decode cX2_redden 35 = .ok (.iconst 1, 1) := by decide +kernel
theorem dX2_redden_36 : decode cX2_redden 36 = .ok (.iadd, 1) := by decide +kernel
theorem dX2_redden_37 : decode cX2_redden 37 = .ok (.putfield 27, 3) := by decide +kernel
theorem dX2_redden_40 : decode cX2_redden 40 = .ok (.return_, 1) := by decide +kernel
theorem dX2_nameBehind_0 : decode cX2_nameBehind 0 = .ok (.iconst 2, 1) := by decide +kernel
theorem dX2_nameBehind_1 : decode cX2_nameBehind 1 = .ok (.aload_n 0, 1) := by decide +kernel
theorem dX2_nameBehind_2 : decode cX2_nameBehind 2 = .ok (.getfield 21, 3) := by decide +kernel
theorem dX2_nameBehind_5 : decode cX2_nameBehind 5 = .ok (.aload_n 0, 1) := by decide +kernel
theorem dX2_nameBehind_6 : decode cX2_nameBehind 6 = .ok (.getfield 24, 3) := by decide +kernel
theorem dX2_nameBehind_9 : decode cX2_nameBehind 9 = .ok (.iload_n 1, 1) := by decide +kernel
theorem dX2_nameBehind_10 : decode cX2_nameBehind 10 = .ok (.iconst 2, 1) := by decide +kernel
theorem dX2_nameBehind_11 : decode cX2_nameBehind 11 = .ok (.idiv, 1) := by decide +kernel
theorem dX2_nameBehind_12 : decode cX2_nameBehind 12 = .ok (.iaload, 1) := by decide +kernel
theorem dX2_nameBehind_13 : decode cX2_nameBehind 13 = .ok (.iaload, 1) := by decide +kernel
theorem dX2_nameBehind_14 : decode cX2_nameBehind 14 = .ok (.imul, 1) := by decide +kernel
theorem dX2_nameBehind_15 : decode cX2_nameBehind 15 = .ok (.iload_n 1, 1) := by decide +kernel
theorem dX2_nameBehind_16 : decode cX2_nameBehind 16 = .ok (.iconst 2, 1) := by decide +kernel
theorem dX2_nameBehind_17 : decode cX2_nameBehind 17 = .ok (.irem, 1) := by decide +kernel
theorem dX2_nameBehind_18 : decode cX2_nameBehind 18 = .ok (.iadd, 1) := by decide +kernel
theorem dX2_nameBehind_19 : decode cX2_nameBehind 19 = .ok (.ireturn, 1) := by decide +kernel
theorem dX2_firstArrowToBlue_0 : decode cX2_firstArrowToBlue 0 = .ok (.iconst 0, 1) := by decide +kernel
theorem dX2_firstArrowToBlue_1 : decode cX2_firstArrowToBlue 1 = .ok (.istore_n 1, 1) := by decide +kernel
theorem dX2_firstArrowToBlue_2 : decode cX2_firstArrowToBlue 2 = .ok (.iconst 0, 1) := by decide +kernel
theorem dX2_firstArrowToBlue_3 : decode cX2_firstArrowToBlue 3 = .ok (.istore_n 2, 1) := by decide +kernel
theorem dX2_firstArrowToBlue_4 : decode cX2_firstArrowToBlue 4 = .ok (.iload_n 2, 1) := by decide +kernel
theorem dX2_firstArrowToBlue_5 : decode cX2_firstArrowToBlue 5 = .ok (.aload_n 0, 1) := by decide +kernel
theorem dX2_firstArrowToBlue_6 : decode cX2_firstArrowToBlue 6 = .ok (.getfield 27, 3) := by decide +kernel
theorem dX2_firstArrowToBlue_9 : decode cX2_firstArrowToBlue 9 = .ok (.if_icmp .ge 64, 3) := by decide +kernel
theorem dX2_firstArrowToBlue_12 : decode cX2_firstArrowToBlue 12 = .ok (.iconst 0, 1) := by decide +kernel
theorem dX2_firstArrowToBlue_13 : decode cX2_firstArrowToBlue 13 = .ok (.istore_n 3, 1) := by decide +kernel
theorem dX2_firstArrowToBlue_14 : decode cX2_firstArrowToBlue 14 = .ok (.iload_n 3, 1) := by decide +kernel
theorem dX2_firstArrowToBlue_15 : decode cX2_firstArrowToBlue 15 = .ok (.iconst 2, 1) := by decide +kernel
theorem dX2_firstArrowToBlue_16 : decode cX2_firstArrowToBlue 16 = .ok (.if_icmp .ge 51, 3) := by decide +kernel
theorem dX2_firstArrowToBlue_19 : decode cX2_firstArrowToBlue 19 = .ok (.iconst 2, 1) := by decide +kernel
theorem dX2_firstArrowToBlue_20 : decode cX2_firstArrowToBlue 20 = .ok (.aload_n 0, 1) := by decide +kernel
theorem dX2_firstArrowToBlue_21 : decode cX2_firstArrowToBlue 21 = .ok (.getfield 18, 3) := by decide +kernel
theorem dX2_firstArrowToBlue_24 : decode cX2_firstArrowToBlue 24 = .ok (.iload_n 2, 1) := by decide +kernel
theorem dX2_firstArrowToBlue_25 : decode cX2_firstArrowToBlue 25 = .ok (.iaload, 1) := by decide +kernel
theorem dX2_firstArrowToBlue_26 : decode cX2_firstArrowToBlue 26 = .ok (.imul, 1) := by decide +kernel
theorem dX2_firstArrowToBlue_27 : decode cX2_firstArrowToBlue 27 = .ok (.iload_n 3, 1) := by decide +kernel
theorem dX2_firstArrowToBlue_28 : decode cX2_firstArrowToBlue 28 = .ok (.iadd, 1) := by decide +kernel
theorem dX2_firstArrowToBlue_29 : decode cX2_firstArrowToBlue 29 = .ok (.istore 4, 2) := by decide +kernel
theorem dX2_firstArrowToBlue_31 : decode cX2_firstArrowToBlue 31 = .ok (.aload_n 0, 1) := by decide +kernel
theorem dX2_firstArrowToBlue_32 : decode cX2_firstArrowToBlue 32 = .ok (.iload 4, 2) := by decide +kernel
theorem dX2_firstArrowToBlue_34 : decode cX2_firstArrowToBlue 34 = .ok (.invokevirtual 84, 3) := by decide +kernel
theorem dX2_firstArrowToBlue_37 : decode cX2_firstArrowToBlue 37 = .ok (.ifCond .eq 24, 3) := by decide +kernel
theorem dX2_firstArrowToBlue_40 : decode cX2_firstArrowToBlue 40 = .ok (.iload_n 1, 1) := by decide +kernel
theorem dX2_firstArrowToBlue_41 : decode cX2_firstArrowToBlue 41 = .ok (.ifCond .eq 17, 3) := by decide +kernel
theorem dX2_firstArrowToBlue_44 : decode cX2_firstArrowToBlue 44 = .ok (.aload_n 0, 1) := by decide +kernel
theorem dX2_firstArrowToBlue_45 : decode cX2_firstArrowToBlue 45 = .ok (.iload 4, 2) := by decide +kernel
theorem dX2_firstArrowToBlue_47 : decode cX2_firstArrowToBlue 47 = .ok (.invokevirtual 88, 3) := by decide +kernel
theorem dX2_firstArrowToBlue_50 : decode cX2_firstArrowToBlue 50 = .ok (.aload_n 0, 1) := by decide +kernel
theorem dX2_firstArrowToBlue_51 : decode cX2_firstArrowToBlue 51 = .ok (.iload_n 1, 1) := by decide +kernel
theorem dX2_firstArrowToBlue_52 : decode cX2_firstArrowToBlue 52 = .ok (.invokevirtual 88, 3) := by decide +kernel
theorem dX2_firstArrowToBlue_55 : decode cX2_firstArrowToBlue 55 = .ok (.if_icmp .ge 6, 3) := by decide +kernel
theorem dX2_firstArrowToBlue_58 : decode cX2_firstArrowToBlue 58 = .ok (.iload 4, 2) := by decide +kernel
theorem dX2_firstArrowToBlue_60 : decode cX2_firstArrowToBlue 60 = .ok (.istore_n 1, 1) := by decide +kernel
theorem dX2_firstArrowToBlue_61 : decode cX2_firstArrowToBlue 61 = .ok (.iinc 3 1, 3) := by decide +kernel
theorem dX2_firstArrowToBlue_64 : decode cX2_firstArrowToBlue 64 = .ok (.goto (-50), 3) := by decide +kernel
theorem dX2_firstArrowToBlue_67 : decode cX2_firstArrowToBlue 67 = .ok (.iinc 2 1, 3) := by decide +kernel
theorem dX2_firstArrowToBlue_70 : decode cX2_firstArrowToBlue 70 = .ok (.goto (-66), 3) := by decide +kernel
theorem dX2_firstArrowToBlue_73 : decode cX2_firstArrowToBlue 73 = .ok (.iload_n 1, 1) := by decide +kernel
theorem dX2_firstArrowToBlue_74 : decode cX2_firstArrowToBlue 74 = .ok (.ireturn, 1) := by decide +kernel
theorem dX2_leadsToBlue_0 : decode cX2_leadsToBlue 0 = .ok (.aload_n 0, 1) := by decide +kernel
theorem dX2_leadsToBlue_1 : decode cX2_leadsToBlue 1 = .ok (.getfield 15, 3) := by decide +kernel
theorem dX2_leadsToBlue_4 : decode cX2_leadsToBlue 4 = .ok (.iload_n 1, 1) := by decide +kernel
theorem dX2_leadsToBlue_5 : decode cX2_leadsToBlue 5 = .ok (.iaload, 1) := by decide +kernel
theorem dX2_leadsToBlue_6 : decode cX2_leadsToBlue 6 = .ok (.ifCond .eq 22, 3) := by decide +kernel
theorem dX2_leadsToBlue_9 : decode cX2_leadsToBlue 9 = .ok (.aload_n 0, 1) := by decide +kernel
theorem dX2_leadsToBlue_10 : decode cX2_leadsToBlue 10 = .ok (.getfield 24, 3) := by decide +kernel
theorem dX2_leadsToBlue_13 : decode cX2_leadsToBlue 13 = .ok (.aload_n 0, 1) := by decide +kernel
theorem dX2_leadsToBlue_14 : decode cX2_leadsToBlue 14 = .ok (.getfield 15, 3) := by decide +kernel
theorem dX2_leadsToBlue_17 : decode cX2_leadsToBlue 17 = .ok (.iload_n 1, 1) := by decide +kernel
theorem dX2_leadsToBlue_18 : decode cX2_leadsToBlue 18 = .ok (.iaload, 1) := by decide +kernel
theorem dX2_leadsToBlue_19 : decode cX2_leadsToBlue 19 = .ok (.iaload, 1) := by decide +kernel
theorem dX2_leadsToBlue_20 : decode cX2_leadsToBlue 20 = .ok (.iconst (-1), 1) := by decide +kernel
theorem dX2_leadsToBlue_21 : decode cX2_leadsToBlue 21 = .ok (.if_icmp .ne 7, 3) := by decide +kernel
theorem dX2_leadsToBlue_24 : decode cX2_leadsToBlue 24 = .ok (.iconst 1, 1) := by decide +kernel
theorem dX2_leadsToBlue_25 : decode cX2_leadsToBlue 25 = .ok (.goto 4, 3) := by decide +kernel
theorem dX2_leadsToBlue_28 : decode cX2_leadsToBlue 28 = .ok (.iconst 0, 1) := by decide +kernel
theorem dX2_leadsToBlue_29 : decode cX2_leadsToBlue 29 = .ok (.ireturn, 1) := by decide +kernel
theorem dX2_settle_0 : decode cX2_settle 0 = .ok (.iconst 0, 1) := by decide +kernel
theorem dX2_settle_1 : decode cX2_settle 1 = .ok (.istore_n 2, 1) := by decide +kernel
theorem dX2_settle_2 : decode cX2_settle 2 = .ok (.iload_n 2, 1) := by decide +kernel
theorem dX2_settle_3 : decode cX2_settle 3 = .ok (.aload_n 0, 1) := by decide +kernel
theorem dX2_settle_4 : decode cX2_settle 4 = .ok (.getfield 27, 3) := by decide +kernel
theorem dX2_settle_7 : decode cX2_settle 7 = .ok (.if_icmp .ge 24, 3) := by decide +kernel
theorem dX2_settle_10 : decode cX2_settle 10 = .ok (.aload_n 0, 1) := by decide +kernel
theorem dX2_settle_11 : decode cX2_settle 11 = .ok (.iload_n 1, 1) := by decide +kernel
theorem dX2_settle_12 : decode cX2_settle 12 = .ok (.aload_n 0, 1) := by decide +kernel
theorem dX2_settle_13 : decode cX2_settle 13 = .ok (.getfield 18, 3) := by decide +kernel
theorem dX2_settle_16 : decode cX2_settle 16 = .ok (.iload_n 2, 1) := by decide +kernel
theorem dX2_settle_17 : decode cX2_settle 17 = .ok (.iaload, 1) := by decide +kernel
theorem dX2_settle_18 : decode cX2_settle 18 = .ok (.invokevirtual 91, 3) := by decide +kernel
theorem dX2_settle_21 : decode cX2_settle 21 = .ok (.ifCond .eq 4, 3) := by decide +kernel
theorem dX2_settle_24 : decode cX2_settle 24 = .ok (.return_, 1) := by decide +kernel
theorem dX2_settle_25 : decode cX2_settle 25 = .ok (.iinc 2 1, 3) := by decide +kernel
theorem dX2_settle_28 : decode cX2_settle 28 = .ok (.goto (-26), 3) := by decide +kernel
theorem dX2_settle_31 : decode cX2_settle 31 = .ok (.aload_n 0, 1) := by decide +kernel
theorem dX2_settle_32 : decode cX2_settle 32 = .ok (.aload_n 0, 1) := by decide +kernel
theorem dX2_settle_33 : decode cX2_settle 33 = .ok (.getfield 15, 3) := by decide +kernel
theorem dX2_settle_36 : decode cX2_settle 36 = .ok (.iload_n 1, 1) := by decide +kernel
theorem dX2_settle_37 : decode cX2_settle 37 = .ok (.iaload, 1) := by decide +kernel
theorem dX2_settle_38 : decode cX2_settle 38 = .ok (.aload_n 0, 1) := by decide +kernel
theorem dX2_settle_39 : decode cX2_settle 39 = .ok (.iload_n 1, 1) := by decide +kernel
theorem dX2_settle_40 : decode cX2_settle 40 = .ok (.invokevirtual 88, 3) := by decide +kernel
theorem dX2_settle_43 : decode cX2_settle 43 = .ok (.invokevirtual 56, 3) := by decide +kernel
theorem dX2_settle_46 : decode cX2_settle 46 = .ok (.return_, 1) := by decide +kernel
theorem dX2_merges_0 : decode cX2_merges 0 = .ok (.aload_n 0, 1) := by decide +kernel
theorem dX2_merges_1 : decode cX2_merges 1 = .ok (.getfield 15, 3) := by decide +kernel
theorem dX2_merges_4 : decode cX2_merges 4 = .ok (.iload_n 1, 1) := by decide +kernel
theorem dX2_merges_5 : decode cX2_merges 5 = .ok (.iaload, 1) := by decide +kernel
theorem dX2_merges_6 : decode cX2_merges 6 = .ok (.istore_n 3, 1) := by decide +kernel
theorem dX2_merges_7 : decode cX2_merges 7 = .ok (.aload_n 0, 1) := by decide +kernel
theorem dX2_merges_8 : decode cX2_merges 8 = .ok (.iconst 0, 1) := by decide +kernel
theorem dX2_merges_9 : decode cX2_merges 9 = .ok (.putfield 43, 3) := by decide +kernel
theorem dX2_merges_12 : decode cX2_merges 12 = .ok (.aload_n 0, 1) := by decide +kernel
theorem dX2_merges_13 : decode cX2_merges 13 = .ok (.iconst 0, 1) := by decide +kernel
theorem dX2_merges_14 : decode cX2_merges 14 = .ok (.putfield 49, 3) := by decide +kernel
theorem dX2_merges_17 : decode cX2_merges 17 = .ok (.aload_n 0, 1) := by decide +kernel
theorem dX2_merges_18 : decode cX2_merges 18 = .ok (.iconst 0, 1) := by decide +kernel
theorem dX2_merges_19 : decode cX2_merges 19 = .ok (.putfield 37, 3) := by decide +kernel
theorem dX2_merges_22 : decode cX2_merges 22 = .ok (.aload_n 0, 1) := by decide +kernel
theorem dX2_merges_23 : decode cX2_merges 23 = .ok (.getfield 15, 3) := by decide +kernel
theorem dX2_merges_26 : decode cX2_merges 26 = .ok (.iload_n 1, 1) := by decide +kernel
theorem dX2_merges_27 : decode cX2_merges 27 = .ok (.iload_n 2, 1) := by decide +kernel
theorem dX2_merges_28 : decode cX2_merges 28 = .ok (.iastore, 1) := by decide +kernel
theorem dX2_merges_29 : decode cX2_merges 29 = .ok (.aload_n 0, 1) := by decide +kernel
theorem dX2_merges_30 : decode cX2_merges 30 = .ok (.iload_n 2, 1) := by decide +kernel
theorem dX2_merges_31 : decode cX2_merges 31 = .ok (.iload_n 3, 1) := by decide +kernel
theorem dX2_merges_32 : decode cX2_merges 32 = .ok (.invokevirtual 95, 3) := by decide +kernel
theorem dX2_merges_35 : decode cX2_merges 35 = .ok (.iconst 0, 1) := by decide +kernel
theorem dX2_merges_36 : decode cX2_merges 36 = .ok (.istore 4, 2) := by decide +kernel
theorem dX2_merges_38 : decode cX2_merges 38 = .ok (.iload 4, 2) := by decide +kernel
theorem dX2_merges_40 : decode cX2_merges 40 = .ok (.aload_n 0, 1) := by decide +kernel
theorem dX2_merges_41 : decode cX2_merges 41 = .ok (.getfield 37, 3) := by decide +kernel
theorem dX2_merges_44 : decode cX2_merges 44 = .ok (.if_icmp .ge 76, 3) := by decide +kernel
theorem dX2_merges_47 : decode cX2_merges 47 = .ok (.iload 4, 2) := by decide +kernel
theorem dX2_merges_49 : decode cX2_merges 49 = .ok (.sipush 512, 3) := by decide +kernel
theorem dX2_merges_52 : decode cX2_merges 52 = .ok (.if_icmp .ge 68, 3) := by decide +kernel
theorem dX2_merges_55 : decode cX2_merges 55 = .ok (.aload_n 0, 1) := by decide +kernel
theorem dX2_merges_56 : decode cX2_merges 56 = .ok (.getfield 9, 3) := by decide +kernel
theorem dX2_merges_59 : decode cX2_merges 59 = .ok (.aload_n 0, 1) := by decide +kernel
theorem dX2_merges_60 : decode cX2_merges 60 = .ok (.getfield 31, 3) := by decide +kernel
theorem dX2_merges_63 : decode cX2_merges 63 = .ok (.iload 4, 2) := by decide +kernel
theorem dX2_merges_65 : decode cX2_merges 65 = .ok (.iaload, 1) := by decide +kernel
theorem dX2_merges_66 : decode cX2_merges 66 = .ok (.iaload, 1) := by decide +kernel
theorem dX2_merges_67 : decode cX2_merges 67 = .ok (.aload_n 0, 1) := by decide +kernel
theorem dX2_merges_68 : decode cX2_merges 68 = .ok (.getfield 9, 3) := by decide +kernel
theorem dX2_merges_71 : decode cX2_merges 71 = .ok (.aload_n 0, 1) := by decide +kernel
theorem dX2_merges_72 : decode cX2_merges 72 = .ok (.getfield 34, 3) := by decide +kernel
theorem dX2_merges_75 : decode cX2_merges 75 = .ok (.iload 4, 2) := by decide +kernel
theorem dX2_merges_77 : decode cX2_merges 77 = .ok (.iaload, 1) := by decide +kernel
theorem dX2_merges_78 : decode cX2_merges 78 = .ok (.iaload, 1) := by decide +kernel
theorem dX2_merges_79 : decode cX2_merges 79 = .ok (.imul, 1) := by decide +kernel
theorem dX2_merges_80 : decode cX2_merges 80 = .ok (.ifCond .ge 16, 3) := by decide +kernel
theorem dX2_merges_83 : decode cX2_merges 83 = .ok (.aload_n 0, 1) := by decide +kernel
theorem dX2_merges_84 : decode cX2_merges 84 = .ok (.invokevirtual 98, 3) := by decide +kernel
theorem dX2_merges_87 : decode cX2_merges 87 = .ok (.aload_n 0, 1) := by decide +kernel
theorem dX2_merges_88 : decode cX2_merges 88 = .ok (.getfield 15, 3) := by decide +kernel
theorem dX2_merges_91 : decode cX2_merges 91 = .ok (.iload_n 1, 1) := by decide +kernel
theorem dX2_merges_92 : decode cX2_merges 92 = .ok (.iload_n 3, 1) := by decide +kernel
theorem dX2_merges_93 : decode cX2_merges 93 = .ok (.iastore, 1) := by decide +kernel
theorem dX2_merges_94 : decode cX2_merges 94 = .ok (.iconst 0, 1) := by decide +kernel
theorem dX2_merges_95 : decode cX2_merges 95 = .ok (.ireturn, 1) := by decide +kernel
theorem dX2_merges_96 : decode cX2_merges 96 = .ok (.aload_n 0, 1) := by decide +kernel
theorem dX2_merges_97 : decode cX2_merges 97 = .ok (.aload_n 0, 1) := by decide +kernel
theorem dX2_merges_98 : decode cX2_merges 98 = .ok (.getfield 31, 3) := by decide +kernel
theorem dX2_merges_101 : decode cX2_merges 101 = .ok (.iload 4, 2) := by decide +kernel
theorem dX2_merges_103 : decode cX2_merges 103 = .ok (.iaload, 1) := by decide +kernel
theorem dX2_merges_104 : decode cX2_merges 104 = .ok (.aload_n 0, 1) := by decide +kernel
theorem dX2_merges_105 : decode cX2_merges 105 = .ok (.getfield 34, 3) := by decide +kernel
theorem dX2_merges_108 : decode cX2_merges 108 = .ok (.iload 4, 2) := by decide +kernel
theorem dX2_merges_110 : decode cX2_merges 110 = .ok (.iaload, 1) := by decide +kernel
theorem dX2_merges_111 : decode cX2_merges 111 = .ok (.invokevirtual 101, 3) := by decide +kernel
theorem dX2_merges_114 : decode cX2_merges 114 = .ok (.iinc 4 1, 3) := by decide +kernel
theorem dX2_merges_117 : decode cX2_merges 117 = .ok (.goto (-79), 3) := by decide +kernel
theorem dX2_merges_120 : decode cX2_merges 120 = .ok (.iconst 1, 1) := by decide +kernel
theorem dX2_merges_121 : decode cX2_merges 121 = .ok (.ireturn, 1) := by decide +kernel
theorem dX2_addPair_0 : decode cX2_addPair 0 = .ok (.aload_n 0, 1) := by decide +kernel
theorem dX2_addPair_1 : decode cX2_addPair 1 = .ok (.getfield 31, 3) := by decide +kernel
theorem dX2_addPair_4 : decode cX2_addPair 4 = .ok (.aload_n 0, 1) := by decide +kernel
theorem dX2_addPair_5 : decode cX2_addPair 5 = .ok (.getfield 37, 3) := by decide +kernel
theorem dX2_addPair_8 : decode cX2_addPair 8 = .ok (.iload_n 1, 1) := by decide +kernel
theorem dX2_addPair_9 : decode cX2_addPair 9 = .ok (.iastore, 1) := by decide +kernel
theorem dX2_addPair_10 : decode cX2_addPair 10 = .ok (.aload_n 0, 1) := by decide +kernel
theorem dX2_addPair_11 : decode cX2_addPair 11 = .ok (.getfield 34, 3) := by decide +kernel
theorem dX2_addPair_14 : decode cX2_addPair 14 = .ok (.aload_n 0, 1) := by decide +kernel
theorem dX2_addPair_15 : decode cX2_addPair 15 = .ok (.getfield 37, 3) := by decide +kernel
theorem dX2_addPair_18 : decode cX2_addPair 18 = .ok (.iload_n 2, 1) := by decide +kernel
theorem dX2_addPair_19 : decode cX2_addPair 19 = .ok (.iastore, 1) := by decide +kernel
theorem dX2_addPair_20 : decode cX2_addPair 20 = .ok (.aload_n 0, 1) := by decide +kernel
theorem dX2_addPair_21 : decode cX2_addPair 21 = .ok (.dup, 1) := by decide +kernel
theorem dX2_addPair_22 : decode cX2_addPair 22 = .ok (.getfield 37, 3) := by decide +kernel
theorem dX2_addPair_25 : decode cX2_addPair 25 = .ok (.iconst 1, 1) := by decide +kernel
theorem dX2_addPair_26 : decode cX2_addPair 26 = .ok (.iadd, 1) := by decide +kernel
theorem dX2_addPair_27 : decode cX2_addPair 27 = .ok (.putfield 37, 3) := by decide +kernel
theorem dX2_addPair_30 : decode cX2_addPair 30 = .ok (.return_, 1) := by decide +kernel
theorem dX2_layOver_0 : decode cX2_layOver 0 = .ok (.aload_n 0, 1) := by decide +kernel
theorem dX2_layOver_1 : decode cX2_layOver 1 = .ok (.getfield 9, 3) := by decide +kernel
theorem dX2_layOver_4 : decode cX2_layOver 4 = .ok (.iload_n 1, 1) := by decide +kernel
theorem dX2_layOver_5 : decode cX2_layOver 5 = .ok (.iaload, 1) := by decide +kernel
theorem dX2_layOver_6 : decode cX2_layOver 6 = .ok (.ifCond .ne 44, 3) := by decide +kernel
theorem dX2_layOver_9 : decode cX2_layOver 9 = .ok (.aload_n 0, 1) := by decide +kernel
theorem dX2_layOver_10 : decode cX2_layOver 10 = .ok (.getfield 9, 3) := by decide +kernel
theorem dX2_layOver_13 : decode cX2_layOver 13 = .ok (.iload_n 2, 1) := by decide +kernel
theorem dX2_layOver_14 : decode cX2_layOver 14 = .ok (.iaload, 1) := by decide +kernel
theorem dX2_layOver_15 : decode cX2_layOver 15 = .ok (.ifCond .eq 35, 3) := by decide +kernel
theorem dX2_layOver_18 : decode cX2_layOver 18 = .ok (.aload_n 0, 1) := by decide +kernel
theorem dX2_layOver_19 : decode cX2_layOver 19 = .ok (.getfield 9, 3) := by decide +kernel
theorem dX2_layOver_22 : decode cX2_layOver 22 = .ok (.iload_n 1, 1) := by decide +kernel
theorem dX2_layOver_23 : decode cX2_layOver 23 = .ok (.aload_n 0, 1) := by decide +kernel
theorem dX2_layOver_24 : decode cX2_layOver 24 = .ok (.getfield 9, 3) := by decide +kernel
theorem dX2_layOver_27 : decode cX2_layOver 27 = .ok (.iload_n 2, 1) := by decide +kernel
theorem dX2_layOver_28 : decode cX2_layOver 28 = .ok (.iaload, 1) := by decide +kernel
theorem dX2_layOver_29 : decode cX2_layOver 29 = .ok (.iastore, 1) := by decide +kernel
theorem dX2_layOver_30 : decode cX2_layOver 30 = .ok (.aload_n 0, 1) := by decide +kernel
theorem dX2_layOver_31 : decode cX2_layOver 31 = .ok (.getfield 40, 3) := by decide +kernel
theorem dX2_layOver_34 : decode cX2_layOver 34 = .ok (.aload_n 0, 1) := by decide +kernel
theorem dX2_layOver_35 : decode cX2_layOver 35 = .ok (.getfield 43, 3) := by decide +kernel
theorem dX2_layOver_38 : decode cX2_layOver 38 = .ok (.iload_n 1, 1) := by decide +kernel
theorem dX2_layOver_39 : decode cX2_layOver 39 = .ok (.iastore, 1) := by decide +kernel
theorem dX2_layOver_40 : decode cX2_layOver 40 = .ok (.aload_n 0, 1) := by decide +kernel
theorem dX2_layOver_41 : decode cX2_layOver 41 = .ok (.dup, 1) := by decide +kernel
theorem dX2_layOver_42 : decode cX2_layOver 42 = .ok (.getfield 43, 3) := by decide +kernel
theorem dX2_layOver_45 : decode cX2_layOver 45 = .ok (.iconst 1, 1) := by decide +kernel
theorem dX2_layOver_46 : decode cX2_layOver 46 = .ok (.iadd, 1) := by decide +kernel
theorem dX2_layOver_47 : decode cX2_layOver 47 = .ok (.putfield 43, 3) := by decide +kernel
theorem dX2_layOver_50 : decode cX2_layOver 50 = .ok (.iconst 0, 1) := by decide +kernel
theorem dX2_layOver_51 : decode cX2_layOver 51 = .ok (.istore_n 3, 1) := by decide +kernel
theorem dX2_layOver_52 : decode cX2_layOver 52 = .ok (.iload_n 3, 1) := by decide +kernel
theorem dX2_layOver_53 : decode cX2_layOver 53 = .ok (.iconst 2, 1) := by decide +kernel
theorem dX2_layOver_54 : decode cX2_layOver 54 = .ok (.if_icmp .ge 28, 3) := by decide +kernel
theorem dX2_layOver_57 : decode cX2_layOver 57 = .ok (.aload_n 0, 1) := by decide +kernel
theorem dX2_layOver_58 : decode cX2_layOver 58 = .ok (.iconst 2, 1) := by decide +kernel
theorem dX2_layOver_59 : decode cX2_layOver 59 = .ok (.iload_n 1, 1) := by decide +kernel
theorem dX2_layOver_60 : decode cX2_layOver 60 = .ok (.imul, 1) := by decide +kernel
theorem dX2_layOver_61 : decode cX2_layOver 61 = .ok (.iload_n 3, 1) := by decide +kernel
theorem dX2_layOver_62 : decode cX2_layOver 62 = .ok (.iadd, 1) := by decide +kernel
theorem dX2_layOver_63 : decode cX2_layOver 63 = .ok (.aload_n 0, 1) := by decide +kernel
theorem dX2_layOver_64 : decode cX2_layOver 64 = .ok (.getfield 15, 3) := by decide +kernel
theorem dX2_layOver_67 : decode cX2_layOver 67 = .ok (.iconst 2, 1) := by decide +kernel
theorem dX2_layOver_68 : decode cX2_layOver 68 = .ok (.iload_n 2, 1) := by decide +kernel
theorem dX2_layOver_69 : decode cX2_layOver 69 = .ok (.imul, 1) := by decide +kernel
theorem dX2_layOver_70 : decode cX2_layOver 70 = .ok (.iload_n 3, 1) := by decide +kernel
theorem dX2_layOver_71 : decode cX2_layOver 71 = .ok (.iadd, 1) := by decide +kernel
theorem dX2_layOver_72 : decode cX2_layOver 72 = .ok (.iaload, 1) := by decide +kernel
theorem dX2_layOver_73 : decode cX2_layOver 73 = .ok (.invokevirtual 104, 3) := by decide +kernel
theorem dX2_layOver_76 : decode cX2_layOver 76 = .ok (.iinc 3 1, 3) := by decide +kernel
theorem dX2_layOver_79 : decode cX2_layOver 79 = .ok (.goto (-27), 3) := by decide +kernel
theorem dX2_layOver_82 : decode cX2_layOver 82 = .ok (.return_, 1) := by decide +kernel
theorem dX2_layArrowOver_0 : decode cX2_layArrowOver 0 = .ok (.iload_n 2, 1) := by decide +kernel
theorem dX2_layArrowOver_1 : decode cX2_layArrowOver 1 = .ok (.ifCond .ne 4, 3) := by decide +kernel
theorem dX2_layArrowOver_4 : decode cX2_layArrowOver 4 = .ok (.return_, 1) := by decide +kernel
theorem dX2_layArrowOver_5 : decode cX2_layArrowOver 5 = .ok (.aload_n 0, 1) := by decide +kernel
theorem dX2_layArrowOver_6 : decode cX2_layArrowOver 6 = .ok (.getfield 15, 3) := by decide +kernel
theorem dX2_layArrowOver_9 : decode cX2_layArrowOver 9 = .ok (.iload_n 1, 1) := by decide +kernel
theorem dX2_layArrowOver_10 : decode cX2_layArrowOver 10 = .ok (.iaload, 1) := by decide +kernel
theorem dX2_layArrowOver_11 : decode cX2_layArrowOver 11 = .ok (.ifCond .eq 15, 3) := by decide +kernel
theorem dX2_layArrowOver_14 : decode cX2_layArrowOver 14 = .ok (.aload_n 0, 1) := by decide +kernel
theorem dX2_layArrowOver_15 : decode cX2_layArrowOver 15 = .ok (.aload_n 0, 1) := by decide +kernel
theorem dX2_layArrowOver_16 : decode cX2_layArrowOver 16 = .ok (.getfield 15, 3) := by decide +kernel
theorem dX2_layArrowOver_19 : decode cX2_layArrowOver 19 = .ok (.iload_n 1, 1) := by decide +kernel
theorem dX2_layArrowOver_20 : decode cX2_layArrowOver 20 = .ok (.iaload, 1) := by decide +kernel
theorem dX2_layArrowOver_21 : decode cX2_layArrowOver 21 = .ok (.iload_n 2, 1) := by decide +kernel
theorem dX2_layArrowOver_22 : decode cX2_layArrowOver 22 = .ok (.invokevirtual 95, 3) := by decide +kernel
theorem dX2_layArrowOver_25 : decode cX2_layArrowOver 25 = .ok (.return_, 1) := by decide +kernel
theorem dX2_layArrowOver_26 : decode cX2_layArrowOver 26 = .ok (.aload_n 0, 1) := by decide +kernel
theorem dX2_layArrowOver_27 : decode cX2_layArrowOver 27 = .ok (.getfield 15, 3) := by decide +kernel
theorem dX2_layArrowOver_30 : decode cX2_layArrowOver 30 = .ok (.iload_n 1, 1) := by decide +kernel
theorem dX2_layArrowOver_31 : decode cX2_layArrowOver 31 = .ok (.iload_n 2, 1) := by decide +kernel
theorem dX2_layArrowOver_32 : decode cX2_layArrowOver 32 = .ok (.iastore, 1) := by decide +kernel
theorem dX2_layArrowOver_33 : decode cX2_layArrowOver 33 = .ok (.aload_n 0, 1) := by decide +kernel
theorem dX2_layArrowOver_34 : decode cX2_layArrowOver 34 = .ok (.getfield 46, 3) := by decide +kernel
theorem dX2_layArrowOver_37 : decode cX2_layArrowOver 37 = .ok (.aload_n 0, 1) := by decide +kernel
theorem dX2_layArrowOver_38 : decode cX2_layArrowOver 38 = .ok (.getfield 49, 3) := by decide +kernel
theorem dX2_layArrowOver_41 : decode cX2_layArrowOver 41 = .ok (.iload_n 1, 1) := by decide +kernel
theorem dX2_layArrowOver_42 : decode cX2_layArrowOver 42 = .ok (.iastore, 1) := by decide +kernel
theorem dX2_layArrowOver_43 : decode cX2_layArrowOver 43 = .ok (.aload_n 0, 1) := by decide +kernel
theorem dX2_layArrowOver_44 : decode cX2_layArrowOver 44 = .ok (.dup, 1) := by decide +kernel
theorem dX2_layArrowOver_45 : decode cX2_layArrowOver 45 = .ok (.getfield 49, 3) := by decide +kernel
theorem dX2_layArrowOver_48 : decode cX2_layArrowOver 48 = .ok (.iconst 1, 1) := by decide +kernel
theorem dX2_layArrowOver_49 : decode cX2_layArrowOver 49 = .ok (.iadd, 1) := by decide +kernel
theorem dX2_layArrowOver_50 : decode cX2_layArrowOver 50 = .ok (.putfield 49, 3) := by decide +kernel
theorem dX2_layArrowOver_53 : decode cX2_layArrowOver 53 = .ok (.return_, 1) := by decide +kernel
theorem dX2_takeBack_0 : decode cX2_takeBack 0 = .ok (.iconst 0, 1) := by decide +kernel
theorem dX2_takeBack_1 : decode cX2_takeBack 1 = .ok (.istore_n 1, 1) := by decide +kernel
theorem dX2_takeBack_2 : decode cX2_takeBack 2 = .ok (.iload_n 1, 1) := by decide +kernel
theorem dX2_takeBack_3 : decode cX2_takeBack 3 = .ok (.aload_n 0, 1) := by decide +kernel
theorem dX2_takeBack_4 : decode cX2_takeBack 4 = .ok (.getfield 43, 3) := by decide +kernel
theorem dX2_takeBack_7 : decode cX2_takeBack 7 = .ok (.if_icmp .ge 21, 3) := by decide +kernel
theorem dX2_takeBack_10 : decode cX2_takeBack 10 = .ok (.aload_n 0, 1) := by decide +kernel
theorem dX2_takeBack_11 : decode cX2_takeBack 11 = .ok (.getfield 9, 3) := by decide +kernel
theorem dX2_takeBack_14 : decode cX2_takeBack 14 = .ok (.aload_n 0, 1) := by decide +kernel
theorem dX2_takeBack_15 : decode cX2_takeBack 15 = .ok (.getfield 40, 3) := by decide +kernel
theorem dX2_takeBack_18 : decode cX2_takeBack 18 = .ok (.iload_n 1, 1) := by decide +kernel
theorem dX2_takeBack_19 : decode cX2_takeBack 19 = .ok (.iaload, 1) := by decide +kernel
theorem dX2_takeBack_20 : decode cX2_takeBack 20 = .ok (.iconst 0, 1) := by decide +kernel
theorem dX2_takeBack_21 : decode cX2_takeBack 21 = .ok (.iastore, 1) := by decide +kernel
theorem dX2_takeBack_22 : decode cX2_takeBack 22 = .ok (.iinc 1 1, 3) := by decide +kernel
theorem dX2_takeBack_25 : decode cX2_takeBack 25 = .ok (.goto (-23), 3) := by decide +kernel
theorem dX2_takeBack_28 : decode cX2_takeBack 28 = .ok (.iconst 0, 1) := by decide +kernel
theorem dX2_takeBack_29 : decode cX2_takeBack 29 = .ok (.istore_n 1, 1) := by decide +kernel
theorem dX2_takeBack_30 : decode cX2_takeBack 30 = .ok (.iload_n 1, 1) := by decide +kernel
theorem dX2_takeBack_31 : decode cX2_takeBack 31 = .ok (.aload_n 0, 1) := by decide +kernel
theorem dX2_takeBack_32 : decode cX2_takeBack 32 = .ok (.getfield 49, 3) := by decide +kernel
theorem dX2_takeBack_35 : decode cX2_takeBack 35 = .ok (.if_icmp .ge 21, 3) := by decide +kernel
theorem dX2_takeBack_38 : decode cX2_takeBack 38 = .ok (.aload_n 0, 1) := by decide +kernel
theorem dX2_takeBack_39 : decode cX2_takeBack 39 = .ok (.getfield 15, 3) := by decide +kernel
theorem dX2_takeBack_42 : decode cX2_takeBack 42 = .ok (.aload_n 0, 1) := by decide +kernel
theorem dX2_takeBack_43 : decode cX2_takeBack 43 = .ok (.getfield 46, 3) := by decide +kernel
theorem dX2_takeBack_46 : decode cX2_takeBack 46 = .ok (.iload_n 1, 1) := by decide +kernel
theorem dX2_takeBack_47 : decode cX2_takeBack 47 = .ok (.iaload, 1) := by decide +kernel
theorem dX2_takeBack_48 : decode cX2_takeBack 48 = .ok (.iconst 0, 1) := by decide +kernel
theorem dX2_takeBack_49 : decode cX2_takeBack 49 = .ok (.iastore, 1) := by decide +kernel
theorem dX2_takeBack_50 : decode cX2_takeBack 50 = .ok (.iinc 1 1, 3) := by decide +kernel
theorem dX2_takeBack_53 : decode cX2_takeBack 53 = .ok (.goto (-23), 3) := by decide +kernel
theorem dX2_takeBack_56 : decode cX2_takeBack 56 = .ok (.return_, 1) := by decide +kernel
theorem dX2_writeTo_0 : decode cX2_writeTo 0 = .ok (.aload_n 1, 1) := by decide +kernel
theorem dX2_writeTo_1 : decode cX2_writeTo 1 = .ok (.aload_n 0, 1) := by decide +kernel
theorem dX2_writeTo_2 : decode cX2_writeTo 2 = .ok (.getfield 27, 3) := by decide +kernel
theorem dX2_writeTo_5 : decode cX2_writeTo 5 = .ok (.invokevirtual 107, 3) := by decide +kernel
theorem dX2_writeTo_8 : decode cX2_writeTo 8 = .ok (.iconst 0, 1) := by decide +kernel
theorem dX2_writeTo_9 : decode cX2_writeTo 9 = .ok (.istore_n 2, 1) := by decide +kernel
theorem dX2_writeTo_10 : decode cX2_writeTo 10 = .ok (.iload_n 2, 1) := by decide +kernel
theorem dX2_writeTo_11 : decode cX2_writeTo 11 = .ok (.aload_n 0, 1) := by decide +kernel
theorem dX2_writeTo_12 : decode cX2_writeTo 12 = .ok (.getfield 27, 3) := by decide +kernel
theorem dX2_writeTo_15 : decode cX2_writeTo 15 = .ok (.if_icmp .ge 55, 3) := by decide +kernel
theorem dX2_writeTo_18 : decode cX2_writeTo 18 = .ok (.aload_n 0, 1) := by decide +kernel
theorem dX2_writeTo_19 : decode cX2_writeTo 19 = .ok (.getfield 18, 3) := by decide +kernel
theorem dX2_writeTo_22 : decode cX2_writeTo 22 = .ok (.iload_n 2, 1) := by decide +kernel
theorem dX2_writeTo_23 : decode cX2_writeTo 23 = .ok (.iaload, 1) := by decide +kernel
theorem dX2_writeTo_24 : decode cX2_writeTo 24 = .ok (.istore_n 3, 1) := by decide +kernel
theorem dX2_writeTo_25 : decode cX2_writeTo 25 = .ok (.aload_n 1, 1) := by decide +kernel
theorem dX2_writeTo_26 : decode cX2_writeTo 26 = .ok (.iload_n 2, 1) := by decide +kernel
theorem dX2_writeTo_27 : decode cX2_writeTo 27 = .ok (.aload_n 0, 1) := by decide +kernel
theorem dX2_writeTo_28 : decode cX2_writeTo 28 = .ok (.getfield 9, 3) := by decide +kernel
theorem dX2_writeTo_31 : decode cX2_writeTo 31 = .ok (.iload_n 3, 1) := by decide +kernel
theorem dX2_writeTo_32 : decode cX2_writeTo 32 = .ok (.iaload, 1) := by decide +kernel
theorem dX2_writeTo_33 : decode cX2_writeTo 33 = .ok (.aload_n 0, 1) := by decide +kernel
theorem dX2_writeTo_34 : decode cX2_writeTo 34 = .ok (.getfield 24, 3) := by decide +kernel
theorem dX2_writeTo_37 : decode cX2_writeTo 37 = .ok (.aload_n 0, 1) := by decide +kernel
theorem dX2_writeTo_38 : decode cX2_writeTo 38 = .ok (.getfield 15, 3) := by decide +kernel
theorem dX2_writeTo_41 : decode cX2_writeTo 41 = .ok (.iconst 2, 1) := by decide +kernel
theorem dX2_writeTo_42 : decode cX2_writeTo 42 = .ok (.iload_n 3, 1) := by decide +kernel
theorem dX2_writeTo_43 : decode cX2_writeTo 43 = .ok (.imul, 1) := by decide +kernel
theorem dX2_writeTo_44 : decode cX2_writeTo 44 = .ok (.iaload, 1) := by decide +kernel
theorem dX2_writeTo_45 : decode cX2_writeTo 45 = .ok (.iaload, 1) := by decide +kernel
theorem dX2_writeTo_46 : decode cX2_writeTo 46 = .ok (.aload_n 0, 1) := by decide +kernel
theorem dX2_writeTo_47 : decode cX2_writeTo 47 = .ok (.getfield 24, 3) := by decide +kernel
theorem dX2_writeTo_50 : decode cX2_writeTo 50 = .ok (.aload_n 0, 1) := by decide +kernel
theorem dX2_writeTo_51 : decode cX2_writeTo 51 = .ok (.getfield 15, 3) := by decide +kernel
theorem dX2_writeTo_54 : decode cX2_writeTo 54 = .ok (.iconst 2, 1) := by decide +kernel
theorem dX2_writeTo_55 : decode cX2_writeTo 55 = .ok (.iload_n 3, 1) := by decide +kernel
theorem dX2_writeTo_56 : decode cX2_writeTo 56 = .ok (.imul, 1) := by decide +kernel
theorem dX2_writeTo_57 : decode cX2_writeTo 57 = .ok (.iconst 1, 1) := by decide +kernel
theorem dX2_writeTo_58 : decode cX2_writeTo 58 = .ok (.iadd, 1) := by decide +kernel
theorem dX2_writeTo_59 : decode cX2_writeTo 59 = .ok (.iaload, 1) := by decide +kernel
theorem dX2_writeTo_60 : decode cX2_writeTo 60 = .ok (.iaload, 1) := by decide +kernel
theorem dX2_writeTo_61 : decode cX2_writeTo 61 = .ok (.invokevirtual 112, 3) := by decide +kernel
theorem dX2_writeTo_64 : decode cX2_writeTo 64 = .ok (.iinc 2 1, 3) := by decide +kernel
theorem dX2_writeTo_67 : decode cX2_writeTo 67 = .ok (.goto (-57), 3) := by decide +kernel
theorem dX2_writeTo_70 : decode cX2_writeTo 70 = .ok (.return_, 1) := by decide +kernel
theorem dX3_init_0 : decode cX3_init 0 = .ok (.aload_n 0, 1) := by decide +kernel
theorem dX3_init_1 : decode cX3_init 1 = .ok (.invokespecial 3, 3) := by decide +kernel
theorem dX3_init_4 : decode cX3_init 4 = .ok (.aload_n 0, 1) := by decide +kernel
theorem dX3_init_5 : decode cX3_init 5 = .ok (.sipush 512, 3) := by decide +kernel
theorem dX3_init_8 : decode cX3_init 8 = .ok (.newarray .int, 2) := by decide +kernel
theorem dX3_init_10 : decode cX3_init 10 = .ok (.putfield 9, 3) := by decide +kernel
theorem dX3_init_13 : decode cX3_init 13 = .ok (.aload_n 0, 1) := by decide +kernel
theorem dX3_init_14 : decode cX3_init 14 = .ok (.iconst 0, 1) := by decide +kernel
theorem dX3_init_15 : decode cX3_init 15 = .ok (.putfield 15, 3) := by decide +kernel
theorem dX3_init_18 : decode cX3_init 18 = .ok (.return_, 1) := by decide +kernel
theorem dX3_count_0 : decode cX3_count 0 = .ok (.aload_n 0, 1) := by decide +kernel
theorem dX3_count_1 : decode cX3_count 1 = .ok (.getfield 15, 3) := by decide +kernel
theorem dX3_count_4 : decode cX3_count 4 = .ok (.ireturn, 1) := by decide +kernel
theorem dX3_markOf_0 : decode cX3_markOf 0 = .ok (.aload_n 0, 1) := by decide +kernel
theorem dX3_markOf_1 : decode cX3_markOf 1 = .ok (.getfield 9, 3) := by decide +kernel
theorem dX3_markOf_4 : decode cX3_markOf 4 = .ok (.iload_n 1, 1) := by decide +kernel
theorem dX3_markOf_5 : decode cX3_markOf 5 = .ok (.iaload, 1) := by decide +kernel
theorem dX3_markOf_6 : decode cX3_markOf 6 = .ok (.ireturn, 1) := by decide +kernel
theorem dX3_clear_0 : decode cX3_clear 0 = .ok (.aload_n 0, 1) := by decide +kernel
theorem dX3_clear_1 : decode cX3_clear 1 = .ok (.getfield 9, 3) := by decide +kernel
theorem dX3_clear_4 : decode cX3_clear 4 = .ok (.iconst 0, 1) := by decide +kernel
theorem dX3_clear_5 : decode cX3_clear 5 = .ok (.invokestatic 19, 3) := by decide +kernel
theorem dX3_clear_8 : decode cX3_clear 8 = .ok (.aload_n 0, 1) := by decide +kernel
theorem dX3_clear_9 : decode cX3_clear 9 = .ok (.iconst 0, 1) := by decide +kernel
theorem dX3_clear_10 : decode cX3_clear 10 = .ok (.putfield 15, 3) := by decide +kernel
theorem dX3_clear_13 : decode cX3_clear 13 = .ok (.return_, 1) := by decide +kernel
theorem dX3_take_0 : decode cX3_take 0 = .ok (.aload_n 0, 1) := by decide +kernel
theorem dX3_take_1 : decode cX3_take 1 = .ok (.getfield 9, 3) := by decide +kernel
theorem dX3_take_4 : decode cX3_take 4 = .ok (.iload_n 1, 1) := by decide +kernel
theorem dX3_take_5 : decode cX3_take 5 = .ok (.iaload, 1) := by decide +kernel
theorem dX3_take_6 : decode cX3_take 6 = .ok (.ifCond .ne 7, 3) := by decide +kernel
theorem dX3_take_9 : decode cX3_take 9 = .ok (.iconst 1, 1) := by decide +kernel
theorem dX3_take_10 : decode cX3_take 10 = .ok (.goto 4, 3) := by decide +kernel
theorem dX3_take_13 : decode cX3_take 13 = .ok (.iconst 0, 1) := by decide +kernel
theorem dX3_take_14 : decode cX3_take 14 = .ok (.istore_n 3, 1) := by decide +kernel
theorem dX3_take_15 : decode cX3_take 15 = .ok (.aload_n 0, 1) := by decide +kernel
theorem dX3_take_16 : decode cX3_take 16 = .ok (.getfield 9, 3) := by decide +kernel
theorem dX3_take_19 : decode cX3_take 19 = .ok (.iload_n 1, 1) := by decide +kernel
theorem dX3_take_20 : decode cX3_take 20 = .ok (.iload_n 2, 1) := by decide +kernel
theorem dX3_take_21 : decode cX3_take 21 = .ok (.iastore, 1) := by decide +kernel
theorem dX3_take_22 : decode cX3_take 22 = .ok (.iload_n 3, 1) := by decide +kernel
theorem dX3_take_23 : decode cX3_take 23 = .ok (.ifCond .eq 13, 3) := by decide +kernel
theorem dX3_take_26 : decode cX3_take 26 = .ok (.aload_n 0, 1) := by decide +kernel
theorem dX3_take_27 : decode cX3_take 27 = .ok (.dup, 1) := by decide +kernel
theorem dX3_take_28 : decode cX3_take 28 = .ok (.getfield 15, 3) := by decide +kernel
theorem dX3_take_31 : decode cX3_take 31 = .ok (.iconst 1, 1) := by decide +kernel
theorem dX3_take_32 : decode cX3_take 32 = .ok (.iadd, 1) := by decide +kernel
theorem dX3_take_33 : decode cX3_take 33 = .ok (.putfield 15, 3) := by decide +kernel
theorem dX3_take_36 : decode cX3_take 36 = .ok (.iload_n 3, 1) := by decide +kernel
theorem dX3_take_37 : decode cX3_take 37 = .ok (.ireturn, 1) := by decide +kernel
theorem dX3_contradicts_0 : decode cX3_contradicts 0 = .ok (.iconst 1, 1) := by decide +kernel
theorem dX3_contradicts_1 : decode cX3_contradicts 1 = .ok (.istore_n 2, 1) := by decide +kernel
theorem dX3_contradicts_2 : decode cX3_contradicts 2 = .ok (.iload_n 2, 1) := by decide +kernel
theorem dX3_contradicts_3 : decode cX3_contradicts 3 = .ok (.sipush 512, 3) := by decide +kernel
theorem dX3_contradicts_6 : decode cX3_contradicts 6 = .ok (.if_icmp .ge 24, 3) := by decide +kernel
theorem dX3_contradicts_9 : decode cX3_contradicts 9 = .ok (.aload_n 1, 1) := by decide +kernel
theorem dX3_contradicts_10 : decode cX3_contradicts 10 = .ok (.iload_n 2, 1) := by decide +kernel
theorem dX3_contradicts_11 : decode cX3_contradicts 11 = .ok (.iaload, 1) := by decide +kernel
theorem dX3_contradicts_12 : decode cX3_contradicts 12 = .ok (.aload_n 0, 1) := by decide +kernel
theorem dX3_contradicts_13 : decode cX3_contradicts 13 = .ok (.getfield 9, 3) := by decide +kernel
theorem dX3_contradicts_16 : decode cX3_contradicts 16 = .ok (.iload_n 2, 1) := by decide +kernel
theorem dX3_contradicts_17 : decode cX3_contradicts 17 = .ok (.iaload, 1) := by decide +kernel
theorem dX3_contradicts_18 : decode cX3_contradicts 18 = .ok (.imul, 1) := by decide +kernel
theorem dX3_contradicts_19 : decode cX3_contradicts 19 = .ok (.ifCond .ge 5, 3) := by decide +kernel
theorem dX3_contradicts_22 : decode cX3_contradicts 22 = .ok (.iconst 1, 1) := by decide +kernel
theorem dX3_contradicts_23 : decode cX3_contradicts 23 = .ok (.ireturn, 1) := by decide +kernel
theorem dX3_contradicts_24 : decode cX3_contradicts 24 = .ok (.iinc 2 1, 3) := by decide +kernel
theorem dX3_contradicts_27 : decode cX3_contradicts 27 = .ok (.goto (-25), 3) := by decide +kernel
theorem dX3_contradicts_30 : decode cX3_contradicts 30 = .ok (.iconst 0, 1) := by decide +kernel
theorem dX3_contradicts_31 : decode cX3_contradicts 31 = .ok (.ireturn, 1) := by decide +kernel
theorem dX3_takeAll_0 : decode cX3_takeAll 0 = .ok (.aload_n 0, 1) := by decide +kernel
theorem dX3_takeAll_1 : decode cX3_takeAll 1 = .ok (.getfield 15, 3) := by decide +kernel
theorem dX3_takeAll_4 : decode cX3_takeAll 4 = .ok (.istore_n 2, 1) := by decide +kernel
theorem dX3_takeAll_5 : decode cX3_takeAll 5 = .ok (.iconst 1, 1) := by decide +kernel
theorem dX3_takeAll_6 : decode cX3_takeAll 6 = .ok (.istore_n 3, 1) := by decide +kernel
theorem dX3_takeAll_7 : decode cX3_takeAll 7 = .ok (.iload_n 3, 1) := by decide +kernel
theorem dX3_takeAll_8 : decode cX3_takeAll 8 = .ok (.sipush 512, 3) := by decide +kernel
theorem dX3_takeAll_11 : decode cX3_takeAll 11 = .ok (.if_icmp .ge 24, 3) := by decide +kernel
theorem dX3_takeAll_14 : decode cX3_takeAll 14 = .ok (.aload_n 1, 1) := by decide +kernel
theorem dX3_takeAll_15 : decode cX3_takeAll 15 = .ok (.iload_n 3, 1) := by decide +kernel
theorem dX3_takeAll_16 : decode cX3_takeAll 16 = .ok (.iaload, 1) := by decide +kernel
theorem dX3_takeAll_17 : decode cX3_takeAll 17 = .ok (.ifCond .eq 12, 3) := by decide +kernel
theorem dX3_takeAll_20 : decode cX3_takeAll 20 = .ok (.aload_n 0, 1) := by decide +kernel
theorem dX3_takeAll_21 : decode cX3_takeAll 21 = .ok (.iload_n 3, 1) := by decide +kernel
theorem dX3_takeAll_22 : decode cX3_takeAll 22 = .ok (.aload_n 1, 1) := by decide +kernel
theorem dX3_takeAll_23 : decode cX3_takeAll 23 = .ok (.iload_n 3, 1) := by decide +kernel
theorem dX3_takeAll_24 : decode cX3_takeAll 24 = .ok (.iaload, 1) := by decide +kernel
theorem dX3_takeAll_25 : decode cX3_takeAll 25 = .ok (.invokevirtual 25, 3) := by decide +kernel
theorem dX3_takeAll_28 : decode cX3_takeAll 28 = .ok (.pop, 1) := by decide +kernel
theorem dX3_takeAll_29 : decode cX3_takeAll 29 = .ok (.iinc 3 1, 3) := by decide +kernel
theorem dX3_takeAll_32 : decode cX3_takeAll 32 = .ok (.goto (-25), 3) := by decide +kernel
theorem dX3_takeAll_35 : decode cX3_takeAll 35 = .ok (.aload_n 0, 1) := by decide +kernel
theorem dX3_takeAll_36 : decode cX3_takeAll 36 = .ok (.getfield 15, 3) := by decide +kernel
theorem dX3_takeAll_39 : decode cX3_takeAll 39 = .ok (.iload_n 2, 1) := by decide +kernel
theorem dX3_takeAll_40 : decode cX3_takeAll 40 = .ok (.isub, 1) := by decide +kernel
theorem dX3_takeAll_41 : decode cX3_takeAll 41 = .ok (.ireturn, 1) := by decide +kernel
theorem dX4_init_0 : decode cX4_init 0 = .ok (.aload_n 0, 1) := by decide +kernel
theorem dX4_init_1 : decode cX4_init 1 = .ok (.invokespecial 3, 3) := by decide +kernel
theorem dX4_init_4 : decode cX4_init 4 = .ok (.aload_n 0, 1) := by decide +kernel
theorem dX4_init_5 : decode cX4_init 5 = .ok (.new 9, 3) := by decide +kernel
theorem dX4_init_8 : decode cX4_init 8 = .ok (.dup, 1) := by decide +kernel
theorem dX4_init_9 : decode cX4_init 9 = .ok (.invokespecial 11, 3) := by decide +kernel
theorem dX4_init_12 : decode cX4_init 12 = .ok (.putfield 12, 3) := by decide +kernel
theorem dX4_init_15 : decode cX4_init 15 = .ok (.aload_n 0, 1) := by decide +kernel
theorem dX4_init_16 : decode cX4_init 16 = .ok (.new 16, 3) := by decide +kernel
theorem dX4_init_19 : decode cX4_init 19 = .ok (.dup, 1) := by decide +kernel
theorem dX4_init_20 : decode cX4_init 20 = .ok (.invokespecial 18, 3) := by decide +kernel
theorem dX4_init_23 : decode cX4_init 23 = .ok (.putfield 19, 3) := by decide +kernel
theorem dX4_init_26 : decode cX4_init 26 = .ok (.aload_n 0, 1) := by decide +kernel
theorem dX4_init_27 : decode cX4_init 27 = .ok (.new 23, 3) := by decide +kernel
theorem dX4_init_30 : decode cX4_init 30 = .ok (.dup, 1) := by decide +kernel
theorem dX4_init_31 : decode cX4_init 31 = .ok (.sipush 512, 3) := by decide +kernel
theorem dX4_init_34 : decode cX4_init 34 = .ok (.invokespecial 25, 3) := by decide +kernel
theorem dX4_init_37 : decode cX4_init 37 = .ok (.putfield 28, 3) := by decide +kernel
theorem dX4_init_40 : decode cX4_init 40 = .ok (.aload_n 0, 1) := by decide +kernel
theorem dX4_init_41 : decode cX4_init 41 = .ok (.new 32, 3) := by decide +kernel
theorem dX4_init_44 : decode cX4_init 44 = .ok (.dup, 1) := by decide +kernel
theorem dX4_init_45 : decode cX4_init 45 = .ok (.invokespecial 34, 3) := by decide +kernel
theorem dX4_init_48 : decode cX4_init 48 = .ok (.putfield 35, 3) := by decide +kernel
theorem dX4_init_51 : decode cX4_init 51 = .ok (.return_, 1) := by decide +kernel
theorem dX4_teach_0 : decode cX4_teach 0 = .ok (.iload_n 1, 1) := by decide +kernel
theorem dX4_teach_1 : decode cX4_teach 1 = .ok (.iload_n 2, 1) := by decide +kernel
theorem dX4_teach_2 : decode cX4_teach 2 = .ok (.invokestatic 39, 3) := by decide +kernel
theorem dX4_teach_5 : decode cX4_teach 5 = .ok (.istore 4, 2) := by decide +kernel
theorem dX4_teach_7 : decode cX4_teach 7 = .ok (.iload_n 3, 1) := by decide +kernel
theorem dX4_teach_8 : decode cX4_teach 8 = .ok (.ifCond .eq 7, 3) := by decide +kernel
theorem dX4_teach_11 : decode cX4_teach 11 = .ok (.iconst 1, 1) := by decide +kernel
theorem dX4_teach_12 : decode cX4_teach 12 = .ok (.goto 4, 3) := by decide +kernel
theorem dX4_teach_15 : decode cX4_teach 15 = .ok (.iconst (-1), 1) := by decide +kernel
theorem dX4_teach_16 : decode cX4_teach 16 = .ok (.istore 5, 2) := by decide +kernel
theorem dX4_teach_18 : decode cX4_teach 18 = .ok (.aload_n 0, 1) := by decide +kernel
theorem dX4_teach_19 : decode cX4_teach 19 = .ok (.getfield 12, 3) := by decide +kernel
theorem dX4_teach_22 : decode cX4_teach 22 = .ok (.iload 4, 2) := by decide +kernel
theorem dX4_teach_24 : decode cX4_teach 24 = .ok (.invokevirtual 43, 3) := by decide +kernel
theorem dX4_teach_27 : decode cX4_teach 27 = .ok (.iload 5, 2) := by decide +kernel
theorem dX4_teach_29 : decode cX4_teach 29 = .ok (.ineg, 1) := by decide +kernel
theorem dX4_teach_30 : decode cX4_teach 30 = .ok (.if_icmp .ne 13, 3) := by decide +kernel
theorem dX4_teach_33 : decode cX4_teach 33 = .ok (.new 47, 3) := by decide +kernel
theorem dX4_teach_36 : decode cX4_teach 36 = .ok (.dup, 1) := by decide +kernel
theorem dX4_teach_37 : decode cX4_teach 37 = .ok (.ldc 49, 2) := by decide +kernel
theorem dX4_teach_39 : decode cX4_teach 39 = .ok (.invokespecial 51, 3) := by decide +kernel
theorem dX4_teach_42 : decode cX4_teach 42 = .ok (.athrow, 1) := by decide +kernel
theorem dX4_teach_43 : decode cX4_teach 43 = .ok (.aload_n 0, 1) := by decide +kernel
theorem dX4_teach_44 : decode cX4_teach 44 = .ok (.getfield 12, 3) := by decide +kernel
theorem dX4_teach_47 : decode cX4_teach 47 = .ok (.iload 4, 2) := by decide +kernel
theorem dX4_teach_49 : decode cX4_teach 49 = .ok (.iload 5, 2) := by decide +kernel
theorem dX4_teach_51 : decode cX4_teach 51 = .ok (.invokevirtual 54, 3) := by decide +kernel
theorem dX4_teach_54 : decode cX4_teach 54 = .ok (.ireturn, 1) := by decide +kernel
theorem dX4_told_0 : decode cX4_told 0 = .ok (.aload_n 0, 1) := by decide +kernel
theorem dX4_told_1 : decode cX4_told 1 = .ok (.getfield 12, 3) := by decide +kernel
theorem dX4_told_4 : decode cX4_told 4 = .ok (.iload_n 1, 1) := by decide +kernel
theorem dX4_told_5 : decode cX4_told 5 = .ok (.iload_n 2, 1) := by decide +kernel
theorem dX4_told_6 : decode cX4_told 6 = .ok (.invokestatic 39, 3) := by decide +kernel
theorem dX4_told_9 : decode cX4_told 9 = .ok (.invokevirtual 43, 3) := by decide +kernel
theorem dX4_told_12 : decode cX4_told 12 = .ok (.ireturn, 1) := by decide +kernel
theorem dX4_size_0 : decode cX4_size 0 = .ok (.aload_n 0, 1) := by decide +kernel
theorem dX4_size_1 : decode cX4_size 1 = .ok (.getfield 12, 3) := by decide +kernel
theorem dX4_size_4 : decode cX4_size 4 = .ok (.invokevirtual 58, 3) := by decide +kernel
theorem dX4_size_7 : decode cX4_size 7 = .ok (.ireturn, 1) := by decide +kernel
theorem dX4_forget_0 : decode cX4_forget 0 = .ok (.aload_n 0, 1) := by decide +kernel
theorem dX4_forget_1 : decode cX4_forget 1 = .ok (.getfield 12, 3) := by decide +kernel
theorem dX4_forget_4 : decode cX4_forget 4 = .ok (.invokevirtual 62, 3) := by decide +kernel
theorem dX4_forget_7 : decode cX4_forget 7 = .ok (.return_, 1) := by decide +kernel
theorem dX4_learn_0 : decode cX4_learn 0 = .ok (.aload_n 0, 1) := by decide +kernel
theorem dX4_learn_1 : decode cX4_learn 1 = .ok (.getfield 19, 3) := by decide +kernel
theorem dX4_learn_4 : decode cX4_learn 4 = .ok (.aload_n 0, 1) := by decide +kernel
theorem dX4_learn_5 : decode cX4_learn 5 = .ok (.getfield 12, 3) := by decide +kernel
theorem dX4_learn_8 : decode cX4_learn 8 = .ok (.aload_n 0, 1) := by decide +kernel
theorem dX4_learn_9 : decode cX4_learn 9 = .ok (.getfield 28, 3) := by decide +kernel
theorem dX4_learn_12 : decode cX4_learn 12 = .ok (.invokevirtual 65, 3) := by decide +kernel
theorem dX4_learn_15 : decode cX4_learn 15 = .ok (.aload_n 0, 1) := by decide +kernel
theorem dX4_learn_16 : decode cX4_learn 16 = .ok (.getfield 28, 3) := by decide +kernel
theorem dX4_learn_19 : decode cX4_learn 19 = .ok (.invokevirtual 69, 3) := by decide +kernel
theorem dX4_learn_22 : decode cX4_learn 22 = .ok (.ireturn, 1) := by decide +kernel
theorem dX4_states_0 : decode cX4_states 0 = .ok (.aload_n 0, 1) := by decide +kernel
theorem dX4_states_1 : decode cX4_states 1 = .ok (.getfield 28, 3) := by decide +kernel
theorem dX4_states_4 : decode cX4_states 4 = .ok (.invokevirtual 69, 3) := by decide +kernel
theorem dX4_states_7 : decode cX4_states 7 = .ok (.ireturn, 1) := by decide +kernel
theorem dX4_next_0 : decode cX4_next 0 = .ok (.aload_n 0, 1) := by decide +kernel
theorem dX4_next_1 : decode cX4_next 1 = .ok (.getfield 28, 3) := by decide +kernel
theorem dX4_next_4 : decode cX4_next 4 = .ok (.iload_n 1, 1) := by decide +kernel
theorem dX4_next_5 : decode cX4_next 5 = .ok (.invokestatic 70, 3) := by decide +kernel
theorem dX4_next_8 : decode cX4_next 8 = .ok (.iload_n 2, 1) := by decide +kernel
theorem dX4_next_9 : decode cX4_next 9 = .ok (.ifCond .lt 8, 3) := by decide +kernel
theorem dX4_next_12 : decode cX4_next 12 = .ok (.iload_n 2, 1) := by decide +kernel
theorem dX4_next_13 : decode cX4_next 13 = .ok (.iconst 2, 1) := by decide +kernel
theorem dX4_next_14 : decode cX4_next 14 = .ok (.if_icmp .lt 13, 3) := by decide +kernel
theorem dX4_next_17 : decode cX4_next 17 = .ok (.new 74, 3) := by decide +kernel
theorem dX4_next_20 : decode cX4_next 20 = .ok (.dup, 1) := by decide +kernel
theorem dX4_next_21 : decode cX4_next 21 = .ok (.ldc 76, 2) := by decide +kernel
theorem dX4_next_23 : decode cX4_next 23 = .ok (.invokespecial 78, 3) := by decide +kernel
theorem dX4_next_26 : decode cX4_next 26 = .ok (.athrow, 1) := by decide +kernel
theorem dX4_next_27 : decode cX4_next 27 = .ok (.aload_n 0, 1) := by decide +kernel
theorem dX4_next_28 : decode cX4_next 28 = .ok (.getfield 28, 3) := by decide +kernel
theorem dX4_next_31 : decode cX4_next 31 = .ok (.iload_n 1, 1) := by decide +kernel
theorem dX4_next_32 : decode cX4_next 32 = .ok (.iload_n 2, 1) := by decide +kernel
theorem dX4_next_33 : decode cX4_next 33 = .ok (.invokevirtual 79, 3) := by decide +kernel
theorem dX4_next_36 : decode cX4_next 36 = .ok (.ireturn, 1) := by decide +kernel
theorem dX4_sign_0 : decode cX4_sign 0 = .ok (.aload_n 0, 1) := by decide +kernel
theorem dX4_sign_1 : decode cX4_sign 1 = .ok (.getfield 28, 3) := by decide +kernel
theorem dX4_sign_4 : decode cX4_sign 4 = .ok (.iload_n 1, 1) := by decide +kernel
theorem dX4_sign_5 : decode cX4_sign 5 = .ok (.invokestatic 70, 3) := by decide +kernel
theorem dX4_sign_8 : decode cX4_sign 8 = .ok (.aload_n 0, 1) := by decide +kernel
theorem dX4_sign_9 : decode cX4_sign 9 = .ok (.getfield 28, 3) := by decide +kernel
theorem dX4_sign_12 : decode cX4_sign 12 = .ok (.iload_n 1, 1) := by decide +kernel
theorem dX4_sign_13 : decode cX4_sign 13 = .ok (.invokevirtual 82, 3) := by decide +kernel
theorem dX4_sign_16 : decode cX4_sign 16 = .ok (.ireturn, 1) := by decide +kernel
theorem dX4_accepts_0 : decode cX4_accepts 0 = .ok (.iload_n 1, 1) := by decide +kernel
theorem dX4_accepts_1 : decode cX4_accepts 1 = .ok (.iload_n 2, 1) := by decide +kernel
theorem dX4_accepts_2 : decode cX4_accepts 2 = .ok (.invokestatic 39, 3) := by decide +kernel
theorem dX4_accepts_5 : decode cX4_accepts 5 = .ok (.istore_n 3, 1) := by decide +kernel
theorem dX4_accepts_6 : decode cX4_accepts 6 = .ok (.aload_n 0, 1) := by decide +kernel
theorem dX4_accepts_7 : decode cX4_accepts 7 = .ok (.invokevirtual 83, 3) := by decide +kernel
theorem dX4_accepts_10 : decode cX4_accepts 10 = .ok (.aload_n 0, 1) := by decide +kernel
theorem dX4_accepts_11 : decode cX4_accepts 11 = .ok (.getfield 28, 3) := by decide +kernel
theorem dX4_accepts_14 : decode cX4_accepts 14 = .ok (.iconst 0, 1) := by decide +kernel
theorem dX4_accepts_15 : decode cX4_accepts 15 = .ok (.iload_n 3, 1) := by decide +kernel
theorem dX4_accepts_16 : decode cX4_accepts 16 = .ok (.invokevirtual 86, 3) := by decide +kernel
theorem dX4_accepts_19 : decode cX4_accepts 19 = .ok (.istore 4, 2) := by decide +kernel
theorem dX4_accepts_21 : decode cX4_accepts 21 = .ok (.iload 4, 2) := by decide +kernel
theorem dX4_accepts_23 : decode cX4_accepts 23 = .ok (.iconst (-1), 1) := by decide +kernel
theorem dX4_accepts_24 : decode cX4_accepts 24 = .ok (.if_icmp .eq 20, 3) := by decide +kernel
theorem dX4_accepts_27 : decode cX4_accepts 27 = .ok (.aload_n 0, 1) := by decide +kernel
theorem dX4_accepts_28 : decode cX4_accepts 28 = .ok (.getfield 28, 3) := by decide +kernel
theorem dX4_accepts_31 : decode cX4_accepts 31 = .ok (.iload 4, 2) := by decide +kernel
theorem dX4_accepts_33 : decode cX4_accepts 33 = .ok (.invokevirtual 82, 3) := by decide +kernel
theorem dX4_accepts_36 : decode cX4_accepts 36 = .ok (.iconst 1, 1) := by decide +kernel
theorem dX4_accepts_37 : decode cX4_accepts 37 = .ok (.if_icmp .ne 7, 3) := by decide +kernel
theorem dX4_accepts_40 : decode cX4_accepts 40 = .ok (.iconst 1, 1) := by decide +kernel
theorem dX4_accepts_41 : decode cX4_accepts 41 = .ok (.goto 4, 3) := by decide +kernel
theorem dX4_accepts_44 : decode cX4_accepts 44 = .ok (.iconst 0, 1) := by decide +kernel
theorem dX4_accepts_45 : decode cX4_accepts 45 = .ok (.ireturn, 1) := by decide +kernel
theorem dX4_draft_0 : decode cX4_draft 0 = .ok (.iload_n 1, 1) := by decide +kernel
theorem dX4_draft_1 : decode cX4_draft 1 = .ok (.iconst 1, 1) := by decide +kernel
theorem dX4_draft_2 : decode cX4_draft 2 = .ok (.if_icmp .lt 8, 3) := by decide +kernel
theorem dX4_draft_5 : decode cX4_draft 5 = .ok (.iload_n 1, 1) := by decide +kernel
theorem dX4_draft_6 : decode cX4_draft 6 = .ok (.iconst 5, 1) := by decide +kernel
theorem dX4_draft_7 : decode cX4_draft 7 = .ok (.if_icmp .le 13, 3) := by decide +kernel
theorem dX4_draft_10 : decode cX4_draft 10 = .ok (.new 89, 3) := by decide +kernel
theorem dX4_draft_13 : decode cX4_draft 13 = .ok (.dup, 1) := by decide +kernel
theorem dX4_draft_14 : decode cX4_draft 14 = .ok (.ldc 91, 2) := by decide +kernel
theorem dX4_draft_16 : decode cX4_draft 16 = .ok (.invokespecial 93, 3) := by decide +kernel
theorem dX4_draft_19 : decode cX4_draft 19 = .ok (.athrow, 1) := by decide +kernel
theorem dX4_draft_20 : decode cX4_draft 20 = .ok (.aload_n 0, 1) := by decide +kernel
theorem dX4_draft_21 : decode cX4_draft 21 = .ok (.getfield 35, 3) := by decide +kernel
theorem dX4_draft_24 : decode cX4_draft 24 = .ok (.iload_n 1, 1) := by decide +kernel
theorem dX4_draft_25 : decode cX4_draft 25 = .ok (.invokevirtual 94, 3) := by decide +kernel
theorem dX4_draft_28 : decode cX4_draft 28 = .ok (.return_, 1) := by decide +kernel
theorem dX4_define_0 : decode cX4_define 0 = .ok (.aload_n 0, 1) := by decide +kernel
theorem dX4_define_1 : decode cX4_define 1 = .ok (.invokevirtual 97, 3) := by decide +kernel
theorem dX4_define_4 : decode cX4_define 4 = .ok (.aload_n 0, 1) := by decide +kernel
theorem dX4_define_5 : decode cX4_define 5 = .ok (.getfield 35, 3) := by decide +kernel
theorem dX4_define_8 : decode cX4_define 8 = .ok (.invokevirtual 100, 3) := by decide +kernel
theorem dX4_define_11 : decode cX4_define 11 = .ok (.iload_n 1, 1) := by decide +kernel
theorem dX4_define_12 : decode cX4_define 12 = .ok (.invokestatic 70, 3) := by decide +kernel
theorem dX4_define_15 : decode cX4_define 15 = .ok (.aload_n 0, 1) := by decide +kernel
theorem dX4_define_16 : decode cX4_define 16 = .ok (.getfield 35, 3) := by decide +kernel
theorem dX4_define_19 : decode cX4_define 19 = .ok (.invokevirtual 100, 3) := by decide +kernel
theorem dX4_define_22 : decode cX4_define 22 = .ok (.iload_n 3, 1) := by decide +kernel
theorem dX4_define_23 : decode cX4_define 23 = .ok (.invokestatic 70, 3) := by decide +kernel
theorem dX4_define_26 : decode cX4_define 26 = .ok (.aload_n 0, 1) := by decide +kernel
theorem dX4_define_27 : decode cX4_define 27 = .ok (.getfield 35, 3) := by decide +kernel
theorem dX4_define_30 : decode cX4_define 30 = .ok (.invokevirtual 100, 3) := by decide +kernel
theorem dX4_define_33 : decode cX4_define 33 = .ok (.iload 4, 2) := by decide +kernel
theorem dX4_define_35 : decode cX4_define 35 = .ok (.invokestatic 70, 3) := by decide +kernel
theorem dX4_define_38 : decode cX4_define 38 = .ok (.aload_n 0, 1) := by decide +kernel
theorem dX4_define_39 : decode cX4_define 39 = .ok (.getfield 35, 3) := by decide +kernel
theorem dX4_define_42 : decode cX4_define 42 = .ok (.iload_n 1, 1) := by decide +kernel
theorem dX4_define_43 : decode cX4_define 43 = .ok (.iload_n 2, 1) := by decide +kernel
theorem dX4_define_44 : decode cX4_define 44 = .ok (.ifCond .eq 7, 3) := by decide +kernel
theorem dX4_define_47 : decode cX4_define 47 = .ok (.iconst 1, 1) := by decide +kernel
theorem dX4_define_48 : decode cX4_define 48 = .ok (.goto 4, 3) := by decide +kernel
theorem dX4_define_51 : decode cX4_define 51 = .ok (.iconst (-1), 1) := by decide +kernel
theorem dX4_define_52 : decode cX4_define 52 = .ok (.iload_n 3, 1) := by decide +kernel
theorem dX4_define_53 : decode cX4_define 53 = .ok (.iload 4, 2) := by decide +kernel
theorem dX4_define_55 : decode cX4_define 55 = .ok (.invokevirtual 104, 3) := by decide +kernel
theorem dX4_define_58 : decode cX4_define 58 = .ok (.return_, 1) := by decide +kernel
theorem dX4_least_0 : decode cX4_least 0 = .ok (.aload_n 0, 1) := by decide +kernel
theorem dX4_least_1 : decode cX4_least 1 = .ok (.invokevirtual 97, 3) := by decide +kernel
theorem dX4_least_4 : decode cX4_least 4 = .ok (.aload_n 0, 1) := by decide +kernel
theorem dX4_least_5 : decode cX4_least 5 = .ok (.getfield 35, 3) := by decide +kernel
theorem dX4_least_8 : decode cX4_least 8 = .ok (.invokevirtual 108, 3) := by decide +kernel
theorem dX4_least_11 : decode cX4_least 11 = .ok (.invokevirtual 69, 3) := by decide +kernel
theorem dX4_least_14 : decode cX4_least 14 = .ok (.ireturn, 1) := by decide +kernel
theorem dX4_name_0 : decode cX4_name 0 = .ok (.aload_n 0, 1) := by decide +kernel
theorem dX4_name_1 : decode cX4_name 1 = .ok (.invokevirtual 97, 3) := by decide +kernel
theorem dX4_name_4 : decode cX4_name 4 = .ok (.aload_n 0, 1) := by decide +kernel
theorem dX4_name_5 : decode cX4_name 5 = .ok (.getfield 35, 3) := by decide +kernel
theorem dX4_name_8 : decode cX4_name 8 = .ok (.invokevirtual 108, 3) := by decide +kernel
theorem dX4_name_11 : decode cX4_name 11 = .ok (.iload_n 1, 1) := by decide +kernel
theorem dX4_name_12 : decode cX4_name 12 = .ok (.invokestatic 70, 3) := by decide +kernel
theorem dX4_name_15 : decode cX4_name 15 = .ok (.aload_n 0, 1) := by decide +kernel
theorem dX4_name_16 : decode cX4_name 16 = .ok (.getfield 35, 3) := by decide +kernel
theorem dX4_name_19 : decode cX4_name 19 = .ok (.iload_n 1, 1) := by decide +kernel
theorem dX4_name_20 : decode cX4_name 20 = .ok (.invokevirtual 111, 3) := by decide +kernel
theorem dX4_name_23 : decode cX4_name 23 = .ok (.invokestatic 114, 3) := by decide +kernel
theorem dX4_name_26 : decode cX4_name 26 = .ok (.ireturn, 1) := by decide +kernel
theorem dX4_apart_0 : decode cX4_apart 0 = .ok (.aload_n 0, 1) := by decide +kernel
theorem dX4_apart_1 : decode cX4_apart 1 = .ok (.invokevirtual 97, 3) := by decide +kernel
theorem dX4_apart_4 : decode cX4_apart 4 = .ok (.aload_n 0, 1) := by decide +kernel
theorem dX4_apart_5 : decode cX4_apart 5 = .ok (.getfield 35, 3) := by decide +kernel
theorem dX4_apart_8 : decode cX4_apart 8 = .ok (.invokevirtual 108, 3) := by decide +kernel
theorem dX4_apart_11 : decode cX4_apart 11 = .ok (.iload_n 1, 1) := by decide +kernel
theorem dX4_apart_12 : decode cX4_apart 12 = .ok (.invokestatic 70, 3) := by decide +kernel
theorem dX4_apart_15 : decode cX4_apart 15 = .ok (.aload_n 0, 1) := by decide +kernel
theorem dX4_apart_16 : decode cX4_apart 16 = .ok (.getfield 35, 3) := by decide +kernel
theorem dX4_apart_19 : decode cX4_apart 19 = .ok (.invokevirtual 108, 3) := by decide +kernel
theorem dX4_apart_22 : decode cX4_apart 22 = .ok (.iload_n 2, 1) := by decide +kernel
theorem dX4_apart_23 : decode cX4_apart 23 = .ok (.invokestatic 70, 3) := by decide +kernel
theorem dX4_apart_26 : decode cX4_apart 26 = .ok (.iload_n 1, 1) := by decide +kernel
theorem dX4_apart_27 : decode cX4_apart 27 = .ok (.iload_n 2, 1) := by decide +kernel
theorem dX4_apart_28 : decode cX4_apart 28 = .ok (.if_icmp .ne 7, 3) := by decide +kernel
theorem dX4_apart_31 : decode cX4_apart 31 = .ok (.iconst (-1), 1) := by decide +kernel
theorem dX4_apart_32 : decode cX4_apart 32 = .ok (.goto 15, 3) := by decide +kernel
theorem dX4_apart_35 : decode cX4_apart 35 = .ok (.aload_n 0, 1) := by decide +kernel
theorem dX4_apart_36 : decode cX4_apart 36 = .ok (.getfield 35, 3) := by decide +kernel
theorem dX4_apart_39 : decode cX4_apart 39 = .ok (.iload_n 1, 1) := by decide +kernel
theorem dX4_apart_40 : decode cX4_apart 40 = .ok (.iload_n 2, 1) := by decide +kernel
theorem dX4_apart_41 : decode cX4_apart 41 = .ok (.invokevirtual 117, 3) := by decide +kernel
theorem dX4_apart_44 : decode cX4_apart 44 = .ok (.invokestatic 114, 3) := by decide +kernel
theorem dX4_apart_47 : decode cX4_apart 47 = .ok (.ireturn, 1) := by decide +kernel
theorem dX4_exemplify_0 : decode cX4_exemplify 0 = .ok (.aload_n 0, 1) := by decide +kernel
theorem dX4_exemplify_1 : decode cX4_exemplify 1 = .ok (.invokevirtual 97, 3) := by decide +kernel
theorem dX4_exemplify_4 : decode cX4_exemplify 4 = .ok (.aload_n 0, 1) := by decide +kernel
theorem dX4_exemplify_5 : decode cX4_exemplify 5 = .ok (.getfield 35, 3) := by decide +kernel
theorem dX4_exemplify_8 : decode cX4_exemplify 8 = .ok (.invokevirtual 120, 3) := by decide +kernel
theorem dX4_exemplify_11 : decode cX4_exemplify 11 = .ok (.astore_n 1, 1) := by decide +kernel
theorem dX4_exemplify_12 : decode cX4_exemplify 12 = .ok (.aload_n 0, 1) := by decide +kernel
theorem dX4_exemplify_13 : decode cX4_exemplify 13 = .ok (.getfield 12, 3) := by decide +kernel
theorem dX4_exemplify_16 : decode cX4_exemplify 16 = .ok (.aload_n 1, 1) := by decide +kernel
theorem dX4_exemplify_17 : decode cX4_exemplify 17 = .ok (.invokevirtual 124, 3) := by decide +kernel
theorem dX4_exemplify_20 : decode cX4_exemplify 20 = .ok (.ifCond .eq 13, 3) := by decide +kernel
theorem dX4_exemplify_23 : decode cX4_exemplify 23 = .ok (.new 89, 3) := by decide +kernel
theorem dX4_exemplify_26 : decode cX4_exemplify 26 = .ok (.dup, 1) := by decide +kernel
theorem dX4_exemplify_27 : decode cX4_exemplify 27 = .ok (.ldc 128, 2) := by decide +kernel
theorem dX4_exemplify_29 : decode cX4_exemplify 29 = .ok (.invokespecial 93, 3) := by decide +kernel
theorem dX4_exemplify_32 : decode cX4_exemplify 32 = .ok (.athrow, 1) := by decide +kernel
theorem dX4_exemplify_33 : decode cX4_exemplify 33 = .ok (.aload_n 0, 1) := by decide +kernel
theorem dX4_exemplify_34 : decode cX4_exemplify 34 = .ok (.getfield 12, 3) := by decide +kernel
theorem dX4_exemplify_37 : decode cX4_exemplify 37 = .ok (.aload_n 1, 1) := by decide +kernel
theorem dX4_exemplify_38 : decode cX4_exemplify 38 = .ok (.invokevirtual 130, 3) := by decide +kernel
theorem dX4_exemplify_41 : decode cX4_exemplify 41 = .ok (.ireturn, 1) := by decide +kernel
theorem dX4_same_0 : decode cX4_same 0 = .ok (.aload_n 0, 1) := by decide +kernel
theorem dX4_same_1 : decode cX4_same 1 = .ok (.invokevirtual 97, 3) := by decide +kernel
theorem dX4_same_4 : decode cX4_same 4 = .ok (.aload_n 0, 1) := by decide +kernel
theorem dX4_same_5 : decode cX4_same 5 = .ok (.invokevirtual 83, 3) := by decide +kernel
theorem dX4_same_8 : decode cX4_same 8 = .ok (.aload_n 0, 1) := by decide +kernel
theorem dX4_same_9 : decode cX4_same 9 = .ok (.getfield 28, 3) := by decide +kernel
theorem dX4_same_12 : decode cX4_same 12 = .ok (.aload_n 0, 1) := by decide +kernel
theorem dX4_same_13 : decode cX4_same 13 = .ok (.getfield 35, 3) := by decide +kernel
theorem dX4_same_16 : decode cX4_same 16 = .ok (.invokevirtual 108, 3) := by decide +kernel
theorem dX4_same_19 : decode cX4_same 19 = .ok (.invokevirtual 134, 3) := by decide +kernel
theorem dX4_same_22 : decode cX4_same 22 = .ok (.ireturn, 1) := by decide +kernel
theorem dX4_checkLearned_0 : decode cX4_checkLearned 0 = .ok (.aload_n 0, 1) := by decide +kernel
theorem dX4_checkLearned_1 : decode cX4_checkLearned 1 = .ok (.getfield 28, 3) := by decide +kernel
theorem dX4_checkLearned_4 : decode cX4_checkLearned 4 = .ok (.invokevirtual 69, 3) := by decide +kernel
theorem dX4_checkLearned_7 : decode cX4_checkLearned 7 = .ok (.ifCond .ne 13, 3) := by decide +kernel
theorem dX4_checkLearned_10 : decode cX4_checkLearned 10 = .ok (.new 47, 3) := by decide +kernel
theorem dX4_checkLearned_13 : decode cX4_checkLearned 13 = .ok (.dup, 1) := by decide +kernel
theorem dX4_checkLearned_14 : decode cX4_checkLearned 14 = .ok (.ldc 138, 2) := by decide +kernel
theorem dX4_checkLearned_16 : decode cX4_checkLearned 16 = .ok (.invokespecial 51, 3) := by decide +kernel
theorem dX4_checkLearned_19 : decode cX4_checkLearned 19 = .ok (.athrow, 1) := by decide +kernel
theorem dX4_checkLearned_20 : decode cX4_checkLearned 20 = .ok (.return_, 1) := by decide +kernel
theorem dX4_checkDrafted_0 : decode cX4_checkDrafted 0 = .ok (.aload_n 0, 1) := by decide +kernel
theorem dX4_checkDrafted_1 : decode cX4_checkDrafted 1 = .ok (.getfield 35, 3) := by decide +kernel
theorem dX4_checkDrafted_4 : decode cX4_checkDrafted 4 = .ok (.invokevirtual 100, 3) := by decide +kernel
theorem dX4_checkDrafted_7 : decode cX4_checkDrafted 7 = .ok (.invokevirtual 69, 3) := by decide +kernel
theorem dX4_checkDrafted_10 : decode cX4_checkDrafted 10 = .ok (.ifCond .ne 13, 3) := by decide +kernel
theorem dX4_checkDrafted_13 : decode cX4_checkDrafted 13 = .ok (.new 47, 3) := by decide +kernel
theorem dX4_checkDrafted_16 : decode cX4_checkDrafted 16 = .ok (.dup, 1) := by decide +kernel
theorem dX4_checkDrafted_17 : decode cX4_checkDrafted 17 = .ok (.ldc 140, 2) := by decide +kernel
theorem dX4_checkDrafted_19 : decode cX4_checkDrafted 19 = .ok (.invokespecial 51, 3) := by decide +kernel
theorem dX4_checkDrafted_22 : decode cX4_checkDrafted 22 = .ok (.athrow, 1) := by decide +kernel
theorem dX4_checkDrafted_23 : decode cX4_checkDrafted 23 = .ok (.return_, 1) := by decide +kernel
theorem dX4_checkState_0 : decode cX4_checkState 0 = .ok (.aload_n 0, 1) := by decide +kernel
theorem dX4_checkState_1 : decode cX4_checkState 1 = .ok (.iload_n 1, 1) := by decide +kernel
theorem dX4_checkState_2 : decode cX4_checkState 2 = .ok (.invokevirtual 142, 3) := by decide +kernel
theorem dX4_checkState_5 : decode cX4_checkState 5 = .ok (.ifCond .ne 13, 3) := by decide +kernel
theorem dX4_checkState_8 : decode cX4_checkState 8 = .ok (.new 74, 3) := by decide +kernel
theorem dX4_checkState_11 : decode cX4_checkState 11 = .ok (.dup, 1) := by decide +kernel
theorem dX4_checkState_12 : decode cX4_checkState 12 = .ok (.ldc 146, 2) := by decide +kernel
theorem dX4_checkState_14 : decode cX4_checkState 14 = .ok (.invokespecial 78, 3) := by decide +kernel
theorem dX4_checkState_17 : decode cX4_checkState 17 = .ok (.athrow, 1) := by decide +kernel
theorem dX4_checkState_18 : decode cX4_checkState 18 = .ok (.return_, 1) := by decide +kernel
theorem dX4_checkedWord_0 : decode cX4_checkedWord 0 = .ok (.iload_n 0, 1) := by decide +kernel
theorem dX4_checkedWord_1 : decode cX4_checkedWord 1 = .ok (.ifCond .lt 20, 3) := by decide +kernel
theorem dX4_checkedWord_4 : decode cX4_checkedWord 4 = .ok (.iload_n 0, 1) := by decide +kernel
theorem dX4_checkedWord_5 : decode cX4_checkedWord 5 = .ok (.bipush 8, 2) := by decide +kernel
theorem dX4_checkedWord_7 : decode cX4_checkedWord 7 = .ok (.if_icmp .gt 14, 3) := by decide +kernel
theorem dX4_checkedWord_10 : decode cX4_checkedWord 10 = .ok (.iload_n 1, 1) := by decide +kernel
theorem dX4_checkedWord_11 : decode cX4_checkedWord 11 = .ok (.ifCond .lt 10, 3) := by decide +kernel
theorem dX4_checkedWord_14 : decode cX4_checkedWord 14 = .ok (.iload_n 1, 1) := by decide +kernel
theorem dX4_checkedWord_15 : decode cX4_checkedWord 15 = .ok (.iconst 1, 1) := by decide +kernel
theorem dX4_checkedWord_16 : decode cX4_checkedWord 16 = .ok (.iload_n 0, 1) := by decide +kernel
theorem dX4_checkedWord_17 : decode cX4_checkedWord 17 = .ok (.ishl, 1) := by decide +kernel
theorem dX4_checkedWord_18 : decode cX4_checkedWord 18 = .ok (.if_icmp .lt 13, 3) := by decide +kernel
theorem dX4_checkedWord_21 : decode cX4_checkedWord 21 = .ok (.new 74, 3) := by decide +kernel
theorem dX4_checkedWord_24 : decode cX4_checkedWord 24 = .ok (.dup, 1) := by decide +kernel
theorem dX4_checkedWord_25 : decode cX4_checkedWord 25 = .ok (.ldc 148, 2) := by decide +kernel
theorem dX4_checkedWord_27 : decode cX4_checkedWord 27 = .ok (.invokespecial 78, 3) := by decide +kernel
theorem dX4_checkedWord_30 : decode cX4_checkedWord 30 = .ok (.athrow, 1) := by decide +kernel
theorem dX4_checkedWord_31 : decode cX4_checkedWord 31 = .ok (.iconst 1, 1) := by decide +kernel
theorem dX4_checkedWord_32 : decode cX4_checkedWord 32 = .ok (.iload_n 0, 1) := by decide +kernel
theorem dX4_checkedWord_33 : decode cX4_checkedWord 33 = .ok (.ishl, 1) := by decide +kernel
theorem dX4_checkedWord_34 : decode cX4_checkedWord 34 = .ok (.iload_n 1, 1) := by decide +kernel
theorem dX4_checkedWord_35 : decode cX4_checkedWord 35 = .ok (.iadd, 1) := by decide +kernel
theorem dX4_checkedWord_36 : decode cX4_checkedWord 36 = .ok (.ireturn, 1) := by decide +kernel
theorem dX4_lengthOf_0 : decode cX4_lengthOf 0 = .ok (.iconst 0, 1) := by decide +kernel
theorem dX4_lengthOf_1 : decode cX4_lengthOf 1 = .ok (.istore_n 1, 1) := by decide +kernel
theorem dX4_lengthOf_2 : decode cX4_lengthOf 2 = .ok (.iload_n 1, 1) := by decide +kernel
theorem dX4_lengthOf_3 : decode cX4_lengthOf 3 = .ok (.bipush 8, 2) := by decide +kernel
theorem dX4_lengthOf_5 : decode cX4_lengthOf 5 = .ok (.if_icmp .ge 17, 3) := by decide +kernel
theorem dX4_lengthOf_8 : decode cX4_lengthOf 8 = .ok (.iload_n 0, 1) := by decide +kernel
theorem dX4_lengthOf_9 : decode cX4_lengthOf 9 = .ok (.iload_n 1, 1) := by decide +kernel
theorem dX4_lengthOf_10 : decode cX4_lengthOf 10 = .ok (.iconst 1, 1) := by decide +kernel
theorem dX4_lengthOf_11 : decode cX4_lengthOf 11 = .ok (.iadd, 1) := by decide +kernel
theorem dX4_lengthOf_12 : decode cX4_lengthOf 12 = .ok (.ishr, 1) := by decide +kernel
theorem dX4_lengthOf_13 : decode cX4_lengthOf 13 = .ok (.ifCond .eq 9, 3) := by decide +kernel
theorem dX4_lengthOf_16 : decode cX4_lengthOf 16 = .ok (.iinc 1 1, 3) := by decide +kernel
theorem dX4_lengthOf_19 : decode cX4_lengthOf 19 = .ok (.goto (-17), 3) := by decide +kernel
theorem dX4_lengthOf_22 : decode cX4_lengthOf 22 = .ok (.iload_n 1, 1) := by decide +kernel
theorem dX4_lengthOf_23 : decode cX4_lengthOf 23 = .ok (.ireturn, 1) := by decide +kernel
theorem dX4_codeOf_0 : decode cX4_codeOf 0 = .ok (.iload_n 0, 1) := by decide +kernel
theorem dX4_codeOf_1 : decode cX4_codeOf 1 = .ok (.invokestatic 150, 3) := by decide +kernel
theorem dX4_codeOf_4 : decode cX4_codeOf 4 = .ok (.istore_n 1, 1) := by decide +kernel
theorem dX4_codeOf_5 : decode cX4_codeOf 5 = .ok (.sipush 256, 3) := by decide +kernel
theorem dX4_codeOf_8 : decode cX4_codeOf 8 = .ok (.iload_n 1, 1) := by decide +kernel
theorem dX4_codeOf_9 : decode cX4_codeOf 9 = .ok (.imul, 1) := by decide +kernel
theorem dX4_codeOf_10 : decode cX4_codeOf 10 = .ok (.iload_n 0, 1) := by decide +kernel
theorem dX4_codeOf_11 : decode cX4_codeOf 11 = .ok (.iadd, 1) := by decide +kernel
theorem dX4_codeOf_12 : decode cX4_codeOf 12 = .ok (.iconst 1, 1) := by decide +kernel
theorem dX4_codeOf_13 : decode cX4_codeOf 13 = .ok (.iload_n 1, 1) := by decide +kernel
theorem dX4_codeOf_14 : decode cX4_codeOf 14 = .ok (.ishl, 1) := by decide +kernel
theorem dX4_codeOf_15 : decode cX4_codeOf 15 = .ok (.isub, 1) := by decide +kernel
theorem dX4_codeOf_16 : decode cX4_codeOf 16 = .ok (.ireturn, 1) := by decide +kernel
theorem dX4_joined_0 : decode cX4_joined 0 = .ok (.iload_n 1, 1) := by decide +kernel
theorem dX4_joined_1 : decode cX4_joined 1 = .ok (.invokestatic 150, 3) := by decide +kernel
theorem dX4_joined_4 : decode cX4_joined 4 = .ok (.istore_n 2, 1) := by decide +kernel
theorem dX4_joined_5 : decode cX4_joined 5 = .ok (.iload_n 0, 1) := by decide +kernel
theorem dX4_joined_6 : decode cX4_joined 6 = .ok (.iload_n 2, 1) := by decide +kernel
theorem dX4_joined_7 : decode cX4_joined 7 = .ok (.ishl, 1) := by decide +kernel
theorem dX4_joined_8 : decode cX4_joined 8 = .ok (.iload_n 1, 1) := by decide +kernel
theorem dX4_joined_9 : decode cX4_joined 9 = .ok (.iadd, 1) := by decide +kernel
theorem dX4_joined_10 : decode cX4_joined 10 = .ok (.iconst 1, 1) := by decide +kernel
theorem dX4_joined_11 : decode cX4_joined 11 = .ok (.iload_n 2, 1) := by decide +kernel
theorem dX4_joined_12 : decode cX4_joined 12 = .ok (.ishl, 1) := by decide +kernel
theorem dX4_joined_13 : decode cX4_joined 13 = .ok (.isub, 1) := by decide +kernel
theorem dX4_joined_14 : decode cX4_joined 14 = .ok (.ireturn, 1) := by decide +kernel
theorem dX5_init_0 : decode cX5_init 0 = .ok (.aload_n 0, 1) := by decide +kernel
theorem dX5_init_1 : decode cX5_init 1 = .ok (.invokespecial 1, 3) := by decide +kernel
theorem dX5_init_4 : decode cX5_init 4 = .ok (.aload_n 0, 1) := by decide +kernel
theorem dX5_init_5 : decode cX5_init 5 = .ok (.sipush 511, 3) := by decide +kernel
theorem dX5_init_8 : decode cX5_init 8 = .ok (.newarray .int, 2) := by decide +kernel
theorem dX5_init_10 : decode cX5_init 10 = .ok (.putfield 7, 3) := by decide +kernel
theorem dX5_init_13 : decode cX5_init 13 = .ok (.aload_n 0, 1) := by decide +kernel
theorem dX5_init_14 : decode cX5_init 14 = .ok (.sipush 511, 3) := by decide +kernel
theorem dX5_init_17 : decode cX5_init 17 = .ok (.newarray .boolean, 2) := by decide +kernel
theorem dX5_init_19 : decode cX5_init 19 = .ok (.putfield 13, 3) := by decide +kernel
theorem dX5_init_22 : decode cX5_init 22 = .ok (.aload_n 0, 1) := by decide +kernel
theorem dX5_init_23 : decode cX5_init 23 = .ok (.sipush 511, 3) := by decide +kernel
theorem dX5_init_26 : decode cX5_init 26 = .ok (.newarray .int, 2) := by decide +kernel
theorem dX5_init_28 : decode cX5_init 28 = .ok (.putfield 17, 3) := by decide +kernel
theorem dX5_init_31 : decode cX5_init 31 = .ok (.aload_n 0, 1) := by decide +kernel
theorem dX5_init_32 : decode cX5_init 32 = .ok (.sipush 511, 3) := by decide +kernel
theorem dX5_init_35 : decode cX5_init 35 = .ok (.newarray .int, 2) := by decide +kernel
theorem dX5_init_37 : decode cX5_init 37 = .ok (.putfield 20, 3) := by decide +kernel
theorem dX5_init_40 : decode cX5_init 40 = .ok (.aload_n 0, 1) := by decide +kernel
theorem dX5_init_41 : decode cX5_init 41 = .ok (.sipush 511, 3) := by decide +kernel
theorem dX5_init_44 : decode cX5_init 44 = .ok (.newarray .int, 2) := by decide +kernel
theorem dX5_init_46 : decode cX5_init 46 = .ok (.putfield 23, 3) := by decide +kernel
theorem dX5_init_49 : decode cX5_init 49 = .ok (.aload_n 0, 1) := by decide +kernel
theorem dX5_init_50 : decode cX5_init 50 = .ok (.sipush 511, 3) := by decide +kernel
theorem dX5_init_53 : decode cX5_init 53 = .ok (.newarray .int, 2) := by decide +kernel
theorem dX5_init_55 : decode cX5_init 55 = .ok (.putfield 26, 3) := by decide +kernel
theorem dX5_init_58 : decode cX5_init 58 = .ok (.aload_n 0, 1) := by decide +kernel
theorem dX5_init_59 : decode cX5_init 59 = .ok (.sipush 1022, 3) := by decide +kernel
theorem dX5_init_62 : decode cX5_init 62 = .ok (.newarray .int, 2) := by decide +kernel
theorem dX5_init_64 : decode cX5_init 64 = .ok (.putfield 29, 3) := by decide +kernel
theorem dX5_init_67 : decode cX5_init 67 = .ok (.aload_n 0, 1) := by decide +kernel
theorem dX5_init_68 : decode cX5_init 68 = .ok (.sipush 511, 3) := by decide +kernel
theorem dX5_init_71 : decode cX5_init 71 = .ok (.newarray .int, 2) := by decide +kernel
theorem dX5_init_73 : decode cX5_init 73 = .ok (.putfield 32, 3) := by decide +kernel
theorem dX5_init_76 : decode cX5_init 76 = .ok (.aload_n 0, 1) := by decide +kernel
theorem dX5_init_77 : decode cX5_init 77 = .ok (.sipush 511, 3) := by decide +kernel
theorem dX5_init_80 : decode cX5_init 80 = .ok (.newarray .int, 2) := by decide +kernel
theorem dX5_init_82 : decode cX5_init 82 = .ok (.putfield 35, 3) := by decide +kernel
theorem dX5_init_85 : decode cX5_init 85 = .ok (.aload_n 0, 1) := by decide +kernel
theorem dX5_init_86 : decode cX5_init 86 = .ok (.sipush 1022, 3) := by decide +kernel
theorem dX5_init_89 : decode cX5_init 89 = .ok (.newarray .int, 2) := by decide +kernel
theorem dX5_init_91 : decode cX5_init 91 = .ok (.putfield 38, 3) := by decide +kernel
theorem dX5_init_94 : decode cX5_init 94 = .ok (.aload_n 0, 1) := by decide +kernel
theorem dX5_init_95 : decode cX5_init 95 = .ok (.sipush 511, 3) := by decide +kernel
theorem dX5_init_98 : decode cX5_init 98 = .ok (.newarray .int, 2) := by decide +kernel
theorem dX5_init_100 : decode cX5_init 100 = .ok (.putfield 41, 3) := by decide +kernel
theorem dX5_init_103 : decode cX5_init 103 = .ok (.aload_n 0, 1) := by decide +kernel
theorem dX5_init_104 : decode cX5_init 104 = .ok (.iconst 5, 1) := by decide +kernel
theorem dX5_init_105 : decode cX5_init 105 = .ok (.newarray .boolean, 2) := by decide +kernel
theorem dX5_init_107 : decode cX5_init 107 = .ok (.putfield 44, 3) := by decide +kernel
theorem dX5_init_110 : decode cX5_init 110 = .ok (.aload_n 0, 1) := by decide +kernel
theorem dX5_init_111 : decode cX5_init 111 = .ok (.bipush 10, 2) := by decide +kernel
theorem dX5_init_113 : decode cX5_init 113 = .ok (.newarray .int, 2) := by decide +kernel
theorem dX5_init_115 : decode cX5_init 115 = .ok (.putfield 47, 3) := by decide +kernel
theorem dX5_init_118 : decode cX5_init 118 = .ok (.aload_n 0, 1) := by decide +kernel
theorem dX5_init_119 : decode cX5_init 119 = .ok (.iconst 5, 1) := by decide +kernel
theorem dX5_init_120 : decode cX5_init 120 = .ok (.newarray .int, 2) := by decide +kernel
theorem dX5_init_122 : decode cX5_init 122 = .ok (.putfield 50, 3) := by decide +kernel
theorem dX5_init_125 : decode cX5_init 125 = .ok (.aload_n 0, 1) := by decide +kernel
theorem dX5_init_126 : decode cX5_init 126 = .ok (.iconst 5, 1) := by decide +kernel
theorem dX5_init_127 : decode cX5_init 127 = .ok (.newarray .int, 2) := by decide +kernel
theorem dX5_init_129 : decode cX5_init 129 = .ok (.putfield 53, 3) := by decide +kernel
theorem dX5_init_132 : decode cX5_init 132 = .ok (.aload_n 0, 1) := by decide +kernel
theorem dX5_init_133 : decode cX5_init 133 = .ok (.sipush 511, 3) := by decide +kernel
theorem dX5_init_136 : decode cX5_init 136 = .ok (.newarray .boolean, 2) := by decide +kernel
theorem dX5_init_138 : decode cX5_init 138 = .ok (.putfield 56, 3) := by decide +kernel
theorem dX5_init_141 : decode cX5_init 141 = .ok (.return_, 1) := by decide +kernel
theorem dX5_thrown_0 : decode cX5_thrown 0 = .ok (.aload_n 0, 1) := by decide +kernel
theorem dX5_thrown_1 : decode cX5_thrown 1 = .ok (.getfield 59, 3) := by decide +kernel
theorem dX5_thrown_4 : decode cX5_thrown 4 = .ok (.ireturn, 1) := by decide +kernel
theorem dX5_when_0 : decode cX5_when 0 = .ok (.aload_n 0, 1) := by decide +kernel
theorem dX5_when_1 : decode cX5_when 1 = .ok (.iload_n 1, 1) := by decide +kernel
theorem dX5_when_2 : decode cX5_when 2 = .ok (.ifCond .eq 7, 3) := by decide +kernel
theorem dX5_when_5 : decode cX5_when 5 = .ok (.iconst 0, 1) := by decide +kernel
theorem dX5_when_6 : decode cX5_when 6 = .ok (.goto 4, 3) := by decide +kernel
theorem dX5_when_9 : decode cX5_when 9 = .ok (.iload_n 2, 1) := by decide +kernel
theorem dX5_when_10 : decode cX5_when 10 = .ok (.putfield 59, 3) := by decide +kernel
theorem dX5_when_13 : decode cX5_when 13 = .ok (.iload_n 1, 1) := by decide +kernel
theorem dX5_when_14 : decode cX5_when 14 = .ok (.ireturn, 1) := by decide +kernel
theorem dX5_isWord_0 : decode cX5_isWord 0 = .ok (.iload_n 0, 1) := by decide +kernel
theorem dX5_isWord_1 : decode cX5_isWord 1 = .ok (.ifCond .lt 24, 3) := by decide +kernel
theorem dX5_isWord_4 : decode cX5_isWord 4 = .ok (.iload_n 0, 1) := by decide +kernel
theorem dX5_isWord_5 : decode cX5_isWord 5 = .ok (.bipush 8, 2) := by decide +kernel
theorem dX5_isWord_7 : decode cX5_isWord 7 = .ok (.if_icmp .gt 18, 3) := by decide +kernel
theorem dX5_isWord_10 : decode cX5_isWord 10 = .ok (.iload_n 1, 1) := by decide +kernel
theorem dX5_isWord_11 : decode cX5_isWord 11 = .ok (.ifCond .lt 14, 3) := by decide +kernel
theorem dX5_isWord_14 : decode cX5_isWord 14 = .ok (.iload_n 1, 1) := by decide +kernel
theorem dX5_isWord_15 : decode cX5_isWord 15 = .ok (.iconst 1, 1) := by decide +kernel
theorem dX5_isWord_16 : decode cX5_isWord 16 = .ok (.iload_n 0, 1) := by decide +kernel
theorem dX5_isWord_17 : decode cX5_isWord 17 = .ok (.ishl, 1) := by decide +kernel
theorem dX5_isWord_18 : decode cX5_isWord 18 = .ok (.if_icmp .ge 7, 3) := by decide +kernel
theorem dX5_isWord_21 : decode cX5_isWord 21 = .ok (.iconst 1, 1) := by decide +kernel
theorem dX5_isWord_22 : decode cX5_isWord 22 = .ok (.goto 4, 3) := by decide +kernel
theorem dX5_isWord_25 : decode cX5_isWord 25 = .ok (.iconst 0, 1) := by decide +kernel
theorem dX5_isWord_26 : decode cX5_isWord 26 = .ok (.ireturn, 1) := by decide +kernel
theorem dX5_number_0 : decode cX5_number 0 = .ok (.iconst 1, 1) := by decide +kernel
theorem dX5_number_1 : decode cX5_number 1 = .ok (.iload_n 0, 1) := by decide +kernel
theorem dX5_number_2 : decode cX5_number 2 = .ok (.ishl, 1) := by decide +kernel
theorem dX5_number_3 : decode cX5_number 3 = .ok (.iconst 1, 1) := by decide +kernel
theorem dX5_number_4 : decode cX5_number 4 = .ok (.isub, 1) := by decide +kernel
theorem dX5_number_5 : decode cX5_number 5 = .ok (.iload_n 1, 1) := by decide +kernel
theorem dX5_number_6 : decode cX5_number 6 = .ok (.iadd, 1) := by decide +kernel
theorem dX5_number_7 : decode cX5_number 7 = .ok (.ireturn, 1) := by decide +kernel
theorem dX5_lengthOf_0 : decode cX5_lengthOf 0 = .ok (.iconst 0, 1) := by decide +kernel
theorem dX5_lengthOf_1 : decode cX5_lengthOf 1 = .ok (.istore_n 1, 1) := by decide +kernel
theorem dX5_lengthOf_2 : decode cX5_lengthOf 2 = .ok (.iconst 2, 1) := by decide +kernel
theorem dX5_lengthOf_3 : decode cX5_lengthOf 3 = .ok (.iload_n 1, 1) := by decide +kernel
theorem dX5_lengthOf_4 : decode cX5_lengthOf 4 = .ok (.ishl, 1) := by decide +kernel
theorem dX5_lengthOf_5 : decode cX5_lengthOf 5 = .ok (.iconst 1, 1) := by decide +kernel
theorem dX5_lengthOf_6 : decode cX5_lengthOf 6 = .ok (.isub, 1) := by decide +kernel
theorem dX5_lengthOf_7 : decode cX5_lengthOf 7 = .ok (.iload_n 0, 1) := by decide +kernel
theorem dX5_lengthOf_8 : decode cX5_lengthOf 8 = .ok (.if_icmp .gt 9, 3) := by decide +kernel
theorem dX5_lengthOf_11 : decode cX5_lengthOf 11 = .ok (.iinc 1 1, 3) := by decide +kernel
theorem dX5_lengthOf_14 : decode cX5_lengthOf 14 = .ok (.goto (-12), 3) := by decide +kernel
theorem dX5_lengthOf_17 : decode cX5_lengthOf 17 = .ok (.iload_n 1, 1) := by decide +kernel
theorem dX5_lengthOf_18 : decode cX5_lengthOf 18 = .ok (.ireturn, 1) := by decide +kernel
theorem dX5_lettersOf_0 : decode cX5_lettersOf 0 = .ok (.iload_n 0, 1) := by decide +kernel
theorem dX5_lettersOf_1 : decode cX5_lettersOf 1 = .ok (.iconst 1, 1) := by decide +kernel
theorem dX5_lettersOf_2 : decode cX5_lettersOf 2 = .ok (.iload_n 0, 1) := by decide +kernel
theorem dX5_lettersOf_3 : decode cX5_lettersOf 3 = .ok (.invokestatic 63, 3) := by decide +kernel
theorem dX5_lettersOf_6 : decode cX5_lettersOf 6 = .ok (.ishl, 1) := by decide +kernel
theorem dX5_lettersOf_7 : decode cX5_lettersOf 7 = .ok (.isub, 1) := by decide +kernel
theorem dX5_lettersOf_8 : decode cX5_lettersOf 8 = .ok (.iconst 1, 1) := by decide +kernel
theorem dX5_lettersOf_9 : decode cX5_lettersOf 9 = .ok (.iadd, 1) := by decide +kernel
theorem dX5_lettersOf_10 : decode cX5_lettersOf 10 = .ok (.ireturn, 1) := by decide +kernel
theorem dX5_followed_0 : decode cX5_followed 0 = .ok (.iconst 2, 1) := by decide +kernel
theorem dX5_followed_1 : decode cX5_followed 1 = .ok (.iload_n 0, 1) := by decide +kernel
theorem dX5_followed_2 : decode cX5_followed 2 = .ok (.imul, 1) := by decide +kernel
theorem dX5_followed_3 : decode cX5_followed 3 = .ok (.iconst 1, 1) := by decide +kernel
theorem dX5_followed_4 : decode cX5_followed 4 = .ok (.iadd, 1) := by decide +kernel
theorem dX5_followed_5 : decode cX5_followed 5 = .ok (.iload_n 1, 1) := by decide +kernel
theorem dX5_followed_6 : decode cX5_followed 6 = .ok (.iadd, 1) := by decide +kernel
theorem dX5_followed_7 : decode cX5_followed 7 = .ok (.ireturn, 1) := by decide +kernel
theorem dX5_joined_0 : decode cX5_joined 0 = .ok (.iload_n 1, 1) := by decide +kernel
theorem dX5_joined_1 : decode cX5_joined 1 = .ok (.invokestatic 63, 3) := by decide +kernel
theorem dX5_joined_4 : decode cX5_joined 4 = .ok (.istore_n 2, 1) := by decide +kernel
theorem dX5_joined_5 : decode cX5_joined 5 = .ok (.iload_n 0, 1) := by decide +kernel
theorem dX5_joined_6 : decode cX5_joined 6 = .ok (.invokestatic 63, 3) := by decide +kernel
theorem dX5_joined_9 : decode cX5_joined 9 = .ok (.iload_n 2, 1) := by decide +kernel
theorem dX5_joined_10 : decode cX5_joined 10 = .ok (.iadd, 1) := by decide +kernel
theorem dX5_joined_11 : decode cX5_joined 11 = .ok (.iload_n 0, 1) := by decide +kernel
theorem dX5_joined_12 : decode cX5_joined 12 = .ok (.invokestatic 67, 3) := by decide +kernel
theorem dX5_joined_15 : decode cX5_joined 15 = .ok (.iload_n 2, 1) := by decide +kernel
theorem dX5_joined_16 : decode cX5_joined 16 = .ok (.ishl, 1) := by decide +kernel
theorem dX5_joined_17 : decode cX5_joined 17 = .ok (.iload_n 1, 1) := by decide +kernel
theorem dX5_joined_18 : decode cX5_joined 18 = .ok (.invokestatic 67, 3) := by decide +kernel
theorem dX5_joined_21 : decode cX5_joined 21 = .ok (.ior, 1) := by decide +kernel
theorem dX5_joined_22 : decode cX5_joined 22 = .ok (.invokestatic 70, 3) := by decide +kernel
theorem dX5_joined_25 : decode cX5_joined 25 = .ok (.ireturn, 1) := by decide +kernel
theorem dX5_given_0 : decode cX5_given 0 = .ok (.sipush 256, 3) := by decide +kernel
theorem dX5_given_3 : decode cX5_given 3 = .ok (.iload_n 0, 1) := by decide +kernel
theorem dX5_given_4 : decode cX5_given 4 = .ok (.invokestatic 63, 3) := by decide +kernel
theorem dX5_given_7 : decode cX5_given 7 = .ok (.imul, 1) := by decide +kernel
theorem dX5_given_8 : decode cX5_given 8 = .ok (.iload_n 0, 1) := by decide +kernel
theorem dX5_given_9 : decode cX5_given 9 = .ok (.invokestatic 67, 3) := by decide +kernel
theorem dX5_given_12 : decode cX5_given 12 = .ok (.iadd, 1) := by decide +kernel
theorem dX5_given_13 : decode cX5_given 13 = .ok (.ireturn, 1) := by decide +kernel
theorem dX5_teach_0 : decode cX5_teach 0 = .ok (.aload_n 0, 1) := by decide +kernel
theorem dX5_teach_1 : decode cX5_teach 1 = .ok (.iload_n 1, 1) := by decide +kernel
theorem dX5_teach_2 : decode cX5_teach 2 = .ok (.iload_n 2, 1) := by decide +kernel
theorem dX5_teach_3 : decode cX5_teach 3 = .ok (.invokestatic 74, 3) := by decide +kernel
theorem dX5_teach_6 : decode cX5_teach 6 = .ok (.iconst 1, 1) := by decide +kernel
theorem dX5_teach_7 : decode cX5_teach 7 = .ok (.invokevirtual 78, 3) := by decide +kernel
theorem dX5_teach_10 : decode cX5_teach 10 = .ok (.ifCond .ne 5, 3) := by decide +kernel
theorem dX5_teach_13 : decode cX5_teach 13 = .ok (.iconst 0, 1) := by decide +kernel
theorem dX5_teach_14 : decode cX5_teach 14 = .ok (.ireturn, 1) := by decide +kernel
theorem dX5_teach_15 : decode cX5_teach 15 = .ok (.iload_n 1, 1) := by decide +kernel
theorem dX5_teach_16 : decode cX5_teach 16 = .ok (.iload_n 2, 1) := by decide +kernel
theorem dX5_teach_17 : decode cX5_teach 17 = .ok (.invokestatic 70, 3) := by decide +kernel
theorem dX5_teach_20 : decode cX5_teach 20 = .ok (.istore 4, 2) := by decide +kernel
theorem dX5_teach_22 : decode cX5_teach 22 = .ok (.iload_n 3, 1) := by decide +kernel
theorem dX5_teach_23 : decode cX5_teach 23 = .ok (.ifCond .eq 7, 3) := by decide +kernel
theorem dX5_teach_26 : decode cX5_teach 26 = .ok (.iconst 1, 1) := by decide +kernel
theorem dX5_teach_27 : decode cX5_teach 27 = .ok (.goto 4, 3) := by decide +kernel
theorem dX5_teach_30 : decode cX5_teach 30 = .ok (.iconst (-1), 1) := by decide +kernel
theorem dX5_teach_31 : decode cX5_teach 31 = .ok (.istore 5, 2) := by decide +kernel
theorem dX5_teach_33 : decode cX5_teach 33 = .ok (.aload_n 0, 1) := by decide +kernel
theorem dX5_teach_34 : decode cX5_teach 34 = .ok (.aload_n 0, 1) := by decide +kernel
theorem dX5_teach_35 : decode cX5_teach 35 = .ok (.getfield 7, 3) := by decide +kernel
theorem dX5_teach_38 : decode cX5_teach 38 = .ok (.iload 4, 2) := by decide +kernel
theorem dX5_teach_40 : decode cX5_teach 40 = .ok (.iaload, 1) := by decide +kernel
theorem dX5_teach_41 : decode cX5_teach 41 = .ok (.iload 5, 2) := by decide +kernel
theorem dX5_teach_43 : decode cX5_teach 43 = .ok (.ineg, 1) := by decide +kernel
theorem dX5_teach_44 : decode cX5_teach 44 = .ok (.if_icmp .eq 7, 3) := by decide +kernel
theorem dX5_teach_47 : decode cX5_teach 47 = .ok (.iconst 1, 1) := by decide +kernel
theorem dX5_teach_48 : decode cX5_teach 48 = .ok (.goto 4, 3) := by decide +kernel
theorem dX5_teach_51 : decode cX5_teach 51 = .ok (.iconst 0, 1) := by decide +kernel
theorem dX5_teach_52 : decode cX5_teach 52 = .ok (.iconst 2, 1) := by decide +kernel
theorem dX5_teach_53 : decode cX5_teach 53 = .ok (.invokevirtual 78, 3) := by decide +kernel
theorem dX5_teach_56 : decode cX5_teach 56 = .ok (.ifCond .ne 5, 3) := by decide +kernel
theorem dX5_teach_59 : decode cX5_teach 59 = .ok (.iconst 0, 1) := by decide +kernel
theorem dX5_teach_60 : decode cX5_teach 60 = .ok (.ireturn, 1) := by decide +kernel
theorem dX5_teach_61 : decode cX5_teach 61 = .ok (.aload_n 0, 1) := by decide +kernel
theorem dX5_teach_62 : decode cX5_teach 62 = .ok (.getfield 7, 3) := by decide +kernel
theorem dX5_teach_65 : decode cX5_teach 65 = .ok (.iload 4, 2) := by decide +kernel
theorem dX5_teach_67 : decode cX5_teach 67 = .ok (.iaload, 1) := by decide +kernel
theorem dX5_teach_68 : decode cX5_teach 68 = .ok (.ifCond .ne 7, 3) := by decide +kernel
theorem dX5_teach_71 : decode cX5_teach 71 = .ok (.iconst 1, 1) := by decide +kernel
theorem dX5_teach_72 : decode cX5_teach 72 = .ok (.goto 4, 3) := by decide +kernel
theorem dX5_teach_75 : decode cX5_teach 75 = .ok (.iconst 0, 1) := by decide +kernel
theorem dX5_teach_76 : decode cX5_teach 76 = .ok (.istore 6, 2) := by decide +kernel
theorem dX5_teach_78 : decode cX5_teach 78 = .ok (.aload_n 0, 1) := by decide +kernel
theorem dX5_teach_79 : decode cX5_teach 79 = .ok (.getfield 7, 3) := by decide +kernel
theorem dX5_teach_82 : decode cX5_teach 82 = .ok (.iload 4, 2) := by decide +kernel
theorem dX5_teach_84 : decode cX5_teach 84 = .ok (.iload 5, 2) := by decide +kernel
theorem dX5_teach_86 : decode cX5_teach 86 = .ok (.iastore, 1) := by decide +kernel
theorem dX5_teach_87 : decode cX5_teach 87 = .ok (.aload_n 0, 1) := by decide +kernel
theorem dX5_teach_88 : decode cX5_teach 88 = .ok (.iload 6, 2) := by decide +kernel
theorem dX5_teach_90 : decode cX5_teach 90 = .ok (.ifCond .eq 12, 3) := by decide +kernel
theorem dX5_teach_93 : decode cX5_teach 93 = .ok (.aload_n 0, 1) := by decide +kernel
theorem dX5_teach_94 : decode cX5_teach 94 = .ok (.getfield 82, 3) := by decide +kernel
theorem dX5_teach_97 : decode cX5_teach 97 = .ok (.iconst 1, 1) := by decide +kernel
theorem dX5_teach_98 : decode cX5_teach 98 = .ok (.iadd, 1) := by decide +kernel
theorem dX5_teach_99 : decode cX5_teach 99 = .ok (.goto 7, 3) := by decide +kernel
theorem dX5_teach_102 : decode cX5_teach 102 = .ok (.aload_n 0, 1) := by decide +kernel
theorem dX5_teach_103 : decode cX5_teach 103 = .ok (.getfield 82, 3) := by decide +kernel
theorem dX5_teach_106 : decode cX5_teach 106 = .ok (.putfield 82, 3) := by decide +kernel
theorem dX5_teach_109 : decode cX5_teach 109 = .ok (.iload 6, 2) := by decide +kernel
theorem dX5_teach_111 : decode cX5_teach 111 = .ok (.ireturn, 1) := by decide +kernel
theorem dX5_told_0 : decode cX5_told 0 = .ok (.aload_n 0, 1) := by decide +kernel
theorem dX5_told_1 : decode cX5_told 1 = .ok (.iload_n 1, 1) := by decide +kernel
theorem dX5_told_2 : decode cX5_told 2 = .ok (.iload_n 2, 1) := by decide +kernel
theorem dX5_told_3 : decode cX5_told 3 = .ok (.invokestatic 74, 3) := by decide +kernel
theorem dX5_told_6 : decode cX5_told 6 = .ok (.iconst 1, 1) := by decide +kernel
theorem dX5_told_7 : decode cX5_told 7 = .ok (.invokevirtual 78, 3) := by decide +kernel
theorem dX5_told_10 : decode cX5_told 10 = .ok (.ifCond .eq 16, 3) := by decide +kernel
theorem dX5_told_13 : decode cX5_told 13 = .ok (.aload_n 0, 1) := by decide +kernel
theorem dX5_told_14 : decode cX5_told 14 = .ok (.getfield 7, 3) := by decide +kernel
theorem dX5_told_17 : decode cX5_told 17 = .ok (.iload_n 1, 1) := by decide +kernel
theorem dX5_told_18 : decode cX5_told 18 = .ok (.iload_n 2, 1) := by decide +kernel
theorem dX5_told_19 : decode cX5_told 19 = .ok (.invokestatic 70, 3) := by decide +kernel
theorem dX5_told_22 : decode cX5_told 22 = .ok (.iaload, 1) := by decide +kernel
theorem dX5_told_23 : decode cX5_told 23 = .ok (.goto 4, 3) := by decide +kernel
theorem dX5_told_26 : decode cX5_told 26 = .ok (.iconst 0, 1) := by decide +kernel
theorem dX5_told_27 : decode cX5_told 27 = .ok (.ireturn, 1) := by decide +kernel
theorem dX5_size_0 : decode cX5_size 0 = .ok (.aload_n 0, 1) := by decide +kernel
theorem dX5_size_1 : decode cX5_size 1 = .ok (.iconst 0, 1) := by decide +kernel
theorem dX5_size_2 : decode cX5_size 2 = .ok (.putfield 59, 3) := by decide +kernel
theorem dX5_size_5 : decode cX5_size 5 = .ok (.aload_n 0, 1) := by decide +kernel
theorem dX5_size_6 : decode cX5_size 6 = .ok (.getfield 82, 3) := by decide +kernel
theorem dX5_size_9 : decode cX5_size 9 = .ok (.ireturn, 1) := by decide +kernel
theorem dX5_forget_0 : decode cX5_forget 0 = .ok (.aload_n 0, 1) := by decide +kernel
theorem dX5_forget_1 : decode cX5_forget 1 = .ok (.iconst 0, 1) := by decide +kernel
theorem dX5_forget_2 : decode cX5_forget 2 = .ok (.putfield 59, 3) := by decide +kernel
theorem dX5_forget_5 : decode cX5_forget 5 = .ok (.iconst 0, 1) := by decide +kernel
theorem dX5_forget_6 : decode cX5_forget 6 = .ok (.istore_n 1, 1) := by decide +kernel
theorem dX5_forget_7 : decode cX5_forget 7 = .ok (.iload_n 1, 1) := by decide +kernel
theorem dX5_forget_8 : decode cX5_forget 8 = .ok (.sipush 511, 3) := by decide +kernel
theorem dX5_forget_11 : decode cX5_forget 11 = .ok (.if_icmp .ge 16, 3) := by decide +kernel
theorem dX5_forget_14 : decode cX5_forget 14 = .ok (.aload_n 0, 1) := by decide +kernel
theorem dX5_forget_15 : decode cX5_forget 15 = .ok (.getfield 7, 3) := by decide +kernel
theorem dX5_forget_18 : decode cX5_forget 18 = .ok (.iload_n 1, 1) := by decide +kernel
theorem dX5_forget_19 : decode cX5_forget 19 = .ok (.iconst 0, 1) := by decide +kernel
theorem dX5_forget_20 : decode cX5_forget 20 = .ok (.iastore, 1) := by decide +kernel
theorem dX5_forget_21 : decode cX5_forget 21 = .ok (.iinc 1 1, 3) := by decide +kernel
theorem dX5_forget_24 : decode cX5_forget 24 = .ok (.goto (-17), 3) := by decide +kernel
theorem dX5_forget_27 : decode cX5_forget 27 = .ok (.aload_n 0, 1) := by decide +kernel
theorem dX5_forget_28 : decode cX5_forget 28 = .ok (.iconst 0, 1) := by decide +kernel
theorem dX5_forget_29 : decode cX5_forget 29 = .ok (.putfield 82, 3) := by decide +kernel
theorem dX5_forget_32 : decode cX5_forget 32 = .ok (.return_, 1) := by decide +kernel
theorem dX5_begin_0 : decode cX5_begin 0 = .ok (.iconst 0, 1) := by decide +kernel
theorem dX5_begin_1 : decode cX5_begin 1 = .ok (.istore_n 1, 1) := by decide +kernel
theorem dX5_begin_2 : decode cX5_begin 2 = .ok (.iload_n 1, 1) := by decide +kernel
theorem dX5_begin_3 : decode cX5_begin 3 = .ok (.sipush 511, 3) := by decide +kernel
theorem dX5_begin_6 : decode cX5_begin 6 = .ok (.if_icmp .ge 33, 3) := by decide +kernel
theorem dX5_begin_9 : decode cX5_begin 9 = .ok (.aload_n 0, 1) := by decide +kernel
theorem dX5_begin_10 : decode cX5_begin 10 = .ok (.getfield 13, 3) := by decide +kernel
theorem dX5_begin_13 : decode cX5_begin 13 = .ok (.iload_n 1, 1) := by decide +kernel
theorem dX5_begin_14 : decode cX5_begin 14 = .ok (.iload_n 1, 1) := by decide +kernel
theorem dX5_begin_15 : decode cX5_begin 15 = .ok (.ifCond .eq 12, 3) := by decide +kernel
theorem dX5_begin_18 : decode cX5_begin 18 = .ok (.aload_n 0, 1) := by decide +kernel
theorem dX5_begin_19 : decode cX5_begin 19 = .ok (.getfield 7, 3) := by decide +kernel
theorem dX5_begin_22 : decode cX5_begin 22 = .ok (.iload_n 1, 1) := by decide +kernel
theorem dX5_begin_23 : decode cX5_begin 23 = .ok (.iaload, 1) := by decide +kernel
theorem dX5_begin_24 : decode cX5_begin 24 = .ok (.ifCond .eq 7, 3) := by decide +kernel
theorem dX5_begin_27 : decode cX5_begin 27 = .ok (.iconst 1, 1) := by decide +kernel
theorem dX5_begin_28 : decode cX5_begin 28 = .ok (.goto 4, 3) := by decide +kernel
theorem dX5_begin_31 : decode cX5_begin 31 = .ok (.iconst 0, 1) := by decide +kernel
theorem dX5_begin_32 : decode cX5_begin 32 = .ok (.bastore, 1) := by decide +kernel
theorem dX5_begin_33 : decode cX5_begin 33 = .ok (.iinc 1 1, 3) := by decide +kernel
theorem dX5_begin_36 : decode cX5_begin 36 = .ok (.goto (-34), 3) := by decide +kernel
theorem dX5_begin_39 : decode cX5_begin 39 = .ok (.sipush 510, 3) := by decide +kernel
theorem dX5_begin_42 : decode cX5_begin 42 = .ok (.istore_n 1, 1) := by decide +kernel
theorem dX5_begin_43 : decode cX5_begin 43 = .ok (.iload_n 1, 1) := by decide +kernel
theorem dX5_begin_44 : decode cX5_begin 44 = .ok (.ifCond .le 29, 3) := by decide +kernel
theorem dX5_begin_47 : decode cX5_begin 47 = .ok (.aload_n 0, 1) := by decide +kernel
theorem dX5_begin_48 : decode cX5_begin 48 = .ok (.getfield 13, 3) := by decide +kernel
theorem dX5_begin_51 : decode cX5_begin 51 = .ok (.iload_n 1, 1) := by decide +kernel
theorem dX5_begin_52 : decode cX5_begin 52 = .ok (.baload, 1) := by decide +kernel
theorem dX5_begin_53 : decode cX5_begin 53 = .ok (.ifCond .eq 14, 3) := by decide +kernel
theorem dX5_begin_56 : decode cX5_begin 56 = .ok (.aload_n 0, 1) := by decide +kernel
theorem dX5_begin_57 : decode cX5_begin 57 = .ok (.getfield 13, 3) := by decide +kernel
theorem dX5_begin_60 : decode cX5_begin 60 = .ok (.iload_n 1, 1) := by decide +kernel
theorem dX5_begin_61 : decode cX5_begin 61 = .ok (.iconst 1, 1) := by decide +kernel
theorem dX5_begin_62 : decode cX5_begin 62 = .ok (.isub, 1) := by decide +kernel
theorem dX5_begin_63 : decode cX5_begin 63 = .ok (.iconst 2, 1) := by decide +kernel
theorem dX5_begin_64 : decode cX5_begin 64 = .ok (.idiv, 1) := by decide +kernel
theorem dX5_begin_65 : decode cX5_begin 65 = .ok (.iconst 1, 1) := by decide +kernel
theorem dX5_begin_66 : decode cX5_begin 66 = .ok (.bastore, 1) := by decide +kernel
theorem dX5_begin_67 : decode cX5_begin 67 = .ok (.iinc 1 (-1), 3) := by decide +kernel
theorem dX5_begin_70 : decode cX5_begin 70 = .ok (.goto (-27), 3) := by decide +kernel
theorem dX5_begin_73 : decode cX5_begin 73 = .ok (.iconst 0, 1) := by decide +kernel
theorem dX5_begin_74 : decode cX5_begin 74 = .ok (.istore_n 1, 1) := by decide +kernel
theorem dX5_begin_75 : decode cX5_begin 75 = .ok (.iload_n 1, 1) := by decide +kernel
theorem dX5_begin_76 : decode cX5_begin 76 = .ok (.sipush 511, 3) := by decide +kernel
theorem dX5_begin_79 : decode cX5_begin 79 = .ok (.if_icmp .ge 28, 3) := by decide +kernel
theorem dX5_begin_82 : decode cX5_begin 82 = .ok (.aload_n 0, 1) := by decide +kernel
theorem dX5_begin_83 : decode cX5_begin 83 = .ok (.getfield 17, 3) := by decide +kernel
theorem dX5_begin_86 : decode cX5_begin 86 = .ok (.iload_n 1, 1) := by decide +kernel
theorem dX5_begin_87 : decode cX5_begin 87 = .ok (.iload_n 1, 1) := by decide +kernel
theorem dX5_begin_88 : decode cX5_begin 88 = .ok (.iastore, 1) := by decide +kernel
theorem dX5_begin_89 : decode cX5_begin 89 = .ok (.aload_n 0, 1) := by decide +kernel
theorem dX5_begin_90 : decode cX5_begin 90 = .ok (.getfield 20, 3) := by decide +kernel
theorem dX5_begin_93 : decode cX5_begin 93 = .ok (.iload_n 1, 1) := by decide +kernel
theorem dX5_begin_94 : decode cX5_begin 94 = .ok (.aload_n 0, 1) := by decide +kernel
theorem dX5_begin_95 : decode cX5_begin 95 = .ok (.getfield 7, 3) := by decide +kernel
theorem dX5_begin_98 : decode cX5_begin 98 = .ok (.iload_n 1, 1) := by decide +kernel
theorem dX5_begin_99 : decode cX5_begin 99 = .ok (.iaload, 1) := by decide +kernel
theorem dX5_begin_100 : decode cX5_begin 100 = .ok (.iastore, 1) := by decide +kernel
theorem dX5_begin_101 : decode cX5_begin 101 = .ok (.iinc 1 1, 3) := by decide +kernel
theorem dX5_begin_104 : decode cX5_begin 104 = .ok (.goto (-29), 3) := by decide +kernel
theorem dX5_begin_107 : decode cX5_begin 107 = .ok (.aload_n 0, 1) := by decide +kernel
theorem dX5_begin_108 : decode cX5_begin 108 = .ok (.iconst 1, 1) := by decide +kernel
theorem dX5_begin_109 : decode cX5_begin 109 = .ok (.putfield 85, 3) := by decide +kernel
theorem dX5_begin_112 : decode cX5_begin 112 = .ok (.aload_n 0, 1) := by decide +kernel
theorem dX5_begin_113 : decode cX5_begin 113 = .ok (.getfield 32, 3) := by decide +kernel
theorem dX5_begin_116 : decode cX5_begin 116 = .ok (.iconst 0, 1) := by decide +kernel
theorem dX5_begin_117 : decode cX5_begin 117 = .ok (.iconst 0, 1) := by decide +kernel
theorem dX5_begin_118 : decode cX5_begin 118 = .ok (.iastore, 1) := by decide +kernel
theorem dX5_begin_119 : decode cX5_begin 119 = .ok (.aload_n 0, 1) := by decide +kernel
theorem dX5_begin_120 : decode cX5_begin 120 = .ok (.getfield 35, 3) := by decide +kernel
theorem dX5_begin_123 : decode cX5_begin 123 = .ok (.iconst 0, 1) := by decide +kernel
theorem dX5_begin_124 : decode cX5_begin 124 = .ok (.iconst 0, 1) := by decide +kernel
theorem dX5_begin_125 : decode cX5_begin 125 = .ok (.iastore, 1) := by decide +kernel
theorem dX5_begin_126 : decode cX5_begin 126 = .ok (.return_, 1) := by decide +kernel
theorem dX5_unite_0 : decode cX5_unite 0 = .ok (.aload_n 0, 1) := by decide +kernel
theorem dX5_unite_1 : decode cX5_unite 1 = .ok (.getfield 26, 3) := by decide +kernel
theorem dX5_unite_4 : decode cX5_unite 4 = .ok (.iload_n 1, 1) := by decide +kernel
theorem dX5_unite_5 : decode cX5_unite 5 = .ok (.iaload, 1) := by decide +kernel
theorem dX5_unite_6 : decode cX5_unite 6 = .ok (.aload_n 0, 1) := by decide +kernel
theorem dX5_unite_7 : decode cX5_unite 7 = .ok (.getfield 26, 3) := by decide +kernel
theorem dX5_unite_10 : decode cX5_unite 10 = .ok (.iload_n 2, 1) := by decide +kernel
theorem dX5_unite_11 : decode cX5_unite 11 = .ok (.iaload, 1) := by decide +kernel
theorem dX5_unite_12 : decode cX5_unite 12 = .ok (.imul, 1) := by decide +kernel
theorem dX5_unite_13 : decode cX5_unite 13 = .ok (.ifCond .ge 5, 3) := by decide +kernel
theorem dX5_unite_16 : decode cX5_unite 16 = .ok (.iconst 0, 1) := by decide +kernel
theorem dX5_unite_17 : decode cX5_unite 17 = .ok (.ireturn, 1) := by decide +kernel
theorem dX5_unite_18 : decode cX5_unite 18 = .ok (.aload_n 0, 1) := by decide +kernel
theorem dX5_unite_19 : decode cX5_unite 19 = .ok (.getfield 26, 3) := by decide +kernel
theorem dX5_unite_22 : decode cX5_unite 22 = .ok (.iload_n 1, 1) := by decide +kernel
theorem dX5_unite_23 : decode cX5_unite 23 = .ok (.aload_n 0, 1) := by decide +kernel
theorem dX5_unite_24 : decode cX5_unite 24 = .ok (.getfield 26, 3) := by decide +kernel
theorem dX5_unite_27 : decode cX5_unite 27 = .ok (.iload_n 1, 1) := by decide +kernel
theorem dX5_unite_28 : decode cX5_unite 28 = .ok (.iaload, 1) := by decide +kernel
theorem dX5_unite_29 : decode cX5_unite 29 = .ok (.ifCond .eq 12, 3) := by decide +kernel
theorem dX5_unite_32 : decode cX5_unite 32 = .ok (.aload_n 0, 1) := by decide +kernel
theorem dX5_unite_33 : decode cX5_unite 33 = .ok (.getfield 26, 3) := by decide +kernel
theorem dX5_unite_36 : decode cX5_unite 36 = .ok (.iload_n 1, 1) := by decide +kernel
theorem dX5_unite_37 : decode cX5_unite 37 = .ok (.iaload, 1) := by decide +kernel
theorem dX5_unite_38 : decode cX5_unite 38 = .ok (.goto 9, 3) := by decide +kernel
theorem dX5_unite_41 : decode cX5_unite 41 = .ok (.aload_n 0, 1) := by decide +kernel
theorem dX5_unite_42 : decode cX5_unite 42 = .ok (.getfield 26, 3) := by decide +kernel
theorem dX5_unite_45 : decode cX5_unite 45 = .ok (.iload_n 2, 1) := by decide +kernel
theorem dX5_unite_46 : decode cX5_unite 46 = .ok (.iaload, 1) := by decide +kernel
theorem dX5_unite_47 : decode cX5_unite 47 = .ok (.iastore, 1) := by decide +kernel
theorem dX5_unite_48 : decode cX5_unite 48 = .ok (.iconst 0, 1) := by decide +kernel
theorem dX5_unite_49 : decode cX5_unite 49 = .ok (.istore_n 3, 1) := by decide +kernel
theorem dX5_unite_50 : decode cX5_unite 50 = .ok (.iload_n 3, 1) := by decide +kernel
theorem dX5_unite_51 : decode cX5_unite 51 = .ok (.sipush 511, 3) := by decide +kernel
theorem dX5_unite_54 : decode cX5_unite 54 = .ok (.if_icmp .ge 35, 3) := by decide +kernel
theorem dX5_unite_57 : decode cX5_unite 57 = .ok (.aload_n 0, 1) := by decide +kernel
theorem dX5_unite_58 : decode cX5_unite 58 = .ok (.getfield 23, 3) := by decide +kernel
theorem dX5_unite_61 : decode cX5_unite 61 = .ok (.iload_n 3, 1) := by decide +kernel
theorem dX5_unite_62 : decode cX5_unite 62 = .ok (.aload_n 0, 1) := by decide +kernel
theorem dX5_unite_63 : decode cX5_unite 63 = .ok (.getfield 23, 3) := by decide +kernel
theorem dX5_unite_66 : decode cX5_unite 66 = .ok (.iload_n 3, 1) := by decide +kernel
theorem dX5_unite_67 : decode cX5_unite 67 = .ok (.iaload, 1) := by decide +kernel
theorem dX5_unite_68 : decode cX5_unite 68 = .ok (.iload_n 2, 1) := by decide +kernel
theorem dX5_unite_69 : decode cX5_unite 69 = .ok (.if_icmp .ne 7, 3) := by decide +kernel
theorem dX5_unite_72 : decode cX5_unite 72 = .ok (.iload_n 1, 1) := by decide +kernel
theorem dX5_unite_73 : decode cX5_unite 73 = .ok (.goto 9, 3) := by decide +kernel
theorem dX5_unite_76 : decode cX5_unite 76 = .ok (.aload_n 0, 1) := by decide +kernel
theorem dX5_unite_77 : decode cX5_unite 77 = .ok (.getfield 23, 3) := by decide +kernel
theorem dX5_unite_80 : decode cX5_unite 80 = .ok (.iload_n 3, 1) := by decide +kernel
theorem dX5_unite_81 : decode cX5_unite 81 = .ok (.iaload, 1) := by decide +kernel
theorem dX5_unite_82 : decode cX5_unite 82 = .ok (.iastore, 1) := by decide +kernel
theorem dX5_unite_83 : decode cX5_unite 83 = .ok (.iinc 3 1, 3) := by decide +kernel
theorem dX5_unite_86 : decode cX5_unite 86 = .ok (.goto (-36), 3) := by decide +kernel
theorem dX5_unite_89 : decode cX5_unite 89 = .ok (.iconst 1, 1) := by decide +kernel
theorem dX5_unite_90 : decode cX5_unite 90 = .ok (.ireturn, 1) := by decide +kernel
theorem dX5_findTwins_0 : decode cX5_findTwins 0 = .ok (.iconst 0, 1) := by decide +kernel
theorem dX5_findTwins_1 : decode cX5_findTwins 1 = .ok (.istore_n 1, 1) := by decide +kernel
theorem dX5_findTwins_2 : decode cX5_findTwins 2 = .ok (.iload_n 1, 1) := by decide +kernel
theorem dX5_findTwins_3 : decode cX5_findTwins 3 = .ok (.sipush 1022, 3) := by decide +kernel
theorem dX5_findTwins_6 : decode cX5_findTwins 6 = .ok (.if_icmp .ge 16, 3) := by decide +kernel
theorem dX5_findTwins_9 : decode cX5_findTwins 9 = .ok (.aload_n 0, 1) := by decide +kernel
theorem dX5_findTwins_10 : decode cX5_findTwins 10 = .ok (.getfield 29, 3) := by decide +kernel
theorem dX5_findTwins_13 : decode cX5_findTwins 13 = .ok (.iload_n 1, 1) := by decide +kernel
theorem dX5_findTwins_14 : decode cX5_findTwins 14 = .ok (.iconst (-1), 1) := by decide +kernel
theorem dX5_findTwins_15 : decode cX5_findTwins 15 = .ok (.iastore, 1) := by decide +kernel
theorem dX5_findTwins_16 : decode cX5_findTwins 16 = .ok (.iinc 1 1, 3) := by decide +kernel
theorem dX5_findTwins_19 : decode cX5_findTwins 19 = .ok (.goto (-17), 3) := by decide +kernel
theorem dX5_findTwins_22 : decode cX5_findTwins 22 = .ok (.iconst 0, 1) := by decide +kernel
theorem dX5_findTwins_23 : decode cX5_findTwins 23 = .ok (.istore_n 1, 1) := by decide +kernel
theorem dX5_findTwins_24 : decode cX5_findTwins 24 = .ok (.iload_n 1, 1) := by decide +kernel
theorem dX5_findTwins_25 : decode cX5_findTwins 25 = .ok (.sipush 255, 3) := by decide +kernel
theorem dX5_findTwins_28 : decode cX5_findTwins 28 = .ok (.if_icmp .ge 129, 3) := by decide +kernel
theorem dX5_findTwins_31 : decode cX5_findTwins 31 = .ok (.iconst 0, 1) := by decide +kernel
theorem dX5_findTwins_32 : decode cX5_findTwins 32 = .ok (.istore_n 2, 1) := by decide +kernel
theorem dX5_findTwins_33 : decode cX5_findTwins 33 = .ok (.iload_n 2, 1) := by decide +kernel
theorem dX5_findTwins_34 : decode cX5_findTwins 34 = .ok (.iconst 2, 1) := by decide +kernel
theorem dX5_findTwins_35 : decode cX5_findTwins 35 = .ok (.if_icmp .ge 116, 3) := by decide +kernel
theorem dX5_findTwins_38 : decode cX5_findTwins 38 = .ok (.aload_n 0, 1) := by decide +kernel
theorem dX5_findTwins_39 : decode cX5_findTwins 39 = .ok (.getfield 13, 3) := by decide +kernel
theorem dX5_findTwins_42 : decode cX5_findTwins 42 = .ok (.iload_n 1, 1) := by decide +kernel
theorem dX5_findTwins_43 : decode cX5_findTwins 43 = .ok (.baload, 1) := by decide +kernel
theorem dX5_findTwins_44 : decode cX5_findTwins 44 = .ok (.ifCond .eq 107, 3) := by decide +kernel
theorem dX5_findTwins_47 : decode cX5_findTwins 47 = .ok (.iload_n 1, 1) := by decide +kernel
theorem dX5_findTwins_48 : decode cX5_findTwins 48 = .ok (.iload_n 2, 1) := by decide +kernel
theorem dX5_findTwins_49 : decode cX5_findTwins 49 = .ok (.invokestatic 88, 3) := by decide +kernel
theorem dX5_findTwins_52 : decode cX5_findTwins 52 = .ok (.istore_n 3, 1) := by decide +kernel
theorem dX5_findTwins_53 : decode cX5_findTwins 53 = .ok (.iconst 2, 1) := by decide +kernel
theorem dX5_findTwins_54 : decode cX5_findTwins 54 = .ok (.aload_n 0, 1) := by decide +kernel
theorem dX5_findTwins_55 : decode cX5_findTwins 55 = .ok (.getfield 23, 3) := by decide +kernel
theorem dX5_findTwins_58 : decode cX5_findTwins 58 = .ok (.iload_n 1, 1) := by decide +kernel
theorem dX5_findTwins_59 : decode cX5_findTwins 59 = .ok (.iaload, 1) := by decide +kernel
theorem dX5_findTwins_60 : decode cX5_findTwins 60 = .ok (.imul, 1) := by decide +kernel
theorem dX5_findTwins_61 : decode cX5_findTwins 61 = .ok (.iload_n 2, 1) := by decide +kernel
theorem dX5_findTwins_62 : decode cX5_findTwins 62 = .ok (.iadd, 1) := by decide +kernel
theorem dX5_findTwins_63 : decode cX5_findTwins 63 = .ok (.istore 4, 2) := by decide +kernel
theorem dX5_findTwins_65 : decode cX5_findTwins 65 = .ok (.aload_n 0, 1) := by decide +kernel
theorem dX5_findTwins_66 : decode cX5_findTwins 66 = .ok (.getfield 13, 3) := by decide +kernel
theorem dX5_findTwins_69 : decode cX5_findTwins 69 = .ok (.iload_n 3, 1) := by decide +kernel
theorem dX5_findTwins_70 : decode cX5_findTwins 70 = .ok (.baload, 1) := by decide +kernel
theorem dX5_findTwins_71 : decode cX5_findTwins 71 = .ok (.ifCond .eq 52, 3) := by decide +kernel
theorem dX5_findTwins_74 : decode cX5_findTwins 74 = .ok (.aload_n 0, 1) := by decide +kernel
theorem dX5_findTwins_75 : decode cX5_findTwins 75 = .ok (.getfield 29, 3) := by decide +kernel
theorem dX5_findTwins_78 : decode cX5_findTwins 78 = .ok (.iload 4, 2) := by decide +kernel
theorem dX5_findTwins_80 : decode cX5_findTwins 80 = .ok (.iaload, 1) := by decide +kernel
theorem dX5_findTwins_81 : decode cX5_findTwins 81 = .ok (.ifCond .lt 42, 3) := by decide +kernel
theorem dX5_findTwins_84 : decode cX5_findTwins 84 = .ok (.aload_n 0, 1) := by decide +kernel
theorem dX5_findTwins_85 : decode cX5_findTwins 85 = .ok (.getfield 29, 3) := by decide +kernel
theorem dX5_findTwins_88 : decode cX5_findTwins 88 = .ok (.iload 4, 2) := by decide +kernel
theorem dX5_findTwins_90 : decode cX5_findTwins 90 = .ok (.iaload, 1) := by decide +kernel
theorem dX5_findTwins_91 : decode cX5_findTwins 91 = .ok (.aload_n 0, 1) := by decide +kernel
theorem dX5_findTwins_92 : decode cX5_findTwins 92 = .ok (.getfield 23, 3) := by decide +kernel
theorem dX5_findTwins_95 : decode cX5_findTwins 95 = .ok (.iload_n 3, 1) := by decide +kernel
theorem dX5_findTwins_96 : decode cX5_findTwins 96 = .ok (.iaload, 1) := by decide +kernel
theorem dX5_findTwins_97 : decode cX5_findTwins 97 = .ok (.if_icmp .eq 26, 3) := by decide +kernel
theorem dX5_findTwins_100 : decode cX5_findTwins 100 = .ok (.aload_n 0, 1) := by decide +kernel
theorem dX5_findTwins_101 : decode cX5_findTwins 101 = .ok (.aload_n 0, 1) := by decide +kernel
theorem dX5_findTwins_102 : decode cX5_findTwins 102 = .ok (.getfield 29, 3) := by decide +kernel
theorem dX5_findTwins_105 : decode cX5_findTwins 105 = .ok (.iload 4, 2) := by decide +kernel
theorem dX5_findTwins_107 : decode cX5_findTwins 107 = .ok (.iaload, 1) := by decide +kernel
theorem dX5_findTwins_108 : decode cX5_findTwins 108 = .ok (.putfield 91, 3) := by decide +kernel
theorem dX5_findTwins_111 : decode cX5_findTwins 111 = .ok (.aload_n 0, 1) := by decide +kernel
theorem dX5_findTwins_112 : decode cX5_findTwins 112 = .ok (.aload_n 0, 1) := by decide +kernel
theorem dX5_findTwins_113 : decode cX5_findTwins 113 = .ok (.getfield 23, 3) := by decide +kernel
theorem dX5_findTwins_116 : decode cX5_findTwins 116 = .ok (.iload_n 3, 1) := by decide +kernel
theorem dX5_findTwins_117 : decode cX5_findTwins 117 = .ok (.iaload, 1) := by decide +kernel
theorem dX5_findTwins_118 : decode cX5_findTwins 118 = .ok (.putfield 94, 3) := by decide +kernel
theorem dX5_findTwins_121 : decode cX5_findTwins 121 = .ok (.iconst 1, 1) := by decide +kernel
theorem dX5_findTwins_122 : decode cX5_findTwins 122 = .ok (.ireturn, 1) := by decide +kernel
theorem dX5_findTwins_123 : decode cX5_findTwins 123 = .ok (.aload_n 0, 1) := by decide +kernel
theorem dX5_findTwins_124 : decode cX5_findTwins 124 = .ok (.getfield 13, 3) := by decide +kernel
theorem dX5_findTwins_127 : decode cX5_findTwins 127 = .ok (.iload_n 3, 1) := by decide +kernel
theorem dX5_findTwins_128 : decode cX5_findTwins 128 = .ok (.baload, 1) := by decide +kernel
theorem dX5_findTwins_129 : decode cX5_findTwins 129 = .ok (.ifCond .eq 16, 3) := by decide +kernel
theorem dX5_findTwins_132 : decode cX5_findTwins 132 = .ok (.aload_n 0, 1) := by decide +kernel
theorem dX5_findTwins_133 : decode cX5_findTwins 133 = .ok (.getfield 29, 3) := by decide +kernel
theorem dX5_findTwins_136 : decode cX5_findTwins 136 = .ok (.iload 4, 2) := by decide +kernel
theorem dX5_findTwins_138 : decode cX5_findTwins 138 = .ok (.aload_n 0, 1) := by decide +kernel
theorem dX5_findTwins_139 : decode cX5_findTwins 139 = .ok (.getfield 23, 3) := by decide +kernel
theorem dX5_findTwins_142 : decode cX5_findTwins 142 = .ok (.iload_n 3, 1) := by decide +kernel
theorem dX5_findTwins_143 : decode cX5_findTwins 143 = .ok (.iaload, 1) := by decide +kernel
theorem dX5_findTwins_144 : decode cX5_findTwins 144 = .ok (.iastore, 1) := by decide +kernel
theorem dX5_findTwins_145 : decode cX5_findTwins 145 = .ok (.iinc 2 1, 3) := by decide +kernel
theorem dX5_findTwins_148 : decode cX5_findTwins 148 = .ok (.goto (-115), 3) := by decide +kernel
theorem dX5_findTwins_151 : decode cX5_findTwins 151 = .ok (.iinc 1 1, 3) := by decide +kernel
theorem dX5_findTwins_154 : decode cX5_findTwins 154 = .ok (.goto (-130), 3) := by decide +kernel
theorem dX5_findTwins_157 : decode cX5_findTwins 157 = .ok (.iconst 0, 1) := by decide +kernel
theorem dX5_findTwins_158 : decode cX5_findTwins 158 = .ok (.ireturn, 1) := by decide +kernel
theorem dX5_merge_0 : decode cX5_merge 0 = .ok (.iconst 0, 1) := by decide +kernel
theorem dX5_merge_1 : decode cX5_merge 1 = .ok (.istore_n 3, 1) := by decide +kernel
theorem dX5_merge_2 : decode cX5_merge 2 = .ok (.iload_n 3, 1) := by decide +kernel
theorem dX5_merge_3 : decode cX5_merge 3 = .ok (.sipush 511, 3) := by decide +kernel
theorem dX5_merge_6 : decode cX5_merge 6 = .ok (.if_icmp .ge 33, 3) := by decide +kernel
theorem dX5_merge_9 : decode cX5_merge 9 = .ok (.aload_n 0, 1) := by decide +kernel
theorem dX5_merge_10 : decode cX5_merge 10 = .ok (.getfield 23, 3) := by decide +kernel
theorem dX5_merge_13 : decode cX5_merge 13 = .ok (.iload_n 3, 1) := by decide +kernel
theorem dX5_merge_14 : decode cX5_merge 14 = .ok (.aload_n 0, 1) := by decide +kernel
theorem dX5_merge_15 : decode cX5_merge 15 = .ok (.getfield 17, 3) := by decide +kernel
theorem dX5_merge_18 : decode cX5_merge 18 = .ok (.iload_n 3, 1) := by decide +kernel
theorem dX5_merge_19 : decode cX5_merge 19 = .ok (.iaload, 1) := by decide +kernel
theorem dX5_merge_20 : decode cX5_merge 20 = .ok (.iastore, 1) := by decide +kernel
theorem dX5_merge_21 : decode cX5_merge 21 = .ok (.aload_n 0, 1) := by decide +kernel
theorem dX5_merge_22 : decode cX5_merge 22 = .ok (.getfield 26, 3) := by decide +kernel
theorem dX5_merge_25 : decode cX5_merge 25 = .ok (.iload_n 3, 1) := by decide +kernel
theorem dX5_merge_26 : decode cX5_merge 26 = .ok (.aload_n 0, 1) := by decide +kernel
theorem dX5_merge_27 : decode cX5_merge 27 = .ok (.getfield 20, 3) := by decide +kernel
theorem dX5_merge_30 : decode cX5_merge 30 = .ok (.iload_n 3, 1) := by decide +kernel
theorem dX5_merge_31 : decode cX5_merge 31 = .ok (.iaload, 1) := by decide +kernel
theorem dX5_merge_32 : decode cX5_merge 32 = .ok (.iastore, 1) := by decide +kernel
theorem dX5_merge_33 : decode cX5_merge 33 = .ok (.iinc 3 1, 3) := by decide +kernel
theorem dX5_merge_36 : decode cX5_merge 36 = .ok (.goto (-34), 3) := by decide +kernel
theorem dX5_merge_39 : decode cX5_merge 39 = .ok (.aload_n 0, 1) := by decide +kernel
theorem dX5_merge_40 : decode cX5_merge 40 = .ok (.aload_n 0, 1) := by decide +kernel
theorem dX5_merge_41 : decode cX5_merge 41 = .ok (.getfield 17, 3) := by decide +kernel
theorem dX5_merge_44 : decode cX5_merge 44 = .ok (.iload_n 1, 1) := by decide +kernel
theorem dX5_merge_45 : decode cX5_merge 45 = .ok (.iaload, 1) := by decide +kernel
theorem dX5_merge_46 : decode cX5_merge 46 = .ok (.aload_n 0, 1) := by decide +kernel
theorem dX5_merge_47 : decode cX5_merge 47 = .ok (.getfield 17, 3) := by decide +kernel
theorem dX5_merge_50 : decode cX5_merge 50 = .ok (.iload_n 2, 1) := by decide +kernel
theorem dX5_merge_51 : decode cX5_merge 51 = .ok (.iaload, 1) := by decide +kernel
theorem dX5_merge_52 : decode cX5_merge 52 = .ok (.invokevirtual 97, 3) := by decide +kernel
theorem dX5_merge_55 : decode cX5_merge 55 = .ok (.istore_n 3, 1) := by decide +kernel
theorem dX5_merge_56 : decode cX5_merge 56 = .ok (.iload_n 3, 1) := by decide +kernel
theorem dX5_merge_57 : decode cX5_merge 57 = .ok (.ifCond .eq 26, 3) := by decide +kernel
theorem dX5_merge_60 : decode cX5_merge 60 = .ok (.aload_n 0, 1) := by decide +kernel
theorem dX5_merge_61 : decode cX5_merge 61 = .ok (.invokevirtual 100, 3) := by decide +kernel
theorem dX5_merge_64 : decode cX5_merge 64 = .ok (.ifCond .eq 19, 3) := by decide +kernel
theorem dX5_merge_67 : decode cX5_merge 67 = .ok (.aload_n 0, 1) := by decide +kernel
theorem dX5_merge_68 : decode cX5_merge 68 = .ok (.aload_n 0, 1) := by decide +kernel
theorem dX5_merge_69 : decode cX5_merge 69 = .ok (.getfield 91, 3) := by decide +kernel
theorem dX5_merge_72 : decode cX5_merge 72 = .ok (.aload_n 0, 1) := by decide +kernel
theorem dX5_merge_73 : decode cX5_merge 73 = .ok (.getfield 94, 3) := by decide +kernel
theorem dX5_merge_76 : decode cX5_merge 76 = .ok (.invokevirtual 97, 3) := by decide +kernel
theorem dX5_merge_79 : decode cX5_merge 79 = .ok (.istore_n 3, 1) := by decide +kernel
theorem dX5_merge_80 : decode cX5_merge 80 = .ok (.goto (-24), 3) := by decide +kernel
theorem dX5_merge_83 : decode cX5_merge 83 = .ok (.iload_n 3, 1) := by decide +kernel
theorem dX5_merge_84 : decode cX5_merge 84 = .ok (.ifCond .ne 5, 3) := by decide +kernel
theorem dX5_merge_87 : decode cX5_merge 87 = .ok (.iconst 0, 1) := by decide +kernel
theorem dX5_merge_88 : decode cX5_merge 88 = .ok (.ireturn, 1) := by decide +kernel
theorem dX5_merge_89 : decode cX5_merge 89 = .ok (.iconst 0, 1) := by decide +kernel
theorem dX5_merge_90 : decode cX5_merge 90 = .ok (.istore 4, 2) := by decide +kernel
theorem dX5_merge_92 : decode cX5_merge 92 = .ok (.iload 4, 2) := by decide +kernel
theorem dX5_merge_94 : decode cX5_merge 94 = .ok (.sipush 511, 3) := by decide +kernel
theorem dX5_merge_97 : decode cX5_merge 97 = .ok (.if_icmp .ge 37, 3) := by decide +kernel
theorem dX5_merge_100 : decode cX5_merge 100 = .ok (.aload_n 0, 1) := by decide +kernel
theorem dX5_merge_101 : decode cX5_merge 101 = .ok (.getfield 17, 3) := by decide +kernel
theorem dX5_merge_104 : decode cX5_merge 104 = .ok (.iload 4, 2) := by decide +kernel
theorem dX5_merge_106 : decode cX5_merge 106 = .ok (.aload_n 0, 1) := by decide +kernel
theorem dX5_merge_107 : decode cX5_merge 107 = .ok (.getfield 23, 3) := by decide +kernel
theorem dX5_merge_110 : decode cX5_merge 110 = .ok (.iload 4, 2) := by decide +kernel
theorem dX5_merge_112 : decode cX5_merge 112 = .ok (.iaload, 1) := by decide +kernel
theorem dX5_merge_113 : decode cX5_merge 113 = .ok (.iastore, 1) := by decide +kernel
theorem dX5_merge_114 : decode cX5_merge 114 = .ok (.aload_n 0, 1) := by decide +kernel
theorem dX5_merge_115 : decode cX5_merge 115 = .ok (.getfield 20, 3) := by decide +kernel
theorem dX5_merge_118 : decode cX5_merge 118 = .ok (.iload 4, 2) := by decide +kernel
theorem dX5_merge_120 : decode cX5_merge 120 = .ok (.aload_n 0, 1) := by decide +kernel
theorem dX5_merge_121 : decode cX5_merge 121 = .ok (.getfield 26, 3) := by decide +kernel
theorem dX5_merge_124 : decode cX5_merge 124 = .ok (.iload 4, 2) := by decide +kernel
theorem dX5_merge_126 : decode cX5_merge 126 = .ok (.iaload, 1) := by decide +kernel
theorem dX5_merge_127 : decode cX5_merge 127 = .ok (.iastore, 1) := by decide +kernel
theorem dX5_merge_128 : decode cX5_merge 128 = .ok (.iinc 4 1, 3) := by decide +kernel
theorem dX5_merge_131 : decode cX5_merge 131 = .ok (.goto (-39), 3) := by decide +kernel
theorem dX5_merge_134 : decode cX5_merge 134 = .ok (.iconst 1, 1) := by decide +kernel
theorem dX5_merge_135 : decode cX5_merge 135 = .ok (.ireturn, 1) := by decide +kernel
theorem dX5_redOf_0 : decode cX5_redOf 0 = .ok (.iconst (-1), 1) := by decide +kernel
theorem dX5_redOf_1 : decode cX5_redOf 1 = .ok (.istore_n 2, 1) := by decide +kernel
theorem dX5_redOf_2 : decode cX5_redOf 2 = .ok (.iconst 0, 1) := by decide +kernel
theorem dX5_redOf_3 : decode cX5_redOf 3 = .ok (.istore_n 3, 1) := by decide +kernel
theorem dX5_redOf_4 : decode cX5_redOf 4 = .ok (.iload_n 3, 1) := by decide +kernel
theorem dX5_redOf_5 : decode cX5_redOf 5 = .ok (.aload_n 0, 1) := by decide +kernel
theorem dX5_redOf_6 : decode cX5_redOf 6 = .ok (.getfield 85, 3) := by decide +kernel
theorem dX5_redOf_9 : decode cX5_redOf 9 = .ok (.if_icmp .ge 35, 3) := by decide +kernel
theorem dX5_redOf_12 : decode cX5_redOf 12 = .ok (.aload_n 0, 1) := by decide +kernel
theorem dX5_redOf_13 : decode cX5_redOf 13 = .ok (.getfield 17, 3) := by decide +kernel
theorem dX5_redOf_16 : decode cX5_redOf 16 = .ok (.aload_n 0, 1) := by decide +kernel
theorem dX5_redOf_17 : decode cX5_redOf 17 = .ok (.getfield 32, 3) := by decide +kernel
theorem dX5_redOf_20 : decode cX5_redOf 20 = .ok (.iload_n 3, 1) := by decide +kernel
theorem dX5_redOf_21 : decode cX5_redOf 21 = .ok (.iaload, 1) := by decide +kernel
theorem dX5_redOf_22 : decode cX5_redOf 22 = .ok (.iaload, 1) := by decide +kernel
theorem dX5_redOf_23 : decode cX5_redOf 23 = .ok (.aload_n 0, 1) := by decide +kernel
theorem dX5_redOf_24 : decode cX5_redOf 24 = .ok (.getfield 17, 3) := by decide +kernel
theorem dX5_redOf_27 : decode cX5_redOf 27 = .ok (.iload_n 1, 1) := by decide +kernel
theorem dX5_redOf_28 : decode cX5_redOf 28 = .ok (.iaload, 1) := by decide +kernel
theorem dX5_redOf_29 : decode cX5_redOf 29 = .ok (.if_icmp .ne 7, 3) := by decide +kernel
theorem dX5_redOf_32 : decode cX5_redOf 32 = .ok (.iload_n 3, 1) := by decide +kernel
theorem dX5_redOf_33 : decode cX5_redOf 33 = .ok (.goto 4, 3) := by decide +kernel
theorem dX5_redOf_36 : decode cX5_redOf 36 = .ok (.iload_n 2, 1) := by decide +kernel
theorem dX5_redOf_37 : decode cX5_redOf 37 = .ok (.istore_n 2, 1) := by decide +kernel
theorem dX5_redOf_38 : decode cX5_redOf 38 = .ok (.iinc 3 1, 3) := by decide +kernel
theorem dX5_redOf_41 : decode cX5_redOf 41 = .ok (.goto (-37), 3) := by decide +kernel
theorem dX5_redOf_44 : decode cX5_redOf 44 = .ok (.iload_n 2, 1) := by decide +kernel
theorem dX5_redOf_45 : decode cX5_redOf 45 = .ok (.ireturn, 1) := by decide +kernel
theorem dX5_findBlue_0 : decode cX5_findBlue 0 = .ok (.aload_n 0, 1) := by decide +kernel
theorem dX5_findBlue_1 : decode cX5_findBlue 1 = .ok (.sipush 2000, 3) := by decide +kernel
theorem dX5_findBlue_4 : decode cX5_findBlue 4 = .ok (.putfield 104, 3) := by decide +kernel
theorem dX5_findBlue_7 : decode cX5_findBlue 7 = .ok (.iconst 1, 1) := by decide +kernel
theorem dX5_findBlue_8 : decode cX5_findBlue 8 = .ok (.istore_n 1, 1) := by decide +kernel
theorem dX5_findBlue_9 : decode cX5_findBlue 9 = .ok (.iload_n 1, 1) := by decide +kernel
theorem dX5_findBlue_10 : decode cX5_findBlue 10 = .ok (.sipush 511, 3) := by decide +kernel
theorem dX5_findBlue_13 : decode cX5_findBlue 13 = .ok (.if_icmp .ge 105, 3) := by decide +kernel
theorem dX5_findBlue_16 : decode cX5_findBlue 16 = .ok (.iload_n 1, 1) := by decide +kernel
theorem dX5_findBlue_17 : decode cX5_findBlue 17 = .ok (.iconst 1, 1) := by decide +kernel
theorem dX5_findBlue_18 : decode cX5_findBlue 18 = .ok (.isub, 1) := by decide +kernel
theorem dX5_findBlue_19 : decode cX5_findBlue 19 = .ok (.iconst 2, 1) := by decide +kernel
theorem dX5_findBlue_20 : decode cX5_findBlue 20 = .ok (.idiv, 1) := by decide +kernel
theorem dX5_findBlue_21 : decode cX5_findBlue 21 = .ok (.istore_n 2, 1) := by decide +kernel
theorem dX5_findBlue_22 : decode cX5_findBlue 22 = .ok (.aload_n 0, 1) := by decide +kernel
theorem dX5_findBlue_23 : decode cX5_findBlue 23 = .ok (.getfield 13, 3) := by decide +kernel
theorem dX5_findBlue_26 : decode cX5_findBlue 26 = .ok (.iload_n 1, 1) := by decide +kernel
theorem dX5_findBlue_27 : decode cX5_findBlue 27 = .ok (.baload, 1) := by decide +kernel
theorem dX5_findBlue_28 : decode cX5_findBlue 28 = .ok (.ifCond .eq 19, 3) := by decide +kernel
theorem dX5_findBlue_31 : decode cX5_findBlue 31 = .ok (.aload_n 0, 1) := by decide +kernel
theorem dX5_findBlue_32 : decode cX5_findBlue 32 = .ok (.iload_n 1, 1) := by decide +kernel
theorem dX5_findBlue_33 : decode cX5_findBlue 33 = .ok (.invokevirtual 107, 3) := by decide +kernel
theorem dX5_findBlue_36 : decode cX5_findBlue 36 = .ok (.ifCond .ge 11, 3) := by decide +kernel
theorem dX5_findBlue_39 : decode cX5_findBlue 39 = .ok (.aload_n 0, 1) := by decide +kernel
theorem dX5_findBlue_40 : decode cX5_findBlue 40 = .ok (.iload_n 2, 1) := by decide +kernel
theorem dX5_findBlue_41 : decode cX5_findBlue 41 = .ok (.invokevirtual 107, 3) := by decide +kernel
theorem dX5_findBlue_44 : decode cX5_findBlue 44 = .ok (.goto 4, 3) := by decide +kernel
theorem dX5_findBlue_47 : decode cX5_findBlue 47 = .ok (.iconst (-1), 1) := by decide +kernel
theorem dX5_findBlue_48 : decode cX5_findBlue 48 = .ok (.istore_n 3, 1) := by decide +kernel
theorem dX5_findBlue_49 : decode cX5_findBlue 49 = .ok (.iload_n 3, 1) := by decide +kernel
theorem dX5_findBlue_50 : decode cX5_findBlue 50 = .ok (.ifCond .lt 62, 3) := by decide +kernel
theorem dX5_findBlue_53 : decode cX5_findBlue 53 = .ok (.aload_n 0, 1) := by decide +kernel
theorem dX5_findBlue_54 : decode cX5_findBlue 54 = .ok (.getfield 35, 3) := by decide +kernel
theorem dX5_findBlue_57 : decode cX5_findBlue 57 = .ok (.iload_n 3, 1) := by decide +kernel
theorem dX5_findBlue_58 : decode cX5_findBlue 58 = .ok (.iaload, 1) := by decide +kernel
theorem dX5_findBlue_59 : decode cX5_findBlue 59 = .ok (.iload_n 1, 1) := by decide +kernel
theorem dX5_findBlue_60 : decode cX5_findBlue 60 = .ok (.iconst 1, 1) := by decide +kernel
theorem dX5_findBlue_61 : decode cX5_findBlue 61 = .ok (.isub, 1) := by decide +kernel
theorem dX5_findBlue_62 : decode cX5_findBlue 62 = .ok (.iconst 2, 1) := by decide +kernel
theorem dX5_findBlue_63 : decode cX5_findBlue 63 = .ok (.irem, 1) := by decide +kernel
theorem dX5_findBlue_64 : decode cX5_findBlue 64 = .ok (.invokestatic 88, 3) := by decide +kernel
theorem dX5_findBlue_67 : decode cX5_findBlue 67 = .ok (.istore 4, 2) := by decide +kernel
theorem dX5_findBlue_69 : decode cX5_findBlue 69 = .ok (.aload_n 0, 1) := by decide +kernel
theorem dX5_findBlue_70 : decode cX5_findBlue 70 = .ok (.iload 4, 2) := by decide +kernel
theorem dX5_findBlue_72 : decode cX5_findBlue 72 = .ok (.aload_n 0, 1) := by decide +kernel
theorem dX5_findBlue_73 : decode cX5_findBlue 73 = .ok (.getfield 104, 3) := by decide +kernel
theorem dX5_findBlue_76 : decode cX5_findBlue 76 = .ok (.if_icmp .ge 7, 3) := by decide +kernel
theorem dX5_findBlue_79 : decode cX5_findBlue 79 = .ok (.iload_n 1, 1) := by decide +kernel
theorem dX5_findBlue_80 : decode cX5_findBlue 80 = .ok (.goto 7, 3) := by decide +kernel
theorem dX5_findBlue_83 : decode cX5_findBlue 83 = .ok (.aload_n 0, 1) := by decide +kernel
theorem dX5_findBlue_84 : decode cX5_findBlue 84 = .ok (.getfield 110, 3) := by decide +kernel
theorem dX5_findBlue_87 : decode cX5_findBlue 87 = .ok (.putfield 110, 3) := by decide +kernel
theorem dX5_findBlue_90 : decode cX5_findBlue 90 = .ok (.aload_n 0, 1) := by decide +kernel
theorem dX5_findBlue_91 : decode cX5_findBlue 91 = .ok (.iload 4, 2) := by decide +kernel
theorem dX5_findBlue_93 : decode cX5_findBlue 93 = .ok (.aload_n 0, 1) := by decide +kernel
theorem dX5_findBlue_94 : decode cX5_findBlue 94 = .ok (.getfield 104, 3) := by decide +kernel
theorem dX5_findBlue_97 : decode cX5_findBlue 97 = .ok (.if_icmp .ge 8, 3) := by decide +kernel
theorem dX5_findBlue_100 : decode cX5_findBlue 100 = .ok (.iload 4, 2) := by decide +kernel
theorem dX5_findBlue_102 : decode cX5_findBlue 102 = .ok (.goto 7, 3) := by decide +kernel
theorem dX5_findBlue_105 : decode cX5_findBlue 105 = .ok (.aload_n 0, 1) := by decide +kernel
theorem dX5_findBlue_106 : decode cX5_findBlue 106 = .ok (.getfield 104, 3) := by decide +kernel
theorem dX5_findBlue_109 : decode cX5_findBlue 109 = .ok (.putfield 104, 3) := by decide +kernel
theorem dX5_findBlue_112 : decode cX5_findBlue 112 = .ok (.iinc 1 1, 3) := by decide +kernel
theorem dX5_findBlue_115 : decode cX5_findBlue 115 = .ok (.goto (-106), 3) := by decide +kernel
theorem dX5_findBlue_118 : decode cX5_findBlue 118 = .ok (.aload_n 0, 1) := by decide +kernel
theorem dX5_findBlue_119 : decode cX5_findBlue 119 = .ok (.getfield 104, 3) := by decide +kernel
theorem dX5_findBlue_122 : decode cX5_findBlue 122 = .ok (.sipush 2000, 3) := by decide +kernel
theorem dX5_findBlue_125 : decode cX5_findBlue 125 = .ok (.if_icmp .ge 7, 3) := by decide +kernel
theorem dX5_findBlue_128 : decode cX5_findBlue 128 = .ok (.iconst 1, 1) := by decide +kernel
theorem dX5_findBlue_129 : decode cX5_findBlue 129 = .ok (.goto 4, 3) := by decide +kernel
theorem dX5_findBlue_132 : decode cX5_findBlue 132 = .ok (.iconst 0, 1) := by decide +kernel
theorem dX5_findBlue_133 : decode cX5_findBlue 133 = .ok (.ireturn, 1) := by decide +kernel
theorem dX5_learn_0 : decode cX5_learn 0 = .ok (.aload_n 0, 1) := by decide +kernel
theorem dX5_learn_1 : decode cX5_learn 1 = .ok (.iconst 0, 1) := by decide +kernel
theorem dX5_learn_2 : decode cX5_learn 2 = .ok (.putfield 59, 3) := by decide +kernel
theorem dX5_learn_5 : decode cX5_learn 5 = .ok (.aload_n 0, 1) := by decide +kernel
theorem dX5_learn_6 : decode cX5_learn 6 = .ok (.invokevirtual 113, 3) := by decide +kernel
theorem dX5_learn_9 : decode cX5_learn 9 = .ok (.aload_n 0, 1) := by decide +kernel
theorem dX5_learn_10 : decode cX5_learn 10 = .ok (.invokevirtual 116, 3) := by decide +kernel
theorem dX5_learn_13 : decode cX5_learn 13 = .ok (.ifCond .eq 87, 3) := by decide +kernel
theorem dX5_learn_16 : decode cX5_learn 16 = .ok (.aload_n 0, 1) := by decide +kernel
theorem dX5_learn_17 : decode cX5_learn 17 = .ok (.getfield 110, 3) := by decide +kernel
theorem dX5_learn_20 : decode cX5_learn 20 = .ok (.istore_n 1, 1) := by decide +kernel
theorem dX5_learn_21 : decode cX5_learn 21 = .ok (.aload_n 0, 1) := by decide +kernel
theorem dX5_learn_22 : decode cX5_learn 22 = .ok (.getfield 104, 3) := by decide +kernel
theorem dX5_learn_25 : decode cX5_learn 25 = .ok (.istore_n 2, 1) := by decide +kernel
theorem dX5_learn_26 : decode cX5_learn 26 = .ok (.iconst 0, 1) := by decide +kernel
theorem dX5_learn_27 : decode cX5_learn 27 = .ok (.istore_n 3, 1) := by decide +kernel
theorem dX5_learn_28 : decode cX5_learn 28 = .ok (.iconst 0, 1) := by decide +kernel
theorem dX5_learn_29 : decode cX5_learn 29 = .ok (.istore 4, 2) := by decide +kernel
theorem dX5_learn_31 : decode cX5_learn 31 = .ok (.iload 4, 2) := by decide +kernel
theorem dX5_learn_33 : decode cX5_learn 33 = .ok (.aload_n 0, 1) := by decide +kernel
theorem dX5_learn_34 : decode cX5_learn 34 = .ok (.getfield 85, 3) := by decide +kernel
theorem dX5_learn_37 : decode cX5_learn 37 = .ok (.if_icmp .ge 26, 3) := by decide +kernel
theorem dX5_learn_40 : decode cX5_learn 40 = .ok (.iload_n 3, 1) := by decide +kernel
theorem dX5_learn_41 : decode cX5_learn 41 = .ok (.ifCond .ne 22, 3) := by decide +kernel
theorem dX5_learn_44 : decode cX5_learn 44 = .ok (.aload_n 0, 1) := by decide +kernel
theorem dX5_learn_45 : decode cX5_learn 45 = .ok (.aload_n 0, 1) := by decide +kernel
theorem dX5_learn_46 : decode cX5_learn 46 = .ok (.getfield 32, 3) := by decide +kernel
theorem dX5_learn_49 : decode cX5_learn 49 = .ok (.iload 4, 2) := by decide +kernel
theorem dX5_learn_51 : decode cX5_learn 51 = .ok (.iaload, 1) := by decide +kernel
theorem dX5_learn_52 : decode cX5_learn 52 = .ok (.iload_n 1, 1) := by decide +kernel
theorem dX5_learn_53 : decode cX5_learn 53 = .ok (.invokevirtual 119, 3) := by decide +kernel
theorem dX5_learn_56 : decode cX5_learn 56 = .ok (.istore_n 3, 1) := by decide +kernel
theorem dX5_learn_57 : decode cX5_learn 57 = .ok (.iinc 4 1, 3) := by decide +kernel
theorem dX5_learn_60 : decode cX5_learn 60 = .ok (.goto (-29), 3) := by decide +kernel
theorem dX5_learn_63 : decode cX5_learn 63 = .ok (.iload_n 3, 1) := by decide +kernel
theorem dX5_learn_64 : decode cX5_learn 64 = .ok (.ifCond .ne 33, 3) := by decide +kernel
theorem dX5_learn_67 : decode cX5_learn 67 = .ok (.aload_n 0, 1) := by decide +kernel
theorem dX5_learn_68 : decode cX5_learn 68 = .ok (.getfield 32, 3) := by decide +kernel
theorem dX5_learn_71 : decode cX5_learn 71 = .ok (.aload_n 0, 1) := by decide +kernel
theorem dX5_learn_72 : decode cX5_learn 72 = .ok (.getfield 85, 3) := by decide +kernel
theorem dX5_learn_75 : decode cX5_learn 75 = .ok (.iload_n 1, 1) := by decide +kernel
theorem dX5_learn_76 : decode cX5_learn 76 = .ok (.iastore, 1) := by decide +kernel
theorem dX5_learn_77 : decode cX5_learn 77 = .ok (.aload_n 0, 1) := by decide +kernel
theorem dX5_learn_78 : decode cX5_learn 78 = .ok (.getfield 35, 3) := by decide +kernel
theorem dX5_learn_81 : decode cX5_learn 81 = .ok (.aload_n 0, 1) := by decide +kernel
theorem dX5_learn_82 : decode cX5_learn 82 = .ok (.getfield 85, 3) := by decide +kernel
theorem dX5_learn_85 : decode cX5_learn 85 = .ok (.iload_n 2, 1) := by decide +kernel
theorem dX5_learn_86 : decode cX5_learn 86 = .ok (.iastore, 1) := by decide +kernel
theorem dX5_learn_87 : decode cX5_learn 87 = .ok (.aload_n 0, 1) := by decide +kernel
theorem dX5_learn_88 : decode cX5_learn 88 = .ok (.dup, 1) := by decide +kernel
theorem dX5_learn_89 : decode cX5_learn 89 = .ok (.getfield 85, 3) := by decide +kernel
theorem dX5_learn_92 : decode cX5_learn 92 = .ok (.iconst 1, 1) := by decide +kernel
theorem dX5_learn_93 : decode cX5_learn 93 = .ok (.iadd, 1) := by decide +kernel
theorem dX5_learn_94 : decode cX5_learn 94 = .ok (.putfield 85, 3) := by decide +kernel
theorem dX5_learn_97 : decode cX5_learn 97 = .ok (.goto (-88), 3) := by decide +kernel
theorem dX5_learn_100 : decode cX5_learn 100 = .ok (.aload_n 0, 1) := by decide +kernel
theorem dX5_learn_101 : decode cX5_learn 101 = .ok (.aload_n 0, 1) := by decide +kernel
theorem dX5_learn_102 : decode cX5_learn 102 = .ok (.getfield 85, 3) := by decide +kernel
theorem dX5_learn_105 : decode cX5_learn 105 = .ok (.putfield 122, 3) := by decide +kernel
theorem dX5_learn_108 : decode cX5_learn 108 = .ok (.iconst 0, 1) := by decide +kernel
theorem dX5_learn_109 : decode cX5_learn 109 = .ok (.istore_n 1, 1) := by decide +kernel
theorem dX5_learn_110 : decode cX5_learn 110 = .ok (.iload_n 1, 1) := by decide +kernel
theorem dX5_learn_111 : decode cX5_learn 111 = .ok (.aload_n 0, 1) := by decide +kernel
theorem dX5_learn_112 : decode cX5_learn 112 = .ok (.getfield 85, 3) := by decide +kernel
theorem dX5_learn_115 : decode cX5_learn 115 = .ok (.if_icmp .ge 51, 3) := by decide +kernel
theorem dX5_learn_118 : decode cX5_learn 118 = .ok (.aload_n 0, 1) := by decide +kernel
theorem dX5_learn_119 : decode cX5_learn 119 = .ok (.getfield 41, 3) := by decide +kernel
theorem dX5_learn_122 : decode cX5_learn 122 = .ok (.iload_n 1, 1) := by decide +kernel
theorem dX5_learn_123 : decode cX5_learn 123 = .ok (.aload_n 0, 1) := by decide +kernel
theorem dX5_learn_124 : decode cX5_learn 124 = .ok (.getfield 20, 3) := by decide +kernel
theorem dX5_learn_127 : decode cX5_learn 127 = .ok (.aload_n 0, 1) := by decide +kernel
theorem dX5_learn_128 : decode cX5_learn 128 = .ok (.getfield 17, 3) := by decide +kernel
theorem dX5_learn_131 : decode cX5_learn 131 = .ok (.aload_n 0, 1) := by decide +kernel
theorem dX5_learn_132 : decode cX5_learn 132 = .ok (.getfield 32, 3) := by decide +kernel
theorem dX5_learn_135 : decode cX5_learn 135 = .ok (.iload_n 1, 1) := by decide +kernel
theorem dX5_learn_136 : decode cX5_learn 136 = .ok (.iaload, 1) := by decide +kernel
theorem dX5_learn_137 : decode cX5_learn 137 = .ok (.iaload, 1) := by decide +kernel
theorem dX5_learn_138 : decode cX5_learn 138 = .ok (.iaload, 1) := by decide +kernel
theorem dX5_learn_139 : decode cX5_learn 139 = .ok (.iastore, 1) := by decide +kernel
theorem dX5_learn_140 : decode cX5_learn 140 = .ok (.aload_n 0, 1) := by decide +kernel
theorem dX5_learn_141 : decode cX5_learn 141 = .ok (.getfield 38, 3) := by decide +kernel
theorem dX5_learn_144 : decode cX5_learn 144 = .ok (.iconst 2, 1) := by decide +kernel
theorem dX5_learn_145 : decode cX5_learn 145 = .ok (.iload_n 1, 1) := by decide +kernel
theorem dX5_learn_146 : decode cX5_learn 146 = .ok (.imul, 1) := by decide +kernel
theorem dX5_learn_147 : decode cX5_learn 147 = .ok (.iconst (-1), 1) := by decide +kernel
theorem dX5_learn_148 : decode cX5_learn 148 = .ok (.iastore, 1) := by decide +kernel
theorem dX5_learn_149 : decode cX5_learn 149 = .ok (.aload_n 0, 1) := by decide +kernel
theorem dX5_learn_150 : decode cX5_learn 150 = .ok (.getfield 38, 3) := by decide +kernel
theorem dX5_learn_153 : decode cX5_learn 153 = .ok (.iconst 2, 1) := by decide +kernel
theorem dX5_learn_154 : decode cX5_learn 154 = .ok (.iload_n 1, 1) := by decide +kernel
theorem dX5_learn_155 : decode cX5_learn 155 = .ok (.imul, 1) := by decide +kernel
theorem dX5_learn_156 : decode cX5_learn 156 = .ok (.iconst 1, 1) := by decide +kernel
theorem dX5_learn_157 : decode cX5_learn 157 = .ok (.iadd, 1) := by decide +kernel
theorem dX5_learn_158 : decode cX5_learn 158 = .ok (.iconst (-1), 1) := by decide +kernel
theorem dX5_learn_159 : decode cX5_learn 159 = .ok (.iastore, 1) := by decide +kernel
theorem dX5_learn_160 : decode cX5_learn 160 = .ok (.iinc 1 1, 3) := by decide +kernel
theorem dX5_learn_163 : decode cX5_learn 163 = .ok (.goto (-53), 3) := by decide +kernel
theorem dX5_learn_166 : decode cX5_learn 166 = .ok (.iconst 1, 1) := by decide +kernel
theorem dX5_learn_167 : decode cX5_learn 167 = .ok (.istore_n 1, 1) := by decide +kernel
theorem dX5_learn_168 : decode cX5_learn 168 = .ok (.iload_n 1, 1) := by decide +kernel
theorem dX5_learn_169 : decode cX5_learn 169 = .ok (.sipush 511, 3) := by decide +kernel
theorem dX5_learn_172 : decode cX5_learn 172 = .ok (.if_icmp .ge 45, 3) := by decide +kernel
theorem dX5_learn_175 : decode cX5_learn 175 = .ok (.aload_n 0, 1) := by decide +kernel
theorem dX5_learn_176 : decode cX5_learn 176 = .ok (.getfield 13, 3) := by decide +kernel
theorem dX5_learn_179 : decode cX5_learn 179 = .ok (.iload_n 1, 1) := by decide +kernel
theorem dX5_learn_180 : decode cX5_learn 180 = .ok (.baload, 1) := by decide +kernel
theorem dX5_learn_181 : decode cX5_learn 181 = .ok (.ifCond .eq 30, 3) := by decide +kernel
theorem dX5_learn_184 : decode cX5_learn 184 = .ok (.aload_n 0, 1) := by decide +kernel
theorem dX5_learn_185 : decode cX5_learn 185 = .ok (.getfield 38, 3) := by decide +kernel
theorem dX5_learn_188 : decode cX5_learn 188 = .ok (.iconst 2, 1) := by decide +kernel
theorem dX5_learn_189 : decode cX5_learn 189 = .ok (.aload_n 0, 1) := by decide +kernel
theorem dX5_learn_190 : decode cX5_learn 190 = .ok (.iload_n 1, 1) := by decide +kernel
theorem dX5_learn_191 : decode cX5_learn 191 = .ok (.iconst 1, 1) := by decide +kernel
theorem dX5_learn_192 : decode cX5_learn 192 = .ok (.isub, 1) := by decide +kernel
theorem dX5_learn_193 : decode cX5_learn 193 = .ok (.iconst 2, 1) := by decide +kernel
theorem dX5_learn_194 : decode cX5_learn 194 = .ok (.idiv, 1) := by decide +kernel
theorem dX5_learn_195 : decode cX5_learn 195 = .ok (.invokevirtual 107, 3) := by decide +kernel
theorem dX5_learn_198 : decode cX5_learn 198 = .ok (.imul, 1) := by decide +kernel
theorem dX5_learn_199 : decode cX5_learn 199 = .ok (.iload_n 1, 1) := by decide +kernel
theorem dX5_learn_200 : decode cX5_learn 200 = .ok (.iconst 1, 1) := by decide +kernel
theorem dX5_learn_201 : decode cX5_learn 201 = .ok (.isub, 1) := by decide +kernel
theorem dX5_learn_202 : decode cX5_learn 202 = .ok (.iconst 2, 1) := by decide +kernel
theorem dX5_learn_203 : decode cX5_learn 203 = .ok (.irem, 1) := by decide +kernel
theorem dX5_learn_204 : decode cX5_learn 204 = .ok (.iadd, 1) := by decide +kernel
theorem dX5_learn_205 : decode cX5_learn 205 = .ok (.aload_n 0, 1) := by decide +kernel
theorem dX5_learn_206 : decode cX5_learn 206 = .ok (.iload_n 1, 1) := by decide +kernel
theorem dX5_learn_207 : decode cX5_learn 207 = .ok (.invokevirtual 107, 3) := by decide +kernel
theorem dX5_learn_210 : decode cX5_learn 210 = .ok (.iastore, 1) := by decide +kernel
theorem dX5_learn_211 : decode cX5_learn 211 = .ok (.iinc 1 1, 3) := by decide +kernel
theorem dX5_learn_214 : decode cX5_learn 214 = .ok (.goto (-46), 3) := by decide +kernel
theorem dX5_learn_217 : decode cX5_learn 217 = .ok (.aload_n 0, 1) := by decide +kernel
theorem dX5_learn_218 : decode cX5_learn 218 = .ok (.getfield 122, 3) := by decide +kernel
theorem dX5_learn_221 : decode cX5_learn 221 = .ok (.ireturn, 1) := by decide +kernel
theorem dX5_states_0 : decode cX5_states 0 = .ok (.aload_n 0, 1) := by decide +kernel
theorem dX5_states_1 : decode cX5_states 1 = .ok (.iconst 0, 1) := by decide +kernel
theorem dX5_states_2 : decode cX5_states 2 = .ok (.putfield 59, 3) := by decide +kernel
theorem dX5_states_5 : decode cX5_states 5 = .ok (.aload_n 0, 1) := by decide +kernel
theorem dX5_states_6 : decode cX5_states 6 = .ok (.getfield 122, 3) := by decide +kernel
theorem dX5_states_9 : decode cX5_states 9 = .ok (.ireturn, 1) := by decide +kernel
theorem dX5_isState_0 : decode cX5_isState 0 = .ok (.iload_n 1, 1) := by decide +kernel
theorem dX5_isState_1 : decode cX5_isState 1 = .ok (.ifCond .lt 15, 3) := by decide +kernel
theorem dX5_isState_4 : decode cX5_isState 4 = .ok (.iload_n 1, 1) := by decide +kernel
theorem dX5_isState_5 : decode cX5_isState 5 = .ok (.aload_n 0, 1) := by decide +kernel
theorem dX5_isState_6 : decode cX5_isState 6 = .ok (.getfield 122, 3) := by decide +kernel
theorem dX5_isState_9 : decode cX5_isState 9 = .ok (.if_icmp .ge 7, 3) := by decide +kernel
theorem dX5_isState_12 : decode cX5_isState 12 = .ok (.iconst 1, 1) := by decide +kernel
theorem dX5_isState_13 : decode cX5_isState 13 = .ok (.goto 4, 3) := by decide +kernel
theorem dX5_isState_16 : decode cX5_isState 16 = .ok (.iconst 0, 1) := by decide +kernel
theorem dX5_isState_17 : decode cX5_isState 17 = .ok (.ireturn, 1) := by decide +kernel
theorem dX5_next_0 : decode cX5_next 0 = .ok (.aload_n 0, 1) := by decide +kernel
theorem dX5_next_1 : decode cX5_next 1 = .ok (.aload_n 0, 1) := by decide +kernel
theorem dX5_next_2 : decode cX5_next 2 = .ok (.iload_n 1, 1) := by decide +kernel
theorem dX5_next_3 : decode cX5_next 3 = .ok (.invokevirtual 125, 3) := by decide +kernel
theorem dX5_next_6 : decode cX5_next 6 = .ok (.ifCond .eq 16, 3) := by decide +kernel
theorem dX5_next_9 : decode cX5_next 9 = .ok (.iload_n 2, 1) := by decide +kernel
theorem dX5_next_10 : decode cX5_next 10 = .ok (.ifCond .lt 12, 3) := by decide +kernel
theorem dX5_next_13 : decode cX5_next 13 = .ok (.iload_n 2, 1) := by decide +kernel
theorem dX5_next_14 : decode cX5_next 14 = .ok (.iconst 1, 1) := by decide +kernel
theorem dX5_next_15 : decode cX5_next 15 = .ok (.if_icmp .gt 7, 3) := by decide +kernel
theorem dX5_next_18 : decode cX5_next 18 = .ok (.iconst 1, 1) := by decide +kernel
theorem dX5_next_19 : decode cX5_next 19 = .ok (.goto 4, 3) := by decide +kernel
theorem dX5_next_22 : decode cX5_next 22 = .ok (.iconst 0, 1) := by decide +kernel
theorem dX5_next_23 : decode cX5_next 23 = .ok (.iconst 1, 1) := by decide +kernel
theorem dX5_next_24 : decode cX5_next 24 = .ok (.invokevirtual 78, 3) := by decide +kernel
theorem dX5_next_27 : decode cX5_next 27 = .ok (.ifCond .eq 16, 3) := by decide +kernel
theorem dX5_next_30 : decode cX5_next 30 = .ok (.aload_n 0, 1) := by decide +kernel
theorem dX5_next_31 : decode cX5_next 31 = .ok (.getfield 38, 3) := by decide +kernel
theorem dX5_next_34 : decode cX5_next 34 = .ok (.iconst 2, 1) := by decide +kernel
theorem dX5_next_35 : decode cX5_next 35 = .ok (.iload_n 1, 1) := by decide +kernel
theorem dX5_next_36 : decode cX5_next 36 = .ok (.imul, 1) := by decide +kernel
theorem dX5_next_37 : decode cX5_next 37 = .ok (.iload_n 2, 1) := by decide +kernel
theorem dX5_next_38 : decode cX5_next 38 = .ok (.iadd, 1) := by decide +kernel
theorem dX5_next_39 : decode cX5_next 39 = .ok (.iaload, 1) := by decide +kernel
theorem dX5_next_40 : decode cX5_next 40 = .ok (.goto 4, 3) := by decide +kernel
theorem dX5_next_43 : decode cX5_next 43 = .ok (.iconst 0, 1) := by decide +kernel
theorem dX5_next_44 : decode cX5_next 44 = .ok (.ireturn, 1) := by decide +kernel
theorem dX5_sign_0 : decode cX5_sign 0 = .ok (.aload_n 0, 1) := by decide +kernel
theorem dX5_sign_1 : decode cX5_sign 1 = .ok (.aload_n 0, 1) := by decide +kernel
theorem dX5_sign_2 : decode cX5_sign 2 = .ok (.iload_n 1, 1) := by decide +kernel
theorem dX5_sign_3 : decode cX5_sign 3 = .ok (.invokevirtual 125, 3) := by decide +kernel
theorem dX5_sign_6 : decode cX5_sign 6 = .ok (.iconst 1, 1) := by decide +kernel
theorem dX5_sign_7 : decode cX5_sign 7 = .ok (.invokevirtual 78, 3) := by decide +kernel
theorem dX5_sign_10 : decode cX5_sign 10 = .ok (.ifCond .eq 12, 3) := by decide +kernel
theorem dX5_sign_13 : decode cX5_sign 13 = .ok (.aload_n 0, 1) := by decide +kernel
theorem dX5_sign_14 : decode cX5_sign 14 = .ok (.getfield 41, 3) := by decide +kernel
theorem dX5_sign_17 : decode cX5_sign 17 = .ok (.iload_n 1, 1) := by decide +kernel
theorem dX5_sign_18 : decode cX5_sign 18 = .ok (.iaload, 1) := by decide +kernel
theorem dX5_sign_19 : decode cX5_sign 19 = .ok (.goto 4, 3) := by decide +kernel
theorem dX5_sign_22 : decode cX5_sign 22 = .ok (.iconst 0, 1) := by decide +kernel
theorem dX5_sign_23 : decode cX5_sign 23 = .ok (.ireturn, 1) := by decide +kernel
theorem dX5_accepts_0 : decode cX5_accepts 0 = .ok (.aload_n 0, 1) := by decide +kernel
theorem dX5_accepts_1 : decode cX5_accepts 1 = .ok (.iload_n 1, 1) := by decide +kernel
theorem dX5_accepts_2 : decode cX5_accepts 2 = .ok (.iload_n 2, 1) := by decide +kernel
theorem dX5_accepts_3 : decode cX5_accepts 3 = .ok (.invokestatic 74, 3) := by decide +kernel
theorem dX5_accepts_6 : decode cX5_accepts 6 = .ok (.iconst 1, 1) := by decide +kernel
theorem dX5_accepts_7 : decode cX5_accepts 7 = .ok (.invokevirtual 78, 3) := by decide +kernel
theorem dX5_accepts_10 : decode cX5_accepts 10 = .ok (.ifCond .eq 23, 3) := by decide +kernel
theorem dX5_accepts_13 : decode cX5_accepts 13 = .ok (.aload_n 0, 1) := by decide +kernel
theorem dX5_accepts_14 : decode cX5_accepts 14 = .ok (.aload_n 0, 1) := by decide +kernel
theorem dX5_accepts_15 : decode cX5_accepts 15 = .ok (.getfield 122, 3) := by decide +kernel
theorem dX5_accepts_18 : decode cX5_accepts 18 = .ok (.ifCond .le 7, 3) := by decide +kernel
theorem dX5_accepts_21 : decode cX5_accepts 21 = .ok (.iconst 1, 1) := by decide +kernel
theorem dX5_accepts_22 : decode cX5_accepts 22 = .ok (.goto 4, 3) := by decide +kernel
theorem dX5_accepts_25 : decode cX5_accepts 25 = .ok (.iconst 0, 1) := by decide +kernel
theorem dX5_accepts_26 : decode cX5_accepts 26 = .ok (.iconst 2, 1) := by decide +kernel
theorem dX5_accepts_27 : decode cX5_accepts 27 = .ok (.invokevirtual 78, 3) := by decide +kernel
theorem dX5_accepts_30 : decode cX5_accepts 30 = .ok (.ifCond .ne 5, 3) := by decide +kernel
theorem dX5_accepts_33 : decode cX5_accepts 33 = .ok (.iconst 0, 1) := by decide +kernel
theorem dX5_accepts_34 : decode cX5_accepts 34 = .ok (.ireturn, 1) := by decide +kernel
theorem dX5_accepts_35 : decode cX5_accepts 35 = .ok (.iconst 0, 1) := by decide +kernel
theorem dX5_accepts_36 : decode cX5_accepts 36 = .ok (.istore_n 3, 1) := by decide +kernel
theorem dX5_accepts_37 : decode cX5_accepts 37 = .ok (.iload_n 1, 1) := by decide +kernel
theorem dX5_accepts_38 : decode cX5_accepts 38 = .ok (.iconst 1, 1) := by decide +kernel
theorem dX5_accepts_39 : decode cX5_accepts 39 = .ok (.isub, 1) := by decide +kernel
theorem dX5_accepts_40 : decode cX5_accepts 40 = .ok (.istore 4, 2) := by decide +kernel
theorem dX5_accepts_42 : decode cX5_accepts 42 = .ok (.iload 4, 2) := by decide +kernel
theorem dX5_accepts_44 : decode cX5_accepts 44 = .ok (.ifCond .lt 29, 3) := by decide +kernel
theorem dX5_accepts_47 : decode cX5_accepts 47 = .ok (.iload_n 3, 1) := by decide +kernel
theorem dX5_accepts_48 : decode cX5_accepts 48 = .ok (.ifCond .lt 25, 3) := by decide +kernel
theorem dX5_accepts_51 : decode cX5_accepts 51 = .ok (.aload_n 0, 1) := by decide +kernel
theorem dX5_accepts_52 : decode cX5_accepts 52 = .ok (.getfield 38, 3) := by decide +kernel
theorem dX5_accepts_55 : decode cX5_accepts 55 = .ok (.iconst 2, 1) := by decide +kernel
theorem dX5_accepts_56 : decode cX5_accepts 56 = .ok (.iload_n 3, 1) := by decide +kernel
theorem dX5_accepts_57 : decode cX5_accepts 57 = .ok (.imul, 1) := by decide +kernel
theorem dX5_accepts_58 : decode cX5_accepts 58 = .ok (.iload_n 2, 1) := by decide +kernel
theorem dX5_accepts_59 : decode cX5_accepts 59 = .ok (.iload 4, 2) := by decide +kernel
theorem dX5_accepts_61 : decode cX5_accepts 61 = .ok (.ishr, 1) := by decide +kernel
theorem dX5_accepts_62 : decode cX5_accepts 62 = .ok (.iconst 1, 1) := by decide +kernel
theorem dX5_accepts_63 : decode cX5_accepts 63 = .ok (.iand, 1) := by decide +kernel
theorem dX5_accepts_64 : decode cX5_accepts 64 = .ok (.iadd, 1) := by decide +kernel
theorem dX5_accepts_65 : decode cX5_accepts 65 = .ok (.iaload, 1) := by decide +kernel
theorem dX5_accepts_66 : decode cX5_accepts 66 = .ok (.istore_n 3, 1) := by decide +kernel
theorem dX5_accepts_67 : decode cX5_accepts 67 = .ok (.iinc 4 (-1), 3) := by decide +kernel
theorem dX5_accepts_70 : decode cX5_accepts 70 = .ok (.goto (-28), 3) := by decide +kernel
theorem dX5_accepts_73 : decode cX5_accepts 73 = .ok (.iload_n 3, 1) := by decide +kernel
theorem dX5_accepts_74 : decode cX5_accepts 74 = .ok (.ifCond .lt 17, 3) := by decide +kernel
theorem dX5_accepts_77 : decode cX5_accepts 77 = .ok (.aload_n 0, 1) := by decide +kernel
theorem dX5_accepts_78 : decode cX5_accepts 78 = .ok (.getfield 41, 3) := by decide +kernel
theorem dX5_accepts_81 : decode cX5_accepts 81 = .ok (.iload_n 3, 1) := by decide +kernel
theorem dX5_accepts_82 : decode cX5_accepts 82 = .ok (.iaload, 1) := by decide +kernel
theorem dX5_accepts_83 : decode cX5_accepts 83 = .ok (.iconst 1, 1) := by decide +kernel
theorem dX5_accepts_84 : decode cX5_accepts 84 = .ok (.if_icmp .ne 7, 3) := by decide +kernel
theorem dX5_accepts_87 : decode cX5_accepts 87 = .ok (.iconst 1, 1) := by decide +kernel
theorem dX5_accepts_88 : decode cX5_accepts 88 = .ok (.goto 4, 3) := by decide +kernel
theorem dX5_accepts_91 : decode cX5_accepts 91 = .ok (.iconst 0, 1) := by decide +kernel
theorem dX5_accepts_92 : decode cX5_accepts 92 = .ok (.ireturn, 1) := by decide +kernel
theorem dX5_draft_0 : decode cX5_draft 0 = .ok (.aload_n 0, 1) := by decide +kernel
theorem dX5_draft_1 : decode cX5_draft 1 = .ok (.iload_n 1, 1) := by decide +kernel
theorem dX5_draft_2 : decode cX5_draft 2 = .ok (.iconst 1, 1) := by decide +kernel
theorem dX5_draft_3 : decode cX5_draft 3 = .ok (.if_icmp .lt 12, 3) := by decide +kernel
theorem dX5_draft_6 : decode cX5_draft 6 = .ok (.iload_n 1, 1) := by decide +kernel
theorem dX5_draft_7 : decode cX5_draft 7 = .ok (.iconst 5, 1) := by decide +kernel
theorem dX5_draft_8 : decode cX5_draft 8 = .ok (.if_icmp .gt 7, 3) := by decide +kernel
theorem dX5_draft_11 : decode cX5_draft 11 = .ok (.iconst 1, 1) := by decide +kernel
theorem dX5_draft_12 : decode cX5_draft 12 = .ok (.goto 4, 3) := by decide +kernel
theorem dX5_draft_15 : decode cX5_draft 15 = .ok (.iconst 0, 1) := by decide +kernel
theorem dX5_draft_16 : decode cX5_draft 16 = .ok (.iconst 1, 1) := by decide +kernel
theorem dX5_draft_17 : decode cX5_draft 17 = .ok (.invokevirtual 78, 3) := by decide +kernel
theorem dX5_draft_20 : decode cX5_draft 20 = .ok (.ifCond .ne 4, 3) := by decide +kernel
theorem dX5_draft_23 : decode cX5_draft 23 = .ok (.return_, 1) := by decide +kernel
theorem dX5_draft_24 : decode cX5_draft 24 = .ok (.aload_n 0, 1) := by decide +kernel
theorem dX5_draft_25 : decode cX5_draft 25 = .ok (.iload_n 1, 1) := by decide +kernel
theorem dX5_draft_26 : decode cX5_draft 26 = .ok (.putfield 129, 3) := by decide +kernel
theorem dX5_draft_29 : decode cX5_draft 29 = .ok (.iconst 0, 1) := by decide +kernel
theorem dX5_draft_30 : decode cX5_draft 30 = .ok (.istore_n 2, 1) := by decide +kernel
theorem dX5_draft_31 : decode cX5_draft 31 = .ok (.iload_n 2, 1) := by decide +kernel
theorem dX5_draft_32 : decode cX5_draft 32 = .ok (.iload_n 1, 1) := by decide +kernel
theorem dX5_draft_33 : decode cX5_draft 33 = .ok (.if_icmp .ge 36, 3) := by decide +kernel
theorem dX5_draft_36 : decode cX5_draft 36 = .ok (.aload_n 0, 1) := by decide +kernel
theorem dX5_draft_37 : decode cX5_draft 37 = .ok (.getfield 44, 3) := by decide +kernel
theorem dX5_draft_40 : decode cX5_draft 40 = .ok (.iload_n 2, 1) := by decide +kernel
theorem dX5_draft_41 : decode cX5_draft 41 = .ok (.iconst 0, 1) := by decide +kernel
theorem dX5_draft_42 : decode cX5_draft 42 = .ok (.bastore, 1) := by decide +kernel
theorem dX5_draft_43 : decode cX5_draft 43 = .ok (.aload_n 0, 1) := by decide +kernel
theorem dX5_draft_44 : decode cX5_draft 44 = .ok (.getfield 47, 3) := by decide +kernel
theorem dX5_draft_47 : decode cX5_draft 47 = .ok (.iconst 2, 1) := by decide +kernel
theorem dX5_draft_48 : decode cX5_draft 48 = .ok (.iload_n 2, 1) := by decide +kernel
theorem dX5_draft_49 : decode cX5_draft 49 = .ok (.imul, 1) := by decide +kernel
theorem dX5_draft_50 : decode cX5_draft 50 = .ok (.iload_n 2, 1) := by decide +kernel
theorem dX5_draft_51 : decode cX5_draft 51 = .ok (.iastore, 1) := by decide +kernel
theorem dX5_draft_52 : decode cX5_draft 52 = .ok (.aload_n 0, 1) := by decide +kernel
theorem dX5_draft_53 : decode cX5_draft 53 = .ok (.getfield 47, 3) := by decide +kernel
theorem dX5_draft_56 : decode cX5_draft 56 = .ok (.iconst 2, 1) := by decide +kernel
theorem dX5_draft_57 : decode cX5_draft 57 = .ok (.iload_n 2, 1) := by decide +kernel
theorem dX5_draft_58 : decode cX5_draft 58 = .ok (.imul, 1) := by decide +kernel
theorem dX5_draft_59 : decode cX5_draft 59 = .ok (.iconst 1, 1) := by decide +kernel
theorem dX5_draft_60 : decode cX5_draft 60 = .ok (.iadd, 1) := by decide +kernel
theorem dX5_draft_61 : decode cX5_draft 61 = .ok (.iload_n 2, 1) := by decide +kernel
theorem dX5_draft_62 : decode cX5_draft 62 = .ok (.iastore, 1) := by decide +kernel
theorem dX5_draft_63 : decode cX5_draft 63 = .ok (.iinc 2 1, 3) := by decide +kernel
theorem dX5_draft_66 : decode cX5_draft 66 = .ok (.goto (-35), 3) := by decide +kernel
theorem dX5_draft_69 : decode cX5_draft 69 = .ok (.return_, 1) := by decide +kernel
theorem dX5_isDrafted_0 : decode cX5_isDrafted 0 = .ok (.iload_n 1, 1) := by decide +kernel
theorem dX5_isDrafted_1 : decode cX5_isDrafted 1 = .ok (.ifCond .lt 15, 3) := by decide +kernel
theorem dX5_isDrafted_4 : decode cX5_isDrafted 4 = .ok (.iload_n 1, 1) := by decide +kernel
theorem dX5_isDrafted_5 : decode cX5_isDrafted 5 = .ok (.aload_n 0, 1) := by decide +kernel
theorem dX5_isDrafted_6 : decode cX5_isDrafted 6 = .ok (.getfield 129, 3) := by decide +kernel
theorem dX5_isDrafted_9 : decode cX5_isDrafted 9 = .ok (.if_icmp .ge 7, 3) := by decide +kernel
theorem dX5_isDrafted_12 : decode cX5_isDrafted 12 = .ok (.iconst 1, 1) := by decide +kernel
theorem dX5_isDrafted_13 : decode cX5_isDrafted 13 = .ok (.goto 4, 3) := by decide +kernel
theorem dX5_isDrafted_16 : decode cX5_isDrafted 16 = .ok (.iconst 0, 1) := by decide +kernel
theorem dX5_isDrafted_17 : decode cX5_isDrafted 17 = .ok (.ireturn, 1) := by decide +kernel
theorem dX5_define_0 : decode cX5_define 0 = .ok (.aload_n 0, 1) := by decide +kernel
theorem dX5_define_1 : decode cX5_define 1 = .ok (.aload_n 0, 1) := by decide +kernel
theorem dX5_define_2 : decode cX5_define 2 = .ok (.getfield 129, 3) := by decide +kernel
theorem dX5_define_5 : decode cX5_define 5 = .ok (.ifCond .le 7, 3) := by decide +kernel
theorem dX5_define_8 : decode cX5_define 8 = .ok (.iconst 1, 1) := by decide +kernel
theorem dX5_define_9 : decode cX5_define 9 = .ok (.goto 4, 3) := by decide +kernel
theorem dX5_define_12 : decode cX5_define 12 = .ok (.iconst 0, 1) := by decide +kernel
theorem dX5_define_13 : decode cX5_define 13 = .ok (.iconst 1, 1) := by decide +kernel
theorem dX5_define_14 : decode cX5_define 14 = .ok (.invokevirtual 78, 3) := by decide +kernel
theorem dX5_define_17 : decode cX5_define 17 = .ok (.ifCond .eq 41, 3) := by decide +kernel
theorem dX5_define_20 : decode cX5_define 20 = .ok (.aload_n 0, 1) := by decide +kernel
theorem dX5_define_21 : decode cX5_define 21 = .ok (.aload_n 0, 1) := by decide +kernel
theorem dX5_define_22 : decode cX5_define 22 = .ok (.iload_n 1, 1) := by decide +kernel
theorem dX5_define_23 : decode cX5_define 23 = .ok (.invokevirtual 132, 3) := by decide +kernel
theorem dX5_define_26 : decode cX5_define 26 = .ok (.ifCond .eq 24, 3) := by decide +kernel
theorem dX5_define_29 : decode cX5_define 29 = .ok (.aload_n 0, 1) := by decide +kernel
theorem dX5_define_30 : decode cX5_define 30 = .ok (.iload_n 3, 1) := by decide +kernel
theorem dX5_define_31 : decode cX5_define 31 = .ok (.invokevirtual 132, 3) := by decide +kernel
theorem dX5_define_34 : decode cX5_define 34 = .ok (.ifCond .eq 16, 3) := by decide +kernel
theorem dX5_define_37 : decode cX5_define 37 = .ok (.aload_n 0, 1) := by decide +kernel
theorem dX5_define_38 : decode cX5_define 38 = .ok (.iload 4, 2) := by decide +kernel
theorem dX5_define_40 : decode cX5_define 40 = .ok (.invokevirtual 132, 3) := by decide +kernel
theorem dX5_define_43 : decode cX5_define 43 = .ok (.ifCond .eq 7, 3) := by decide +kernel
theorem dX5_define_46 : decode cX5_define 46 = .ok (.iconst 1, 1) := by decide +kernel
theorem dX5_define_47 : decode cX5_define 47 = .ok (.goto 4, 3) := by decide +kernel
theorem dX5_define_50 : decode cX5_define 50 = .ok (.iconst 0, 1) := by decide +kernel
theorem dX5_define_51 : decode cX5_define 51 = .ok (.iconst 2, 1) := by decide +kernel
theorem dX5_define_52 : decode cX5_define 52 = .ok (.invokevirtual 78, 3) := by decide +kernel
theorem dX5_define_55 : decode cX5_define 55 = .ok (.ifCond .ne 4, 3) := by decide +kernel
theorem dX5_define_58 : decode cX5_define 58 = .ok (.return_, 1) := by decide +kernel
theorem dX5_define_59 : decode cX5_define 59 = .ok (.aload_n 0, 1) := by decide +kernel
theorem dX5_define_60 : decode cX5_define 60 = .ok (.getfield 44, 3) := by decide +kernel
theorem dX5_define_63 : decode cX5_define 63 = .ok (.iload_n 1, 1) := by decide +kernel
theorem dX5_define_64 : decode cX5_define 64 = .ok (.iload_n 2, 1) := by decide +kernel
theorem dX5_define_65 : decode cX5_define 65 = .ok (.bastore, 1) := by decide +kernel
theorem dX5_define_66 : decode cX5_define 66 = .ok (.aload_n 0, 1) := by decide +kernel
theorem dX5_define_67 : decode cX5_define 67 = .ok (.getfield 47, 3) := by decide +kernel
theorem dX5_define_70 : decode cX5_define 70 = .ok (.iconst 2, 1) := by decide +kernel
theorem dX5_define_71 : decode cX5_define 71 = .ok (.iload_n 1, 1) := by decide +kernel
theorem dX5_define_72 : decode cX5_define 72 = .ok (.imul, 1) := by decide +kernel
theorem dX5_define_73 : decode cX5_define 73 = .ok (.iload_n 3, 1) := by decide +kernel
theorem dX5_define_74 : decode cX5_define 74 = .ok (.iastore, 1) := by decide +kernel
theorem dX5_define_75 : decode cX5_define 75 = .ok (.aload_n 0, 1) := by decide +kernel
theorem dX5_define_76 : decode cX5_define 76 = .ok (.getfield 47, 3) := by decide +kernel
theorem dX5_define_79 : decode cX5_define 79 = .ok (.iconst 2, 1) := by decide +kernel
theorem dX5_define_80 : decode cX5_define 80 = .ok (.iload_n 1, 1) := by decide +kernel
theorem dX5_define_81 : decode cX5_define 81 = .ok (.imul, 1) := by decide +kernel
theorem dX5_define_82 : decode cX5_define 82 = .ok (.iconst 1, 1) := by decide +kernel
theorem dX5_define_83 : decode cX5_define 83 = .ok (.iadd, 1) := by decide +kernel
theorem dX5_define_84 : decode cX5_define 84 = .ok (.iload 4, 2) := by decide +kernel
theorem dX5_define_86 : decode cX5_define 86 = .ok (.iastore, 1) := by decide +kernel
theorem dX5_define_87 : decode cX5_define 87 = .ok (.return_, 1) := by decide +kernel
theorem dX5_lead_0 : decode cX5_lead 0 = .ok (.iload_n 1, 1) := by decide +kernel
theorem dX5_lead_1 : decode cX5_lead 1 = .ok (.istore_n 3, 1) := by decide +kernel
theorem dX5_lead_2 : decode cX5_lead 2 = .ok (.iload_n 2, 1) := by decide +kernel
theorem dX5_lead_3 : decode cX5_lead 3 = .ok (.invokestatic 63, 3) := by decide +kernel
theorem dX5_lead_6 : decode cX5_lead 6 = .ok (.istore 4, 2) := by decide +kernel
theorem dX5_lead_8 : decode cX5_lead 8 = .ok (.iload_n 2, 1) := by decide +kernel
theorem dX5_lead_9 : decode cX5_lead 9 = .ok (.invokestatic 67, 3) := by decide +kernel
theorem dX5_lead_12 : decode cX5_lead 12 = .ok (.istore 5, 2) := by decide +kernel
theorem dX5_lead_14 : decode cX5_lead 14 = .ok (.iload 4, 2) := by decide +kernel
theorem dX5_lead_16 : decode cX5_lead 16 = .ok (.iconst 1, 1) := by decide +kernel
theorem dX5_lead_17 : decode cX5_lead 17 = .ok (.isub, 1) := by decide +kernel
theorem dX5_lead_18 : decode cX5_lead 18 = .ok (.istore 6, 2) := by decide +kernel
theorem dX5_lead_20 : decode cX5_lead 20 = .ok (.iload 6, 2) := by decide +kernel
theorem dX5_lead_22 : decode cX5_lead 22 = .ok (.ifCond .lt 26, 3) := by decide +kernel
theorem dX5_lead_25 : decode cX5_lead 25 = .ok (.aload_n 0, 1) := by decide +kernel
theorem dX5_lead_26 : decode cX5_lead 26 = .ok (.getfield 47, 3) := by decide +kernel
theorem dX5_lead_29 : decode cX5_lead 29 = .ok (.iconst 2, 1) := by decide +kernel
theorem dX5_lead_30 : decode cX5_lead 30 = .ok (.iload_n 3, 1) := by decide +kernel
theorem dX5_lead_31 : decode cX5_lead 31 = .ok (.imul, 1) := by decide +kernel
theorem dX5_lead_32 : decode cX5_lead 32 = .ok (.iload 5, 2) := by decide +kernel
theorem dX5_lead_34 : decode cX5_lead 34 = .ok (.iload 6, 2) := by decide +kernel
theorem dX5_lead_36 : decode cX5_lead 36 = .ok (.ishr, 1) := by decide +kernel
theorem dX5_lead_37 : decode cX5_lead 37 = .ok (.iconst 1, 1) := by decide +kernel
theorem dX5_lead_38 : decode cX5_lead 38 = .ok (.iand, 1) := by decide +kernel
theorem dX5_lead_39 : decode cX5_lead 39 = .ok (.iadd, 1) := by decide +kernel
theorem dX5_lead_40 : decode cX5_lead 40 = .ok (.iaload, 1) := by decide +kernel
theorem dX5_lead_41 : decode cX5_lead 41 = .ok (.istore_n 3, 1) := by decide +kernel
theorem dX5_lead_42 : decode cX5_lead 42 = .ok (.iinc 6 (-1), 3) := by decide +kernel
theorem dX5_lead_45 : decode cX5_lead 45 = .ok (.goto (-25), 3) := by decide +kernel
theorem dX5_lead_48 : decode cX5_lead 48 = .ok (.iload_n 3, 1) := by decide +kernel
theorem dX5_lead_49 : decode cX5_lead 49 = .ok (.ireturn, 1) := by decide +kernel
theorem dX5_setsApart_0 : decode cX5_setsApart 0 = .ok (.iconst 0, 1) := by decide +kernel
theorem dX5_setsApart_1 : decode cX5_setsApart 1 = .ok (.istore_n 3, 1) := by decide +kernel
theorem dX5_setsApart_2 : decode cX5_setsApart 2 = .ok (.iload_n 3, 1) := by decide +kernel
theorem dX5_setsApart_3 : decode cX5_setsApart 3 = .ok (.bipush 15, 2) := by decide +kernel
theorem dX5_setsApart_5 : decode cX5_setsApart 5 = .ok (.if_icmp .ge 36, 3) := by decide +kernel
theorem dX5_setsApart_8 : decode cX5_setsApart 8 = .ok (.aload_n 0, 1) := by decide +kernel
theorem dX5_setsApart_9 : decode cX5_setsApart 9 = .ok (.getfield 44, 3) := by decide +kernel
theorem dX5_setsApart_12 : decode cX5_setsApart 12 = .ok (.aload_n 0, 1) := by decide +kernel
theorem dX5_setsApart_13 : decode cX5_setsApart 13 = .ok (.iload_n 1, 1) := by decide +kernel
theorem dX5_setsApart_14 : decode cX5_setsApart 14 = .ok (.iload_n 3, 1) := by decide +kernel
theorem dX5_setsApart_15 : decode cX5_setsApart 15 = .ok (.invokevirtual 135, 3) := by decide +kernel
theorem dX5_setsApart_18 : decode cX5_setsApart 18 = .ok (.baload, 1) := by decide +kernel
theorem dX5_setsApart_19 : decode cX5_setsApart 19 = .ok (.aload_n 0, 1) := by decide +kernel
theorem dX5_setsApart_20 : decode cX5_setsApart 20 = .ok (.getfield 44, 3) := by decide +kernel
theorem dX5_setsApart_23 : decode cX5_setsApart 23 = .ok (.aload_n 0, 1) := by decide +kernel
theorem dX5_setsApart_24 : decode cX5_setsApart 24 = .ok (.iload_n 2, 1) := by decide +kernel
theorem dX5_setsApart_25 : decode cX5_setsApart 25 = .ok (.iload_n 3, 1) := by decide +kernel
theorem dX5_setsApart_26 : decode cX5_setsApart 26 = .ok (.invokevirtual 135, 3) := by decide +kernel
theorem dX5_setsApart_29 : decode cX5_setsApart 29 = .ok (.baload, 1) := by decide +kernel
theorem dX5_setsApart_30 : decode cX5_setsApart 30 = .ok (.if_icmp .eq 5, 3) := by decide +kernel
theorem dX5_setsApart_33 : decode cX5_setsApart 33 = .ok (.iload_n 3, 1) := by decide +kernel
theorem dX5_setsApart_34 : decode cX5_setsApart 34 = .ok (.ireturn, 1) := by decide +kernel
theorem dX5_setsApart_35 : decode cX5_setsApart 35 = .ok (.iinc 3 1, 3) := by decide +kernel
theorem dX5_setsApart_38 : decode cX5_setsApart 38 = .ok (.goto (-36), 3) := by decide +kernel
theorem dX5_setsApart_41 : decode cX5_setsApart 41 = .ok (.iconst (-1), 1) := by decide +kernel
theorem dX5_setsApart_42 : decode cX5_setsApart 42 = .ok (.ireturn, 1) := by decide +kernel
theorem dX5_classOf_0 : decode cX5_classOf 0 = .ok (.iconst (-1), 1) := by decide +kernel
theorem dX5_classOf_1 : decode cX5_classOf 1 = .ok (.istore_n 2, 1) := by decide +kernel
theorem dX5_classOf_2 : decode cX5_classOf 2 = .ok (.iconst 0, 1) := by decide +kernel
theorem dX5_classOf_3 : decode cX5_classOf 3 = .ok (.istore_n 3, 1) := by decide +kernel
theorem dX5_classOf_4 : decode cX5_classOf 4 = .ok (.iload_n 3, 1) := by decide +kernel
theorem dX5_classOf_5 : decode cX5_classOf 5 = .ok (.aload_n 0, 1) := by decide +kernel
theorem dX5_classOf_6 : decode cX5_classOf 6 = .ok (.getfield 138, 3) := by decide +kernel
theorem dX5_classOf_9 : decode cX5_classOf 9 = .ok (.if_icmp .ge 29, 3) := by decide +kernel
theorem dX5_classOf_12 : decode cX5_classOf 12 = .ok (.aload_n 0, 1) := by decide +kernel
theorem dX5_classOf_13 : decode cX5_classOf 13 = .ok (.aload_n 0, 1) := by decide +kernel
theorem dX5_classOf_14 : decode cX5_classOf 14 = .ok (.getfield 50, 3) := by decide +kernel
theorem dX5_classOf_17 : decode cX5_classOf 17 = .ok (.iload_n 3, 1) := by decide +kernel
theorem dX5_classOf_18 : decode cX5_classOf 18 = .ok (.iaload, 1) := by decide +kernel
theorem dX5_classOf_19 : decode cX5_classOf 19 = .ok (.iload_n 1, 1) := by decide +kernel
theorem dX5_classOf_20 : decode cX5_classOf 20 = .ok (.invokevirtual 141, 3) := by decide +kernel
theorem dX5_classOf_23 : decode cX5_classOf 23 = .ok (.ifCond .ge 7, 3) := by decide +kernel
theorem dX5_classOf_26 : decode cX5_classOf 26 = .ok (.iload_n 3, 1) := by decide +kernel
theorem dX5_classOf_27 : decode cX5_classOf 27 = .ok (.goto 4, 3) := by decide +kernel
theorem dX5_classOf_30 : decode cX5_classOf 30 = .ok (.iload_n 2, 1) := by decide +kernel
theorem dX5_classOf_31 : decode cX5_classOf 31 = .ok (.istore_n 2, 1) := by decide +kernel
theorem dX5_classOf_32 : decode cX5_classOf 32 = .ok (.iinc 3 1, 3) := by decide +kernel
theorem dX5_classOf_35 : decode cX5_classOf 35 = .ok (.goto (-31), 3) := by decide +kernel
theorem dX5_classOf_38 : decode cX5_classOf 38 = .ok (.iload_n 2, 1) := by decide +kernel
theorem dX5_classOf_39 : decode cX5_classOf 39 = .ok (.ireturn, 1) := by decide +kernel
theorem dX5_reduce_0 : decode cX5_reduce 0 = .ok (.aload_n 0, 1) := by decide +kernel
theorem dX5_reduce_1 : decode cX5_reduce 1 = .ok (.iconst 0, 1) := by decide +kernel
theorem dX5_reduce_2 : decode cX5_reduce 2 = .ok (.putfield 138, 3) := by decide +kernel
theorem dX5_reduce_5 : decode cX5_reduce 5 = .ok (.iconst 0, 1) := by decide +kernel
theorem dX5_reduce_6 : decode cX5_reduce 6 = .ok (.istore_n 1, 1) := by decide +kernel
theorem dX5_reduce_7 : decode cX5_reduce 7 = .ok (.iload_n 1, 1) := by decide +kernel
theorem dX5_reduce_8 : decode cX5_reduce 8 = .ok (.bipush 31, 2) := by decide +kernel
theorem dX5_reduce_10 : decode cX5_reduce 10 = .ok (.if_icmp .ge 54, 3) := by decide +kernel
theorem dX5_reduce_13 : decode cX5_reduce 13 = .ok (.aload_n 0, 1) := by decide +kernel
theorem dX5_reduce_14 : decode cX5_reduce 14 = .ok (.iconst 0, 1) := by decide +kernel
theorem dX5_reduce_15 : decode cX5_reduce 15 = .ok (.iload_n 1, 1) := by decide +kernel
theorem dX5_reduce_16 : decode cX5_reduce 16 = .ok (.invokevirtual 135, 3) := by decide +kernel
theorem dX5_reduce_19 : decode cX5_reduce 19 = .ok (.istore_n 2, 1) := by decide +kernel
theorem dX5_reduce_20 : decode cX5_reduce 20 = .ok (.aload_n 0, 1) := by decide +kernel
theorem dX5_reduce_21 : decode cX5_reduce 21 = .ok (.iload_n 2, 1) := by decide +kernel
theorem dX5_reduce_22 : decode cX5_reduce 22 = .ok (.invokevirtual 144, 3) := by decide +kernel
theorem dX5_reduce_25 : decode cX5_reduce 25 = .ok (.ifCond .ge 33, 3) := by decide +kernel
theorem dX5_reduce_28 : decode cX5_reduce 28 = .ok (.aload_n 0, 1) := by decide +kernel
theorem dX5_reduce_29 : decode cX5_reduce 29 = .ok (.getfield 50, 3) := by decide +kernel
theorem dX5_reduce_32 : decode cX5_reduce 32 = .ok (.aload_n 0, 1) := by decide +kernel
theorem dX5_reduce_33 : decode cX5_reduce 33 = .ok (.getfield 138, 3) := by decide +kernel
theorem dX5_reduce_36 : decode cX5_reduce 36 = .ok (.iload_n 2, 1) := by decide +kernel
theorem dX5_reduce_37 : decode cX5_reduce 37 = .ok (.iastore, 1) := by decide +kernel
theorem dX5_reduce_38 : decode cX5_reduce 38 = .ok (.aload_n 0, 1) := by decide +kernel
theorem dX5_reduce_39 : decode cX5_reduce 39 = .ok (.getfield 53, 3) := by decide +kernel
theorem dX5_reduce_42 : decode cX5_reduce 42 = .ok (.aload_n 0, 1) := by decide +kernel
theorem dX5_reduce_43 : decode cX5_reduce 43 = .ok (.getfield 138, 3) := by decide +kernel
theorem dX5_reduce_46 : decode cX5_reduce 46 = .ok (.iload_n 1, 1) := by decide +kernel
theorem dX5_reduce_47 : decode cX5_reduce 47 = .ok (.iastore, 1) := by decide +kernel
theorem dX5_reduce_48 : decode cX5_reduce 48 = .ok (.aload_n 0, 1) := by decide +kernel
theorem dX5_reduce_49 : decode cX5_reduce 49 = .ok (.dup, 1) := by decide +kernel
theorem dX5_reduce_50 : decode cX5_reduce 50 = .ok (.getfield 138, 3) := by decide +kernel
theorem dX5_reduce_53 : decode cX5_reduce 53 = .ok (.iconst 1, 1) := by decide +kernel
theorem dX5_reduce_54 : decode cX5_reduce 54 = .ok (.iadd, 1) := by decide +kernel
theorem dX5_reduce_55 : decode cX5_reduce 55 = .ok (.putfield 138, 3) := by decide +kernel
theorem dX5_reduce_58 : decode cX5_reduce 58 = .ok (.iinc 1 1, 3) := by decide +kernel
theorem dX5_reduce_61 : decode cX5_reduce 61 = .ok (.goto (-54), 3) := by decide +kernel
theorem dX5_reduce_64 : decode cX5_reduce 64 = .ok (.return_, 1) := by decide +kernel
theorem dX5_least_0 : decode cX5_least 0 = .ok (.aload_n 0, 1) := by decide +kernel
theorem dX5_least_1 : decode cX5_least 1 = .ok (.aload_n 0, 1) := by decide +kernel
theorem dX5_least_2 : decode cX5_least 2 = .ok (.getfield 129, 3) := by decide +kernel
theorem dX5_least_5 : decode cX5_least 5 = .ok (.ifCond .le 7, 3) := by decide +kernel
theorem dX5_least_8 : decode cX5_least 8 = .ok (.iconst 1, 1) := by decide +kernel
theorem dX5_least_9 : decode cX5_least 9 = .ok (.goto 4, 3) := by decide +kernel
theorem dX5_least_12 : decode cX5_least 12 = .ok (.iconst 0, 1) := by decide +kernel
theorem dX5_least_13 : decode cX5_least 13 = .ok (.iconst 1, 1) := by decide +kernel
theorem dX5_least_14 : decode cX5_least 14 = .ok (.invokevirtual 78, 3) := by decide +kernel
theorem dX5_least_17 : decode cX5_least 17 = .ok (.ifCond .ne 5, 3) := by decide +kernel
theorem dX5_least_20 : decode cX5_least 20 = .ok (.iconst 0, 1) := by decide +kernel
theorem dX5_least_21 : decode cX5_least 21 = .ok (.ireturn, 1) := by decide +kernel
theorem dX5_least_22 : decode cX5_least 22 = .ok (.aload_n 0, 1) := by decide +kernel
theorem dX5_least_23 : decode cX5_least 23 = .ok (.invokevirtual 147, 3) := by decide +kernel
theorem dX5_least_26 : decode cX5_least 26 = .ok (.aload_n 0, 1) := by decide +kernel
theorem dX5_least_27 : decode cX5_least 27 = .ok (.getfield 138, 3) := by decide +kernel
theorem dX5_least_30 : decode cX5_least 30 = .ok (.ireturn, 1) := by decide +kernel
theorem dX5_name_0 : decode cX5_name 0 = .ok (.aload_n 0, 1) := by decide +kernel
theorem dX5_name_1 : decode cX5_name 1 = .ok (.aload_n 0, 1) := by decide +kernel
theorem dX5_name_2 : decode cX5_name 2 = .ok (.getfield 129, 3) := by decide +kernel
theorem dX5_name_5 : decode cX5_name 5 = .ok (.ifCond .le 7, 3) := by decide +kernel
theorem dX5_name_8 : decode cX5_name 8 = .ok (.iconst 1, 1) := by decide +kernel
theorem dX5_name_9 : decode cX5_name 9 = .ok (.goto 4, 3) := by decide +kernel
theorem dX5_name_12 : decode cX5_name 12 = .ok (.iconst 0, 1) := by decide +kernel
theorem dX5_name_13 : decode cX5_name 13 = .ok (.iconst 1, 1) := by decide +kernel
theorem dX5_name_14 : decode cX5_name 14 = .ok (.invokevirtual 78, 3) := by decide +kernel
theorem dX5_name_17 : decode cX5_name 17 = .ok (.ifCond .ne 5, 3) := by decide +kernel
theorem dX5_name_20 : decode cX5_name 20 = .ok (.iconst 0, 1) := by decide +kernel
theorem dX5_name_21 : decode cX5_name 21 = .ok (.ireturn, 1) := by decide +kernel
theorem dX5_name_22 : decode cX5_name 22 = .ok (.aload_n 0, 1) := by decide +kernel
theorem dX5_name_23 : decode cX5_name 23 = .ok (.invokevirtual 147, 3) := by decide +kernel
theorem dX5_name_26 : decode cX5_name 26 = .ok (.aload_n 0, 1) := by decide +kernel
theorem dX5_name_27 : decode cX5_name 27 = .ok (.iload_n 1, 1) := by decide +kernel
theorem dX5_name_28 : decode cX5_name 28 = .ok (.ifCond .lt 15, 3) := by decide +kernel
theorem dX5_name_31 : decode cX5_name 31 = .ok (.iload_n 1, 1) := by decide +kernel
theorem dX5_name_32 : decode cX5_name 32 = .ok (.aload_n 0, 1) := by decide +kernel
theorem dX5_name_33 : decode cX5_name 33 = .ok (.getfield 138, 3) := by decide +kernel
theorem dX5_name_36 : decode cX5_name 36 = .ok (.if_icmp .ge 7, 3) := by decide +kernel
theorem dX5_name_39 : decode cX5_name 39 = .ok (.iconst 1, 1) := by decide +kernel
theorem dX5_name_40 : decode cX5_name 40 = .ok (.goto 4, 3) := by decide +kernel
theorem dX5_name_43 : decode cX5_name 43 = .ok (.iconst 0, 1) := by decide +kernel
theorem dX5_name_44 : decode cX5_name 44 = .ok (.iconst 2, 1) := by decide +kernel
theorem dX5_name_45 : decode cX5_name 45 = .ok (.invokevirtual 78, 3) := by decide +kernel
theorem dX5_name_48 : decode cX5_name 48 = .ok (.ifCond .eq 15, 3) := by decide +kernel
theorem dX5_name_51 : decode cX5_name 51 = .ok (.aload_n 0, 1) := by decide +kernel
theorem dX5_name_52 : decode cX5_name 52 = .ok (.getfield 53, 3) := by decide +kernel
theorem dX5_name_55 : decode cX5_name 55 = .ok (.iload_n 1, 1) := by decide +kernel
theorem dX5_name_56 : decode cX5_name 56 = .ok (.iaload, 1) := by decide +kernel
theorem dX5_name_57 : decode cX5_name 57 = .ok (.invokestatic 150, 3) := by decide +kernel
theorem dX5_name_60 : decode cX5_name 60 = .ok (.goto 4, 3) := by decide +kernel
theorem dX5_name_63 : decode cX5_name 63 = .ok (.iconst 0, 1) := by decide +kernel
theorem dX5_name_64 : decode cX5_name 64 = .ok (.ireturn, 1) := by decide +kernel
theorem dX5_apart_0 : decode cX5_apart 0 = .ok (.aload_n 0, 1) := by decide +kernel
theorem dX5_apart_1 : decode cX5_apart 1 = .ok (.aload_n 0, 1) := by decide +kernel
theorem dX5_apart_2 : decode cX5_apart 2 = .ok (.getfield 129, 3) := by decide +kernel
theorem dX5_apart_5 : decode cX5_apart 5 = .ok (.ifCond .le 7, 3) := by decide +kernel
theorem dX5_apart_8 : decode cX5_apart 8 = .ok (.iconst 1, 1) := by decide +kernel
theorem dX5_apart_9 : decode cX5_apart 9 = .ok (.goto 4, 3) := by decide +kernel
theorem dX5_apart_12 : decode cX5_apart 12 = .ok (.iconst 0, 1) := by decide +kernel
theorem dX5_apart_13 : decode cX5_apart 13 = .ok (.iconst 1, 1) := by decide +kernel
theorem dX5_apart_14 : decode cX5_apart 14 = .ok (.invokevirtual 78, 3) := by decide +kernel
theorem dX5_apart_17 : decode cX5_apart 17 = .ok (.ifCond .ne 5, 3) := by decide +kernel
theorem dX5_apart_20 : decode cX5_apart 20 = .ok (.iconst 0, 1) := by decide +kernel
theorem dX5_apart_21 : decode cX5_apart 21 = .ok (.ireturn, 1) := by decide +kernel
theorem dX5_apart_22 : decode cX5_apart 22 = .ok (.aload_n 0, 1) := by decide +kernel
theorem dX5_apart_23 : decode cX5_apart 23 = .ok (.invokevirtual 147, 3) := by decide +kernel
theorem dX5_apart_26 : decode cX5_apart 26 = .ok (.aload_n 0, 1) := by decide +kernel
theorem dX5_apart_27 : decode cX5_apart 27 = .ok (.iload_n 1, 1) := by decide +kernel
theorem dX5_apart_28 : decode cX5_apart 28 = .ok (.ifCond .lt 27, 3) := by decide +kernel
theorem dX5_apart_31 : decode cX5_apart 31 = .ok (.iload_n 1, 1) := by decide +kernel
theorem dX5_apart_32 : decode cX5_apart 32 = .ok (.aload_n 0, 1) := by decide +kernel
theorem dX5_apart_33 : decode cX5_apart 33 = .ok (.getfield 138, 3) := by decide +kernel
theorem dX5_apart_36 : decode cX5_apart 36 = .ok (.if_icmp .ge 19, 3) := by decide +kernel
theorem dX5_apart_39 : decode cX5_apart 39 = .ok (.iload_n 2, 1) := by decide +kernel
theorem dX5_apart_40 : decode cX5_apart 40 = .ok (.ifCond .lt 15, 3) := by decide +kernel
theorem dX5_apart_43 : decode cX5_apart 43 = .ok (.iload_n 2, 1) := by decide +kernel
theorem dX5_apart_44 : decode cX5_apart 44 = .ok (.aload_n 0, 1) := by decide +kernel
theorem dX5_apart_45 : decode cX5_apart 45 = .ok (.getfield 138, 3) := by decide +kernel
theorem dX5_apart_48 : decode cX5_apart 48 = .ok (.if_icmp .ge 7, 3) := by decide +kernel
theorem dX5_apart_51 : decode cX5_apart 51 = .ok (.iconst 1, 1) := by decide +kernel
theorem dX5_apart_52 : decode cX5_apart 52 = .ok (.goto 4, 3) := by decide +kernel
theorem dX5_apart_55 : decode cX5_apart 55 = .ok (.iconst 0, 1) := by decide +kernel
theorem dX5_apart_56 : decode cX5_apart 56 = .ok (.iconst 2, 1) := by decide +kernel
theorem dX5_apart_57 : decode cX5_apart 57 = .ok (.invokevirtual 78, 3) := by decide +kernel
theorem dX5_apart_60 : decode cX5_apart 60 = .ok (.ifCond .ne 5, 3) := by decide +kernel
theorem dX5_apart_63 : decode cX5_apart 63 = .ok (.iconst 0, 1) := by decide +kernel
theorem dX5_apart_64 : decode cX5_apart 64 = .ok (.ireturn, 1) := by decide +kernel
theorem dX5_apart_65 : decode cX5_apart 65 = .ok (.iload_n 1, 1) := by decide +kernel
theorem dX5_apart_66 : decode cX5_apart 66 = .ok (.iload_n 2, 1) := by decide +kernel
theorem dX5_apart_67 : decode cX5_apart 67 = .ok (.if_icmp .ne 7, 3) := by decide +kernel
theorem dX5_apart_70 : decode cX5_apart 70 = .ok (.iconst (-1), 1) := by decide +kernel
theorem dX5_apart_71 : decode cX5_apart 71 = .ok (.goto 22, 3) := by decide +kernel
theorem dX5_apart_74 : decode cX5_apart 74 = .ok (.aload_n 0, 1) := by decide +kernel
theorem dX5_apart_75 : decode cX5_apart 75 = .ok (.aload_n 0, 1) := by decide +kernel
theorem dX5_apart_76 : decode cX5_apart 76 = .ok (.getfield 50, 3) := by decide +kernel
theorem dX5_apart_79 : decode cX5_apart 79 = .ok (.iload_n 1, 1) := by decide +kernel
theorem dX5_apart_80 : decode cX5_apart 80 = .ok (.iaload, 1) := by decide +kernel
theorem dX5_apart_81 : decode cX5_apart 81 = .ok (.aload_n 0, 1) := by decide +kernel
theorem dX5_apart_82 : decode cX5_apart 82 = .ok (.getfield 50, 3) := by decide +kernel
theorem dX5_apart_85 : decode cX5_apart 85 = .ok (.iload_n 2, 1) := by decide +kernel
theorem dX5_apart_86 : decode cX5_apart 86 = .ok (.iaload, 1) := by decide +kernel
theorem dX5_apart_87 : decode cX5_apart 87 = .ok (.invokevirtual 141, 3) := by decide +kernel
theorem dX5_apart_90 : decode cX5_apart 90 = .ok (.invokestatic 150, 3) := by decide +kernel
theorem dX5_apart_93 : decode cX5_apart 93 = .ok (.ireturn, 1) := by decide +kernel
theorem dX5_want_0 : decode cX5_want 0 = .ok (.aload_n 0, 1) := by decide +kernel
theorem dX5_want_1 : decode cX5_want 1 = .ok (.aload_n 0, 1) := by decide +kernel
theorem dX5_want_2 : decode cX5_want 2 = .ok (.iconst 0, 1) := by decide +kernel
theorem dX5_want_3 : decode cX5_want 3 = .ok (.iload_n 1, 1) := by decide +kernel
theorem dX5_want_4 : decode cX5_want 4 = .ok (.invokevirtual 135, 3) := by decide +kernel
theorem dX5_want_7 : decode cX5_want 7 = .ok (.aload_n 0, 1) := by decide +kernel
theorem dX5_want_8 : decode cX5_want 8 = .ok (.iconst 0, 1) := by decide +kernel
theorem dX5_want_9 : decode cX5_want 9 = .ok (.iload_n 2, 1) := by decide +kernel
theorem dX5_want_10 : decode cX5_want 10 = .ok (.invokevirtual 135, 3) := by decide +kernel
theorem dX5_want_13 : decode cX5_want 13 = .ok (.invokevirtual 141, 3) := by decide +kernel
theorem dX5_want_16 : decode cX5_want 16 = .ok (.istore_n 3, 1) := by decide +kernel
theorem dX5_want_17 : decode cX5_want 17 = .ok (.iload_n 3, 1) := by decide +kernel
theorem dX5_want_18 : decode cX5_want 18 = .ok (.ifCond .lt 25, 3) := by decide +kernel
theorem dX5_want_21 : decode cX5_want 21 = .ok (.aload_n 0, 1) := by decide +kernel
theorem dX5_want_22 : decode cX5_want 22 = .ok (.getfield 56, 3) := by decide +kernel
theorem dX5_want_25 : decode cX5_want 25 = .ok (.iload_n 1, 1) := by decide +kernel
theorem dX5_want_26 : decode cX5_want 26 = .ok (.iload_n 3, 1) := by decide +kernel
theorem dX5_want_27 : decode cX5_want 27 = .ok (.invokestatic 153, 3) := by decide +kernel
theorem dX5_want_30 : decode cX5_want 30 = .ok (.iconst 1, 1) := by decide +kernel
theorem dX5_want_31 : decode cX5_want 31 = .ok (.bastore, 1) := by decide +kernel
theorem dX5_want_32 : decode cX5_want 32 = .ok (.aload_n 0, 1) := by decide +kernel
theorem dX5_want_33 : decode cX5_want 33 = .ok (.getfield 56, 3) := by decide +kernel
theorem dX5_want_36 : decode cX5_want 36 = .ok (.iload_n 2, 1) := by decide +kernel
theorem dX5_want_37 : decode cX5_want 37 = .ok (.iload_n 3, 1) := by decide +kernel
theorem dX5_want_38 : decode cX5_want 38 = .ok (.invokestatic 153, 3) := by decide +kernel
theorem dX5_want_41 : decode cX5_want 41 = .ok (.iconst 1, 1) := by decide +kernel
theorem dX5_want_42 : decode cX5_want 42 = .ok (.bastore, 1) := by decide +kernel
theorem dX5_want_43 : decode cX5_want 43 = .ok (.return_, 1) := by decide +kernel
theorem dX5_characteristic_0 : decode cX5_characteristic 0 = .ok (.aload_n 0, 1) := by decide +kernel
theorem dX5_characteristic_1 : decode cX5_characteristic 1 = .ok (.invokevirtual 147, 3) := by decide +kernel
theorem dX5_characteristic_4 : decode cX5_characteristic 4 = .ok (.iconst 0, 1) := by decide +kernel
theorem dX5_characteristic_5 : decode cX5_characteristic 5 = .ok (.istore_n 1, 1) := by decide +kernel
theorem dX5_characteristic_6 : decode cX5_characteristic 6 = .ok (.iload_n 1, 1) := by decide +kernel
theorem dX5_characteristic_7 : decode cX5_characteristic 7 = .ok (.sipush 511, 3) := by decide +kernel
theorem dX5_characteristic_10 : decode cX5_characteristic 10 = .ok (.if_icmp .ge 24, 3) := by decide +kernel
theorem dX5_characteristic_13 : decode cX5_characteristic 13 = .ok (.aload_n 0, 1) := by decide +kernel
theorem dX5_characteristic_14 : decode cX5_characteristic 14 = .ok (.getfield 56, 3) := by decide +kernel
theorem dX5_characteristic_17 : decode cX5_characteristic 17 = .ok (.iload_n 1, 1) := by decide +kernel
theorem dX5_characteristic_18 : decode cX5_characteristic 18 = .ok (.iload_n 1, 1) := by decide +kernel
theorem dX5_characteristic_19 : decode cX5_characteristic 19 = .ok (.ifCond .ne 7, 3) := by decide +kernel
theorem dX5_characteristic_22 : decode cX5_characteristic 22 = .ok (.iconst 1, 1) := by decide +kernel
theorem dX5_characteristic_23 : decode cX5_characteristic 23 = .ok (.goto 4, 3) := by decide +kernel
theorem dX5_characteristic_26 : decode cX5_characteristic 26 = .ok (.iconst 0, 1) := by decide +kernel
theorem dX5_characteristic_27 : decode cX5_characteristic 27 = .ok (.bastore, 1) := by decide +kernel
theorem dX5_characteristic_28 : decode cX5_characteristic 28 = .ok (.iinc 1 1, 3) := by decide +kernel
theorem dX5_characteristic_31 : decode cX5_characteristic 31 = .ok (.goto (-25), 3) := by decide +kernel
theorem dX5_characteristic_34 : decode cX5_characteristic 34 = .ok (.iconst 0, 1) := by decide +kernel
theorem dX5_characteristic_35 : decode cX5_characteristic 35 = .ok (.istore_n 1, 1) := by decide +kernel
theorem dX5_characteristic_36 : decode cX5_characteristic 36 = .ok (.iload_n 1, 1) := by decide +kernel
theorem dX5_characteristic_37 : decode cX5_characteristic 37 = .ok (.aload_n 0, 1) := by decide +kernel
theorem dX5_characteristic_38 : decode cX5_characteristic 38 = .ok (.getfield 138, 3) := by decide +kernel
theorem dX5_characteristic_41 : decode cX5_characteristic 41 = .ok (.if_icmp .ge 78, 3) := by decide +kernel
theorem dX5_characteristic_44 : decode cX5_characteristic 44 = .ok (.aload_n 0, 1) := by decide +kernel
theorem dX5_characteristic_45 : decode cX5_characteristic 45 = .ok (.getfield 53, 3) := by decide +kernel
theorem dX5_characteristic_48 : decode cX5_characteristic 48 = .ok (.iload_n 1, 1) := by decide +kernel
theorem dX5_characteristic_49 : decode cX5_characteristic 49 = .ok (.iaload, 1) := by decide +kernel
theorem dX5_characteristic_50 : decode cX5_characteristic 50 = .ok (.istore_n 2, 1) := by decide +kernel
theorem dX5_characteristic_51 : decode cX5_characteristic 51 = .ok (.aload_n 0, 1) := by decide +kernel
theorem dX5_characteristic_52 : decode cX5_characteristic 52 = .ok (.getfield 56, 3) := by decide +kernel
theorem dX5_characteristic_55 : decode cX5_characteristic 55 = .ok (.iload_n 2, 1) := by decide +kernel
theorem dX5_characteristic_56 : decode cX5_characteristic 56 = .ok (.iconst 1, 1) := by decide +kernel
theorem dX5_characteristic_57 : decode cX5_characteristic 57 = .ok (.bastore, 1) := by decide +kernel
theorem dX5_characteristic_58 : decode cX5_characteristic 58 = .ok (.aload_n 0, 1) := by decide +kernel
theorem dX5_characteristic_59 : decode cX5_characteristic 59 = .ok (.iload_n 2, 1) := by decide +kernel
theorem dX5_characteristic_60 : decode cX5_characteristic 60 = .ok (.iconst 0, 1) := by decide +kernel
theorem dX5_characteristic_61 : decode cX5_characteristic 61 = .ok (.invokevirtual 156, 3) := by decide +kernel
theorem dX5_characteristic_64 : decode cX5_characteristic 64 = .ok (.iconst 0, 1) := by decide +kernel
theorem dX5_characteristic_65 : decode cX5_characteristic 65 = .ok (.istore_n 3, 1) := by decide +kernel
theorem dX5_characteristic_66 : decode cX5_characteristic 66 = .ok (.iload_n 3, 1) := by decide +kernel
theorem dX5_characteristic_67 : decode cX5_characteristic 67 = .ok (.iconst 2, 1) := by decide +kernel
theorem dX5_characteristic_68 : decode cX5_characteristic 68 = .ok (.aload_n 0, 1) := by decide +kernel
theorem dX5_characteristic_69 : decode cX5_characteristic 69 = .ok (.getfield 138, 3) := by decide +kernel
theorem dX5_characteristic_72 : decode cX5_characteristic 72 = .ok (.imul, 1) := by decide +kernel
theorem dX5_characteristic_73 : decode cX5_characteristic 73 = .ok (.if_icmp .ge 40, 3) := by decide +kernel
theorem dX5_characteristic_76 : decode cX5_characteristic 76 = .ok (.aload_n 0, 1) := by decide +kernel
theorem dX5_characteristic_77 : decode cX5_characteristic 77 = .ok (.getfield 53, 3) := by decide +kernel
theorem dX5_characteristic_80 : decode cX5_characteristic 80 = .ok (.iload_n 3, 1) := by decide +kernel
theorem dX5_characteristic_81 : decode cX5_characteristic 81 = .ok (.iconst 2, 1) := by decide +kernel
theorem dX5_characteristic_82 : decode cX5_characteristic 82 = .ok (.idiv, 1) := by decide +kernel
theorem dX5_characteristic_83 : decode cX5_characteristic 83 = .ok (.iaload, 1) := by decide +kernel
theorem dX5_characteristic_84 : decode cX5_characteristic 84 = .ok (.iload_n 3, 1) := by decide +kernel
theorem dX5_characteristic_85 : decode cX5_characteristic 85 = .ok (.iconst 2, 1) := by decide +kernel
theorem dX5_characteristic_86 : decode cX5_characteristic 86 = .ok (.irem, 1) := by decide +kernel
theorem dX5_characteristic_87 : decode cX5_characteristic 87 = .ok (.invokestatic 88, 3) := by decide +kernel
theorem dX5_characteristic_90 : decode cX5_characteristic 90 = .ok (.istore 4, 2) := by decide +kernel
theorem dX5_characteristic_92 : decode cX5_characteristic 92 = .ok (.aload_n 0, 1) := by decide +kernel
theorem dX5_characteristic_93 : decode cX5_characteristic 93 = .ok (.getfield 56, 3) := by decide +kernel
theorem dX5_characteristic_96 : decode cX5_characteristic 96 = .ok (.iload 4, 2) := by decide +kernel
theorem dX5_characteristic_98 : decode cX5_characteristic 98 = .ok (.iconst 1, 1) := by decide +kernel
theorem dX5_characteristic_99 : decode cX5_characteristic 99 = .ok (.bastore, 1) := by decide +kernel
theorem dX5_characteristic_100 : decode cX5_characteristic 100 = .ok (.aload_n 0, 1) := by decide +kernel
theorem dX5_characteristic_101 : decode cX5_characteristic 101 = .ok (.iload_n 2, 1) := by decide +kernel
theorem dX5_characteristic_102 : decode cX5_characteristic 102 = .ok (.iload 4, 2) := by decide +kernel
theorem dX5_characteristic_104 : decode cX5_characteristic 104 = .ok (.invokevirtual 156, 3) := by decide +kernel
theorem dX5_characteristic_107 : decode cX5_characteristic 107 = .ok (.iinc 3 1, 3) := by decide +kernel
theorem dX5_characteristic_110 : decode cX5_characteristic 110 = .ok (.goto (-44), 3) := by decide +kernel
theorem dX5_characteristic_113 : decode cX5_characteristic 113 = .ok (.iinc 1 1, 3) := by decide +kernel
theorem dX5_characteristic_116 : decode cX5_characteristic 116 = .ok (.goto (-80), 3) := by decide +kernel
theorem dX5_characteristic_119 : decode cX5_characteristic 119 = .ok (.return_, 1) := by decide +kernel
theorem dX5_signOf_0 : decode cX5_signOf 0 = .ok (.aload_n 0, 1) := by decide +kernel
theorem dX5_signOf_1 : decode cX5_signOf 1 = .ok (.getfield 44, 3) := by decide +kernel
theorem dX5_signOf_4 : decode cX5_signOf 4 = .ok (.aload_n 0, 1) := by decide +kernel
theorem dX5_signOf_5 : decode cX5_signOf 5 = .ok (.iconst 0, 1) := by decide +kernel
theorem dX5_signOf_6 : decode cX5_signOf 6 = .ok (.iload_n 1, 1) := by decide +kernel
theorem dX5_signOf_7 : decode cX5_signOf 7 = .ok (.invokevirtual 135, 3) := by decide +kernel
theorem dX5_signOf_10 : decode cX5_signOf 10 = .ok (.baload, 1) := by decide +kernel
theorem dX5_signOf_11 : decode cX5_signOf 11 = .ok (.ifCond .eq 7, 3) := by decide +kernel
theorem dX5_signOf_14 : decode cX5_signOf 14 = .ok (.iconst 1, 1) := by decide +kernel
theorem dX5_signOf_15 : decode cX5_signOf 15 = .ok (.goto 4, 3) := by decide +kernel
theorem dX5_signOf_18 : decode cX5_signOf 18 = .ok (.iconst (-1), 1) := by decide +kernel
theorem dX5_signOf_19 : decode cX5_signOf 19 = .ok (.ireturn, 1) := by decide +kernel
theorem dX5_exemplify_0 : decode cX5_exemplify 0 = .ok (.aload_n 0, 1) := by decide +kernel
theorem dX5_exemplify_1 : decode cX5_exemplify 1 = .ok (.aload_n 0, 1) := by decide +kernel
theorem dX5_exemplify_2 : decode cX5_exemplify 2 = .ok (.getfield 129, 3) := by decide +kernel
theorem dX5_exemplify_5 : decode cX5_exemplify 5 = .ok (.ifCond .le 7, 3) := by decide +kernel
theorem dX5_exemplify_8 : decode cX5_exemplify 8 = .ok (.iconst 1, 1) := by decide +kernel
theorem dX5_exemplify_9 : decode cX5_exemplify 9 = .ok (.goto 4, 3) := by decide +kernel
theorem dX5_exemplify_12 : decode cX5_exemplify 12 = .ok (.iconst 0, 1) := by decide +kernel
theorem dX5_exemplify_13 : decode cX5_exemplify 13 = .ok (.iconst 1, 1) := by decide +kernel
theorem dX5_exemplify_14 : decode cX5_exemplify 14 = .ok (.invokevirtual 78, 3) := by decide +kernel
theorem dX5_exemplify_17 : decode cX5_exemplify 17 = .ok (.ifCond .ne 5, 3) := by decide +kernel
theorem dX5_exemplify_20 : decode cX5_exemplify 20 = .ok (.iconst 0, 1) := by decide +kernel
theorem dX5_exemplify_21 : decode cX5_exemplify 21 = .ok (.ireturn, 1) := by decide +kernel
theorem dX5_exemplify_22 : decode cX5_exemplify 22 = .ok (.aload_n 0, 1) := by decide +kernel
theorem dX5_exemplify_23 : decode cX5_exemplify 23 = .ok (.invokevirtual 160, 3) := by decide +kernel
theorem dX5_exemplify_26 : decode cX5_exemplify 26 = .ok (.iconst 1, 1) := by decide +kernel
theorem dX5_exemplify_27 : decode cX5_exemplify 27 = .ok (.istore_n 1, 1) := by decide +kernel
theorem dX5_exemplify_28 : decode cX5_exemplify 28 = .ok (.iconst 0, 1) := by decide +kernel
theorem dX5_exemplify_29 : decode cX5_exemplify 29 = .ok (.istore_n 2, 1) := by decide +kernel
theorem dX5_exemplify_30 : decode cX5_exemplify 30 = .ok (.iload_n 2, 1) := by decide +kernel
theorem dX5_exemplify_31 : decode cX5_exemplify 31 = .ok (.sipush 511, 3) := by decide +kernel
theorem dX5_exemplify_34 : decode cX5_exemplify 34 = .ok (.if_icmp .ge 43, 3) := by decide +kernel
theorem dX5_exemplify_37 : decode cX5_exemplify 37 = .ok (.iload_n 1, 1) := by decide +kernel
theorem dX5_exemplify_38 : decode cX5_exemplify 38 = .ok (.ifCond .eq 31, 3) := by decide +kernel
theorem dX5_exemplify_41 : decode cX5_exemplify 41 = .ok (.aload_n 0, 1) := by decide +kernel
theorem dX5_exemplify_42 : decode cX5_exemplify 42 = .ok (.getfield 56, 3) := by decide +kernel
theorem dX5_exemplify_45 : decode cX5_exemplify 45 = .ok (.iload_n 2, 1) := by decide +kernel
theorem dX5_exemplify_46 : decode cX5_exemplify 46 = .ok (.baload, 1) := by decide +kernel
theorem dX5_exemplify_47 : decode cX5_exemplify 47 = .ok (.ifCond .eq 18, 3) := by decide +kernel
theorem dX5_exemplify_50 : decode cX5_exemplify 50 = .ok (.aload_n 0, 1) := by decide +kernel
theorem dX5_exemplify_51 : decode cX5_exemplify 51 = .ok (.getfield 7, 3) := by decide +kernel
theorem dX5_exemplify_54 : decode cX5_exemplify 54 = .ok (.iload_n 2, 1) := by decide +kernel
theorem dX5_exemplify_55 : decode cX5_exemplify 55 = .ok (.iaload, 1) := by decide +kernel
theorem dX5_exemplify_56 : decode cX5_exemplify 56 = .ok (.aload_n 0, 1) := by decide +kernel
theorem dX5_exemplify_57 : decode cX5_exemplify 57 = .ok (.iload_n 2, 1) := by decide +kernel
theorem dX5_exemplify_58 : decode cX5_exemplify 58 = .ok (.invokevirtual 163, 3) := by decide +kernel
theorem dX5_exemplify_61 : decode cX5_exemplify 61 = .ok (.ineg, 1) := by decide +kernel
theorem dX5_exemplify_62 : decode cX5_exemplify 62 = .ok (.if_icmp .eq 7, 3) := by decide +kernel
theorem dX5_exemplify_65 : decode cX5_exemplify 65 = .ok (.iconst 1, 1) := by decide +kernel
theorem dX5_exemplify_66 : decode cX5_exemplify 66 = .ok (.goto 4, 3) := by decide +kernel
theorem dX5_exemplify_69 : decode cX5_exemplify 69 = .ok (.iconst 0, 1) := by decide +kernel
theorem dX5_exemplify_70 : decode cX5_exemplify 70 = .ok (.istore_n 1, 1) := by decide +kernel
theorem dX5_exemplify_71 : decode cX5_exemplify 71 = .ok (.iinc 2 1, 3) := by decide +kernel
theorem dX5_exemplify_74 : decode cX5_exemplify 74 = .ok (.goto (-44), 3) := by decide +kernel
theorem dX5_exemplify_77 : decode cX5_exemplify 77 = .ok (.aload_n 0, 1) := by decide +kernel
theorem dX5_exemplify_78 : decode cX5_exemplify 78 = .ok (.iload_n 1, 1) := by decide +kernel
theorem dX5_exemplify_79 : decode cX5_exemplify 79 = .ok (.iconst 2, 1) := by decide +kernel
theorem dX5_exemplify_80 : decode cX5_exemplify 80 = .ok (.invokevirtual 78, 3) := by decide +kernel
theorem dX5_exemplify_83 : decode cX5_exemplify 83 = .ok (.ifCond .ne 5, 3) := by decide +kernel
theorem dX5_exemplify_86 : decode cX5_exemplify 86 = .ok (.iconst 0, 1) := by decide +kernel
theorem dX5_exemplify_87 : decode cX5_exemplify 87 = .ok (.ireturn, 1) := by decide +kernel
theorem dX5_exemplify_88 : decode cX5_exemplify 88 = .ok (.iconst 0, 1) := by decide +kernel
theorem dX5_exemplify_89 : decode cX5_exemplify 89 = .ok (.istore_n 2, 1) := by decide +kernel
theorem dX5_exemplify_90 : decode cX5_exemplify 90 = .ok (.iconst 0, 1) := by decide +kernel
theorem dX5_exemplify_91 : decode cX5_exemplify 91 = .ok (.istore_n 3, 1) := by decide +kernel
theorem dX5_exemplify_92 : decode cX5_exemplify 92 = .ok (.iload_n 3, 1) := by decide +kernel
theorem dX5_exemplify_93 : decode cX5_exemplify 93 = .ok (.sipush 511, 3) := by decide +kernel
theorem dX5_exemplify_96 : decode cX5_exemplify 96 = .ok (.if_icmp .ge 41, 3) := by decide +kernel
theorem dX5_exemplify_99 : decode cX5_exemplify 99 = .ok (.aload_n 0, 1) := by decide +kernel
theorem dX5_exemplify_100 : decode cX5_exemplify 100 = .ok (.getfield 56, 3) := by decide +kernel
theorem dX5_exemplify_103 : decode cX5_exemplify 103 = .ok (.iload_n 3, 1) := by decide +kernel
theorem dX5_exemplify_104 : decode cX5_exemplify 104 = .ok (.baload, 1) := by decide +kernel
theorem dX5_exemplify_105 : decode cX5_exemplify 105 = .ok (.ifCond .eq 26, 3) := by decide +kernel
theorem dX5_exemplify_108 : decode cX5_exemplify 108 = .ok (.aload_n 0, 1) := by decide +kernel
theorem dX5_exemplify_109 : decode cX5_exemplify 109 = .ok (.getfield 7, 3) := by decide +kernel
theorem dX5_exemplify_112 : decode cX5_exemplify 112 = .ok (.iload_n 3, 1) := by decide +kernel
theorem dX5_exemplify_113 : decode cX5_exemplify 113 = .ok (.iaload, 1) := by decide +kernel
theorem dX5_exemplify_114 : decode cX5_exemplify 114 = .ok (.ifCond .ne 17, 3) := by decide +kernel
theorem dX5_exemplify_117 : decode cX5_exemplify 117 = .ok (.aload_n 0, 1) := by decide +kernel
theorem dX5_exemplify_118 : decode cX5_exemplify 118 = .ok (.getfield 7, 3) := by decide +kernel
theorem dX5_exemplify_121 : decode cX5_exemplify 121 = .ok (.iload_n 3, 1) := by decide +kernel
theorem dX5_exemplify_122 : decode cX5_exemplify 122 = .ok (.aload_n 0, 1) := by decide +kernel
theorem dX5_exemplify_123 : decode cX5_exemplify 123 = .ok (.iload_n 3, 1) := by decide +kernel
theorem dX5_exemplify_124 : decode cX5_exemplify 124 = .ok (.invokevirtual 163, 3) := by decide +kernel
theorem dX5_exemplify_127 : decode cX5_exemplify 127 = .ok (.iastore, 1) := by decide +kernel
theorem dX5_exemplify_128 : decode cX5_exemplify 128 = .ok (.iinc 2 1, 3) := by decide +kernel
theorem dX5_exemplify_131 : decode cX5_exemplify 131 = .ok (.iinc 3 1, 3) := by decide +kernel
theorem dX5_exemplify_134 : decode cX5_exemplify 134 = .ok (.goto (-42), 3) := by decide +kernel
theorem dX5_exemplify_137 : decode cX5_exemplify 137 = .ok (.aload_n 0, 1) := by decide +kernel
theorem dX5_exemplify_138 : decode cX5_exemplify 138 = .ok (.dup, 1) := by decide +kernel
theorem dX5_exemplify_139 : decode cX5_exemplify 139 = .ok (.getfield 82, 3) := by decide +kernel
theorem dX5_exemplify_142 : decode cX5_exemplify 142 = .ok (.iload_n 2, 1) := by decide +kernel
theorem dX5_exemplify_143 : decode cX5_exemplify 143 = .ok (.iadd, 1) := by decide +kernel
theorem dX5_exemplify_144 : decode cX5_exemplify 144 = .ok (.putfield 82, 3) := by decide +kernel
theorem dX5_exemplify_147 : decode cX5_exemplify 147 = .ok (.iload_n 2, 1) := by decide +kernel
theorem dX5_exemplify_148 : decode cX5_exemplify 148 = .ok (.ireturn, 1) := by decide +kernel
theorem dX5_same_0 : decode cX5_same 0 = .ok (.aload_n 0, 1) := by decide +kernel
theorem dX5_same_1 : decode cX5_same 1 = .ok (.aload_n 0, 1) := by decide +kernel
theorem dX5_same_2 : decode cX5_same 2 = .ok (.getfield 129, 3) := by decide +kernel
theorem dX5_same_5 : decode cX5_same 5 = .ok (.ifCond .le 14, 3) := by decide +kernel
theorem dX5_same_8 : decode cX5_same 8 = .ok (.aload_n 0, 1) := by decide +kernel
theorem dX5_same_9 : decode cX5_same 9 = .ok (.getfield 122, 3) := by decide +kernel
theorem dX5_same_12 : decode cX5_same 12 = .ok (.ifCond .le 7, 3) := by decide +kernel
theorem dX5_same_15 : decode cX5_same 15 = .ok (.iconst 1, 1) := by decide +kernel
theorem dX5_same_16 : decode cX5_same 16 = .ok (.goto 4, 3) := by decide +kernel
theorem dX5_same_19 : decode cX5_same 19 = .ok (.iconst 0, 1) := by decide +kernel
theorem dX5_same_20 : decode cX5_same 20 = .ok (.iconst 1, 1) := by decide +kernel
theorem dX5_same_21 : decode cX5_same 21 = .ok (.invokevirtual 78, 3) := by decide +kernel
theorem dX5_same_24 : decode cX5_same 24 = .ok (.ifCond .ne 5, 3) := by decide +kernel
theorem dX5_same_27 : decode cX5_same 27 = .ok (.iconst 0, 1) := by decide +kernel
theorem dX5_same_28 : decode cX5_same 28 = .ok (.ireturn, 1) := by decide +kernel
theorem dX5_same_29 : decode cX5_same 29 = .ok (.aload_n 0, 1) := by decide +kernel
theorem dX5_same_30 : decode cX5_same 30 = .ok (.invokevirtual 147, 3) := by decide +kernel
theorem dX5_same_33 : decode cX5_same 33 = .ok (.aload_n 0, 1) := by decide +kernel
theorem dX5_same_34 : decode cX5_same 34 = .ok (.getfield 138, 3) := by decide +kernel
theorem dX5_same_37 : decode cX5_same 37 = .ok (.aload_n 0, 1) := by decide +kernel
theorem dX5_same_38 : decode cX5_same 38 = .ok (.getfield 122, 3) := by decide +kernel
theorem dX5_same_41 : decode cX5_same 41 = .ok (.if_icmp .ne 7, 3) := by decide +kernel
theorem dX5_same_44 : decode cX5_same 44 = .ok (.iconst 1, 1) := by decide +kernel
theorem dX5_same_45 : decode cX5_same 45 = .ok (.goto 4, 3) := by decide +kernel
theorem dX5_same_48 : decode cX5_same 48 = .ok (.iconst 0, 1) := by decide +kernel
theorem dX5_same_49 : decode cX5_same 49 = .ok (.istore_n 1, 1) := by decide +kernel
theorem dX5_same_50 : decode cX5_same 50 = .ok (.iconst 0, 1) := by decide +kernel
theorem dX5_same_51 : decode cX5_same 51 = .ok (.istore_n 2, 1) := by decide +kernel
theorem dX5_same_52 : decode cX5_same 52 = .ok (.iload_n 2, 1) := by decide +kernel
theorem dX5_same_53 : decode cX5_same 53 = .ok (.aload_n 0, 1) := by decide +kernel
theorem dX5_same_54 : decode cX5_same 54 = .ok (.getfield 138, 3) := by decide +kernel
theorem dX5_same_57 : decode cX5_same 57 = .ok (.if_icmp .ge 102, 3) := by decide +kernel
theorem dX5_same_60 : decode cX5_same 60 = .ok (.iload_n 1, 1) := by decide +kernel
theorem dX5_same_61 : decode cX5_same 61 = .ok (.ifCond .eq 98, 3) := by decide +kernel
theorem dX5_same_64 : decode cX5_same 64 = .ok (.aload_n 0, 1) := by decide +kernel
theorem dX5_same_65 : decode cX5_same 65 = .ok (.getfield 41, 3) := by decide +kernel
theorem dX5_same_68 : decode cX5_same 68 = .ok (.iload_n 2, 1) := by decide +kernel
theorem dX5_same_69 : decode cX5_same 69 = .ok (.iaload, 1) := by decide +kernel
theorem dX5_same_70 : decode cX5_same 70 = .ok (.aload_n 0, 1) := by decide +kernel
theorem dX5_same_71 : decode cX5_same 71 = .ok (.getfield 44, 3) := by decide +kernel
theorem dX5_same_74 : decode cX5_same 74 = .ok (.aload_n 0, 1) := by decide +kernel
theorem dX5_same_75 : decode cX5_same 75 = .ok (.getfield 50, 3) := by decide +kernel
theorem dX5_same_78 : decode cX5_same 78 = .ok (.iload_n 2, 1) := by decide +kernel
theorem dX5_same_79 : decode cX5_same 79 = .ok (.iaload, 1) := by decide +kernel
theorem dX5_same_80 : decode cX5_same 80 = .ok (.baload, 1) := by decide +kernel
theorem dX5_same_81 : decode cX5_same 81 = .ok (.ifCond .eq 7, 3) := by decide +kernel
theorem dX5_same_84 : decode cX5_same 84 = .ok (.iconst 1, 1) := by decide +kernel
theorem dX5_same_85 : decode cX5_same 85 = .ok (.goto 4, 3) := by decide +kernel
theorem dX5_same_88 : decode cX5_same 88 = .ok (.iconst (-1), 1) := by decide +kernel
theorem dX5_same_89 : decode cX5_same 89 = .ok (.if_icmp .ne 7, 3) := by decide +kernel
theorem dX5_same_92 : decode cX5_same 92 = .ok (.iconst 1, 1) := by decide +kernel
theorem dX5_same_93 : decode cX5_same 93 = .ok (.goto 4, 3) := by decide +kernel
theorem dX5_same_96 : decode cX5_same 96 = .ok (.iconst 0, 1) := by decide +kernel
theorem dX5_same_97 : decode cX5_same 97 = .ok (.istore_n 1, 1) := by decide +kernel
theorem dX5_same_98 : decode cX5_same 98 = .ok (.iconst 0, 1) := by decide +kernel
theorem dX5_same_99 : decode cX5_same 99 = .ok (.istore_n 3, 1) := by decide +kernel
theorem dX5_same_100 : decode cX5_same 100 = .ok (.iload_n 3, 1) := by decide +kernel
theorem dX5_same_101 : decode cX5_same 101 = .ok (.iconst 2, 1) := by decide +kernel
theorem dX5_same_102 : decode cX5_same 102 = .ok (.if_icmp .ge 51, 3) := by decide +kernel
theorem dX5_same_105 : decode cX5_same 105 = .ok (.iload_n 1, 1) := by decide +kernel
theorem dX5_same_106 : decode cX5_same 106 = .ok (.ifCond .eq 39, 3) := by decide +kernel
theorem dX5_same_109 : decode cX5_same 109 = .ok (.aload_n 0, 1) := by decide +kernel
theorem dX5_same_110 : decode cX5_same 110 = .ok (.getfield 38, 3) := by decide +kernel
theorem dX5_same_113 : decode cX5_same 113 = .ok (.iconst 2, 1) := by decide +kernel
theorem dX5_same_114 : decode cX5_same 114 = .ok (.iload_n 2, 1) := by decide +kernel
theorem dX5_same_115 : decode cX5_same 115 = .ok (.imul, 1) := by decide +kernel
theorem dX5_same_116 : decode cX5_same 116 = .ok (.iload_n 3, 1) := by decide +kernel
theorem dX5_same_117 : decode cX5_same 117 = .ok (.iadd, 1) := by decide +kernel
theorem dX5_same_118 : decode cX5_same 118 = .ok (.iaload, 1) := by decide +kernel
theorem dX5_same_119 : decode cX5_same 119 = .ok (.aload_n 0, 1) := by decide +kernel
theorem dX5_same_120 : decode cX5_same 120 = .ok (.aload_n 0, 1) := by decide +kernel
theorem dX5_same_121 : decode cX5_same 121 = .ok (.getfield 47, 3) := by decide +kernel
theorem dX5_same_124 : decode cX5_same 124 = .ok (.iconst 2, 1) := by decide +kernel
theorem dX5_same_125 : decode cX5_same 125 = .ok (.aload_n 0, 1) := by decide +kernel
theorem dX5_same_126 : decode cX5_same 126 = .ok (.getfield 50, 3) := by decide +kernel
theorem dX5_same_129 : decode cX5_same 129 = .ok (.iload_n 2, 1) := by decide +kernel
theorem dX5_same_130 : decode cX5_same 130 = .ok (.iaload, 1) := by decide +kernel
theorem dX5_same_131 : decode cX5_same 131 = .ok (.imul, 1) := by decide +kernel
theorem dX5_same_132 : decode cX5_same 132 = .ok (.iload_n 3, 1) := by decide +kernel
theorem dX5_same_133 : decode cX5_same 133 = .ok (.iadd, 1) := by decide +kernel
theorem dX5_same_134 : decode cX5_same 134 = .ok (.iaload, 1) := by decide +kernel
theorem dX5_same_135 : decode cX5_same 135 = .ok (.invokevirtual 144, 3) := by decide +kernel
theorem dX5_same_138 : decode cX5_same 138 = .ok (.if_icmp .ne 7, 3) := by decide +kernel
theorem dX5_same_141 : decode cX5_same 141 = .ok (.iconst 1, 1) := by decide +kernel
theorem dX5_same_142 : decode cX5_same 142 = .ok (.goto 4, 3) := by decide +kernel
theorem dX5_same_145 : decode cX5_same 145 = .ok (.iconst 0, 1) := by decide +kernel
theorem dX5_same_146 : decode cX5_same 146 = .ok (.istore_n 1, 1) := by decide +kernel
theorem dX5_same_147 : decode cX5_same 147 = .ok (.iinc 3 1, 3) := by decide +kernel
theorem dX5_same_150 : decode cX5_same 150 = .ok (.goto (-50), 3) := by decide +kernel
theorem dX5_same_153 : decode cX5_same 153 = .ok (.iinc 2 1, 3) := by decide +kernel
theorem dX5_same_156 : decode cX5_same 156 = .ok (.goto (-104), 3) := by decide +kernel
theorem dX5_same_159 : decode cX5_same 159 = .ok (.iload_n 1, 1) := by decide +kernel
theorem dX5_same_160 : decode cX5_same 160 = .ok (.ireturn, 1) := by decide +kernel
theorem dJ7_fill_53178_0 : decode cJ7_fill_53178 0 = .ok (.iconst 0, 1) := by decide +kernel
theorem dJ7_fill_53178_1 : decode cJ7_fill_53178 1 = .ok (.istore_n 2, 1) := by decide +kernel
theorem dJ7_fill_53178_2 : decode cJ7_fill_53178 2 = .ok (.aload_n 0, 1) := by decide +kernel
theorem dJ7_fill_53178_3 : decode cJ7_fill_53178 3 = .ok (.arraylength, 1) := by decide +kernel
theorem dJ7_fill_53178_4 : decode cJ7_fill_53178 4 = .ok (.istore_n 3, 1) := by decide +kernel
theorem dJ7_fill_53178_5 : decode cJ7_fill_53178 5 = .ok (.iload_n 2, 1) := by decide +kernel
theorem dJ7_fill_53178_6 : decode cJ7_fill_53178 6 = .ok (.iload_n 3, 1) := by decide +kernel
theorem dJ7_fill_53178_7 : decode cJ7_fill_53178 7 = .ok (.if_icmp .ge 13, 3) := by decide +kernel
theorem dJ7_fill_53178_10 : decode cJ7_fill_53178 10 = .ok (.aload_n 0, 1) := by decide +kernel
theorem dJ7_fill_53178_11 : decode cJ7_fill_53178 11 = .ok (.iload_n 2, 1) := by decide +kernel
theorem dJ7_fill_53178_12 : decode cJ7_fill_53178 12 = .ok (.iload_n 1, 1) := by decide +kernel
theorem dJ7_fill_53178_13 : decode cJ7_fill_53178 13 = .ok (.iastore, 1) := by decide +kernel
theorem dJ7_fill_53178_14 : decode cJ7_fill_53178 14 = .ok (.iinc 2 1, 3) := by decide +kernel
theorem dJ7_fill_53178_17 : decode cJ7_fill_53178 17 = .ok (.goto (-12), 3) := by decide +kernel
theorem dJ7_fill_53178_20 : decode cJ7_fill_53178 20 = .ok (.return_, 1) := by decide +kernel
theorem dL_teach_0 : decode cL_teach 0 = .ok (.aload 4, 2) := by decide +kernel
theorem dL_teach_2 : decode cL_teach 2 = .ok (.iconst 0, 1) := by decide +kernel
theorem dL_teach_3 : decode cL_teach 3 = .ok (.aload_n 0, 1) := by decide +kernel
theorem dL_teach_4 : decode cL_teach 4 = .ok (.iload_n 1, 1) := by decide +kernel
theorem dL_teach_5 : decode cL_teach 5 = .ok (.iload_n 2, 1) := by decide +kernel
theorem dL_teach_6 : decode cL_teach 6 = .ok (.iload_n 3, 1) := by decide +kernel
theorem dL_teach_7 : decode cL_teach 7 = .ok (.invokevirtual 7, 3) := by decide +kernel
theorem dL_teach_10 : decode cL_teach 10 = .ok (.ifCond .eq 7, 3) := by decide +kernel
theorem dL_teach_13 : decode cL_teach 13 = .ok (.lconst 1, 1) := by decide +kernel
theorem dL_teach_14 : decode cL_teach 14 = .ok (.goto 4, 3) := by decide +kernel
theorem dL_teach_17 : decode cL_teach 17 = .ok (.lconst 0, 1) := by decide +kernel
theorem dL_teach_18 : decode cL_teach 18 = .ok (.lastore, 1) := by decide +kernel
theorem dL_teach_19 : decode cL_teach 19 = .ok (.goto 11, 3) := by decide +kernel
theorem dL_teach_22 : decode cL_teach 22 = .ok (.astore 5, 2) := by decide +kernel
theorem dL_teach_24 : decode cL_teach 24 = .ok (.iconst 1, 1) := by decide +kernel
theorem dL_teach_25 : decode cL_teach 25 = .ok (.ireturn, 1) := by decide +kernel
theorem dL_teach_26 : decode cL_teach 26 = .ok (.astore 5, 2) := by decide +kernel
theorem dL_teach_28 : decode cL_teach 28 = .ok (.iconst 2, 1) := by decide +kernel
theorem dL_teach_29 : decode cL_teach 29 = .ok (.ireturn, 1) := by decide +kernel
theorem dL_teach_30 : decode cL_teach 30 = .ok (.iconst 0, 1) := by decide +kernel
theorem dL_teach_31 : decode cL_teach 31 = .ok (.ireturn, 1) := by decide +kernel
theorem dL_told_0 : decode cL_told 0 = .ok (.aload_n 3, 1) := by decide +kernel
theorem dL_told_1 : decode cL_told 1 = .ok (.iconst 0, 1) := by decide +kernel
theorem dL_told_2 : decode cL_told 2 = .ok (.aload_n 0, 1) := by decide +kernel
theorem dL_told_3 : decode cL_told 3 = .ok (.iload_n 1, 1) := by decide +kernel
theorem dL_told_4 : decode cL_told 4 = .ok (.iload_n 2, 1) := by decide +kernel
theorem dL_told_5 : decode cL_told 5 = .ok (.invokevirtual 17, 3) := by decide +kernel
theorem dL_told_8 : decode cL_told 8 = .ok (.i2l, 1) := by decide +kernel
theorem dL_told_9 : decode cL_told 9 = .ok (.lastore, 1) := by decide +kernel
theorem dL_told_10 : decode cL_told 10 = .ok (.goto 7, 3) := by decide +kernel
theorem dL_told_13 : decode cL_told 13 = .ok (.astore 4, 2) := by decide +kernel
theorem dL_told_15 : decode cL_told 15 = .ok (.iconst 1, 1) := by decide +kernel
theorem dL_told_16 : decode cL_told 16 = .ok (.ireturn, 1) := by decide +kernel
theorem dL_told_17 : decode cL_told 17 = .ok (.iconst 0, 1) := by decide +kernel
theorem dL_told_18 : decode cL_told 18 = .ok (.ireturn, 1) := by decide +kernel
theorem dL_next_0 : decode cL_next 0 = .ok (.aload_n 3, 1) := by decide +kernel
theorem dL_next_1 : decode cL_next 1 = .ok (.iconst 0, 1) := by decide +kernel
theorem dL_next_2 : decode cL_next 2 = .ok (.aload_n 0, 1) := by decide +kernel
theorem dL_next_3 : decode cL_next 3 = .ok (.iload_n 1, 1) := by decide +kernel
theorem dL_next_4 : decode cL_next 4 = .ok (.iload_n 2, 1) := by decide +kernel
theorem dL_next_5 : decode cL_next 5 = .ok (.invokevirtual 21, 3) := by decide +kernel
theorem dL_next_8 : decode cL_next 8 = .ok (.i2l, 1) := by decide +kernel
theorem dL_next_9 : decode cL_next 9 = .ok (.lastore, 1) := by decide +kernel
theorem dL_next_10 : decode cL_next 10 = .ok (.goto 7, 3) := by decide +kernel
theorem dL_next_13 : decode cL_next 13 = .ok (.astore 4, 2) := by decide +kernel
theorem dL_next_15 : decode cL_next 15 = .ok (.iconst 1, 1) := by decide +kernel
theorem dL_next_16 : decode cL_next 16 = .ok (.ireturn, 1) := by decide +kernel
theorem dL_next_17 : decode cL_next 17 = .ok (.iconst 0, 1) := by decide +kernel
theorem dL_next_18 : decode cL_next 18 = .ok (.ireturn, 1) := by decide +kernel
theorem dL_sign_0 : decode cL_sign 0 = .ok (.aload_n 2, 1) := by decide +kernel
theorem dL_sign_1 : decode cL_sign 1 = .ok (.iconst 0, 1) := by decide +kernel
theorem dL_sign_2 : decode cL_sign 2 = .ok (.aload_n 0, 1) := by decide +kernel
theorem dL_sign_3 : decode cL_sign 3 = .ok (.iload_n 1, 1) := by decide +kernel
theorem dL_sign_4 : decode cL_sign 4 = .ok (.invokevirtual 24, 3) := by decide +kernel
theorem dL_sign_7 : decode cL_sign 7 = .ok (.i2l, 1) := by decide +kernel
theorem dL_sign_8 : decode cL_sign 8 = .ok (.lastore, 1) := by decide +kernel
theorem dL_sign_9 : decode cL_sign 9 = .ok (.goto 6, 3) := by decide +kernel
theorem dL_sign_12 : decode cL_sign 12 = .ok (.astore_n 3, 1) := by decide +kernel
theorem dL_sign_13 : decode cL_sign 13 = .ok (.iconst 1, 1) := by decide +kernel
theorem dL_sign_14 : decode cL_sign 14 = .ok (.ireturn, 1) := by decide +kernel
theorem dL_sign_15 : decode cL_sign 15 = .ok (.iconst 0, 1) := by decide +kernel
theorem dL_sign_16 : decode cL_sign 16 = .ok (.ireturn, 1) := by decide +kernel
theorem dL_accepts_0 : decode cL_accepts 0 = .ok (.aload_n 3, 1) := by decide +kernel
theorem dL_accepts_1 : decode cL_accepts 1 = .ok (.iconst 0, 1) := by decide +kernel
theorem dL_accepts_2 : decode cL_accepts 2 = .ok (.aload_n 0, 1) := by decide +kernel
theorem dL_accepts_3 : decode cL_accepts 3 = .ok (.iload_n 1, 1) := by decide +kernel
theorem dL_accepts_4 : decode cL_accepts 4 = .ok (.iload_n 2, 1) := by decide +kernel
theorem dL_accepts_5 : decode cL_accepts 5 = .ok (.invokevirtual 28, 3) := by decide +kernel
theorem dL_accepts_8 : decode cL_accepts 8 = .ok (.ifCond .eq 7, 3) := by decide +kernel
theorem dL_accepts_11 : decode cL_accepts 11 = .ok (.lconst 1, 1) := by decide +kernel
theorem dL_accepts_12 : decode cL_accepts 12 = .ok (.goto 4, 3) := by decide +kernel
theorem dL_accepts_15 : decode cL_accepts 15 = .ok (.lconst 0, 1) := by decide +kernel
theorem dL_accepts_16 : decode cL_accepts 16 = .ok (.lastore, 1) := by decide +kernel
theorem dL_accepts_17 : decode cL_accepts 17 = .ok (.goto 11, 3) := by decide +kernel
theorem dL_accepts_20 : decode cL_accepts 20 = .ok (.astore 4, 2) := by decide +kernel
theorem dL_accepts_22 : decode cL_accepts 22 = .ok (.iconst 1, 1) := by decide +kernel
theorem dL_accepts_23 : decode cL_accepts 23 = .ok (.ireturn, 1) := by decide +kernel
theorem dL_accepts_24 : decode cL_accepts 24 = .ok (.astore 4, 2) := by decide +kernel
theorem dL_accepts_26 : decode cL_accepts 26 = .ok (.iconst 2, 1) := by decide +kernel
theorem dL_accepts_27 : decode cL_accepts 27 = .ok (.ireturn, 1) := by decide +kernel
theorem dL_accepts_28 : decode cL_accepts 28 = .ok (.iconst 0, 1) := by decide +kernel
theorem dL_accepts_29 : decode cL_accepts 29 = .ok (.ireturn, 1) := by decide +kernel
theorem dL_draft_0 : decode cL_draft 0 = .ok (.aload_n 0, 1) := by decide +kernel
theorem dL_draft_1 : decode cL_draft 1 = .ok (.iload_n 1, 1) := by decide +kernel
theorem dL_draft_2 : decode cL_draft 2 = .ok (.invokevirtual 32, 3) := by decide +kernel
theorem dL_draft_5 : decode cL_draft 5 = .ok (.goto 6, 3) := by decide +kernel
theorem dL_draft_8 : decode cL_draft 8 = .ok (.astore_n 2, 1) := by decide +kernel
theorem dL_draft_9 : decode cL_draft 9 = .ok (.iconst 1, 1) := by decide +kernel
theorem dL_draft_10 : decode cL_draft 10 = .ok (.ireturn, 1) := by decide +kernel
theorem dL_draft_11 : decode cL_draft 11 = .ok (.iconst 0, 1) := by decide +kernel
theorem dL_draft_12 : decode cL_draft 12 = .ok (.ireturn, 1) := by decide +kernel
theorem dL_define_0 : decode cL_define 0 = .ok (.aload_n 0, 1) := by decide +kernel
theorem dL_define_1 : decode cL_define 1 = .ok (.iload_n 1, 1) := by decide +kernel
theorem dL_define_2 : decode cL_define 2 = .ok (.iload_n 2, 1) := by decide +kernel
theorem dL_define_3 : decode cL_define 3 = .ok (.iload_n 3, 1) := by decide +kernel
theorem dL_define_4 : decode cL_define 4 = .ok (.iload 4, 2) := by decide +kernel
theorem dL_define_6 : decode cL_define 6 = .ok (.invokevirtual 38, 3) := by decide +kernel
theorem dL_define_9 : decode cL_define 9 = .ok (.goto 11, 3) := by decide +kernel
theorem dL_define_12 : decode cL_define 12 = .ok (.astore 5, 2) := by decide +kernel
theorem dL_define_14 : decode cL_define 14 = .ok (.iconst 1, 1) := by decide +kernel
theorem dL_define_15 : decode cL_define 15 = .ok (.ireturn, 1) := by decide +kernel
theorem dL_define_16 : decode cL_define 16 = .ok (.astore 5, 2) := by decide +kernel
theorem dL_define_18 : decode cL_define 18 = .ok (.iconst 2, 1) := by decide +kernel
theorem dL_define_19 : decode cL_define 19 = .ok (.ireturn, 1) := by decide +kernel
theorem dL_define_20 : decode cL_define 20 = .ok (.iconst 0, 1) := by decide +kernel
theorem dL_define_21 : decode cL_define 21 = .ok (.ireturn, 1) := by decide +kernel
theorem dL_least_0 : decode cL_least 0 = .ok (.aload_n 1, 1) := by decide +kernel
theorem dL_least_1 : decode cL_least 1 = .ok (.iconst 0, 1) := by decide +kernel
theorem dL_least_2 : decode cL_least 2 = .ok (.aload_n 0, 1) := by decide +kernel
theorem dL_least_3 : decode cL_least 3 = .ok (.invokevirtual 42, 3) := by decide +kernel
theorem dL_least_6 : decode cL_least 6 = .ok (.i2l, 1) := by decide +kernel
theorem dL_least_7 : decode cL_least 7 = .ok (.lastore, 1) := by decide +kernel
theorem dL_least_8 : decode cL_least 8 = .ok (.goto 6, 3) := by decide +kernel
theorem dL_least_11 : decode cL_least 11 = .ok (.astore_n 2, 1) := by decide +kernel
theorem dL_least_12 : decode cL_least 12 = .ok (.iconst 1, 1) := by decide +kernel
theorem dL_least_13 : decode cL_least 13 = .ok (.ireturn, 1) := by decide +kernel
theorem dL_least_14 : decode cL_least 14 = .ok (.iconst 0, 1) := by decide +kernel
theorem dL_least_15 : decode cL_least 15 = .ok (.ireturn, 1) := by decide +kernel
theorem dL_name_0 : decode cL_name 0 = .ok (.aload_n 2, 1) := by decide +kernel
theorem dL_name_1 : decode cL_name 1 = .ok (.iconst 0, 1) := by decide +kernel
theorem dL_name_2 : decode cL_name 2 = .ok (.aload_n 0, 1) := by decide +kernel
theorem dL_name_3 : decode cL_name 3 = .ok (.iload_n 1, 1) := by decide +kernel
theorem dL_name_4 : decode cL_name 4 = .ok (.invokevirtual 46, 3) := by decide +kernel
theorem dL_name_7 : decode cL_name 7 = .ok (.i2l, 1) := by decide +kernel
theorem dL_name_8 : decode cL_name 8 = .ok (.lastore, 1) := by decide +kernel
theorem dL_name_9 : decode cL_name 9 = .ok (.goto 9, 3) := by decide +kernel
theorem dL_name_12 : decode cL_name 12 = .ok (.astore_n 3, 1) := by decide +kernel
theorem dL_name_13 : decode cL_name 13 = .ok (.iconst 1, 1) := by decide +kernel
theorem dL_name_14 : decode cL_name 14 = .ok (.ireturn, 1) := by decide +kernel
theorem dL_name_15 : decode cL_name 15 = .ok (.astore_n 3, 1) := by decide +kernel
theorem dL_name_16 : decode cL_name 16 = .ok (.iconst 2, 1) := by decide +kernel
theorem dL_name_17 : decode cL_name 17 = .ok (.ireturn, 1) := by decide +kernel
theorem dL_name_18 : decode cL_name 18 = .ok (.iconst 0, 1) := by decide +kernel
theorem dL_name_19 : decode cL_name 19 = .ok (.ireturn, 1) := by decide +kernel
theorem dL_apart_0 : decode cL_apart 0 = .ok (.aload_n 3, 1) := by decide +kernel
theorem dL_apart_1 : decode cL_apart 1 = .ok (.iconst 0, 1) := by decide +kernel
theorem dL_apart_2 : decode cL_apart 2 = .ok (.aload_n 0, 1) := by decide +kernel
theorem dL_apart_3 : decode cL_apart 3 = .ok (.iload_n 1, 1) := by decide +kernel
theorem dL_apart_4 : decode cL_apart 4 = .ok (.iload_n 2, 1) := by decide +kernel
theorem dL_apart_5 : decode cL_apart 5 = .ok (.invokevirtual 49, 3) := by decide +kernel
theorem dL_apart_8 : decode cL_apart 8 = .ok (.i2l, 1) := by decide +kernel
theorem dL_apart_9 : decode cL_apart 9 = .ok (.lastore, 1) := by decide +kernel
theorem dL_apart_10 : decode cL_apart 10 = .ok (.goto 11, 3) := by decide +kernel
theorem dL_apart_13 : decode cL_apart 13 = .ok (.astore 4, 2) := by decide +kernel
theorem dL_apart_15 : decode cL_apart 15 = .ok (.iconst 1, 1) := by decide +kernel
theorem dL_apart_16 : decode cL_apart 16 = .ok (.ireturn, 1) := by decide +kernel
theorem dL_apart_17 : decode cL_apart 17 = .ok (.astore 4, 2) := by decide +kernel
theorem dL_apart_19 : decode cL_apart 19 = .ok (.iconst 2, 1) := by decide +kernel
theorem dL_apart_20 : decode cL_apart 20 = .ok (.ireturn, 1) := by decide +kernel
theorem dL_apart_21 : decode cL_apart 21 = .ok (.iconst 0, 1) := by decide +kernel
theorem dL_apart_22 : decode cL_apart 22 = .ok (.ireturn, 1) := by decide +kernel
theorem dL_exemplify_0 : decode cL_exemplify 0 = .ok (.aload_n 1, 1) := by decide +kernel
theorem dL_exemplify_1 : decode cL_exemplify 1 = .ok (.iconst 0, 1) := by decide +kernel
theorem dL_exemplify_2 : decode cL_exemplify 2 = .ok (.aload_n 0, 1) := by decide +kernel
theorem dL_exemplify_3 : decode cL_exemplify 3 = .ok (.invokevirtual 52, 3) := by decide +kernel
theorem dL_exemplify_6 : decode cL_exemplify 6 = .ok (.i2l, 1) := by decide +kernel
theorem dL_exemplify_7 : decode cL_exemplify 7 = .ok (.lastore, 1) := by decide +kernel
theorem dL_exemplify_8 : decode cL_exemplify 8 = .ok (.goto 9, 3) := by decide +kernel
theorem dL_exemplify_11 : decode cL_exemplify 11 = .ok (.astore_n 2, 1) := by decide +kernel
theorem dL_exemplify_12 : decode cL_exemplify 12 = .ok (.iconst 1, 1) := by decide +kernel
theorem dL_exemplify_13 : decode cL_exemplify 13 = .ok (.ireturn, 1) := by decide +kernel
theorem dL_exemplify_14 : decode cL_exemplify 14 = .ok (.astore_n 2, 1) := by decide +kernel
theorem dL_exemplify_15 : decode cL_exemplify 15 = .ok (.iconst 2, 1) := by decide +kernel
theorem dL_exemplify_16 : decode cL_exemplify 16 = .ok (.ireturn, 1) := by decide +kernel
theorem dL_exemplify_17 : decode cL_exemplify 17 = .ok (.iconst 0, 1) := by decide +kernel
theorem dL_exemplify_18 : decode cL_exemplify 18 = .ok (.ireturn, 1) := by decide +kernel
theorem dL_same_0 : decode cL_same 0 = .ok (.aload_n 1, 1) := by decide +kernel
theorem dL_same_1 : decode cL_same 1 = .ok (.iconst 0, 1) := by decide +kernel
theorem dL_same_2 : decode cL_same 2 = .ok (.aload_n 0, 1) := by decide +kernel
theorem dL_same_3 : decode cL_same 3 = .ok (.invokevirtual 55, 3) := by decide +kernel
theorem dL_same_6 : decode cL_same 6 = .ok (.ifCond .eq 7, 3) := by decide +kernel
theorem dL_same_9 : decode cL_same 9 = .ok (.lconst 1, 1) := by decide +kernel
theorem dL_same_10 : decode cL_same 10 = .ok (.goto 4, 3) := by decide +kernel
theorem dL_same_13 : decode cL_same 13 = .ok (.lconst 0, 1) := by decide +kernel
theorem dL_same_14 : decode cL_same 14 = .ok (.lastore, 1) := by decide +kernel
theorem dL_same_15 : decode cL_same 15 = .ok (.goto 6, 3) := by decide +kernel
theorem dL_same_18 : decode cL_same 18 = .ok (.astore_n 2, 1) := by decide +kernel
theorem dL_same_19 : decode cL_same 19 = .ok (.iconst 1, 1) := by decide +kernel
theorem dL_same_20 : decode cL_same 20 = .ok (.ireturn, 1) := by decide +kernel
theorem dL_same_21 : decode cL_same 21 = .ok (.iconst 0, 1) := by decide +kernel
theorem dL_same_22 : decode cL_same 22 = .ok (.ireturn, 1) := by decide +kernel
theorem dL_law_0 : decode cL_law 0 = .ok (.new 8, 3) := by decide +kernel
theorem dL_law_3 : decode cL_law 3 = .ok (.dup, 1) := by decide +kernel
theorem dL_law_4 : decode cL_law 4 = .ok (.invokespecial 59, 3) := by decide +kernel
theorem dL_law_7 : decode cL_law 7 = .ok (.astore_n 1, 1) := by decide +kernel
theorem dL_law_8 : decode cL_law 8 = .ok (.new 60, 3) := by decide +kernel
theorem dL_law_11 : decode cL_law 11 = .ok (.dup, 1) := by decide +kernel
theorem dL_law_12 : decode cL_law 12 = .ok (.invokespecial 62, 3) := by decide +kernel
theorem dL_law_15 : decode cL_law 15 = .ok (.astore_n 2, 1) := by decide +kernel
theorem dL_law_16 : decode cL_law 16 = .ok (.iconst 1, 1) := by decide +kernel
theorem dL_law_17 : decode cL_law 17 = .ok (.newarray .long, 2) := by decide +kernel
theorem dL_law_19 : decode cL_law 19 = .ok (.astore_n 3, 1) := by decide +kernel
theorem dL_law_20 : decode cL_law 20 = .ok (.iconst 0, 1) := by decide +kernel
theorem dL_law_21 : decode cL_law 21 = .ok (.istore 4, 2) := by decide +kernel
theorem dL_law_23 : decode cL_law 23 = .ok (.iload 4, 2) := by decide +kernel
theorem dL_law_25 : decode cL_law 25 = .ok (.aload_n 0, 1) := by decide +kernel
theorem dL_law_26 : decode cL_law 26 = .ok (.arraylength, 1) := by decide +kernel
theorem dL_law_27 : decode cL_law 27 = .ok (.iconst 5, 1) := by decide +kernel
theorem dL_law_28 : decode cL_law 28 = .ok (.isub, 1) := by decide +kernel
theorem dL_law_29 : decode cL_law 29 = .ok (.if_icmp .gt 900, 3) := by decide +kernel
theorem dL_law_32 : decode cL_law 32 = .ok (.aload_n 0, 1) := by decide +kernel
theorem dL_law_33 : decode cL_law 33 = .ok (.iload 4, 2) := by decide +kernel
theorem dL_law_35 : decode cL_law 35 = .ok (.iaload, 1) := by decide +kernel
theorem dL_law_36 : decode cL_law 36 = .ok (.bipush 15, 2) := by decide +kernel
theorem dL_law_38 : decode cL_law 38 = .ok (.iand, 1) := by decide +kernel
theorem dL_law_39 : decode cL_law 39 = .ok (.tableswitch 884 0 15 #[77, 180, 248, 261, 272, 285, 298, 366, 422, 497, 533, 621, 665, 721, 789, 833], 77) := by decide +kernel
theorem dL_law_116 : decode cL_law 116 = .ok (.aload_n 1, 1) := by decide +kernel
theorem dL_law_117 : decode cL_law 117 = .ok (.aload_n 0, 1) := by decide +kernel
theorem dL_law_118 : decode cL_law 118 = .ok (.iload 4, 2) := by decide +kernel
theorem dL_law_120 : decode cL_law 120 = .ok (.iconst 1, 1) := by decide +kernel
theorem dL_law_121 : decode cL_law 121 = .ok (.iadd, 1) := by decide +kernel
theorem dL_law_122 : decode cL_law 122 = .ok (.iaload, 1) := by decide +kernel
theorem dL_law_123 : decode cL_law 123 = .ok (.aload_n 0, 1) := by decide +kernel
theorem dL_law_124 : decode cL_law 124 = .ok (.iload 4, 2) := by decide +kernel
theorem dL_law_126 : decode cL_law 126 = .ok (.iconst 2, 1) := by decide +kernel
theorem dL_law_127 : decode cL_law 127 = .ok (.iadd, 1) := by decide +kernel
theorem dL_law_128 : decode cL_law 128 = .ok (.iaload, 1) := by decide +kernel
theorem dL_law_129 : decode cL_law 129 = .ok (.aload_n 0, 1) := by decide +kernel
theorem dL_law_130 : decode cL_law 130 = .ok (.iload 4, 2) := by decide +kernel
theorem dL_law_132 : decode cL_law 132 = .ok (.iconst 3, 1) := by decide +kernel
theorem dL_law_133 : decode cL_law 133 = .ok (.iadd, 1) := by decide +kernel
theorem dL_law_134 : decode cL_law 134 = .ok (.iaload, 1) := by decide +kernel
theorem dL_law_135 : decode cL_law 135 = .ok (.ifCond .eq 7, 3) := by decide +kernel
theorem dL_law_138 : decode cL_law 138 = .ok (.iconst 1, 1) := by decide +kernel
theorem dL_law_139 : decode cL_law 139 = .ok (.goto 4, 3) := by decide +kernel
theorem dL_law_142 : decode cL_law 142 = .ok (.iconst 0, 1) := by decide +kernel
theorem dL_law_143 : decode cL_law 143 = .ok (.aload_n 3, 1) := by decide +kernel
theorem dL_law_144 : decode cL_law 144 = .ok (.invokestatic 63, 3) := by decide +kernel
theorem dL_law_147 : decode cL_law 147 = .ok (.istore 5, 2) := by decide +kernel
theorem dL_law_149 : decode cL_law 149 = .ok (.aload_n 2, 1) := by decide +kernel
theorem dL_law_150 : decode cL_law 150 = .ok (.aload_n 0, 1) := by decide +kernel
theorem dL_law_151 : decode cL_law 151 = .ok (.iload 4, 2) := by decide +kernel
theorem dL_law_153 : decode cL_law 153 = .ok (.iconst 1, 1) := by decide +kernel
theorem dL_law_154 : decode cL_law 154 = .ok (.iadd, 1) := by decide +kernel
theorem dL_law_155 : decode cL_law 155 = .ok (.iaload, 1) := by decide +kernel
theorem dL_law_156 : decode cL_law 156 = .ok (.aload_n 0, 1) := by decide +kernel
theorem dL_law_157 : decode cL_law 157 = .ok (.iload 4, 2) := by decide +kernel
theorem dL_law_159 : decode cL_law 159 = .ok (.iconst 2, 1) := by decide +kernel
theorem dL_law_160 : decode cL_law 160 = .ok (.iadd, 1) := by decide +kernel
theorem dL_law_161 : decode cL_law 161 = .ok (.iaload, 1) := by decide +kernel
theorem dL_law_162 : decode cL_law 162 = .ok (.aload_n 0, 1) := by decide +kernel
theorem dL_law_163 : decode cL_law 163 = .ok (.iload 4, 2) := by decide +kernel
theorem dL_law_165 : decode cL_law 165 = .ok (.iconst 3, 1) := by decide +kernel
theorem dL_law_166 : decode cL_law 166 = .ok (.iadd, 1) := by decide +kernel
theorem dL_law_167 : decode cL_law 167 = .ok (.iaload, 1) := by decide +kernel
theorem dL_law_168 : decode cL_law 168 = .ok (.ifCond .eq 7, 3) := by decide +kernel
theorem dL_law_171 : decode cL_law 171 = .ok (.iconst 1, 1) := by decide +kernel
theorem dL_law_172 : decode cL_law 172 = .ok (.goto 4, 3) := by decide +kernel
theorem dL_law_175 : decode cL_law 175 = .ok (.iconst 0, 1) := by decide +kernel
theorem dL_law_176 : decode cL_law 176 = .ok (.invokevirtual 68, 3) := by decide +kernel
theorem dL_law_179 : decode cL_law 179 = .ok (.istore 6, 2) := by decide +kernel
theorem dL_law_181 : decode cL_law 181 = .ok (.aload_n 2, 1) := by decide +kernel
theorem dL_law_182 : decode cL_law 182 = .ok (.invokevirtual 69, 3) := by decide +kernel
theorem dL_law_185 : decode cL_law 185 = .ok (.iload 5, 2) := by decide +kernel
theorem dL_law_187 : decode cL_law 187 = .ok (.if_icmp .eq 5, 3) := by decide +kernel
theorem dL_law_190 : decode cL_law 190 = .ok (.iconst 0, 1) := by decide +kernel
theorem dL_law_191 : decode cL_law 191 = .ok (.ireturn, 1) := by decide +kernel
theorem dL_law_192 : decode cL_law 192 = .ok (.iload 5, 2) := by decide +kernel
theorem dL_law_194 : decode cL_law 194 = .ok (.ifCond .ne 22, 3) := by decide +kernel
theorem dL_law_197 : decode cL_law 197 = .ok (.aload_n 3, 1) := by decide +kernel
theorem dL_law_198 : decode cL_law 198 = .ok (.iconst 0, 1) := by decide +kernel
theorem dL_law_199 : decode cL_law 199 = .ok (.laload, 1) := by decide +kernel
theorem dL_law_200 : decode cL_law 200 = .ok (.iload 6, 2) := by decide +kernel
theorem dL_law_202 : decode cL_law 202 = .ok (.ifCond .eq 7, 3) := by decide +kernel
theorem dL_law_205 : decode cL_law 205 = .ok (.lconst 1, 1) := by decide +kernel
theorem dL_law_206 : decode cL_law 206 = .ok (.goto 4, 3) := by decide +kernel
theorem dL_law_209 : decode cL_law 209 = .ok (.lconst 0, 1) := by decide +kernel
theorem dL_law_210 : decode cL_law 210 = .ok (.lcmp, 1) := by decide +kernel
theorem dL_law_211 : decode cL_law 211 = .ok (.ifCond .eq 5, 3) := by decide +kernel
theorem dL_law_214 : decode cL_law 214 = .ok (.iconst 0, 1) := by decide +kernel
theorem dL_law_215 : decode cL_law 215 = .ok (.ireturn, 1) := by decide +kernel
theorem dL_law_216 : decode cL_law 216 = .ok (.goto 707, 3) := by decide +kernel
theorem dL_law_219 : decode cL_law 219 = .ok (.aload_n 1, 1) := by decide +kernel
theorem dL_law_220 : decode cL_law 220 = .ok (.aload_n 0, 1) := by decide +kernel
theorem dL_law_221 : decode cL_law 221 = .ok (.iload 4, 2) := by decide +kernel
theorem dL_law_223 : decode cL_law 223 = .ok (.iconst 1, 1) := by decide +kernel
theorem dL_law_224 : decode cL_law 224 = .ok (.iadd, 1) := by decide +kernel
theorem dL_law_225 : decode cL_law 225 = .ok (.iaload, 1) := by decide +kernel
theorem dL_law_226 : decode cL_law 226 = .ok (.aload_n 0, 1) := by decide +kernel
theorem dL_law_227 : decode cL_law 227 = .ok (.iload 4, 2) := by decide +kernel
theorem dL_law_229 : decode cL_law 229 = .ok (.iconst 2, 1) := by decide +kernel
theorem dL_law_230 : decode cL_law 230 = .ok (.iadd, 1) := by decide +kernel
theorem dL_law_231 : decode cL_law 231 = .ok (.iaload, 1) := by decide +kernel
theorem dL_law_232 : decode cL_law 232 = .ok (.aload_n 3, 1) := by decide +kernel
theorem dL_law_233 : decode cL_law 233 = .ok (.invokestatic 72, 3) := by decide +kernel
theorem dL_law_236 : decode cL_law 236 = .ok (.istore 5, 2) := by decide +kernel
theorem dL_law_238 : decode cL_law 238 = .ok (.aload_n 2, 1) := by decide +kernel
theorem dL_law_239 : decode cL_law 239 = .ok (.aload_n 0, 1) := by decide +kernel
theorem dL_law_240 : decode cL_law 240 = .ok (.iload 4, 2) := by decide +kernel
theorem dL_law_242 : decode cL_law 242 = .ok (.iconst 1, 1) := by decide +kernel
theorem dL_law_243 : decode cL_law 243 = .ok (.iadd, 1) := by decide +kernel
theorem dL_law_244 : decode cL_law 244 = .ok (.iaload, 1) := by decide +kernel
theorem dL_law_245 : decode cL_law 245 = .ok (.aload_n 0, 1) := by decide +kernel
theorem dL_law_246 : decode cL_law 246 = .ok (.iload 4, 2) := by decide +kernel
theorem dL_law_248 : decode cL_law 248 = .ok (.iconst 2, 1) := by decide +kernel
theorem dL_law_249 : decode cL_law 249 = .ok (.iadd, 1) := by decide +kernel
theorem dL_law_250 : decode cL_law 250 = .ok (.iaload, 1) := by decide +kernel
theorem dL_law_251 : decode cL_law 251 = .ok (.invokevirtual 75, 3) := by decide +kernel
theorem dL_law_254 : decode cL_law 254 = .ok (.istore 6, 2) := by decide +kernel
theorem dL_law_256 : decode cL_law 256 = .ok (.aload_n 2, 1) := by decide +kernel
theorem dL_law_257 : decode cL_law 257 = .ok (.invokevirtual 69, 3) := by decide +kernel
theorem dL_law_260 : decode cL_law 260 = .ok (.iload 5, 2) := by decide +kernel
theorem dL_law_262 : decode cL_law 262 = .ok (.if_icmp .eq 5, 3) := by decide +kernel
theorem dL_law_265 : decode cL_law 265 = .ok (.iconst 0, 1) := by decide +kernel
theorem dL_law_266 : decode cL_law 266 = .ok (.ireturn, 1) := by decide +kernel
theorem dL_law_267 : decode cL_law 267 = .ok (.iload 5, 2) := by decide +kernel
theorem dL_law_269 : decode cL_law 269 = .ok (.ifCond .ne 15, 3) := by decide +kernel
theorem dL_law_272 : decode cL_law 272 = .ok (.aload_n 3, 1) := by decide +kernel
theorem dL_law_273 : decode cL_law 273 = .ok (.iconst 0, 1) := by decide +kernel
theorem dL_law_274 : decode cL_law 274 = .ok (.laload, 1) := by decide +kernel
theorem dL_law_275 : decode cL_law 275 = .ok (.iload 6, 2) := by decide +kernel
theorem dL_law_277 : decode cL_law 277 = .ok (.i2l, 1) := by decide +kernel
theorem dL_law_278 : decode cL_law 278 = .ok (.lcmp, 1) := by decide +kernel
theorem dL_law_279 : decode cL_law 279 = .ok (.ifCond .eq 5, 3) := by decide +kernel
theorem dL_law_282 : decode cL_law 282 = .ok (.iconst 0, 1) := by decide +kernel
theorem dL_law_283 : decode cL_law 283 = .ok (.ireturn, 1) := by decide +kernel
theorem dL_law_284 : decode cL_law 284 = .ok (.goto 639, 3) := by decide +kernel
theorem dL_law_287 : decode cL_law 287 = .ok (.aload_n 1, 1) := by decide +kernel
theorem dL_law_288 : decode cL_law 288 = .ok (.invokevirtual 76, 3) := by decide +kernel
theorem dL_law_291 : decode cL_law 291 = .ok (.aload_n 2, 1) := by decide +kernel
theorem dL_law_292 : decode cL_law 292 = .ok (.invokevirtual 79, 3) := by decide +kernel
theorem dL_law_295 : decode cL_law 295 = .ok (.if_icmp .eq 628, 3) := by decide +kernel
theorem dL_law_298 : decode cL_law 298 = .ok (.iconst 0, 1) := by decide +kernel
theorem dL_law_299 : decode cL_law 299 = .ok (.ireturn, 1) := by decide +kernel
theorem dL_law_300 : decode cL_law 300 = .ok (.aload_n 1, 1) := by decide +kernel
theorem dL_law_301 : decode cL_law 301 = .ok (.invokevirtual 80, 3) := by decide +kernel
theorem dL_law_304 : decode cL_law 304 = .ok (.aload_n 2, 1) := by decide +kernel
theorem dL_law_305 : decode cL_law 305 = .ok (.invokevirtual 83, 3) := by decide +kernel
theorem dL_law_308 : decode cL_law 308 = .ok (.goto 615, 3) := by decide +kernel
theorem dL_law_311 : decode cL_law 311 = .ok (.aload_n 1, 1) := by decide +kernel
theorem dL_law_312 : decode cL_law 312 = .ok (.invokevirtual 84, 3) := by decide +kernel
theorem dL_law_315 : decode cL_law 315 = .ok (.aload_n 2, 1) := by decide +kernel
theorem dL_law_316 : decode cL_law 316 = .ok (.invokevirtual 87, 3) := by decide +kernel
theorem dL_law_319 : decode cL_law 319 = .ok (.if_icmp .eq 604, 3) := by decide +kernel
theorem dL_law_322 : decode cL_law 322 = .ok (.iconst 0, 1) := by decide +kernel
theorem dL_law_323 : decode cL_law 323 = .ok (.ireturn, 1) := by decide +kernel
theorem dL_law_324 : decode cL_law 324 = .ok (.aload_n 1, 1) := by decide +kernel
theorem dL_law_325 : decode cL_law 325 = .ok (.invokevirtual 88, 3) := by decide +kernel
theorem dL_law_328 : decode cL_law 328 = .ok (.aload_n 2, 1) := by decide +kernel
theorem dL_law_329 : decode cL_law 329 = .ok (.invokevirtual 91, 3) := by decide +kernel
theorem dL_law_332 : decode cL_law 332 = .ok (.if_icmp .eq 591, 3) := by decide +kernel
theorem dL_law_335 : decode cL_law 335 = .ok (.iconst 0, 1) := by decide +kernel
theorem dL_law_336 : decode cL_law 336 = .ok (.ireturn, 1) := by decide +kernel
theorem dL_law_337 : decode cL_law 337 = .ok (.aload_n 1, 1) := by decide +kernel
theorem dL_law_338 : decode cL_law 338 = .ok (.aload_n 0, 1) := by decide +kernel
theorem dL_law_339 : decode cL_law 339 = .ok (.iload 4, 2) := by decide +kernel
theorem dL_law_341 : decode cL_law 341 = .ok (.iconst 1, 1) := by decide +kernel
theorem dL_law_342 : decode cL_law 342 = .ok (.iadd, 1) := by decide +kernel
theorem dL_law_343 : decode cL_law 343 = .ok (.iaload, 1) := by decide +kernel
theorem dL_law_344 : decode cL_law 344 = .ok (.aload_n 0, 1) := by decide +kernel
theorem dL_law_345 : decode cL_law 345 = .ok (.iload 4, 2) := by decide +kernel
theorem dL_law_347 : decode cL_law 347 = .ok (.iconst 2, 1) := by decide +kernel
theorem dL_law_348 : decode cL_law 348 = .ok (.iadd, 1) := by decide +kernel
theorem dL_law_349 : decode cL_law 349 = .ok (.iaload, 1) := by decide +kernel
theorem dL_law_350 : decode cL_law 350 = .ok (.aload_n 3, 1) := by decide +kernel
theorem dL_law_351 : decode cL_law 351 = .ok (.invokestatic 92, 3) := by decide +kernel
theorem dL_law_354 : decode cL_law 354 = .ok (.istore 5, 2) := by decide +kernel
theorem dL_law_356 : decode cL_law 356 = .ok (.aload_n 2, 1) := by decide +kernel
theorem dL_law_357 : decode cL_law 357 = .ok (.aload_n 0, 1) := by decide +kernel
theorem dL_law_358 : decode cL_law 358 = .ok (.iload 4, 2) := by decide +kernel
theorem dL_law_360 : decode cL_law 360 = .ok (.iconst 1, 1) := by decide +kernel
theorem dL_law_361 : decode cL_law 361 = .ok (.iadd, 1) := by decide +kernel
theorem dL_law_362 : decode cL_law 362 = .ok (.iaload, 1) := by decide +kernel
theorem dL_law_363 : decode cL_law 363 = .ok (.aload_n 0, 1) := by decide +kernel
theorem dL_law_364 : decode cL_law 364 = .ok (.iload 4, 2) := by decide +kernel
theorem dL_law_366 : decode cL_law 366 = .ok (.iconst 2, 1) := by decide +kernel
theorem dL_law_367 : decode cL_law 367 = .ok (.iadd, 1) := by decide +kernel
theorem dL_law_368 : decode cL_law 368 = .ok (.iaload, 1) := by decide +kernel
theorem dL_law_369 : decode cL_law 369 = .ok (.invokevirtual 94, 3) := by decide +kernel
theorem dL_law_372 : decode cL_law 372 = .ok (.istore 6, 2) := by decide +kernel
theorem dL_law_374 : decode cL_law 374 = .ok (.aload_n 2, 1) := by decide +kernel
theorem dL_law_375 : decode cL_law 375 = .ok (.invokevirtual 69, 3) := by decide +kernel
theorem dL_law_378 : decode cL_law 378 = .ok (.iload 5, 2) := by decide +kernel
theorem dL_law_380 : decode cL_law 380 = .ok (.if_icmp .eq 5, 3) := by decide +kernel
theorem dL_law_383 : decode cL_law 383 = .ok (.iconst 0, 1) := by decide +kernel
theorem dL_law_384 : decode cL_law 384 = .ok (.ireturn, 1) := by decide +kernel
theorem dL_law_385 : decode cL_law 385 = .ok (.iload 5, 2) := by decide +kernel
theorem dL_law_387 : decode cL_law 387 = .ok (.ifCond .ne 15, 3) := by decide +kernel
theorem dL_law_390 : decode cL_law 390 = .ok (.aload_n 3, 1) := by decide +kernel
theorem dL_law_391 : decode cL_law 391 = .ok (.iconst 0, 1) := by decide +kernel
theorem dL_law_392 : decode cL_law 392 = .ok (.laload, 1) := by decide +kernel
theorem dL_law_393 : decode cL_law 393 = .ok (.iload 6, 2) := by decide +kernel
theorem dL_law_395 : decode cL_law 395 = .ok (.i2l, 1) := by decide +kernel
theorem dL_law_396 : decode cL_law 396 = .ok (.lcmp, 1) := by decide +kernel
theorem dL_law_397 : decode cL_law 397 = .ok (.ifCond .eq 5, 3) := by decide +kernel
theorem dL_law_400 : decode cL_law 400 = .ok (.iconst 0, 1) := by decide +kernel
theorem dL_law_401 : decode cL_law 401 = .ok (.ireturn, 1) := by decide +kernel
theorem dL_law_402 : decode cL_law 402 = .ok (.goto 521, 3) := by decide +kernel
theorem dL_law_405 : decode cL_law 405 = .ok (.aload_n 1, 1) := by decide +kernel
theorem dL_law_406 : decode cL_law 406 = .ok (.aload_n 0, 1) := by decide +kernel
theorem dL_law_407 : decode cL_law 407 = .ok (.iload 4, 2) := by decide +kernel
theorem dL_law_409 : decode cL_law 409 = .ok (.iconst 1, 1) := by decide +kernel
theorem dL_law_410 : decode cL_law 410 = .ok (.iadd, 1) := by decide +kernel
theorem dL_law_411 : decode cL_law 411 = .ok (.iaload, 1) := by decide +kernel
theorem dL_law_412 : decode cL_law 412 = .ok (.aload_n 3, 1) := by decide +kernel
theorem dL_law_413 : decode cL_law 413 = .ok (.invokestatic 95, 3) := by decide +kernel
theorem dL_law_416 : decode cL_law 416 = .ok (.istore 5, 2) := by decide +kernel
theorem dL_law_418 : decode cL_law 418 = .ok (.aload_n 2, 1) := by decide +kernel
theorem dL_law_419 : decode cL_law 419 = .ok (.aload_n 0, 1) := by decide +kernel
theorem dL_law_420 : decode cL_law 420 = .ok (.iload 4, 2) := by decide +kernel
theorem dL_law_422 : decode cL_law 422 = .ok (.iconst 1, 1) := by decide +kernel
theorem dL_law_423 : decode cL_law 423 = .ok (.iadd, 1) := by decide +kernel
theorem dL_law_424 : decode cL_law 424 = .ok (.iaload, 1) := by decide +kernel
theorem dL_law_425 : decode cL_law 425 = .ok (.invokevirtual 98, 3) := by decide +kernel
theorem dL_law_428 : decode cL_law 428 = .ok (.istore 6, 2) := by decide +kernel
theorem dL_law_430 : decode cL_law 430 = .ok (.aload_n 2, 1) := by decide +kernel
theorem dL_law_431 : decode cL_law 431 = .ok (.invokevirtual 69, 3) := by decide +kernel
theorem dL_law_434 : decode cL_law 434 = .ok (.iload 5, 2) := by decide +kernel
theorem dL_law_436 : decode cL_law 436 = .ok (.if_icmp .eq 5, 3) := by decide +kernel
theorem dL_law_439 : decode cL_law 439 = .ok (.iconst 0, 1) := by decide +kernel
theorem dL_law_440 : decode cL_law 440 = .ok (.ireturn, 1) := by decide +kernel
theorem dL_law_441 : decode cL_law 441 = .ok (.iload 5, 2) := by decide +kernel
theorem dL_law_443 : decode cL_law 443 = .ok (.ifCond .ne 15, 3) := by decide +kernel
theorem dL_law_446 : decode cL_law 446 = .ok (.aload_n 3, 1) := by decide +kernel
theorem dL_law_447 : decode cL_law 447 = .ok (.iconst 0, 1) := by decide +kernel
theorem dL_law_448 : decode cL_law 448 = .ok (.laload, 1) := by decide +kernel
theorem dL_law_449 : decode cL_law 449 = .ok (.iload 6, 2) := by decide +kernel
theorem dL_law_451 : decode cL_law 451 = .ok (.i2l, 1) := by decide +kernel
theorem dL_law_452 : decode cL_law 452 = .ok (.lcmp, 1) := by decide +kernel
theorem dL_law_453 : decode cL_law 453 = .ok (.ifCond .eq 5, 3) := by decide +kernel
theorem dL_law_456 : decode cL_law 456 = .ok (.iconst 0, 1) := by decide +kernel
theorem dL_law_457 : decode cL_law 457 = .ok (.ireturn, 1) := by decide +kernel
theorem dL_law_458 : decode cL_law 458 = .ok (.goto 465, 3) := by decide +kernel
theorem dL_law_461 : decode cL_law 461 = .ok (.aload_n 1, 1) := by decide +kernel
theorem dL_law_462 : decode cL_law 462 = .ok (.aload_n 0, 1) := by decide +kernel
theorem dL_law_463 : decode cL_law 463 = .ok (.iload 4, 2) := by decide +kernel
theorem dL_law_465 : decode cL_law 465 = .ok (.iconst 1, 1) := by decide +kernel
theorem dL_law_466 : decode cL_law 466 = .ok (.iadd, 1) := by decide +kernel
theorem dL_law_467 : decode cL_law 467 = .ok (.iaload, 1) := by decide +kernel
theorem dL_law_468 : decode cL_law 468 = .ok (.aload_n 0, 1) := by decide +kernel
theorem dL_law_469 : decode cL_law 469 = .ok (.iload 4, 2) := by decide +kernel
theorem dL_law_471 : decode cL_law 471 = .ok (.iconst 2, 1) := by decide +kernel
theorem dL_law_472 : decode cL_law 472 = .ok (.iadd, 1) := by decide +kernel
theorem dL_law_473 : decode cL_law 473 = .ok (.iaload, 1) := by decide +kernel
theorem dL_law_474 : decode cL_law 474 = .ok (.aload_n 3, 1) := by decide +kernel
theorem dL_law_475 : decode cL_law 475 = .ok (.invokestatic 99, 3) := by decide +kernel
theorem dL_law_478 : decode cL_law 478 = .ok (.istore 5, 2) := by decide +kernel
theorem dL_law_480 : decode cL_law 480 = .ok (.aload_n 2, 1) := by decide +kernel
theorem dL_law_481 : decode cL_law 481 = .ok (.aload_n 0, 1) := by decide +kernel
theorem dL_law_482 : decode cL_law 482 = .ok (.iload 4, 2) := by decide +kernel
theorem dL_law_484 : decode cL_law 484 = .ok (.iconst 1, 1) := by decide +kernel
theorem dL_law_485 : decode cL_law 485 = .ok (.iadd, 1) := by decide +kernel
theorem dL_law_486 : decode cL_law 486 = .ok (.iaload, 1) := by decide +kernel
theorem dL_law_487 : decode cL_law 487 = .ok (.aload_n 0, 1) := by decide +kernel
theorem dL_law_488 : decode cL_law 488 = .ok (.iload 4, 2) := by decide +kernel
theorem dL_law_490 : decode cL_law 490 = .ok (.iconst 2, 1) := by decide +kernel
theorem dL_law_491 : decode cL_law 491 = .ok (.iadd, 1) := by decide +kernel
theorem dL_law_492 : decode cL_law 492 = .ok (.iaload, 1) := by decide +kernel
theorem dL_law_493 : decode cL_law 493 = .ok (.invokevirtual 101, 3) := by decide +kernel
theorem dL_law_496 : decode cL_law 496 = .ok (.istore 6, 2) := by decide +kernel
theorem dL_law_498 : decode cL_law 498 = .ok (.aload_n 2, 1) := by decide +kernel
theorem dL_law_499 : decode cL_law 499 = .ok (.invokevirtual 69, 3) := by decide +kernel
theorem dL_law_502 : decode cL_law 502 = .ok (.iload 5, 2) := by decide +kernel
theorem dL_law_504 : decode cL_law 504 = .ok (.if_icmp .eq 5, 3) := by decide +kernel
theorem dL_law_507 : decode cL_law 507 = .ok (.iconst 0, 1) := by decide +kernel
theorem dL_law_508 : decode cL_law 508 = .ok (.ireturn, 1) := by decide +kernel
theorem dL_law_509 : decode cL_law 509 = .ok (.iload 5, 2) := by decide +kernel
theorem dL_law_511 : decode cL_law 511 = .ok (.ifCond .ne 22, 3) := by decide +kernel
theorem dL_law_514 : decode cL_law 514 = .ok (.aload_n 3, 1) := by decide +kernel
theorem dL_law_515 : decode cL_law 515 = .ok (.iconst 0, 1) := by decide +kernel
theorem dL_law_516 : decode cL_law 516 = .ok (.laload, 1) := by decide +kernel
theorem dL_law_517 : decode cL_law 517 = .ok (.iload 6, 2) := by decide +kernel
theorem dL_law_519 : decode cL_law 519 = .ok (.ifCond .eq 7, 3) := by decide +kernel
theorem dL_law_522 : decode cL_law 522 = .ok (.lconst 1, 1) := by decide +kernel
theorem dL_law_523 : decode cL_law 523 = .ok (.goto 4, 3) := by decide +kernel
theorem dL_law_526 : decode cL_law 526 = .ok (.lconst 0, 1) := by decide +kernel
theorem dL_law_527 : decode cL_law 527 = .ok (.lcmp, 1) := by decide +kernel
theorem dL_law_528 : decode cL_law 528 = .ok (.ifCond .eq 5, 3) := by decide +kernel
theorem dL_law_531 : decode cL_law 531 = .ok (.iconst 0, 1) := by decide +kernel
theorem dL_law_532 : decode cL_law 532 = .ok (.ireturn, 1) := by decide +kernel
theorem dL_law_533 : decode cL_law 533 = .ok (.goto 390, 3) := by decide +kernel
theorem dL_law_536 : decode cL_law 536 = .ok (.aload_n 1, 1) := by decide +kernel
theorem dL_law_537 : decode cL_law 537 = .ok (.aload_n 0, 1) := by decide +kernel
theorem dL_law_538 : decode cL_law 538 = .ok (.iload 4, 2) := by decide +kernel
theorem dL_law_540 : decode cL_law 540 = .ok (.iconst 1, 1) := by decide +kernel
theorem dL_law_541 : decode cL_law 541 = .ok (.iadd, 1) := by decide +kernel
theorem dL_law_542 : decode cL_law 542 = .ok (.iaload, 1) := by decide +kernel
theorem dL_law_543 : decode cL_law 543 = .ok (.invokestatic 102, 3) := by decide +kernel
theorem dL_law_546 : decode cL_law 546 = .ok (.istore 5, 2) := by decide +kernel
theorem dL_law_548 : decode cL_law 548 = .ok (.aload_n 2, 1) := by decide +kernel
theorem dL_law_549 : decode cL_law 549 = .ok (.aload_n 0, 1) := by decide +kernel
theorem dL_law_550 : decode cL_law 550 = .ok (.iload 4, 2) := by decide +kernel
theorem dL_law_552 : decode cL_law 552 = .ok (.iconst 1, 1) := by decide +kernel
theorem dL_law_553 : decode cL_law 553 = .ok (.iadd, 1) := by decide +kernel
theorem dL_law_554 : decode cL_law 554 = .ok (.iaload, 1) := by decide +kernel
theorem dL_law_555 : decode cL_law 555 = .ok (.invokevirtual 105, 3) := by decide +kernel
theorem dL_law_558 : decode cL_law 558 = .ok (.aload_n 2, 1) := by decide +kernel
theorem dL_law_559 : decode cL_law 559 = .ok (.invokevirtual 69, 3) := by decide +kernel
theorem dL_law_562 : decode cL_law 562 = .ok (.iload 5, 2) := by decide +kernel
theorem dL_law_564 : decode cL_law 564 = .ok (.if_icmp .eq 5, 3) := by decide +kernel
theorem dL_law_567 : decode cL_law 567 = .ok (.iconst 0, 1) := by decide +kernel
theorem dL_law_568 : decode cL_law 568 = .ok (.ireturn, 1) := by decide +kernel
theorem dL_law_569 : decode cL_law 569 = .ok (.goto 354, 3) := by decide +kernel
theorem dL_law_572 : decode cL_law 572 = .ok (.aload_n 1, 1) := by decide +kernel
theorem dL_law_573 : decode cL_law 573 = .ok (.aload_n 0, 1) := by decide +kernel
theorem dL_law_574 : decode cL_law 574 = .ok (.iload 4, 2) := by decide +kernel
theorem dL_law_576 : decode cL_law 576 = .ok (.iconst 1, 1) := by decide +kernel
theorem dL_law_577 : decode cL_law 577 = .ok (.iadd, 1) := by decide +kernel
theorem dL_law_578 : decode cL_law 578 = .ok (.iaload, 1) := by decide +kernel
theorem dL_law_579 : decode cL_law 579 = .ok (.aload_n 0, 1) := by decide +kernel
theorem dL_law_580 : decode cL_law 580 = .ok (.iload 4, 2) := by decide +kernel
theorem dL_law_582 : decode cL_law 582 = .ok (.iconst 2, 1) := by decide +kernel
theorem dL_law_583 : decode cL_law 583 = .ok (.iadd, 1) := by decide +kernel
theorem dL_law_584 : decode cL_law 584 = .ok (.iaload, 1) := by decide +kernel
theorem dL_law_585 : decode cL_law 585 = .ok (.ifCond .eq 7, 3) := by decide +kernel
theorem dL_law_588 : decode cL_law 588 = .ok (.iconst 1, 1) := by decide +kernel
theorem dL_law_589 : decode cL_law 589 = .ok (.goto 4, 3) := by decide +kernel
theorem dL_law_592 : decode cL_law 592 = .ok (.iconst 0, 1) := by decide +kernel
theorem dL_law_593 : decode cL_law 593 = .ok (.aload_n 0, 1) := by decide +kernel
theorem dL_law_594 : decode cL_law 594 = .ok (.iload 4, 2) := by decide +kernel
theorem dL_law_596 : decode cL_law 596 = .ok (.iconst 3, 1) := by decide +kernel
theorem dL_law_597 : decode cL_law 597 = .ok (.iadd, 1) := by decide +kernel
theorem dL_law_598 : decode cL_law 598 = .ok (.iaload, 1) := by decide +kernel
theorem dL_law_599 : decode cL_law 599 = .ok (.aload_n 0, 1) := by decide +kernel
theorem dL_law_600 : decode cL_law 600 = .ok (.iload 4, 2) := by decide +kernel
theorem dL_law_602 : decode cL_law 602 = .ok (.iconst 4, 1) := by decide +kernel
theorem dL_law_603 : decode cL_law 603 = .ok (.iadd, 1) := by decide +kernel
theorem dL_law_604 : decode cL_law 604 = .ok (.iaload, 1) := by decide +kernel
theorem dL_law_605 : decode cL_law 605 = .ok (.invokestatic 106, 3) := by decide +kernel
theorem dL_law_608 : decode cL_law 608 = .ok (.istore 5, 2) := by decide +kernel
theorem dL_law_610 : decode cL_law 610 = .ok (.aload_n 2, 1) := by decide +kernel
theorem dL_law_611 : decode cL_law 611 = .ok (.aload_n 0, 1) := by decide +kernel
theorem dL_law_612 : decode cL_law 612 = .ok (.iload 4, 2) := by decide +kernel
theorem dL_law_614 : decode cL_law 614 = .ok (.iconst 1, 1) := by decide +kernel
theorem dL_law_615 : decode cL_law 615 = .ok (.iadd, 1) := by decide +kernel
theorem dL_law_616 : decode cL_law 616 = .ok (.iaload, 1) := by decide +kernel
theorem dL_law_617 : decode cL_law 617 = .ok (.aload_n 0, 1) := by decide +kernel
theorem dL_law_618 : decode cL_law 618 = .ok (.iload 4, 2) := by decide +kernel
theorem dL_law_620 : decode cL_law 620 = .ok (.iconst 2, 1) := by decide +kernel
theorem dL_law_621 : decode cL_law 621 = .ok (.iadd, 1) := by decide +kernel
theorem dL_law_622 : decode cL_law 622 = .ok (.iaload, 1) := by decide +kernel
theorem dL_law_623 : decode cL_law 623 = .ok (.ifCond .eq 7, 3) := by decide +kernel
theorem dL_law_626 : decode cL_law 626 = .ok (.iconst 1, 1) := by decide +kernel
theorem dL_law_627 : decode cL_law 627 = .ok (.goto 4, 3) := by decide +kernel
theorem dL_law_630 : decode cL_law 630 = .ok (.iconst 0, 1) := by decide +kernel
theorem dL_law_631 : decode cL_law 631 = .ok (.aload_n 0, 1) := by decide +kernel
theorem dL_law_632 : decode cL_law 632 = .ok (.iload 4, 2) := by decide +kernel
theorem dL_law_634 : decode cL_law 634 = .ok (.iconst 3, 1) := by decide +kernel
theorem dL_law_635 : decode cL_law 635 = .ok (.iadd, 1) := by decide +kernel
theorem dL_law_636 : decode cL_law 636 = .ok (.iaload, 1) := by decide +kernel
theorem dL_law_637 : decode cL_law 637 = .ok (.aload_n 0, 1) := by decide +kernel
theorem dL_law_638 : decode cL_law 638 = .ok (.iload 4, 2) := by decide +kernel
theorem dL_law_640 : decode cL_law 640 = .ok (.iconst 4, 1) := by decide +kernel
theorem dL_law_641 : decode cL_law 641 = .ok (.iadd, 1) := by decide +kernel
theorem dL_law_642 : decode cL_law 642 = .ok (.iaload, 1) := by decide +kernel
theorem dL_law_643 : decode cL_law 643 = .ok (.invokevirtual 109, 3) := by decide +kernel
theorem dL_law_646 : decode cL_law 646 = .ok (.aload_n 2, 1) := by decide +kernel
theorem dL_law_647 : decode cL_law 647 = .ok (.invokevirtual 69, 3) := by decide +kernel
theorem dL_law_650 : decode cL_law 650 = .ok (.iload 5, 2) := by decide +kernel
theorem dL_law_652 : decode cL_law 652 = .ok (.if_icmp .eq 5, 3) := by decide +kernel
theorem dL_law_655 : decode cL_law 655 = .ok (.iconst 0, 1) := by decide +kernel
theorem dL_law_656 : decode cL_law 656 = .ok (.ireturn, 1) := by decide +kernel
theorem dL_law_657 : decode cL_law 657 = .ok (.goto 266, 3) := by decide +kernel
theorem dL_law_660 : decode cL_law 660 = .ok (.aload_n 1, 1) := by decide +kernel
theorem dL_law_661 : decode cL_law 661 = .ok (.aload_n 3, 1) := by decide +kernel
theorem dL_law_662 : decode cL_law 662 = .ok (.invokestatic 110, 3) := by decide +kernel
theorem dL_law_665 : decode cL_law 665 = .ok (.istore 5, 2) := by decide +kernel
theorem dL_law_667 : decode cL_law 667 = .ok (.aload_n 2, 1) := by decide +kernel
theorem dL_law_668 : decode cL_law 668 = .ok (.invokevirtual 113, 3) := by decide +kernel
theorem dL_law_671 : decode cL_law 671 = .ok (.istore 6, 2) := by decide +kernel
theorem dL_law_673 : decode cL_law 673 = .ok (.aload_n 2, 1) := by decide +kernel
theorem dL_law_674 : decode cL_law 674 = .ok (.invokevirtual 69, 3) := by decide +kernel
theorem dL_law_677 : decode cL_law 677 = .ok (.iload 5, 2) := by decide +kernel
theorem dL_law_679 : decode cL_law 679 = .ok (.if_icmp .eq 5, 3) := by decide +kernel
theorem dL_law_682 : decode cL_law 682 = .ok (.iconst 0, 1) := by decide +kernel
theorem dL_law_683 : decode cL_law 683 = .ok (.ireturn, 1) := by decide +kernel
theorem dL_law_684 : decode cL_law 684 = .ok (.iload 5, 2) := by decide +kernel
theorem dL_law_686 : decode cL_law 686 = .ok (.ifCond .ne 15, 3) := by decide +kernel
theorem dL_law_689 : decode cL_law 689 = .ok (.aload_n 3, 1) := by decide +kernel
theorem dL_law_690 : decode cL_law 690 = .ok (.iconst 0, 1) := by decide +kernel
theorem dL_law_691 : decode cL_law 691 = .ok (.laload, 1) := by decide +kernel
theorem dL_law_692 : decode cL_law 692 = .ok (.iload 6, 2) := by decide +kernel
theorem dL_law_694 : decode cL_law 694 = .ok (.i2l, 1) := by decide +kernel
theorem dL_law_695 : decode cL_law 695 = .ok (.lcmp, 1) := by decide +kernel
theorem dL_law_696 : decode cL_law 696 = .ok (.ifCond .eq 5, 3) := by decide +kernel
theorem dL_law_699 : decode cL_law 699 = .ok (.iconst 0, 1) := by decide +kernel
theorem dL_law_700 : decode cL_law 700 = .ok (.ireturn, 1) := by decide +kernel
theorem dL_law_701 : decode cL_law 701 = .ok (.goto 222, 3) := by decide +kernel
theorem dL_law_704 : decode cL_law 704 = .ok (.aload_n 1, 1) := by decide +kernel
theorem dL_law_705 : decode cL_law 705 = .ok (.aload_n 0, 1) := by decide +kernel
theorem dL_law_706 : decode cL_law 706 = .ok (.iload 4, 2) := by decide +kernel
theorem dL_law_708 : decode cL_law 708 = .ok (.iconst 1, 1) := by decide +kernel
theorem dL_law_709 : decode cL_law 709 = .ok (.iadd, 1) := by decide +kernel
theorem dL_law_710 : decode cL_law 710 = .ok (.iaload, 1) := by decide +kernel
theorem dL_law_711 : decode cL_law 711 = .ok (.aload_n 3, 1) := by decide +kernel
theorem dL_law_712 : decode cL_law 712 = .ok (.invokestatic 114, 3) := by decide +kernel
theorem dL_law_715 : decode cL_law 715 = .ok (.istore 5, 2) := by decide +kernel
theorem dL_law_717 : decode cL_law 717 = .ok (.aload_n 2, 1) := by decide +kernel
theorem dL_law_718 : decode cL_law 718 = .ok (.aload_n 0, 1) := by decide +kernel
theorem dL_law_719 : decode cL_law 719 = .ok (.iload 4, 2) := by decide +kernel
theorem dL_law_721 : decode cL_law 721 = .ok (.iconst 1, 1) := by decide +kernel
theorem dL_law_722 : decode cL_law 722 = .ok (.iadd, 1) := by decide +kernel
theorem dL_law_723 : decode cL_law 723 = .ok (.iaload, 1) := by decide +kernel
theorem dL_law_724 : decode cL_law 724 = .ok (.invokevirtual 116, 3) := by decide +kernel
theorem dL_law_727 : decode cL_law 727 = .ok (.istore 6, 2) := by decide +kernel
theorem dL_law_729 : decode cL_law 729 = .ok (.aload_n 2, 1) := by decide +kernel
theorem dL_law_730 : decode cL_law 730 = .ok (.invokevirtual 69, 3) := by decide +kernel
theorem dL_law_733 : decode cL_law 733 = .ok (.iload 5, 2) := by decide +kernel
theorem dL_law_735 : decode cL_law 735 = .ok (.if_icmp .eq 5, 3) := by decide +kernel
theorem dL_law_738 : decode cL_law 738 = .ok (.iconst 0, 1) := by decide +kernel
theorem dL_law_739 : decode cL_law 739 = .ok (.ireturn, 1) := by decide +kernel
theorem dL_law_740 : decode cL_law 740 = .ok (.iload 5, 2) := by decide +kernel
theorem dL_law_742 : decode cL_law 742 = .ok (.ifCond .ne 15, 3) := by decide +kernel
theorem dL_law_745 : decode cL_law 745 = .ok (.aload_n 3, 1) := by decide +kernel
theorem dL_law_746 : decode cL_law 746 = .ok (.iconst 0, 1) := by decide +kernel
theorem dL_law_747 : decode cL_law 747 = .ok (.laload, 1) := by decide +kernel
theorem dL_law_748 : decode cL_law 748 = .ok (.iload 6, 2) := by decide +kernel
theorem dL_law_750 : decode cL_law 750 = .ok (.i2l, 1) := by decide +kernel
theorem dL_law_751 : decode cL_law 751 = .ok (.lcmp, 1) := by decide +kernel
theorem dL_law_752 : decode cL_law 752 = .ok (.ifCond .eq 5, 3) := by decide +kernel
theorem dL_law_755 : decode cL_law 755 = .ok (.iconst 0, 1) := by decide +kernel
theorem dL_law_756 : decode cL_law 756 = .ok (.ireturn, 1) := by decide +kernel
theorem dL_law_757 : decode cL_law 757 = .ok (.goto 166, 3) := by decide +kernel
theorem dL_law_760 : decode cL_law 760 = .ok (.aload_n 1, 1) := by decide +kernel
theorem dL_law_761 : decode cL_law 761 = .ok (.aload_n 0, 1) := by decide +kernel
theorem dL_law_762 : decode cL_law 762 = .ok (.iload 4, 2) := by decide +kernel
theorem dL_law_764 : decode cL_law 764 = .ok (.iconst 1, 1) := by decide +kernel
theorem dL_law_765 : decode cL_law 765 = .ok (.iadd, 1) := by decide +kernel
theorem dL_law_766 : decode cL_law 766 = .ok (.iaload, 1) := by decide +kernel
theorem dL_law_767 : decode cL_law 767 = .ok (.aload_n 0, 1) := by decide +kernel
theorem dL_law_768 : decode cL_law 768 = .ok (.iload 4, 2) := by decide +kernel
theorem dL_law_770 : decode cL_law 770 = .ok (.iconst 2, 1) := by decide +kernel
theorem dL_law_771 : decode cL_law 771 = .ok (.iadd, 1) := by decide +kernel
theorem dL_law_772 : decode cL_law 772 = .ok (.iaload, 1) := by decide +kernel
theorem dL_law_773 : decode cL_law 773 = .ok (.aload_n 3, 1) := by decide +kernel
theorem dL_law_774 : decode cL_law 774 = .ok (.invokestatic 117, 3) := by decide +kernel
theorem dL_law_777 : decode cL_law 777 = .ok (.istore 5, 2) := by decide +kernel
theorem dL_law_779 : decode cL_law 779 = .ok (.aload_n 2, 1) := by decide +kernel
theorem dL_law_780 : decode cL_law 780 = .ok (.aload_n 0, 1) := by decide +kernel
theorem dL_law_781 : decode cL_law 781 = .ok (.iload 4, 2) := by decide +kernel
theorem dL_law_783 : decode cL_law 783 = .ok (.iconst 1, 1) := by decide +kernel
theorem dL_law_784 : decode cL_law 784 = .ok (.iadd, 1) := by decide +kernel
theorem dL_law_785 : decode cL_law 785 = .ok (.iaload, 1) := by decide +kernel
theorem dL_law_786 : decode cL_law 786 = .ok (.aload_n 0, 1) := by decide +kernel
theorem dL_law_787 : decode cL_law 787 = .ok (.iload 4, 2) := by decide +kernel
theorem dL_law_789 : decode cL_law 789 = .ok (.iconst 2, 1) := by decide +kernel
theorem dL_law_790 : decode cL_law 790 = .ok (.iadd, 1) := by decide +kernel
theorem dL_law_791 : decode cL_law 791 = .ok (.iaload, 1) := by decide +kernel
theorem dL_law_792 : decode cL_law 792 = .ok (.invokevirtual 119, 3) := by decide +kernel
theorem dL_law_795 : decode cL_law 795 = .ok (.istore 6, 2) := by decide +kernel
theorem dL_law_797 : decode cL_law 797 = .ok (.aload_n 2, 1) := by decide +kernel
theorem dL_law_798 : decode cL_law 798 = .ok (.invokevirtual 69, 3) := by decide +kernel
theorem dL_law_801 : decode cL_law 801 = .ok (.iload 5, 2) := by decide +kernel
theorem dL_law_803 : decode cL_law 803 = .ok (.if_icmp .eq 5, 3) := by decide +kernel
theorem dL_law_806 : decode cL_law 806 = .ok (.iconst 0, 1) := by decide +kernel
theorem dL_law_807 : decode cL_law 807 = .ok (.ireturn, 1) := by decide +kernel
theorem dL_law_808 : decode cL_law 808 = .ok (.iload 5, 2) := by decide +kernel
theorem dL_law_810 : decode cL_law 810 = .ok (.ifCond .ne 15, 3) := by decide +kernel
theorem dL_law_813 : decode cL_law 813 = .ok (.aload_n 3, 1) := by decide +kernel
theorem dL_law_814 : decode cL_law 814 = .ok (.iconst 0, 1) := by decide +kernel
theorem dL_law_815 : decode cL_law 815 = .ok (.laload, 1) := by decide +kernel
theorem dL_law_816 : decode cL_law 816 = .ok (.iload 6, 2) := by decide +kernel
theorem dL_law_818 : decode cL_law 818 = .ok (.i2l, 1) := by decide +kernel
theorem dL_law_819 : decode cL_law 819 = .ok (.lcmp, 1) := by decide +kernel
theorem dL_law_820 : decode cL_law 820 = .ok (.ifCond .eq 5, 3) := by decide +kernel
theorem dL_law_823 : decode cL_law 823 = .ok (.iconst 0, 1) := by decide +kernel
theorem dL_law_824 : decode cL_law 824 = .ok (.ireturn, 1) := by decide +kernel
theorem dL_law_825 : decode cL_law 825 = .ok (.goto 98, 3) := by decide +kernel
theorem dL_law_828 : decode cL_law 828 = .ok (.aload_n 1, 1) := by decide +kernel
theorem dL_law_829 : decode cL_law 829 = .ok (.aload_n 3, 1) := by decide +kernel
theorem dL_law_830 : decode cL_law 830 = .ok (.invokestatic 120, 3) := by decide +kernel
theorem dL_law_833 : decode cL_law 833 = .ok (.istore 5, 2) := by decide +kernel
theorem dL_law_835 : decode cL_law 835 = .ok (.aload_n 2, 1) := by decide +kernel
theorem dL_law_836 : decode cL_law 836 = .ok (.invokevirtual 122, 3) := by decide +kernel
theorem dL_law_839 : decode cL_law 839 = .ok (.istore 6, 2) := by decide +kernel
theorem dL_law_841 : decode cL_law 841 = .ok (.aload_n 2, 1) := by decide +kernel
theorem dL_law_842 : decode cL_law 842 = .ok (.invokevirtual 69, 3) := by decide +kernel
theorem dL_law_845 : decode cL_law 845 = .ok (.iload 5, 2) := by decide +kernel
theorem dL_law_847 : decode cL_law 847 = .ok (.if_icmp .eq 5, 3) := by decide +kernel
theorem dL_law_850 : decode cL_law 850 = .ok (.iconst 0, 1) := by decide +kernel
theorem dL_law_851 : decode cL_law 851 = .ok (.ireturn, 1) := by decide +kernel
theorem dL_law_852 : decode cL_law 852 = .ok (.iload 5, 2) := by decide +kernel
theorem dL_law_854 : decode cL_law 854 = .ok (.ifCond .ne 15, 3) := by decide +kernel
theorem dL_law_857 : decode cL_law 857 = .ok (.aload_n 3, 1) := by decide +kernel
theorem dL_law_858 : decode cL_law 858 = .ok (.iconst 0, 1) := by decide +kernel
theorem dL_law_859 : decode cL_law 859 = .ok (.laload, 1) := by decide +kernel
theorem dL_law_860 : decode cL_law 860 = .ok (.iload 6, 2) := by decide +kernel
theorem dL_law_862 : decode cL_law 862 = .ok (.i2l, 1) := by decide +kernel
theorem dL_law_863 : decode cL_law 863 = .ok (.lcmp, 1) := by decide +kernel
theorem dL_law_864 : decode cL_law 864 = .ok (.ifCond .eq 5, 3) := by decide +kernel
theorem dL_law_867 : decode cL_law 867 = .ok (.iconst 0, 1) := by decide +kernel
theorem dL_law_868 : decode cL_law 868 = .ok (.ireturn, 1) := by decide +kernel
theorem dL_law_869 : decode cL_law 869 = .ok (.goto 54, 3) := by decide +kernel
theorem dL_law_872 : decode cL_law 872 = .ok (.aload_n 1, 1) := by decide +kernel
theorem dL_law_873 : decode cL_law 873 = .ok (.aload_n 3, 1) := by decide +kernel
theorem dL_law_874 : decode cL_law 874 = .ok (.invokestatic 123, 3) := by decide +kernel
theorem dL_law_877 : decode cL_law 877 = .ok (.istore 5, 2) := by decide +kernel
theorem dL_law_879 : decode cL_law 879 = .ok (.aload_n 2, 1) := by decide +kernel
theorem dL_law_880 : decode cL_law 880 = .ok (.invokevirtual 125, 3) := by decide +kernel
theorem dL_law_883 : decode cL_law 883 = .ok (.istore 6, 2) := by decide +kernel
theorem dL_law_885 : decode cL_law 885 = .ok (.aload_n 2, 1) := by decide +kernel
theorem dL_law_886 : decode cL_law 886 = .ok (.invokevirtual 69, 3) := by decide +kernel
theorem dL_law_889 : decode cL_law 889 = .ok (.iload 5, 2) := by decide +kernel
theorem dL_law_891 : decode cL_law 891 = .ok (.if_icmp .eq 5, 3) := by decide +kernel
theorem dL_law_894 : decode cL_law 894 = .ok (.iconst 0, 1) := by decide +kernel
theorem dL_law_895 : decode cL_law 895 = .ok (.ireturn, 1) := by decide +kernel
theorem dL_law_896 : decode cL_law 896 = .ok (.iload 5, 2) := by decide +kernel
theorem dL_law_898 : decode cL_law 898 = .ok (.ifCond .ne 22, 3) := by decide +kernel
theorem dL_law_901 : decode cL_law 901 = .ok (.aload_n 3, 1) := by decide +kernel
theorem dL_law_902 : decode cL_law 902 = .ok (.iconst 0, 1) := by decide +kernel
theorem dL_law_903 : decode cL_law 903 = .ok (.laload, 1) := by decide +kernel
theorem dL_law_904 : decode cL_law 904 = .ok (.iload 6, 2) := by decide +kernel
theorem dL_law_906 : decode cL_law 906 = .ok (.ifCond .eq 7, 3) := by decide +kernel
theorem dL_law_909 : decode cL_law 909 = .ok (.lconst 1, 1) := by decide +kernel
theorem dL_law_910 : decode cL_law 910 = .ok (.goto 4, 3) := by decide +kernel
theorem dL_law_913 : decode cL_law 913 = .ok (.lconst 0, 1) := by decide +kernel
theorem dL_law_914 : decode cL_law 914 = .ok (.lcmp, 1) := by decide +kernel
theorem dL_law_915 : decode cL_law 915 = .ok (.ifCond .eq 5, 3) := by decide +kernel
theorem dL_law_918 : decode cL_law 918 = .ok (.iconst 0, 1) := by decide +kernel
theorem dL_law_919 : decode cL_law 919 = .ok (.ireturn, 1) := by decide +kernel
theorem dL_law_920 : decode cL_law 920 = .ok (.goto 3, 3) := by decide +kernel
theorem dL_law_923 : decode cL_law 923 = .ok (.iinc 4 5, 3) := by decide +kernel
theorem dL_law_926 : decode cL_law 926 = .ok (.goto (-903), 3) := by decide +kernel
theorem dL_law_929 : decode cL_law 929 = .ok (.iconst 1, 1) := by decide +kernel
theorem dL_law_930 : decode cL_law 930 = .ok (.ireturn, 1) := by decide +kernel
end
section
/-! THE LOGIC OF THE METHODS. A memory 'pw_Mem' holds every int of every cell of the two systems (class and reference), by the cell's number and the place; 'pw_W' is the world of all cells; 'WP g M pc lv st u σ Q': method M, at pc, with locals lv, stack st and memory σ, ends, and its answer and the memory then have Q. -/
abbrev pw_Mem : Type := Nat → Nat → Int32
def pw_set (σ : pw_Mem) (k i : Nat) (x : Int32) : pw_Mem := fun a => if a = k then upd (σ k) i x else σ a
/-- launch; classes and slots; the classes of int[], boolean[], long[]; the cells' addresses; where new cells begin; what 'out' holds; the texts' addresses -/
abbrev pw_G : Type := Launch × va_G × (ClassId × ClassId × ClassId) × (Nat → Nat) × Nat × Int64 × (Nat → Nat)
abbrev pw_l (g : pw_G) : Launch := g.1
abbrev pw_D (g : pw_G) : va_G := g.2.1
abbrev pw_cI (g : pw_G) : ClassId := g.2.2.1.1
abbrev pw_cZ (g : pw_G) : ClassId := g.2.2.1.2.1
abbrev pw_cJ (g : pw_G) : ClassId := g.2.2.1.2.2
def pw_ad (g : pw_G) : Nat → Nat := g.2.2.2.1
abbrev pw_b (g : pw_G) : Nat := g.2.2.2.2.1
abbrev pw_o (g : pw_G) : Int64 := g.2.2.2.2.2.1
abbrev pw_sa (g : pw_G) : Nat → Nat := g.2.2.2.2.2.2
def pw_A (g : pw_G) : Nat → Prop := fun q => pw_b g ≤ q
abbrev pw_tys (g : pw_G) : List (ClassId × FieldType) := [(pw_cI g, .int), (pw_cZ g, .boolean), (pw_cJ g, .long)]
/-- the kind of each cell: 0 .. 5 an object of that class of vwCl, 6 an int[], 7 a boolean[] -/
def pw_kds : List Nat := [4, 3, 6, 2, 6, 6, 6, 6, 6, 6, 6, 6, 6, 0, 6, 6, 1, 0, 6, 6, 0, 6, 6, 6, 6, 6, 6, 6, 6, 5, 6, 7, 6, 6, 6, 6, 6, 6, 6, 6, 6, 7, 6, 6, 6, 7]
def pw_lns : List Nat := [0, 0, 512, 0, 512, 1024, 512, 512, 512, 512, 512, 512, 512, 0, 512, 1024, 0, 0, 5, 10, 0, 5, 10, 25, 5, 5, 5, 5, 512, 0, 511, 511, 511, 511, 511, 511, 1022, 511, 511, 1022, 511, 5, 10, 5, 5, 511]
def pw_kd (k : Nat) : Nat := pw_kds.getD k 9
def pw_ln (k : Nat) : Nat := pw_lns.getD k 0
/-- an object's fields: 0 an int, else how far behind the object the cell lies that the field refers to -/
def pw_off : Nat → List Nat
  | 0 => [1, 2, 0]
  | 1 => [1, 4, 7, 8, 9, 10, 11, 12]
  | 2 => [1, 2, 3, 4, 5, 0, 6, 7, 0, 8, 0, 9, 0]
  | 3 => [1, 0]
  | 4 => [1, 3, 13, 16]
  | 5 => [0, 0, 1, 2, 3, 4, 5, 6, 7, 0, 8, 9, 0, 0, 0, 10, 11, 0, 12, 13, 0, 14, 15, 16, 0, 0]
  | _ => []
def pw_fv (g : pw_G) (σ : pw_Mem) (k : Nat) (q : Nat × Nat) : Value := if q.1 = 0 then .int (σ k q.2) else .ref (pw_ad g (k + q.1))
def pw_fl (g : pw_G) (σ : pw_Mem) (k : Nat) : List Value := (pw_off (pw_kd k)).zipIdx.map (pw_fv g σ k)
def pw_en (g : pw_G) (σ : pw_Mem) (k : Nat) : Nat × va_E := (pw_ad g k, if pw_kd k = 6 then .inl (pw_cI g, pw_ln k, .inl (σ k)) else if pw_kd k = 7 then .inl (pw_cZ g, pw_ln k, .inl (σ k)) else .inr (pw_kd k, pw_fl g σ k))
def pw_W (g : pw_G) (σ : pw_Mem) : va_W := (List.range 46).map (pw_en g σ) ++ [(pw_ad g 46, .inl (pw_cJ g, 1, .inr (.inl (fun _ => pw_o g))))]
theorem pw_at (g : pw_G) (σ : pw_Mem) {k : Nat} (hk : k < 46) : (pw_W g σ)[k]? = some (pw_en g σ k) := by
  have h1 : k < ((List.range 46).map (pw_en g σ)).length := by simpa using hk
  rw [pw_W, List.getElem?_append_left h1]
  simp [hk]
theorem pw_setW (g : pw_G) (σ σ' : pw_Mem) {k : Nat} (hk : k < 46) (h : ∀ a, a ≠ k → σ' a = σ a) : (pw_W g σ).set k (pw_en g σ' k) = pw_W g σ' := by
  apply List.ext_getElem?
  intro i
  rw [List.getElem?_set]
  have hlen : (pw_W g σ).length = 47 := by simp [pw_W]
  by_cases hi : k = i
  · subst hi
    rw [if_pos rfl, if_pos (by rw [hlen]; omega), pw_at g σ' hk]
  · rw [if_neg hi]
    by_cases h46 : i < 46
    · rw [pw_at g σ h46, pw_at g σ' h46]
      have e : σ' i = σ i := h i (fun q => hi q.symm)
      simp only [pw_en, pw_fl, e]
      have e2 : pw_fv g σ i = pw_fv g σ' i := by
        funext q
        simp only [pw_fv, e]
      rw [e2]
    · have h1 : ((List.range 46).map (pw_en g σ)).length ≤ i := by simp; omega
      have h2 : ((List.range 46).map (pw_en g σ')).length ≤ i := by simp; omega
      rw [pw_W, pw_W, List.getElem?_append_right h1, List.getElem?_append_right h2]
      simp
/-- the words of all methods: the good ones of the law's tables -/
def pw_ws : List Cond := lw_tbl.filter goodWord
theorem pw_ws_good : GoodIn pw_ws pw_ws := fun w h => ⟨h, good_of_word (List.mem_filter.mp h).2⟩
/-- the texts of the exceptions: places in WordClassLearner's pool -/
def pw_strs : List (Nat × String) := [(148, "there is no such word"), (49, "the sample has the word with the other sign"), (146, "there is no such state"), (76, "there is no such letter"), (138, "nothing is learned"), (91, "a draft has 1 to 5 states"), (140, "there is no draft"), (128, "the sample has a word with the other sign")]
/-- words of a throw that bear no 'good' mark -/
def pw_xw : List Cond := [.declares (Bundle.initS "java/lang/RuntimeException"), .declares (Bundle.initS "java/lang/Exception"), .declares (Bundle.initS "java/lang/Throwable"), .castable "java/lang/IndexOutOfBoundsException" "java/lang/IndexOutOfBoundsException", .castable "java/lang/IllegalStateException" "java/lang/IllegalStateException", .castable "java/lang/IllegalArgumentException" "java/lang/IllegalArgumentException"]
def pw_X (g : pw_G) (U : State) (H : Heap) : Prop :=
  va_Nw (.methodLinkNest RX0 22 yX4_lengthOf RX4) U ∧ va_Nw (.methodLinkNest RX1 98 yX4_joined RX4) U ∧
  vx_Zq Bundle.tN "UNASSIGNED_STACK" Bundle.steD (pw_A g) U H ∧ vx_Zq Bundle.tN "SUPPRESSED_SENTINEL" Bundle.listD (pw_A g) U H ∧
  (∀ q ∈ pw_strs, vk_R RX4 q.1 q.2 (pw_sa g q.1) U) ∧ ∀ w ∈ pw_xw, va_Nw w U
def pw_K (g : pw_G) (U : State) : Prop := va_K (pw_D g) vwCl (pw_tys g) U ∧ pw_X g U U.heap ∧ pw_b g ≤ U.heap.size
/-- a method: its name, code, number of locals, answer; the frames, the locals' words and the cells that it may take -/
abbrev pw_M : Type := MethodName × ByteArray × Nat × Option FieldType × Nat × Nat × Nat
abbrev pw_y (M : pw_M) : MethodName := M.1
abbrev pw_cc (M : pw_M) : ByteArray := M.2.1
abbrev pw_mL (M : pw_M) : Nat := M.2.2.1
abbrev pw_rt (M : pw_M) : Option FieldType := M.2.2.2.1
abbrev pw_fr (M : pw_M) : Nat := M.2.2.2.2.1
abbrev pw_lo (M : pw_M) : Nat := M.2.2.2.2.2.1
abbrev pw_mc (M : pw_M) : Nat := M.2.2.2.2.2.2
def pw_rm (M : pw_M) : Room := { frames := pw_fr M, cells := pw_mc M, slots := 6 * pw_mc M, locals := pw_lo M }
def pw_wd (M : pw_M) : List Cond := .code (pw_y M) (pw_cc M) (pw_mL M) (pw_rt M) :: pw_ws
abbrev pw_R : Type := (Option Value ⊕ String) × pw_Mem
def pw_L (g : pw_G) (σ : pw_Mem) (H : Heap) : Prop := va_P (pw_D g) vwCl (pw_W g σ) H ∧ va_D (pw_A g) (pw_W g σ)
def pw_Q (g : pw_G) (Q : pw_R → Prop) : Array Value → State → Outcome → State → Prop := fun _ st o t => (∃ (rv : Option Value) (σ' : pw_Mem), Q (.inl rv, σ') ∧ o = .returned rv ∧ pw_L g σ' t.heap) ∧ va_F (pw_A g) st t
def pw_XC (g : pw_G) (Q : pw_R → Prop) : String → State → State → Prop := fun E st t => (∃ σ' : pw_Mem, Q (.inr E, σ') ∧ pw_L g σ' t.heap) ∧ va_F (pw_A g) st t
/-- what stands fast in a method's body -/
def pw_C (g : pw_G) (M : pw_M) (p : Program) (s : State) (m : MethodId) (meth : Method) (c : Code) (args : Array Value) : Prop :=
  p.tables.exec = Jvm.exec ∧ c.code = pw_cc M ∧ meth.sig.returnType = pw_rt M ∧ c.maxLocals = pw_mL M ∧ s.vm.findClass (pw_y M).cls = some m.cls ∧ (∀ w ∈ pw_ws, w.before args s = true) ∧ meth.locks = false ∧ (∀ x ∈ c.exceptionTable.toList, False) ∧ pw_K g s
def WP (g : pw_G) (M : pw_M) (pc : Nat) (lv : List (Nat × Value)) (st : List Value) (u : Nat) (σ : pw_Mem) (Q : pw_R → Prop) : Prop :=
  ∀ (p : Program) (e : Env) (s : State) (m : MethodId) (args : Array Value) (below : List Frame) (meth : Method) (c : Code), pw_C g M p s m meth c args →
  ∀ (H : Heap) (locs : List Loc) (ls : Array Slot), lv_has ls (pw_mL M) lv → pw_L g σ H → va_S (pw_A g) s.heap H locs →
  W p (pw_l g) e (pw_rm M) s m args below meth c H locs u (6 * u) (vx_MQ below (pw_Q g Q) (pw_XC g Q) args s (pw_mc M) (6 * pw_mc M) (pw_A g)) (F0 m pc ls st)
end
section
section PWB
variable {g : pw_G} {M : pw_M} {pc : Nat} {lv : List (Nat × Value)} {st : List Value} {u : Nat} {σ : pw_Mem} {Q : pw_R → Prop}
theorem wp_iconst {n : Int} {v : Int32} (d : decode (pw_cc M) pc = .ok (.iconst n, 1)) (hv : Int32.ofInt n = v) (k : WP g M (pc + 1) lv (.int v :: st) u σ Q) : WP g M pc lv st u σ Q :=
  fun p e s m args below meth c C H locs ls hl hL hS => lv_iconst C.1 C.2.1 d hv (k p e s m args below meth c C H locs ls hl hL hS)
theorem wp_bipush {n : Int} {v : Int32} (d : decode (pw_cc M) pc = .ok (.bipush n, 2)) (hv : (Int8.ofInt n).toInt32 = v) (k : WP g M (pc + 2) lv (.int v :: st) u σ Q) : WP g M pc lv st u σ Q :=
  fun p e s m args below meth c C H locs ls hl hL hS => lv_bipush C.1 C.2.1 d hv (k p e s m args below meth c C H locs ls hl hL hS)
theorem wp_sipush {n : Int} {v : Int32} (d : decode (pw_cc M) pc = .ok (.sipush n, 3)) (hv : (Int16.ofInt n).toInt32 = v) (k : WP g M (pc + 3) lv (.int v :: st) u σ Q) : WP g M pc lv st u σ Q :=
  fun p e s m args below meth c C H locs ls hl hL hS => lv_sipush C.1 C.2.1 d hv (k p e s m args below meth c C H locs ls hl hL hS)
theorem wp_iload_n {f : Fin 4} {i : Nat} {x : Int32} (n : Nat) (d : decode (pw_cc M) pc = .ok (.iload_n f, 1)) (hi : (f : Nat) = i) (h : lv[n]? = some (i, .int x)) (k : WP g M (pc + 1) lv (.int x :: st) u σ Q) : WP g M pc lv st u σ Q :=
  fun p e s m args below meth c C H locs ls hl hL hS => lv_iload_n C.1 C.2.1 d hi (lv_at hl n h) (k p e s m args below meth c C H locs ls hl hL hS)
theorem wp_iload {i : Nat} {x : Int32} (n : Nat) (d : decode (pw_cc M) pc = .ok (.iload i, 2)) (h : lv[n]? = some (i, .int x)) (k : WP g M (pc + 2) lv (.int x :: st) u σ Q) : WP g M pc lv st u σ Q :=
  fun p e s m args below meth c C H locs ls hl hL hS => lv_iload C.1 C.2.1 d (lv_at hl n h) (k p e s m args below meth c C H locs ls hl hL hS)
theorem wp_aload_n {f : Fin 4} {i : Nat} {x : Nat} (n : Nat) (d : decode (pw_cc M) pc = .ok (.aload_n f, 1)) (hi : (f : Nat) = i) (h : lv[n]? = some (i, .ref x)) (k : WP g M (pc + 1) lv (.ref x :: st) u σ Q) : WP g M pc lv st u σ Q :=
  fun p e s m args below meth c C H locs ls hl hL hS => lv_aload_n C.1 C.2.1 d hi (lv_at hl n h) (k p e s m args below meth c C H locs ls hl hL hS)
/-- a local's new value, in its place -/
def pw_ins (i : Nat) (v : Value) : List (Nat × Value) → List (Nat × Value)
  | [] => [(i, v)]
  | q :: r => bif Nat.blt i q.1 then (i, v) :: q :: r else q :: pw_ins i v r
theorem pw_ins_in {i : Nat} {v : Value} : ∀ {l : List (Nat × Value)} {q : Nat × Value}, q ∈ pw_ins i v l → q = (i, v) ∨ q ∈ l
  | [], q, h => Or.inl (by simpa [pw_ins] using h)
  | a :: r, q, h => by
    unfold pw_ins at h
    cases hb : Nat.blt i a.1 with
    | true =>
      rw [hb] at h
      exact (List.mem_cons.mp h).elim Or.inl Or.inr
    | false =>
      rw [hb] at h
      rcases List.mem_cons.mp h with h | h
      · exact Or.inr (List.mem_cons.mpr (Or.inl h))
      · rcases pw_ins_in h with h | h
        · exact Or.inl h
        · exact Or.inr (List.mem_cons.mpr (Or.inr h))
theorem pw_ins_has {ls : Array Slot} {nL i : Nat} {v : Value} {l : List (Nat × Value)} (h : lv_has ls nL ((i, v) :: l)) : lv_has ls nL (pw_ins i v l) :=
  ⟨h.1, h.2.1, fun q hq => h.2.2 q ((pw_ins_in hq).elim (fun e => by rw [e]; exact List.mem_cons_self) (List.mem_cons_of_mem _))⟩
def pw_st (i : Nat) (v : Value) (l : List (Nat × Value)) : List (Nat × Value) := pw_ins i v (l.filter (fun q => !(q.1 == i) && !(q.1 + 1 == i && q.2.category == 2)))
theorem wp_istore_n {f : Fin 4} {i : Nat} {x : Int32} {lv' : List (Nat × Value)} (d : decode (pw_cc M) pc = .ok (.istore_n f, 1)) (hi : (f : Nat) = i) (hn : i < pw_mL M) (hl' : pw_st i (.int x) lv = lv') (k : WP g M (pc + 1) lv' st u σ Q) : WP g M pc lv (.int x :: st) u σ Q :=
  fun p e s m args below meth c C H locs ls hl hL hS => lv_istore_n C.1 C.2.1 d hi hl hn rfl (fun ls' h' => k p e s m args below meth c C H locs ls' (hl' ▸ pw_ins_has h') hL hS)
theorem wp_istore {i : Nat} {x : Int32} {lv' : List (Nat × Value)} (d : decode (pw_cc M) pc = .ok (.istore i, 2)) (hn : i < pw_mL M) (hl' : pw_st i (.int x) lv = lv') (k : WP g M (pc + 2) lv' st u σ Q) : WP g M pc lv (.int x :: st) u σ Q :=
  fun p e s m args below meth c C H locs ls hl hL hS => lv_istore C.1 C.2.1 d hl hn rfl (fun ls' h' => k p e s m args below meth c C H locs ls' (hl' ▸ pw_ins_has h') hL hS)
theorem wp_astore_n {f : Fin 4} {i : Nat} {x : Nat} {lv' : List (Nat × Value)} (d : decode (pw_cc M) pc = .ok (.astore_n f, 1)) (hi : (f : Nat) = i) (hn : i < pw_mL M) (hl' : pw_st i (.ref x) lv = lv') (k : WP g M (pc + 1) lv' st u σ Q) : WP g M pc lv (.ref x :: st) u σ Q :=
  fun p e s m args below meth c C H locs ls hl hL hS => lv_astore_n C.1 C.2.1 d hi hl hn rfl (fun ls' h' => k p e s m args below meth c C H locs ls' (hl' ▸ pw_ins_has h') hL hS)
theorem wp_iinc {i : Nat} {n : Int} {x v : Int32} {lv' : List (Nat × Value)} (w : Nat) (d : decode (pw_cc M) pc = .ok (.iinc i n, 3)) (hk : lv[w]? = some (i, .int x)) (hv : x + Int32.ofInt n = v) (hn : i < pw_mL M) (hl' : pw_st i (.int v) lv = lv') (k : WP g M (pc + 3) lv' st u σ Q) : WP g M pc lv st u σ Q :=
  fun p e s m args below meth c C H locs ls hl hL hS => lv_iinc C.1 C.2.1 d hl hk hv hn rfl (fun ls' h' => k p e s m args below meth c C H locs ls' (hl' ▸ pw_ins_has h') hL hS)
theorem wp_iadd {x y : Int32} (d : decode (pw_cc M) pc = .ok (.iadd, 1)) (k : WP g M (pc + 1) lv (.int (x + y) :: st) u σ Q) : WP g M pc lv (.int y :: .int x :: st) u σ Q :=
  fun p e s m args below meth c C H locs ls hl hL hS => lv_iadd C.1 C.2.1 d (k p e s m args below meth c C H locs ls hl hL hS)
theorem wp_isub {x y : Int32} (d : decode (pw_cc M) pc = .ok (.isub, 1)) (k : WP g M (pc + 1) lv (.int (x - y) :: st) u σ Q) : WP g M pc lv (.int y :: .int x :: st) u σ Q :=
  fun p e s m args below meth c C H locs ls hl hL hS => lv_isub C.1 C.2.1 d (k p e s m args below meth c C H locs ls hl hL hS)
theorem wp_imul {x y : Int32} (d : decode (pw_cc M) pc = .ok (.imul, 1)) (k : WP g M (pc + 1) lv (.int (x * y) :: st) u σ Q) : WP g M pc lv (.int y :: .int x :: st) u σ Q :=
  fun p e s m args below meth c C H locs ls hl hL hS => lv_imul C.1 C.2.1 d (k p e s m args below meth c C H locs ls hl hL hS)
theorem wp_iand {x y : Int32} (d : decode (pw_cc M) pc = .ok (.iand, 1)) (k : WP g M (pc + 1) lv (.int (x &&& y) :: st) u σ Q) : WP g M pc lv (.int y :: .int x :: st) u σ Q :=
  fun p e s m args below meth c C H locs ls hl hL hS => lv_iand C.1 C.2.1 d (k p e s m args below meth c C H locs ls hl hL hS)
theorem wp_ior {x y : Int32} (d : decode (pw_cc M) pc = .ok (.ior, 1)) (k : WP g M (pc + 1) lv (.int (x ||| y) :: st) u σ Q) : WP g M pc lv (.int y :: .int x :: st) u σ Q :=
  fun p e s m args below meth c C H locs ls hl hL hS => lv_ior C.1 C.2.1 d (k p e s m args below meth c C H locs ls hl hL hS)
theorem wp_ishl {x y : Int32} (d : decode (pw_cc M) pc = .ok (.ishl, 1)) (k : WP g M (pc + 1) lv (.int (x <<< (y &&& 31)) :: st) u σ Q) : WP g M pc lv (.int y :: .int x :: st) u σ Q :=
  fun p e s m args below meth c C H locs ls hl hL hS => lv_ishl C.1 C.2.1 d (k p e s m args below meth c C H locs ls hl hL hS)
theorem wp_ishr {x y : Int32} (d : decode (pw_cc M) pc = .ok (.ishr, 1)) (k : WP g M (pc + 1) lv (.int (x >>> (y &&& 31)) :: st) u σ Q) : WP g M pc lv (.int y :: .int x :: st) u σ Q :=
  fun p e s m args below meth c C H locs ls hl hL hS => lv_ishr C.1 C.2.1 d (k p e s m args below meth c C H locs ls hl hL hS)
theorem wp_idiv {x y : Int32} (d : decode (pw_cc M) pc = .ok (.idiv, 1)) (hne : ¬ y = 0) (k : WP g M (pc + 1) lv (.int (x / y) :: st) u σ Q) : WP g M pc lv (.int y :: .int x :: st) u σ Q :=
  fun p e s m args below meth c C H locs ls hl hL hS => lv_idiv C.1 C.2.1 d hne (k p e s m args below meth c C H locs ls hl hL hS)
theorem wp_irem {x y : Int32} (d : decode (pw_cc M) pc = .ok (.irem, 1)) (hne : ¬ y = 0) (k : WP g M (pc + 1) lv (.int (x - x / y * y) :: st) u σ Q) : WP g M pc lv (.int y :: .int x :: st) u σ Q :=
  fun p e s m args below meth c C H locs ls hl hL hS => lv_irem C.1 C.2.1 d hne (k p e s m args below meth c C H locs ls hl hL hS)
theorem wp_ineg {x : Int32} (d : decode (pw_cc M) pc = .ok (.ineg, 1)) (k : WP g M (pc + 1) lv (.int (-x) :: st) u σ Q) : WP g M pc lv (.int x :: st) u σ Q :=
  fun p e s m args below meth c C H locs ls hl hL hS => lv_ineg C.1 C.2.1 d (k p e s m args below meth c C H locs ls hl hL hS)
theorem wp_dup {v : Value} (d : decode (pw_cc M) pc = .ok (.dup, 1)) (hv : v.category = 1) (k : WP g M (pc + 1) lv (v :: v :: st) u σ Q) : WP g M pc lv (v :: st) u σ Q :=
  fun p e s m args below meth c C H locs ls hl hL hS => lv_dup C.1 C.2.1 d hv (k p e s m args below meth c C H locs ls hl hL hS)
theorem wp_pop {v : Value} (d : decode (pw_cc M) pc = .ok (.pop, 1)) (hv : v.category = 1) (k : WP g M (pc + 1) lv st u σ Q) : WP g M pc lv (v :: st) u σ Q :=
  fun p e s m args below meth c C H locs ls hl hL hS => lv_pop C.1 C.2.1 d hv (k p e s m args below meth c C H locs ls hl hL hS)
theorem wp_goto {off : Int} {tgt : Nat} (d : decode (pw_cc M) pc = .ok (.goto off, 3)) (ht : (pc : Int) + off = (tgt : Int)) (k : WP g M tgt lv st u σ Q) : WP g M pc lv st u σ Q :=
  fun p e s m args below meth c C H locs ls hl hL hS => lv_goto C.1 C.2.1 d ht (k p e s m args below meth c C H locs ls hl hL hS)
theorem wp_if_eq {x : Int32} {off : Int} {tgt : Nat} (d : decode (pw_cc M) pc = .ok (.ifCond .eq off, 3)) (ht : (pc : Int) + off = (tgt : Int)) (kt : x = 0 → WP g M tgt lv st u σ Q) (kf : ¬ x = 0 → WP g M (pc + 3) lv st u σ Q) : WP g M pc lv (.int x :: st) u σ Q :=
  fun p e s m args below meth c C H locs ls hl hL hS => lv_if_eq C.1 C.2.1 d ht (fun h => kt h p e s m args below meth c C H locs ls hl hL hS) (fun h => kf h p e s m args below meth c C H locs ls hl hL hS)
theorem wp_if_ne {x : Int32} {off : Int} {tgt : Nat} (d : decode (pw_cc M) pc = .ok (.ifCond .ne off, 3)) (ht : (pc : Int) + off = (tgt : Int)) (kt : ¬ x = 0 → WP g M tgt lv st u σ Q) (kf : x = 0 → WP g M (pc + 3) lv st u σ Q) : WP g M pc lv (.int x :: st) u σ Q :=
  fun p e s m args below meth c C H locs ls hl hL hS => lv_if_ne C.1 C.2.1 d ht (fun h => kt h p e s m args below meth c C H locs ls hl hL hS) (fun h => kf h p e s m args below meth c C H locs ls hl hL hS)
theorem wp_if_lt {x : Int32} {off : Int} {tgt : Nat} (d : decode (pw_cc M) pc = .ok (.ifCond .lt off, 3)) (ht : (pc : Int) + off = (tgt : Int)) (kt : x < 0 → WP g M tgt lv st u σ Q) (kf : ¬ x < 0 → WP g M (pc + 3) lv st u σ Q) : WP g M pc lv (.int x :: st) u σ Q :=
  fun p e s m args below meth c C H locs ls hl hL hS => lv_if_lt C.1 C.2.1 d ht (fun h => kt h p e s m args below meth c C H locs ls hl hL hS) (fun h => kf h p e s m args below meth c C H locs ls hl hL hS)
theorem wp_if_ge {x : Int32} {off : Int} {tgt : Nat} (d : decode (pw_cc M) pc = .ok (.ifCond .ge off, 3)) (ht : (pc : Int) + off = (tgt : Int)) (kt : 0 ≤ x → WP g M tgt lv st u σ Q) (kf : ¬ 0 ≤ x → WP g M (pc + 3) lv st u σ Q) : WP g M pc lv (.int x :: st) u σ Q :=
  fun p e s m args below meth c C H locs ls hl hL hS => lv_if_ge C.1 C.2.1 d ht (fun h => kt h p e s m args below meth c C H locs ls hl hL hS) (fun h => kf h p e s m args below meth c C H locs ls hl hL hS)
theorem wp_if_le {x : Int32} {off : Int} {tgt : Nat} (d : decode (pw_cc M) pc = .ok (.ifCond .le off, 3)) (ht : (pc : Int) + off = (tgt : Int)) (kt : x ≤ 0 → WP g M tgt lv st u σ Q) (kf : ¬ x ≤ 0 → WP g M (pc + 3) lv st u σ Q) : WP g M pc lv (.int x :: st) u σ Q :=
  fun p e s m args below meth c C H locs ls hl hL hS => lv_if_le C.1 C.2.1 d ht (fun h => kt h p e s m args below meth c C H locs ls hl hL hS) (fun h => kf h p e s m args below meth c C H locs ls hl hL hS)
theorem wp_icmp_eq {x y : Int32} {off : Int} {tgt : Nat} (d : decode (pw_cc M) pc = .ok (.if_icmp .eq off, 3)) (ht : (pc : Int) + off = (tgt : Int)) (kt : x = y → WP g M tgt lv st u σ Q) (kf : ¬ x = y → WP g M (pc + 3) lv st u σ Q) : WP g M pc lv (.int y :: .int x :: st) u σ Q :=
  fun p e s m args below meth c C H locs ls hl hL hS => lv_icmp_eq C.1 C.2.1 d ht (fun h => kt h p e s m args below meth c C H locs ls hl hL hS) (fun h => kf h p e s m args below meth c C H locs ls hl hL hS)
theorem wp_icmp_ne {x y : Int32} {off : Int} {tgt : Nat} (d : decode (pw_cc M) pc = .ok (.if_icmp .ne off, 3)) (ht : (pc : Int) + off = (tgt : Int)) (kt : ¬ x = y → WP g M tgt lv st u σ Q) (kf : x = y → WP g M (pc + 3) lv st u σ Q) : WP g M pc lv (.int y :: .int x :: st) u σ Q :=
  fun p e s m args below meth c C H locs ls hl hL hS => lv_icmp_ne C.1 C.2.1 d ht (fun h => kt h p e s m args below meth c C H locs ls hl hL hS) (fun h => kf h p e s m args below meth c C H locs ls hl hL hS)
theorem wp_icmp_lt {x y : Int32} {off : Int} {tgt : Nat} (d : decode (pw_cc M) pc = .ok (.if_icmp .lt off, 3)) (ht : (pc : Int) + off = (tgt : Int)) (kt : x < y → WP g M tgt lv st u σ Q) (kf : ¬ x < y → WP g M (pc + 3) lv st u σ Q) : WP g M pc lv (.int y :: .int x :: st) u σ Q :=
  fun p e s m args below meth c C H locs ls hl hL hS => lv_icmp_lt C.1 C.2.1 d ht (fun h => kt h p e s m args below meth c C H locs ls hl hL hS) (fun h => kf h p e s m args below meth c C H locs ls hl hL hS)
theorem wp_icmp_ge {x y : Int32} {off : Int} {tgt : Nat} (d : decode (pw_cc M) pc = .ok (.if_icmp .ge off, 3)) (ht : (pc : Int) + off = (tgt : Int)) (kt : y ≤ x → WP g M tgt lv st u σ Q) (kf : ¬ y ≤ x → WP g M (pc + 3) lv st u σ Q) : WP g M pc lv (.int y :: .int x :: st) u σ Q :=
  fun p e s m args below meth c C H locs ls hl hL hS => lv_icmp_ge C.1 C.2.1 d ht (fun h => kt h p e s m args below meth c C H locs ls hl hL hS) (fun h => kf h p e s m args below meth c C H locs ls hl hL hS)
theorem wp_icmp_gt {x y : Int32} {off : Int} {tgt : Nat} (d : decode (pw_cc M) pc = .ok (.if_icmp .gt off, 3)) (ht : (pc : Int) + off = (tgt : Int)) (kt : y < x → WP g M tgt lv st u σ Q) (kf : ¬ y < x → WP g M (pc + 3) lv st u σ Q) : WP g M pc lv (.int y :: .int x :: st) u σ Q :=
  fun p e s m args below meth c C H locs ls hl hL hS => lv_icmp_gt C.1 C.2.1 d ht (fun h => kt h p e s m args below meth c C H locs ls hl hL hS) (fun h => kf h p e s m args below meth c C H locs ls hl hL hS)
theorem wp_icmp_le {x y : Int32} {off : Int} {tgt : Nat} (d : decode (pw_cc M) pc = .ok (.if_icmp .le off, 3)) (ht : (pc : Int) + off = (tgt : Int)) (kt : x ≤ y → WP g M tgt lv st u σ Q) (kf : ¬ x ≤ y → WP g M (pc + 3) lv st u σ Q) : WP g M pc lv (.int y :: .int x :: st) u σ Q :=
  fun p e s m args below meth c C H locs ls hl hL hS => lv_icmp_le C.1 C.2.1 d ht (fun h => kt h p e s m args below meth c C H locs ls hl hL hS) (fun h => kf h p e s m args below meth c C H locs ls hl hL hS)
end PWB
end
section
section PWD
variable {g : pw_G} {M : pw_M} {pc : Nat} {lv : List (Nat × Value)} {st : List Value} {u : Nat} {σ : pw_Mem} {Q : pw_R → Prop}
theorem pw_enI (g : pw_G) (σ : pw_Mem) {k : Nat} (h : pw_kd k = 6) : pw_en g σ k = (pw_ad g k, .inl (pw_cI g, pw_ln k, .inl (σ k))) := by simp [pw_en, h]
theorem pw_enZ (g : pw_G) (σ : pw_Mem) {k : Nat} (h : pw_kd k = 7) : pw_en g σ k = (pw_ad g k, .inl (pw_cZ g, pw_ln k, .inl (σ k))) := by simp [pw_en, h]
theorem pw_enO (g : pw_G) (σ : pw_Mem) {k ci : Nat} (h : pw_kd k = ci) (hc : ci < 6) : pw_en g σ k = (pw_ad g k, .inr (ci, pw_fl g σ k)) := by
  subst h
  rw [pw_en, if_neg (by omega), if_neg (by omega)]
theorem pw_kd_lt {k c : Nat} (h : pw_kd k = c) (hc : c < 9) : k < 46 := by
  rcases Nat.lt_or_ge k 46 with q | q
  · exact q
  · exfalso
    have h1 : pw_kds[k]? = none := by
      apply List.getElem?_eq_none
      exact q
    rw [pw_kd, List.getD_eq_getElem?_getD, h1] at h
    simp at h
    omega
theorem pw_set_ne (σ : pw_Mem) (k i : Nat) (x : Int32) {a : Nat} (h : a ≠ k) : pw_set σ k i x a = σ a := by simp [pw_set, h]
theorem pw_set_eq (σ : pw_Mem) (k i : Nat) (x : Int32) : pw_set σ k i x k = upd (σ k) i x := by simp [pw_set]
theorem wp_iaload (k0 : Nat) {i : Int32} (d : decode (pw_cc M) pc = .ok (.iaload, 1)) (hk : pw_kd k0 = 6) (hin : vp_in i (pw_ln k0)) (k : WP g M (pc + 1) lv (.int (σ k0 i.toNatClampNeg) :: st) u σ Q) : WP g M pc lv (.int i :: .ref (pw_ad g k0) :: st) u σ Q :=
  fun p e s m args below meth c C H locs ls hl hL hS => by
    obtain ⟨hx, hb, hr, hml, hown, hts, hlk, hex, hK, hX, hbz⟩ := id C
    exact va_iald hx hb hK hL.1 k0 0 ((pw_at g σ (pw_kd_lt hk (by decide))).trans (by rw [pw_enI g σ hk])) rfl hin d (k p e s m args below meth c C H locs ls hl hL hS)
theorem wp_baload (k0 : Nat) {i : Int32} (d : decode (pw_cc M) pc = .ok (.baload, 1)) (hk : pw_kd k0 = 7) (hin : vp_in i (pw_ln k0)) (k : WP g M (pc + 1) lv (.int (σ k0 i.toNatClampNeg) :: st) u σ Q) : WP g M pc lv (.int i :: .ref (pw_ad g k0) :: st) u σ Q :=
  fun p e s m args below meth c C H locs ls hl hL hS => by
    obtain ⟨hx, hb, hr, hml, hown, hts, hlk, hex, hK, hX, hbz⟩ := id C
    exact va_zald hx hb hK hL.1 k0 1 ((pw_at g σ (pw_kd_lt hk (by decide))).trans (by rw [pw_enZ g σ hk])) rfl hin d (k p e s m args below meth c C H locs ls hl hL hS)
theorem wp_iastore (k0 : Nat) {i x : Int32} (d : decode (pw_cc M) pc = .ok (.iastore, 1)) (hk : pw_kd k0 = 6) (hin : vp_in i (pw_ln k0)) (k : WP g M (pc + 1) lv st u (pw_set σ k0 i.toNatClampNeg x) Q) : WP g M pc lv (.int x :: .int i :: .ref (pw_ad g k0) :: st) u σ Q :=
  fun p e s m args below meth c C H locs ls hl hL hS => by
    obtain ⟨hx, hb, hr, hml, hown, hts, hlk, hex, hK, hX, hbz⟩ := id C
    refine va_iast hx hb hK hL.1 hL.2 hS k0 0 ((pw_at g σ (pw_kd_lt hk (by decide))).trans (by rw [pw_enI g σ hk])) rfl hin d (fun H1 locs1 hP hD hS1 => ?_)
    have e1 : (pw_W g σ).set k0 (pw_ad g k0, .inl (pw_cI g, pw_ln k0, .inl (upd (σ k0) i.toNatClampNeg x))) = pw_W g (pw_set σ k0 i.toNatClampNeg x) := by
      rw [← pw_setW g σ (pw_set σ k0 i.toNatClampNeg x) (pw_kd_lt hk (by decide)) (fun a ha => pw_set_ne _ _ _ _ ha), pw_enI g _ hk, pw_set_eq]
    rw [e1] at hP hD
    exact k p e s m args below meth c C H1 locs1 ls hl ⟨hP, hD⟩ hS1
theorem wp_bastore (k0 : Nat) {i x : Int32} (d : decode (pw_cc M) pc = .ok (.bastore, 1)) (hk : pw_kd k0 = 7) (hin : vp_in i (pw_ln k0)) (k : WP g M (pc + 1) lv st u (pw_set σ k0 i.toNatClampNeg (vp_nar .boolean x)) Q) : WP g M pc lv (.int x :: .int i :: .ref (pw_ad g k0) :: st) u σ Q :=
  fun p e s m args below meth c C H locs ls hl hL hS => by
    obtain ⟨hx, hb, hr, hml, hown, hts, hlk, hex, hK, hX, hbz⟩ := id C
    refine va_zast hx hb hK hL.1 hL.2 hS k0 1 ((pw_at g σ (pw_kd_lt hk (by decide))).trans (by rw [pw_enZ g σ hk])) rfl hin d (fun H1 locs1 hP hD hS1 => ?_)
    have e1 : (pw_W g σ).set k0 (pw_ad g k0, .inl (pw_cZ g, pw_ln k0, .inl (upd (σ k0) i.toNatClampNeg (vp_nar .boolean x)))) = pw_W g (pw_set σ k0 i.toNatClampNeg (vp_nar .boolean x)) := by
      rw [← pw_setW g σ (pw_set σ k0 i.toNatClampNeg (vp_nar .boolean x)) (pw_kd_lt hk (by decide)) (fun a ha => pw_set_ne _ _ _ _ ha), pw_enZ g _ hk, pw_set_eq]
    rw [e1] at hP hD
    exact k p e s m args below meth c C H1 locs1 ls hl ⟨hP, hD⟩ hS1
theorem wp_alen (k0 : Nat) {v : Int32} (d : decode (pw_cc M) pc = .ok (.arraylength, 1)) (hk : pw_kd k0 = 6) (hv : Int32.ofNat (pw_ln k0) = v) (k : WP g M (pc + 1) lv (.int v :: st) u σ Q) : WP g M pc lv (.ref (pw_ad g k0) :: st) u σ Q :=
  fun p e s m args below meth c C H locs ls hl hL hS => by
    obtain ⟨hx, hb, hr, hml, hown, hts, hlk, hex, hK, hX, hbz⟩ := id C
    exact va_alen hx hb hK hL.1 k0 0 (x := (pw_ln k0, .inl (σ k0))) ((pw_at g σ (pw_kd_lt hk (by decide))).trans (by rw [pw_enI g σ hk])) (ty := .int) rfl hv d (k p e s m args below meth c C H locs ls hl hL hS)
/-- the six classes' fields are laid as the tables say -/
theorem pw_in0 : ∀ w ∈ wsX00, w ∈ pw_ws := by decide +kernel
theorem pw_in1 : ∀ w ∈ wsX10, w ∈ pw_ws := by decide +kernel
theorem pw_in2 : ∀ w ∈ wsX20, w ∈ pw_ws := by decide +kernel
theorem pw_in3 : ∀ w ∈ wsX30, w ∈ pw_ws := by decide +kernel
theorem pw_in4 : ∀ w ∈ wsX40, w ∈ pw_ws := by decide +kernel
theorem pw_in5 : ∀ w ∈ wsX50, w ∈ pw_ws := by decide +kernel
theorem pw_ins0 {ci : Nat} {C : String} {T : u_T} {N : Nat} (h : vwCl[ci]? = some (C, T, N)) : (∀ w ∈ u_ws C T N, w ∈ pw_ws) ∧ (∃ ty0 : Nat → FieldType, ∀ k, k < N → parseFieldDescriptor (T k).2.2.1 = some (ty0 k)) ∧ (∀ a, a < N → ∀ b, b < N → a ≠ b → (T a).2.1 ≠ (T b).2.1) ∧ ci < 6 := by
  match ci, h with
  | 0, h => cases h; exact ⟨pw_in0, ⟨_, tyX0_ok⟩, nmX0, by decide⟩
  | 1, h => cases h; exact ⟨pw_in1, ⟨_, tyX1_ok⟩, nmX1, by decide⟩
  | 2, h => cases h; exact ⟨pw_in2, ⟨_, tyX2_ok⟩, nmX2, by decide⟩
  | 3, h => cases h; exact ⟨pw_in3, ⟨_, tyX3_ok⟩, nmX3, by decide⟩
  | 4, h => cases h; exact ⟨pw_in4, ⟨_, tyX4_ok⟩, nmX4, by decide⟩
  | 5, h => cases h; exact ⟨pw_in5, ⟨_, tyX5_ok⟩, nmX5, by decide⟩
  | n + 6, h => simp [vwCl] at h
theorem pw_fl_get (g : pw_G) (σ : pw_Mem) {k ci f o : Nat} (hk : pw_kd k = ci) (ho : (pw_off ci)[f]? = some o) : (pw_fl g σ k)[f]? = some (pw_fv g σ k (o, f)) := by
  subst hk
  simp [pw_fl, ho]
/-- field f of a class by the pool entry idx of own -/
def pw_fk (own : String) (idx ci f : Nat) : Prop := ∃ C T N, vwCl[ci]? = some (C, T, N) ∧ f < N ∧ Cond.fieldLink own idx (T f).1 (T f).2.1 (T f).2.2.1 ∈ pw_ws
theorem wp_getI (k0 : Nat) {idx f ci : Nat} (d : decode (pw_cc M) pc = .ok (.getfield idx, 3)) (hk : pw_kd k0 = ci) (hf : pw_fk (pw_y M).cls idx ci f) (ho : (pw_off ci)[f]? = some 0) (k : WP g M (pc + 3) lv (.int (σ k0 f) :: st) u σ Q) : WP g M pc lv (.ref (pw_ad g k0) :: st) u σ Q :=
  fun p e s m args below meth c C H locs ls hl hL hS => by
    obtain ⟨hx, hb, hr, hml, hown, hts, hlk, hex, hK, hX, hbz⟩ := id C
    obtain ⟨Cn, T, N, hc, hfN, hw⟩ := hf
    obtain ⟨i1, -, -, i4⟩ := pw_ins0 hc
    refine va_get (D := pw_D g) (cl := vwCl) hx hb hts i1 hown hK hL.1 k0 ((pw_at g σ (pw_kd_lt hk (by omega))).trans (by rw [pw_enO g σ hk i4])) hc f hfN (hts _ hw) (fun _ h9 => h9) (pw_fl_get g σ hk ho) d ?_
    exact k p e s m args below meth c C H locs ls hl hL hS
theorem wp_getR (k0 : Nat) {idx f ci o : Nat} (d : decode (pw_cc M) pc = .ok (.getfield idx, 3)) (hk : pw_kd k0 = ci) (hf : pw_fk (pw_y M).cls idx ci f) (ho : (pw_off ci)[f]? = some (o + 1)) (k : WP g M (pc + 3) lv (.ref (pw_ad g (k0 + (o + 1))) :: st) u σ Q) : WP g M pc lv (.ref (pw_ad g k0) :: st) u σ Q :=
  fun p e s m args below meth c C H locs ls hl hL hS => by
    obtain ⟨hx, hb, hr, hml, hown, hts, hlk, hex, hK, hX, hbz⟩ := id C
    obtain ⟨Cn, T, N, hc, hfN, hw⟩ := hf
    obtain ⟨i1, -, -, i4⟩ := pw_ins0 hc
    refine va_get (D := pw_D g) (cl := vwCl) hx hb hts i1 hown hK hL.1 k0 ((pw_at g σ (pw_kd_lt hk (by omega))).trans (by rw [pw_enO g σ hk i4])) hc f hfN (hts _ hw) (fun _ h9 => h9) (pw_fl_get g σ hk ho) d ?_
    exact k p e s m args below meth c C H locs ls hl hL hS
theorem pw_fl_set (g : pw_G) (σ : pw_Mem) {k ci f : Nat} (x : Int32) (hk : pw_kd k = ci) (ho : (pw_off ci)[f]? = some 0) : (pw_fl g σ k).set f (.int x) = pw_fl g (pw_set σ k f x) k := by
  subst hk
  apply List.ext_getElem?
  intro i
  rw [List.getElem?_set]
  have hlt : f < (pw_fl g σ k).length := by
    have := (List.getElem?_eq_some_iff.mp ho).1
    simpa [pw_fl] using this
  by_cases hi : f = i
  · subst hi
    rw [if_pos rfl, if_pos hlt]
    simp [pw_fl, ho, pw_fv, pw_set_eq, upd]
  · rw [if_neg hi]
    simp only [pw_fl, List.getElem?_map, List.getElem?_zipIdx]
    cases (pw_off (pw_kd k))[i]? with
    | none => rfl
    | some o =>
      simp only [Option.map_some, pw_fv, pw_set_eq]
      by_cases h0 : o = 0
      · have hi2 : ¬ i = f := fun q => hi q.symm
        simp [h0, upd, hi2]
      · simp [h0]
theorem wp_putI (k0 : Nat) {idx f ci : Nat} {x : Int32} (d : decode (pw_cc M) pc = .ok (.putfield idx, 3)) (hk : pw_kd k0 = ci) (hf : ∃ C T N, vwCl[ci]? = some (C, T, N) ∧ f < N ∧ Cond.fieldLink (pw_y M).cls idx (T f).1 (T f).2.1 (T f).2.2.1 ∈ pw_ws ∧ (T f).2.2.2 = false ∧ parseFieldDescriptor (T f).2.2.1 = some .int) (ho : (pw_off ci)[f]? = some 0) (k : WP g M (pc + 3) lv st u (pw_set σ k0 f x) Q) : WP g M pc lv (.int x :: .ref (pw_ad g k0) :: st) u σ Q :=
  fun p e s m args below meth c C H locs ls hl hL hS => by
    obtain ⟨hx, hb, hr, hml, hown, hts, hlk, hex, hK, hX, hbz⟩ := id C
    obtain ⟨Cn, T, N, hc, hfN, hw, hfin, hty⟩ := hf
    obtain ⟨i1, ⟨ty0, i2⟩, i3, i4⟩ := pw_ins0 hc
    have hlt : f < (pw_fl g σ k0).length := (List.getElem?_eq_some_iff.mp (pw_fl_get g σ hk ho)).1
    refine va_put (D := pw_D g) (cl := vwCl) (ty := .int) (v := .int x) hx hb hts i1 ty0 i2 i3 hown hK hL.1 hL.2 hS k0 ((pw_at g σ (pw_kd_lt hk (by omega))).trans (by rw [pw_enO g σ hk i4])) hc f hfN (hts _ hw) (fun _ h9 => h9) hfin hty rfl rfl hlt d (fun H1 locs1 hP hD hS1 => ?_)
    have e1 : (pw_W g σ).set k0 (pw_ad g k0, .inr (ci, (pw_fl g σ k0).set f (.int x))) = pw_W g (pw_set σ k0 f x) := by
      rw [← pw_setW g σ (pw_set σ k0 f x) (pw_kd_lt hk (by omega)) (fun a ha => pw_set_ne _ _ _ _ ha), pw_enO g _ hk i4, pw_fl_set g σ x hk ho]
    rw [e1] at hP hD
    exact k p e s m args below meth c C H1 locs1 ls hl ⟨hP, hD⟩ hS1
end PWD
end
section
section PWE
variable {g : pw_G} {M : pw_M} {pc : Nat} {lv : List (Nat × Value)} {st : List Value} {u : Nat} {σ : pw_Mem} {Q : pw_R → Prop}
theorem wp_ireturn {x : Int32} {ty : FieldType} (d : decode (pw_cc M) pc = .ok (.ireturn, 1)) (hr : pw_rt M = some ty) (hn : narrow ty (.int x) = .int x) (hu : u ≤ pw_mc M) (k : Q (.inl (some (.int x)), σ)) : WP g M pc lv [.int x] u σ Q :=
  fun p e s m args below meth c C H locs ls hl hL hS => by
    obtain ⟨hx, hb, hrt, hml, hown, hts, hlk, hex, hK, hX, hbz⟩ := id C
    refine W.widen (k := pw_mc M) (n := 6 * pw_mc M) hu (Nat.mul_le_mul_left 6 hu) (vx_ret ?_)
    exact W.zret hx hb (hrt.trans hr) hn (fun t ht hW => ⟨⟨_, σ, k, rfl, by rw [ht]; exact hL⟩, hS.F ht⟩) hS.2.2 d hlk
theorem wp_return (d : decode (pw_cc M) pc = .ok (.return_, 1)) (hr : pw_rt M = none) (hu : u ≤ pw_mc M) (k : Q (.inl none, σ)) : WP g M pc lv [] u σ Q :=
  fun p e s m args below meth c C H locs ls hl hL hS => by
    obtain ⟨hx, hb, hrt, hml, hown, hts, hlk, hex, hK, hX, hbz⟩ := id C
    refine W.widen (k := pw_mc M) (n := 6 * pw_mc M) hu (Nat.mul_le_mul_left 6 hu) (vx_ret ?_)
    exact W.vret hx hb (hrt.trans hr) (fun t ht hW => ⟨⟨_, σ, k, rfl, by rw [ht]; exact hL⟩, hS.F ht⟩) hS.2.2 d hlk
theorem wp_areturn {x : Nat} {ty : FieldType} (d : decode (pw_cc M) pc = .ok (.areturn, 1)) (hr : pw_rt M = some ty) (hty : (∃ n, ty = .object n) ∨ ∃ t, ty = .array t) (hu : u ≤ pw_mc M) (k : Q (.inl (some (.ref x)), σ)) : WP g M pc lv [.ref x] u σ Q :=
  fun p e s m args below meth c C H locs ls hl hL hS => by
    obtain ⟨hx, hb, hrt, hml, hown, hts, hlk, hex, hK, hX, hbz⟩ := id C
    refine W.widen (k := pw_mc M) (n := 6 * pw_mc M) hu (Nat.mul_le_mul_left 6 hu) (vx_ret ?_)
    exact W.aret hx hb (hrt.trans hr) hty (Or.inr ⟨_, rfl⟩) (fun t ht hW => ⟨⟨_, σ, k, rfl, by rw [ht]; exact hL⟩, hS.F ht⟩) hS.2.2 d hlk
/-- the rest of a method behind a call -/
def pw_k (g : pw_G) (M : pw_M) (pc : Nat) (lv : List (Nat × Value)) (rest : List Value) (u : Nat) (Q : pw_R → Prop) : pw_R → Prop := fun r => match r.1 with
  | .inl rv => WP g M pc lv (rv.toList ++ rest) u r.2 Q
  | .inr E => Q (.inr E, r.2)
theorem wp_mono {Q' : pw_R → Prop} (h : ∀ r, Q r → Q' r) (k : WP g M pc lv st u σ Q) : WP g M pc lv st u σ Q' :=
  fun p e s m args below meth c C H locs ls hl hL hS T hT X => by
    obtain ⟨t, a, o, h1, h2, h3⟩ := k p e s m args below meth c C H locs ls hl hL hS T hT X
    refine ⟨t, a, o, h1, h2, ?_⟩
    rcases h3 with ⟨⟨⟨rv, σ', q1, q2⟩, q3⟩, q4⟩ | ⟨q, rfl, E, ce, L, ⟨⟨σ', q1, q2⟩, q3⟩, q4⟩
    · exact Or.inl ⟨⟨⟨rv, σ', h _ q1, q2⟩, q3⟩, q4⟩
    · exact Or.inr ⟨q, rfl, E, ce, L, ⟨⟨σ', h _ q1, q2⟩, q3⟩, q4⟩
/-- a method's body gives its contract -/
theorem pw_met {As : List Value} (hpl : plainName (pw_y M).cls = true) (hn : (lg_sl As).length ≤ pw_mL M) (h : WP g M 0 (lv_args 0 As) [] 0 σ Q) : vx_Met (pw_l g) (pw_y M) (pw_wd M) (pw_rm M) (va_Pc As (fun U => pw_L g σ U.heap ∧ pw_K g U)) (pw_Q g Q) (pw_XC g Q) (pw_mc M) (6 * pw_mc M) (pw_A g) := by
  refine vx_ofW (cc := pw_cc M) (maxL := pw_mL M) (ret := pw_rt M) hpl rfl ?_
  intro p e s m args below meth c s₁ B hml hex hv
  obtain ⟨rfl, hL, hK⟩ := hv
  have hts := atoms_spec (ws := pw_wd M) B.pre
  have hown := findClass_of_methodNamed B.named
  have hl := lv_entry As (n := pw_mL M) hn
  rw [lg_entry_eq]
  exact h p e s m _ below meth c ⟨B.exec, B.bytes, B.returns, hml, hown, fun w hw => hts w (List.mem_cons_of_mem _ hw), B.notSynchronized, hex, hK⟩ s.heap [] _ hl hL va_S.rf
theorem pw_xw_on : ∀ w ∈ pw_xw, w.onTables = true := by decide +kernel
theorem pw_xw_warm {s U : State} (hW : s.WarmedH U.vm) (h : ∀ w ∈ pw_xw, va_Nw w s) : ∀ w ∈ pw_xw, va_Nw w U := by
  intro w hw
  have h1 := h w hw
  simp only [pw_xw, List.mem_cons, List.not_mem_nil, or_false] at hw
  rcases hw with rfl | rfl | rfl | rfl | rfl | rfl
  · exact va_Nw.warmD hW h1
  · exact va_Nw.warmD hW h1
  · exact va_Nw.warmD hW h1
  · exact va_Nw.warmC hW h1
  · exact va_Nw.warmC hW h1
  · exact va_Nw.warmC hW h1
theorem pw_K.same {U V : State} (h : pw_K g U) (hv : V.vm = U.vm) (hh : V.heap = U.heap) : pw_K g V := by
  obtain ⟨hK, ⟨h1, h2, h3, h4, h5, h6⟩, hb⟩ := h
  have hal : U.vm.Alike V.vm := by rw [hv]; exact Vm.Alike.refl _
  refine ⟨va_K.moved hal hK, ⟨va_Nw.same rfl hv.symm h1, va_Nw.same rfl hv.symm h2, ?_, ?_, fun q hq => vk_R.same hv (h5 q hq), fun w hw => va_Nw.same (pw_xw_on w hw) hv.symm (h6 w hw)⟩, by rw [hh]; exact hb⟩
  · rw [hh]; exact vx_Zq.moved hal h3
  · rw [hh]; exact vx_Zq.moved hal h4
theorem pw_K.at {s U : State} {H : Heap} {locs : List Loc} (h : pw_K g s) (hS : va_S (pw_A g) s.heap H locs) (hU : U.heap = H) (hW : s.WarmedH U.vm) : pw_K g U := by
  obtain ⟨hK, ⟨h1, h2, h3, h4, h5, h6⟩, hb⟩ := h
  refine ⟨va_K.moved hW.alike hK, ⟨va_Nw.warmM hW h1, va_Nw.warmM hW h2, ?_, ?_, fun q hq => vk_R.warm hW (h5 q hq), pw_xw_warm hW h6⟩, by rw [hU]; exact Nat.le_trans hb hS.1⟩
  · rw [hU]; exact vx_Zq.moved hW.alike (vx_Zq.kept h3 hS.2.1)
  · rw [hU]; exact vx_Zq.moved hW.alike (vx_Zq.kept h4 hS.2.1)
theorem pw_blind (As : List Value) : FrameBlind (va_Pc As (fun U => pw_L g σ U.heap ∧ pw_K g U)) :=
  fun a U f mk q => ⟨q.1, q.2.1, pw_K.same q.2.2 rfl rfl⟩
/-- behind a call: what came back, or what was thrown, which goes on to the caller -/
theorem pw_go {M' : pw_M} {p : Program} {e : Env} {s : State} {m : MethodId} {args : Array Value} {below : List Frame} {meth : Method} {c : Code} {H : Heap} {locs : List Loc} {ls : Array Slot} {st0 rest : List Value} {a : Array Value}
    (C : pw_C g M p s m meth c args) (hl : lv_has ls (pw_mL M) lv) (hS : va_S (pw_A g) s.heap H locs) (hu : u + pw_mc M' ≤ pw_mc M)
    (hr : vx_Run p (pw_l g) e (pw_rm M) s m args below meth c H locs u (6 * u) (pw_mc M') (6 * pw_mc M') (F0 m pc ls st0) rest (pw_Q g (pw_k g M (pc + 3) lv rest (u + pw_mc M') Q) a) (pw_XC g (pw_k g M (pc + 3) lv rest (u + pw_mc M') Q)) (pw_A g)) :
    W p (pw_l g) e (pw_rm M) s m args below meth c H locs u (6 * u) (vx_MQ below (pw_Q g Q) (pw_XC g Q) args s (pw_mc M) (6 * pw_mc M) (pw_A g)) (F0 m pc ls st0) := by
  obtain ⟨hx, hb, hrt, hml, hown, hts, hlk, hex, hK⟩ := id C
  intro T hT X
  rcases hr T hT X with ⟨v, st₀, t, T', L, h0, X', hL, e1, e2, ⟨⟨rv, σ', q1, q2, q3⟩, hF⟩, stp⟩ | ⟨q, st₀, t, T', L, E, ce, h0, X', hL, e1, e2, ⟨⟨σ', q1, q3⟩, hF⟩, hce, hcv, hcl, stp⟩
  · cases q2
    obtain ⟨k1, k2, k3⟩ := vx_keep h0 e1 hS (fun _ _ z => z) (fun _ z => z) hL hF
    have k := (show WP g M (pc + 3) lv (v.toList ++ rest) (u + pw_mc M') σ' Q from q1) p e s m args below meth c C T'.heap (locs ++ L) ls hl (by rw [e1]; exact q3) k3
    rw [Nat.mul_add] at k
    obtain ⟨t2, a1, b1⟩ := k T' rfl X'
    exact ⟨t2, stp t2 a1, b1⟩
  · obtain ⟨k1, k2, k3⟩ := vx_keep h0 e1 hS (fun _ _ z => z) (fun _ z => z) hL hF
    have q1 : Q (.inr E, σ') := q1
    have k : vx_W p (pw_l g) e (pw_rm M) s m args below meth c T'.heap (locs ++ L) (u + pw_mc M') (6 * u + 6 * pw_mc M') (vx_MQ below (pw_Q g Q) (pw_XC g Q) args s (pw_mc M) (6 * pw_mc M) (pw_A g)) (F0 m pc ls rest) q :=
      vx_out (fun x hx9 => (hex x hx9).elim) hlk (by rw [e1]; exact hce) hcv hcl (fun t9 ht9 _ => ⟨⟨σ', q1, by rw [ht9, e1]; exact q3⟩, k3.F ht9⟩) k3.2.2 hu (by omega)
    obtain ⟨t2, a1, b1⟩ := k T' rfl X'
    exact ⟨t2, stp.trans a1, b1⟩
/-- what the tables say of a call -/
def pw_cv (own : String) (idx : Nat) (M' : pw_M) (n : Nat) : Prop := GoodIn pw_ws (wsV own idx (pw_y M').cls (pw_y M') (pw_wd M')) ∧ plainName (pw_y M').cls = true ∧ ((pw_y M').cls ≠ "java/lang/invoke/MethodHandle" ∧ (pw_y M').cls ≠ "java/lang/invoke/VarHandle" ∧ (parseMethodDescriptor (pw_y M').desc).map (fun d => d.parameters.length) = some n)
def pw_cs (own : String) (idx : Nat) (M' : pw_M) (n : Nat) : Prop := GoodIn pw_ws (va_wsS own idx (pw_y M') (pw_wd M')) ∧ plainName (pw_y M').cls = true ∧ ((pw_y M').cls ≠ "java/lang/invoke/MethodHandle" ∧ (pw_y M').cls ≠ "java/lang/invoke/VarHandle" ∧ (parseMethodDescriptor (pw_y M').desc).map (fun d => d.parameters.length) = some n)
def pw_cn (own : String) (idx : Nat) (M' : pw_M) (n : Nat) : Prop := (GoodIn pw_ws (pw_wd M') ∧ Cond.static (pw_y M') ∈ pw_ws ∧ Cond.initialized (pw_y M').cls ∈ pw_ws) ∧ plainName (pw_y M').cls = true ∧ ((pw_y M').cls ≠ "java/lang/invoke/MethodHandle" ∧ (pw_y M').cls ≠ "java/lang/invoke/VarHandle" ∧ (parseMethodDescriptor (pw_y M').desc).map (fun d => d.parameters.length) = some n)
def pw_rr (M M' : pw_M) : Prop := pw_fr M' + 1 ≤ pw_fr M ∧ 8 + (pw_mL M' + 11) + pw_lo M' ≤ pw_lo M
theorem wp_callV {M' : pw_M} (k0 : Nat) {idx ci n : Nat} (As rest : List Value) (d : decode (pw_cc M) pc = .ok (.invokevirtual idx, 3)) (hcv : pw_cv (pw_y M).cls idx M' n) (hk : pw_kd k0 = ci) (hc : (vwCl[ci]?).map (fun q => q.1) = some (pw_y M').cls) (hR : pw_rr M M') (hn : As.length = n) (hsl : (lg_sl (.ref (pw_ad g k0) :: As)).length ≤ pw_mL M') (hrest : (rest.map fun v => v.category).sum ≤ 8) (hu : u + pw_mc M' ≤ pw_mc M) (hst : st = As.reverse ++ .ref (pw_ad g k0) :: rest)
    (k : WP g M' 0 (lv_args 0 (.ref (pw_ad g k0) :: As)) [] 0 σ (pw_k g M (pc + 3) lv rest (u + pw_mc M') Q)) : WP g M pc lv st u σ Q :=
  fun p e s m args below meth c C H locs ls hl hL hS => by
    obtain ⟨hx, hb, hrt, hml, hown, hts, hlk, hex, hK⟩ := id C
    obtain ⟨hG, hpl, hd⟩ := hcv
    obtain ⟨⟨Cn, T, N⟩, hc1, hc2⟩ := Option.map_eq_some_iff.mp hc
    obtain ⟨-, -, -, i4⟩ := pw_ins0 hc1
    refine pw_go (M' := M') (rest := rest) (a := (Value.ref (pw_ad g k0) :: As).toArray) C hl hS hu ?_
    refine vx_runV (As := As) (rest := rest) (C := (pw_y M').cls) (g := F0 m pc ls st) ⟨hx, hb, hml, hown, hts⟩ (pw_met hpl hsl k) (cwV n hts hG rfl rfl rfl ⟨rfl, hd⟩ ⟨hR.1, hR.2⟩) ⟨pw_blind _, ?_, fun U hU hW => ⟨rfl, by rw [hU]; exact hL, hK.at hS hU hW⟩⟩ rfl hn hl.1 hst (lv_room hrest) d ⟨hu, by show 6 * u + 6 * pw_mc M' ≤ 6 * pw_mc M; omega⟩
    have hr9 := va_recv (ws := pw_W g σ) hK.1 hL.1 (ci := ci) (q0 := k0) hc1 ((pw_at g σ (pw_kd_lt hk (by omega))).trans (by rw [pw_enO g σ hk i4]))
    have hc2 : Cn = (pw_y M').cls := hc2
    subst hc2
    exact hr9
theorem wp_callS {M' : pw_M} {idx n : Nat} (As rest : List Value) (d : decode (pw_cc M) pc = .ok (.invokestatic idx, 3)) (hcv : pw_cs (pw_y M).cls idx M' n) (hR : pw_rr M M') (hn : As.length = n) (hsl : (lg_sl As).length ≤ pw_mL M') (hrest : (rest.map fun v => v.category).sum ≤ 8) (hu : u + pw_mc M' ≤ pw_mc M) (hst : st = As.reverse ++ rest)
    (k : WP g M' 0 (lv_args 0 As) [] 0 σ (pw_k g M (pc + 3) lv rest (u + pw_mc M') Q)) : WP g M pc lv st u σ Q :=
  fun p e s m args below meth c C H locs ls hl hL hS => by
    obtain ⟨hx, hb, hrt, hml, hown, hts, hlk, hex, hK⟩ := id C
    obtain ⟨hG, hpl, hd⟩ := hcv
    refine pw_go (M' := M') (rest := rest) (a := As.toArray) C hl hS hu ?_
    exact vx_runS (As := As) (rest := rest) (g := F0 m pc ls st) ⟨hx, hb, hml, hown, hts⟩ (pw_met hpl hsl k) (va_cwS n hts hG rfl rfl rfl hd ⟨hR.1, hR.2⟩) ⟨pw_blind _, fun U hU hW => ⟨rfl, by rw [hU]; exact hL, hK.at hS hU hW⟩⟩ rfl hn hl.1 hst (lv_room hrest) d ⟨hu, by show 6 * u + 6 * pw_mc M' ≤ 6 * pw_mc M; omega⟩
theorem pw_metN {As : List Value} (hpl : plainName (pw_y M).cls = true) (hn : (lg_sl As).length ≤ pw_mL M) (hno : ∀ E σ', ¬ Q (.inr E, σ')) (h : WP g M 0 (lv_args 0 As) [] 0 σ Q) : Met (pw_l g) (pw_y M) (pw_wd M) (pw_rm M) (va_Pc As (fun U => pw_L g σ U.heap ∧ pw_K g U)) (pw_Q g Q) (pw_mc M) (6 * pw_mc M) (pw_A g) := by
  have h1 := pw_met hpl hn h
  intro p e ha hc hk s m args below hf happ hP htr
  obtain ⟨k, o, h1, h2, h3, hQ⟩ := h1 p e ha hc hk s m args below hf happ hP htr
  refine ⟨k, o, h1, h2, h3, ?_⟩
  rcases hQ with q | ⟨q, rfl, E, ce, L, ⟨⟨σ', q1, q2⟩, q3⟩, q4⟩
  · exact q
  · exact (hno E σ' q1).elim
/-- a static call of a nest mate's private method, which doesn't throw -/
theorem wp_callN {M' : pw_M} {Q' : pw_R → Prop} {idx n : Nat} (As rest : List Value) (d : decode (pw_cc M) pc = .ok (.invokestatic idx, 3)) (hcv : pw_cn (pw_y M).cls idx M' n) (hR : pw_rr M M') (hn : As.length = n) (hsl : (lg_sl As).length ≤ pw_mL M') (hrest : (rest.map fun v => v.category).sum ≤ 8) (hm0 : pw_mc M' = 0) (hu : u ≤ pw_mc M) (hst : st = As.reverse ++ rest)
    (hl9 : ∀ U, pw_K g U → va_Nw (.methodLinkNest (pw_y M).cls idx (pw_y M') RX4) U) (hno : ∀ E σ', ¬ Q' (.inr E, σ')) (k : WP g M' 0 (lv_args 0 As) [] 0 σ Q') (kk : ∀ rv σ', Q' (.inl rv, σ') → WP g M (pc + 3) lv (rv.toList ++ rest) u σ' Q) : WP g M pc lv st u σ Q :=
  fun p e s m args below meth c C H locs ls hl hL hS => by
    obtain ⟨hx, hb, hrt, hml, hown, hts, hlk, hex, hK⟩ := id C
    obtain ⟨⟨hG, hst9, hin9⟩, hpl, hd⟩ := hcv
    intro T hT X
    have cw := va_cnB (own := (pw_y M).cls) (host := RX4) (index := idx) (mc := 0) (ms := 0) (rm := pw_rm M') (R := pw_rm M) n hts hG rfl hm0 (by show 6 * pw_mc M' = 0; rw [hm0]) (hl9 s hK) (hts _ hin9) hd ⟨hR.1, hR.2⟩
    have hM : Met (pw_l g) (pw_y M') (pw_wd M') (pw_rm M') (va_Pc As (fun U => pw_L g σ U.heap ∧ pw_K g U)) (pw_Q g Q') 0 0 (pw_A g) := by have h9 := pw_metN hpl hsl hno k; rw [hm0] at h9; exact h9
    have hrn := va_runSN (l := pw_l g) (e := e) (R := pw_rm M) (below := below) (meth := meth) (H := H) (locs := locs) (cells := u) (slots := 6 * u) (As := As) (rest := rest) (g := F0 m pc ls st) ⟨hx, hb, hml, hown, hts⟩ hM ⟨cw, hts _ hst9, trivial⟩ ⟨pw_blind _, fun U hU hW => ⟨rfl, by rw [hU]; exact hL, hK.at hS hU hW⟩⟩ rfl hn hl.1 hst (lv_room hrest) d ⟨hu, by show 6 * u + 0 ≤ 6 * pw_mc M; omega⟩
    obtain ⟨v, st₀, t, T', L, h0, X', hL9, e1, e2, ⟨⟨rv, σ', q1, q2, q3⟩, hF⟩, stp⟩ := hrn T hT X
    cases q2
    obtain ⟨k1, k2, k3⟩ := vx_keep h0 e1 hS (fun _ _ z => z) (fun _ z => z) hL9 hF
    obtain ⟨t2, a1, b1⟩ := kk v σ' q1 p e s m args below meth c C T'.heap (locs ++ L) ls hl (by rw [e1]; exact q3) k3 T' rfl X'
    exact ⟨t2, stp t2 a1, b1⟩
/-- what the tables say of a throw in WordClassLearner -/
def pw_names : List String := ["java/lang/RuntimeException", "java/lang/Exception"]
def pw_ct (ik ic : Nat) (cls : String) : Prop := Bundle.fit cls = true ∧ ∀ w ∈ Cond.classLink RX4 ik cls :: Cond.initialized cls :: vx_atS RX4 ic cls pw_names, w ∈ pw_ws ∨ w ∈ pw_xw
theorem wp_throw {ik is ic : Nat} {cls text : String} (d0 : decode (pw_cc M) pc = .ok (.new ik, 3)) (d3 : decode (pw_cc M) (pc + 3) = .ok (.dup, 1)) (d4 : decode (pw_cc M) (pc + 4) = .ok (.ldc is, 2)) (d6 : decode (pw_cc M) (pc + 6) = .ok (.invokespecial ic, 3)) (d9 : decode (pw_cc M) (pc + 9) = .ok (.athrow, 1))
    (hown9 : (pw_y M).cls = RX4) (hl9 : (pw_l g).stackTraces = false) (ht : pw_ct ik ic cls) (hs : (is, text) ∈ pw_strs) (hfr : 5 < pw_fr M) (hlo : (st.map fun v => v.category).sum + 82 ≤ pw_lo M) (hu : u + 1 ≤ pw_mc M) (k : Q (.inr cls, σ)) : WP g M pc lv st u σ Q :=
  fun p e s m args below meth c C H locs ls hl hL hS => by
    obtain ⟨hx, hb, hrt, hml, hown, hts, hlk, hex, hK, ⟨h1, h2, h3, h4, h5, h6⟩, hbz⟩ := id C
    rw [hown9] at hown
    have hh : ∀ w ∈ Cond.classLink RX4 ik cls :: Cond.initialized cls :: vx_atS RX4 ic cls pw_names, w.before args s = true := fun w hw => (ht.2 w hw).elim (hts w) (fun q => va_Nw.use (pw_xw_on w q) (h6 w q))
    refine vx_throwS (own := RX4) (cls := cls) (text := text) (names := pw_names) hx hb hl9 hown ht.1 (by decide +kernel) (hh _ List.mem_cons_self) (hh _ (List.mem_cons_of_mem _ List.mem_cons_self)) (h5 _ hs) (fun w hw => hh _ (List.mem_cons_of_mem _ (List.mem_cons_of_mem _ hw))) (fun w hw => ?_) h3 h4 hS (hl.1.trans hml.symm) d0 d3 d4 d6 d9 (fun x hx9 => (hex x hx9).elim) hfr (by show (st.map fun v => v.category).sum + 82 ≤ pw_lo M; exact hlo) hu (by show 6 * u + 6 ≤ 6 * pw_mc M; omega) hlk (fun t hal hz hk => ?_) hS.2.2 hu (by omega)
    · simp only [vx_ot, Bool.or_eq_true]
      exact (ht.2 w hw).elim (fun q => Or.inr (List.mem_filter.mp q).2) (fun q => Or.inl (pw_xw_on w q))
    · refine ⟨⟨σ, k, ?_, hL.2⟩, Nat.le_trans hS.1 hz, fun q hq hA => (hk q (Nat.lt_of_lt_of_le hq hS.1)).trans (hS.2.1 q hq hA)⟩
      exact hL.1.kept (fun k9 q hq => hk q.1 (hL.1 k9 q hq).lt)
theorem pw_ctO : pw_ct 74 78 "java/lang/IndexOutOfBoundsException" := ⟨by decide +kernel, by decide +kernel⟩
theorem pw_ctS : pw_ct 47 51 "java/lang/IllegalStateException" := ⟨by decide +kernel, by decide +kernel⟩
theorem pw_ctA : pw_ct 89 93 "java/lang/IllegalArgumentException" := ⟨by decide +kernel, by decide +kernel⟩
end PWE
end
section
section PWF
variable {M' : pw_M} {own : String} {idx n : Nat}
def pw_mb (M' : pw_M) (n : Nat) : Prop := Cond.initialized (pw_y M').cls ∈ pw_ws ∧ Cond.code (pw_y M') (pw_cc M') (pw_mL M') (pw_rt M') ∈ pw_ws ∧ plainName (pw_y M').cls = true ∧ ((pw_y M').cls ≠ "java/lang/invoke/MethodHandle" ∧ (pw_y M').cls ≠ "java/lang/invoke/VarHandle" ∧ (parseMethodDescriptor (pw_y M').desc).map (fun d => d.parameters.length) = some n)
abbrev pw_mv (M' : pw_M) (n : Nat) : Prop := Cond.instanceMethod (pw_y M') ∈ pw_ws ∧ Cond.selects (pw_y M').cls (pw_y M') (pw_y M') ∈ pw_ws ∧ Cond.initialized (pw_y M').cls ∈ pw_ws ∧ Cond.code (pw_y M') (pw_cc M') (pw_mL M') (pw_rt M') ∈ pw_ws ∧ plainName (pw_y M').cls = true ∧ ((pw_y M').cls ≠ "java/lang/invoke/MethodHandle" ∧ (pw_y M').cls ≠ "java/lang/invoke/VarHandle" ∧ (parseMethodDescriptor (pw_y M').desc).map (fun d => d.parameters.length) = some n)
abbrev pw_ms (M' : pw_M) (n : Nat) : Prop := Cond.static (pw_y M') ∈ pw_ws ∧ Cond.initialized (pw_y M').cls ∈ pw_ws ∧ Cond.code (pw_y M') (pw_cc M') (pw_mL M') (pw_rt M') ∈ pw_ws ∧ plainName (pw_y M').cls = true ∧ ((pw_y M').cls ≠ "java/lang/invoke/MethodHandle" ∧ (pw_y M').cls ≠ "java/lang/invoke/VarHandle" ∧ (parseMethodDescriptor (pw_y M').desc).map (fun d => d.parameters.length) = some n)
theorem pw_good1 {w : Cond} (h : w ∈ pw_ws) : w ∈ pw_ws ∧ ((w.onTables && w.keeps) = true ∨ ∃ ty, w = .arrayClass ty) := pw_ws_good w h
theorem pw_cv_of (h1 : Cond.methodLink own idx (pw_y M') ∈ pw_ws) (h : pw_mv M' n) : pw_cv own idx M' n := by
  refine ⟨fun w hw => pw_good1 ?_, h.2.2.2.2⟩
  simp only [wsV, pw_wd, List.mem_append, List.mem_cons, List.not_mem_nil, or_false] at hw
  rcases hw with (rfl | rfl | rfl | rfl) | rfl | hw
  · exact h1
  · exact h.1
  · exact h.2.1
  · exact h.2.2.1
  · exact h.2.2.2.1
  · exact hw
theorem pw_cs_of (h1 : Cond.methodLink own idx (pw_y M') ∈ pw_ws) (h : pw_ms M' n) : pw_cs own idx M' n := by
  refine ⟨fun w hw => pw_good1 ?_, h.2.2.2⟩
  simp only [va_wsS, pw_wd, List.mem_append, List.mem_cons, List.not_mem_nil, or_false] at hw
  rcases hw with (rfl | rfl | rfl) | rfl | hw
  · exact h1
  · exact h.1
  · exact h.2.1
  · exact h.2.2.1
  · exact hw
theorem pw_cn_of (h : pw_ms M' n) : pw_cn own idx M' n := by
  refine ⟨⟨fun w hw => pw_good1 ?_, h.1, h.2.1⟩, h.2.2.2⟩
  simp only [pw_wd, List.mem_cons] at hw
  rcases hw with rfl | hw
  · exact h.2.2.1
  · exact hw
end PWF
/-! the methods: name, code, locals, answer, frames, words, cells; what the tables say of each link (written by wip/gen/gen.py) -/
def mX4_checkedWord : pw_M := (yX4_checkedWord, cX4_checkedWord, 2, some .int, 6, 90, 1)
def mX3_markOf : pw_M := (yX3_markOf, cX3_markOf, 2, some .int, 0, 0, 0)
def mX3_take : pw_M := (yX3_take, cX3_take, 4, some .boolean, 0, 0, 0)
def mX4_teach : pw_M := (yX4_teach, cX4_teach, 6, some .boolean, 7, 111, 2)
def mX4_told : pw_M := (yX4_told, cX4_told, 3, some .int, 7, 111, 1)
def mX3_count : pw_M := (yX3_count, cX3_count, 1, some .int, 0, 0, 0)
def mX4_size : pw_M := (yX4_size, cX4_size, 1, some .int, 1, 20, 0)
def mJ7_fill_53178 : pw_M := (yJ7_fill_53178, cJ7_fill_53178, 4, none, 0, 0, 0)
def mX3_clear : pw_M := (yX3_clear, cX3_clear, 1, none, 1, 23, 0)
def mX4_forget : pw_M := (yX4_forget, cX4_forget, 1, none, 2, 43, 0)
def mX2_plantTree : pw_M := (yX2_plantTree, cX2_plantTree, 4, none, 1, 23, 0)
def mX2_redden : pw_M := (yX2_redden, cX2_redden, 3, none, 0, 0, 0)
def mX2_leadsToBlue : pw_M := (yX2_leadsToBlue, cX2_leadsToBlue, 2, some .boolean, 0, 0, 0)
def mX2_nameBehind : pw_M := (yX2_nameBehind, cX2_nameBehind, 2, some .int, 0, 0, 0)
def mX2_firstArrowToBlue : pw_M := (yX2_firstArrowToBlue, cX2_firstArrowToBlue, 5, some .int, 1, 21, 0)
def mX2_addPair : pw_M := (yX2_addPair, cX2_addPair, 3, none, 0, 0, 0)
def mX2_takeBack : pw_M := (yX2_takeBack, cX2_takeBack, 2, none, 0, 0, 0)
def mX2_layArrowOver : pw_M := (yX2_layArrowOver, cX2_layArrowOver, 3, none, 1, 22, 0)
def mX2_layOver : pw_M := (yX2_layOver, cX2_layOver, 4, none, 2, 44, 0)
def mX2_merges : pw_M := (yX2_merges, cX2_merges, 5, some .boolean, 3, 67, 0)
def mX2_settle : pw_M := (yX2_settle, cX2_settle, 3, none, 4, 91, 0)
def mX0_resize : pw_M := (yX0_resize, cX0_resize, 2, none, 0, 0, 0)
def mX0_put : pw_M := (yX0_put, cX0_put, 5, none, 0, 0, 0)
def mX2_writeTo : pw_M := (yX2_writeTo, cX2_writeTo, 4, none, 1, 24, 0)
def mX2_run : pw_M := (yX2_run, cX2_run, 5, none, 5, 113, 0)
def mX0_count : pw_M := (yX0_count, cX0_count, 1, some .int, 0, 0, 0)
def mX4_learn : pw_M := (yX4_learn, cX4_learn, 1, some .int, 6, 137, 0)
def mX4_states : pw_M := (yX4_states, cX4_states, 1, some .int, 1, 20, 0)
def mX0_has : pw_M := (yX0_has, cX0_has, 2, some .boolean, 0, 0, 0)
def mX4_checkState : pw_M := (yX4_checkState, cX4_checkState, 2, none, 6, 90, 1)
def mX0_arrow : pw_M := (yX0_arrow, cX0_arrow, 3, some .int, 0, 0, 0)
def mX4_next : pw_M := (yX4_next, cX4_next, 3, some .int, 7, 111, 2)
def mX0_markOf : pw_M := (yX0_markOf, cX0_markOf, 2, some .int, 0, 0, 0)
def mX4_sign : pw_M := (yX4_sign, cX4_sign, 2, some .int, 7, 111, 1)
def mX4_checkLearned : pw_M := (yX4_checkLearned, cX4_checkLearned, 1, none, 6, 90, 1)
def mX4_lengthOf : pw_M := (yX4_lengthOf, cX4_lengthOf, 2, some .int, 0, 0, 0)
def mX0_walk : pw_M := (yX0_walk, cX0_walk, 5, some .int, 1, 22, 0)
def mX4_accepts : pw_M := (yX4_accepts, cX4_accepts, 5, some .boolean, 7, 111, 2)
def mX1_splitBy : pw_M := (yX1_splitBy, cX1_splitBy, 4, none, 2, 46, 0)
def mX1_findSplitters : pw_M := (yX1_findSplitters, cX1_findSplitters, 2, none, 3, 69, 0)
def mX1_splitterOfDrawn : pw_M := (yX1_splitterOfDrawn, cX1_splitterOfDrawn, 3, some .int, 0, 0, 0)
def mX1_openClass : pw_M := (yX1_openClass, cX1_openClass, 5, none, 1, 22, 0)
def mX1_findClasses : pw_M := (yX1_findClasses, cX1_findClasses, 3, none, 2, 46, 0)
def mX1_reduce : pw_M := (yX1_reduce, cX1_reduce, 3, none, 4, 90, 0)
def mX1_begin : pw_M := (yX1_begin, cX1_begin, 3, none, 5, 112, 0)
def mX4_draft : pw_M := (yX4_draft, cX4_draft, 2, none, 6, 134, 1)
def mX1_drawn : pw_M := (yX1_drawn, cX1_drawn, 1, some (.object "WordClassLearner$Automaton"), 0, 0, 0)
def mX4_checkDrafted : pw_M := (yX4_checkDrafted, cX4_checkDrafted, 1, none, 6, 90, 1)
def mX1_change : pw_M := (yX1_change, cX1_change, 5, none, 5, 112, 0)
def mX4_define : pw_M := (yX4_define, cX4_define, 5, none, 7, 136, 4)
def mX1_reduced : pw_M := (yX1_reduced, cX1_reduced, 1, some (.object "WordClassLearner$Automaton"), 0, 0, 0)
def mX4_least : pw_M := (yX4_least, cX4_least, 1, some .int, 7, 110, 1)
def mX1_nameOf : pw_M := (yX1_nameOf, cX1_nameOf, 2, some .int, 0, 0, 0)
def mX4_codeOf : pw_M := (yX4_codeOf, cX4_codeOf, 2, some .int, 1, 21, 0)
def mX4_name : pw_M := (yX4_name, cX4_name, 2, some .int, 7, 111, 2)
def mX1_splitterOf : pw_M := (yX1_splitterOf, cX1_splitterOf, 3, some .int, 1, 22, 0)
def mX4_apart : pw_M := (yX4_apart, cX4_apart, 3, some .int, 7, 111, 3)
def mX1_addExample : pw_M := (yX1_addExample, cX1_addExample, 2, none, 2, 46, 0)
def mX4_joined : pw_M := (yX4_joined, cX4_joined, 3, some .int, 1, 21, 0)
def mX1_addExamples : pw_M := (yX1_addExamples, cX1_addExamples, 5, none, 3, 67, 0)
def mX1_examples : pw_M := (yX1_examples, cX1_examples, 3, some (.array .int), 4, 91, 0)
def mX3_contradicts : pw_M := (yX3_contradicts, cX3_contradicts, 3, some .boolean, 0, 0, 0)
def mX3_takeAll : pw_M := (yX3_takeAll, cX3_takeAll, 4, some .int, 1, 23, 0)
def mX4_exemplify : pw_M := (yX4_exemplify, cX4_exemplify, 2, some .int, 7, 113, 2)
def mX0_isLike : pw_M := (yX0_isLike, cX0_isLike, 3, some .boolean, 1, 22, 0)
def mX4_same : pw_M := (yX4_same, cX4_same, 1, some .boolean, 7, 110, 2)
def mX5_thrown : pw_M := (yX5_thrown, cX5_thrown, 1, some .int, 0, 0, 0)
def mX5_when : pw_M := (yX5_when, cX5_when, 3, some .boolean, 0, 0, 0)
def mX5_isWord : pw_M := (yX5_isWord, cX5_isWord, 2, some .boolean, 0, 0, 0)
def mX5_number : pw_M := (yX5_number, cX5_number, 2, some .int, 0, 0, 0)
def mX5_lengthOf : pw_M := (yX5_lengthOf, cX5_lengthOf, 2, some .int, 0, 0, 0)
def mX5_lettersOf : pw_M := (yX5_lettersOf, cX5_lettersOf, 1, some .int, 1, 21, 0)
def mX5_followed : pw_M := (yX5_followed, cX5_followed, 2, some .int, 0, 0, 0)
def mX5_joined : pw_M := (yX5_joined, cX5_joined, 3, some .int, 2, 41, 0)
def mX5_given : pw_M := (yX5_given, cX5_given, 1, some .int, 2, 41, 0)
def mX5_teach : pw_M := (yX5_teach, cX5_teach, 7, some .boolean, 1, 22, 0)
def mX5_told : pw_M := (yX5_told, cX5_told, 3, some .int, 1, 22, 0)
def mX5_size : pw_M := (yX5_size, cX5_size, 1, some .int, 0, 0, 0)
def mX5_forget : pw_M := (yX5_forget, cX5_forget, 2, none, 0, 0, 0)
def mX5_begin : pw_M := (yX5_begin, cX5_begin, 2, none, 0, 0, 0)
def mX5_unite : pw_M := (yX5_unite, cX5_unite, 4, some .boolean, 0, 0, 0)
def mX5_findTwins : pw_M := (yX5_findTwins, cX5_findTwins, 5, some .boolean, 1, 21, 0)
def mX5_merge : pw_M := (yX5_merge, cX5_merge, 5, some .boolean, 2, 45, 0)
def mX5_redOf : pw_M := (yX5_redOf, cX5_redOf, 4, some .int, 0, 0, 0)
def mX5_findBlue : pw_M := (yX5_findBlue, cX5_findBlue, 5, some .boolean, 1, 23, 0)
def mX5_learn : pw_M := (yX5_learn, cX5_learn, 5, some .int, 3, 69, 0)
def mX5_states : pw_M := (yX5_states, cX5_states, 1, some .int, 0, 0, 0)
def mX5_isState : pw_M := (yX5_isState, cX5_isState, 2, some .boolean, 0, 0, 0)
def mX5_next : pw_M := (yX5_next, cX5_next, 3, some .int, 1, 22, 0)
def mX5_sign : pw_M := (yX5_sign, cX5_sign, 2, some .int, 1, 22, 0)
def mX5_accepts : pw_M := (yX5_accepts, cX5_accepts, 5, some .boolean, 1, 22, 0)
def mX5_draft : pw_M := (yX5_draft, cX5_draft, 3, none, 1, 22, 0)
def mX5_isDrafted : pw_M := (yX5_isDrafted, cX5_isDrafted, 2, some .boolean, 0, 0, 0)
def mX5_define : pw_M := (yX5_define, cX5_define, 5, none, 1, 22, 0)
def mX5_lead : pw_M := (yX5_lead, cX5_lead, 7, some .int, 2, 41, 0)
def mX5_setsApart : pw_M := (yX5_setsApart, cX5_setsApart, 4, some .int, 3, 67, 0)
def mX5_classOf : pw_M := (yX5_classOf, cX5_classOf, 4, some .int, 4, 90, 0)
def mX5_reduce : pw_M := (yX5_reduce, cX5_reduce, 3, none, 5, 113, 0)
def mX5_least : pw_M := (yX5_least, cX5_least, 1, some .int, 6, 135, 0)
def mX5_name : pw_M := (yX5_name, cX5_name, 2, some .int, 6, 135, 0)
def mX5_apart : pw_M := (yX5_apart, cX5_apart, 3, some .int, 6, 135, 0)
def mX5_want : pw_M := (yX5_want, cX5_want, 4, none, 4, 90, 0)
def mX5_characteristic : pw_M := (yX5_characteristic, cX5_characteristic, 5, none, 6, 135, 0)
def mX5_signOf : pw_M := (yX5_signOf, cX5_signOf, 2, some .int, 3, 67, 0)
def mX5_exemplify : pw_M := (yX5_exemplify, cX5_exemplify, 4, some .int, 7, 159, 0)
def mX5_same : pw_M := (yX5_same, cX5_same, 4, some .boolean, 6, 135, 0)
theorem ms_X4_checkedWord : pw_ms mX4_checkedWord 2 := by decide +kernel
theorem mv_X3_markOf : pw_mv mX3_markOf 1 := by decide +kernel
theorem mv_X3_take : pw_mv mX3_take 2 := by decide +kernel
theorem mv_X3_count : pw_mv mX3_count 0 := by decide +kernel
theorem ms_J7_fill_53178 : pw_ms mJ7_fill_53178 2 := by decide +kernel
theorem mv_X3_clear : pw_mv mX3_clear 0 := by decide +kernel
theorem mv_X2_leadsToBlue : pw_mv mX2_leadsToBlue 1 := by decide +kernel
theorem mv_X2_nameBehind : pw_mv mX2_nameBehind 1 := by decide +kernel
theorem mv_X2_addPair : pw_mv mX2_addPair 2 := by decide +kernel
theorem mv_X2_layArrowOver : pw_mv mX2_layArrowOver 2 := by decide +kernel
theorem mv_X2_takeBack : pw_mv mX2_takeBack 0 := by decide +kernel
theorem mv_X2_layOver : pw_mv mX2_layOver 2 := by decide +kernel
theorem mv_X2_merges : pw_mv mX2_merges 2 := by decide +kernel
theorem mv_X2_redden : pw_mv mX2_redden 2 := by decide +kernel
theorem mv_X0_resize : pw_mv mX0_resize 1 := by decide +kernel
theorem mv_X0_put : pw_mv mX0_put 4 := by decide +kernel
theorem mv_X2_plantTree : pw_mv mX2_plantTree 1 := by decide +kernel
theorem mv_X2_firstArrowToBlue : pw_mv mX2_firstArrowToBlue 0 := by decide +kernel
theorem mv_X2_settle : pw_mv mX2_settle 1 := by decide +kernel
theorem mv_X2_writeTo : pw_mv mX2_writeTo 1 := by decide +kernel
theorem mv_X2_run : pw_mv mX2_run 2 := by decide +kernel
theorem mv_X0_count : pw_mv mX0_count 0 := by decide +kernel
theorem mv_X0_has : pw_mv mX0_has 1 := by decide +kernel
theorem ms_X4_checkState : pw_ms mX4_checkState 2 := by decide +kernel
theorem mv_X0_arrow : pw_mv mX0_arrow 2 := by decide +kernel
theorem mv_X0_markOf : pw_mv mX0_markOf 1 := by decide +kernel
theorem ms_X4_lengthOf : pw_ms mX4_lengthOf 1 := by decide +kernel
theorem mv_X4_checkLearned : pw_mv mX4_checkLearned 0 := by decide +kernel
theorem mv_X0_walk : pw_mv mX0_walk 2 := by decide +kernel
theorem mv_X1_splitBy : pw_mv mX1_splitBy 1 := by decide +kernel
theorem mv_X1_splitterOfDrawn : pw_mv mX1_splitterOfDrawn 2 := by decide +kernel
theorem mv_X1_openClass : pw_mv mX1_openClass 2 := by decide +kernel
theorem mv_X1_findSplitters : pw_mv mX1_findSplitters 0 := by decide +kernel
theorem mv_X1_findClasses : pw_mv mX1_findClasses 0 := by decide +kernel
theorem mv_X1_reduce : pw_mv mX1_reduce 0 := by decide +kernel
theorem mv_X1_begin : pw_mv mX1_begin 1 := by decide +kernel
theorem mv_X1_drawn : pw_mv mX1_drawn 0 := by decide +kernel
theorem mv_X4_checkDrafted : pw_mv mX4_checkDrafted 0 := by decide +kernel
theorem mv_X1_change : pw_mv mX1_change 4 := by decide +kernel
theorem mv_X1_reduced : pw_mv mX1_reduced 0 := by decide +kernel
theorem mv_X1_nameOf : pw_mv mX1_nameOf 1 := by decide +kernel
theorem ms_X4_codeOf : pw_ms mX4_codeOf 1 := by decide +kernel
theorem mv_X1_splitterOf : pw_mv mX1_splitterOf 2 := by decide +kernel
theorem mv_X1_addExample : pw_mv mX1_addExample 1 := by decide +kernel
theorem ms_X4_joined : pw_ms mX4_joined 2 := by decide +kernel
theorem mv_X1_addExamples : pw_mv mX1_addExamples 2 := by decide +kernel
theorem mv_X1_examples : pw_mv mX1_examples 0 := by decide +kernel
theorem mv_X3_contradicts : pw_mv mX3_contradicts 1 := by decide +kernel
theorem mv_X3_takeAll : pw_mv mX3_takeAll 1 := by decide +kernel
theorem mv_X0_isLike : pw_mv mX0_isLike 1 := by decide +kernel
theorem ms_X5_lengthOf : pw_ms mX5_lengthOf 1 := by decide +kernel
theorem ms_X5_lettersOf : pw_ms mX5_lettersOf 1 := by decide +kernel
theorem ms_X5_number : pw_ms mX5_number 2 := by decide +kernel
theorem ms_X5_isWord : pw_ms mX5_isWord 2 := by decide +kernel
theorem mv_X5_when : pw_mv mX5_when 2 := by decide +kernel
theorem ms_X5_followed : pw_ms mX5_followed 2 := by decide +kernel
theorem mv_X5_unite : pw_mv mX5_unite 2 := by decide +kernel
theorem mv_X5_findTwins : pw_mv mX5_findTwins 0 := by decide +kernel
theorem mv_X5_redOf : pw_mv mX5_redOf 1 := by decide +kernel
theorem mv_X5_begin : pw_mv mX5_begin 0 := by decide +kernel
theorem mv_X5_findBlue : pw_mv mX5_findBlue 0 := by decide +kernel
theorem mv_X5_merge : pw_mv mX5_merge 2 := by decide +kernel
theorem mv_X5_isState : pw_mv mX5_isState 1 := by decide +kernel
theorem mv_X5_isDrafted : pw_mv mX5_isDrafted 1 := by decide +kernel
theorem mv_X5_lead : pw_mv mX5_lead 2 := by decide +kernel
theorem mv_X5_setsApart : pw_mv mX5_setsApart 2 := by decide +kernel
theorem mv_X5_classOf : pw_mv mX5_classOf 1 := by decide +kernel
theorem mv_X5_reduce : pw_mv mX5_reduce 0 := by decide +kernel
theorem ms_X5_given : pw_ms mX5_given 1 := by decide +kernel
theorem ms_X5_joined : pw_ms mX5_joined 2 := by decide +kernel
theorem mv_X5_want : pw_mv mX5_want 2 := by decide +kernel
theorem mv_X5_characteristic : pw_mv mX5_characteristic 0 := by decide +kernel
theorem mv_X5_signOf : pw_mv mX5_signOf 1 := by decide +kernel
theorem ck_X4_39 : pw_cs RX4 39 mX4_checkedWord 2 := pw_cs_of (by decide +kernel) ms_X4_checkedWord
theorem ck_X4_43 : pw_cv RX4 43 mX3_markOf 1 := pw_cv_of (by decide +kernel) mv_X3_markOf
theorem ck_X4_54 : pw_cv RX4 54 mX3_take 2 := pw_cv_of (by decide +kernel) mv_X3_take
theorem ck_X4_58 : pw_cv RX4 58 mX3_count 0 := pw_cv_of (by decide +kernel) mv_X3_count
theorem ck_X3_19 : pw_cs RX3 19 mJ7_fill_53178 2 := pw_cs_of (by decide +kernel) ms_J7_fill_53178
theorem ck_X4_62 : pw_cv RX4 62 mX3_clear 0 := pw_cv_of (by decide +kernel) mv_X3_clear
theorem ck_X2_72 : pw_cs RX2 72 mJ7_fill_53178 2 := pw_cs_of (by decide +kernel) ms_J7_fill_53178
theorem ck_X2_78 : pw_cv RX2 78 mX3_markOf 1 := pw_cv_of (by decide +kernel) mv_X3_markOf
theorem ck_X2_84 : pw_cv RX2 84 mX2_leadsToBlue 1 := pw_cv_of (by decide +kernel) mv_X2_leadsToBlue
theorem ck_X2_88 : pw_cv RX2 88 mX2_nameBehind 1 := pw_cv_of (by decide +kernel) mv_X2_nameBehind
theorem ck_X2_95 : pw_cv RX2 95 mX2_addPair 2 := pw_cv_of (by decide +kernel) mv_X2_addPair
theorem ck_X2_104 : pw_cv RX2 104 mX2_layArrowOver 2 := pw_cv_of (by decide +kernel) mv_X2_layArrowOver
theorem ck_X2_98 : pw_cv RX2 98 mX2_takeBack 0 := pw_cv_of (by decide +kernel) mv_X2_takeBack
theorem ck_X2_101 : pw_cv RX2 101 mX2_layOver 2 := pw_cv_of (by decide +kernel) mv_X2_layOver
theorem ck_X2_91 : pw_cv RX2 91 mX2_merges 2 := pw_cv_of (by decide +kernel) mv_X2_merges
theorem ck_X2_56 : pw_cv RX2 56 mX2_redden 2 := pw_cv_of (by decide +kernel) mv_X2_redden
theorem ck_X2_107 : pw_cv RX2 107 mX0_resize 1 := pw_cv_of (by decide +kernel) mv_X0_resize
theorem ck_X2_112 : pw_cv RX2 112 mX0_put 4 := pw_cv_of (by decide +kernel) mv_X0_put
theorem ck_X2_52 : pw_cv RX2 52 mX2_plantTree 1 := pw_cv_of (by decide +kernel) mv_X2_plantTree
theorem ck_X2_60 : pw_cv RX2 60 mX2_firstArrowToBlue 0 := pw_cv_of (by decide +kernel) mv_X2_firstArrowToBlue
theorem ck_X2_64 : pw_cv RX2 64 mX2_settle 1 := pw_cv_of (by decide +kernel) mv_X2_settle
theorem ck_X2_68 : pw_cv RX2 68 mX2_writeTo 1 := pw_cv_of (by decide +kernel) mv_X2_writeTo
theorem ck_X4_65 : pw_cv RX4 65 mX2_run 2 := pw_cv_of (by decide +kernel) mv_X2_run
theorem ck_X4_69 : pw_cv RX4 69 mX0_count 0 := pw_cv_of (by decide +kernel) mv_X0_count
theorem ck_X4_142 : pw_cv RX4 142 mX0_has 1 := pw_cv_of (by decide +kernel) mv_X0_has
theorem ck_X4_70 : pw_cs RX4 70 mX4_checkState 2 := pw_cs_of (by decide +kernel) ms_X4_checkState
theorem ck_X4_79 : pw_cv RX4 79 mX0_arrow 2 := pw_cv_of (by decide +kernel) mv_X0_arrow
theorem ck_X4_82 : pw_cv RX4 82 mX0_markOf 1 := pw_cv_of (by decide +kernel) mv_X0_markOf
theorem ck_X0_22 : pw_cn RX0 22 mX4_lengthOf 1 := pw_cn_of ms_X4_lengthOf
theorem ck_X0_26 : pw_cv RX0 26 mX0_arrow 2 := pw_cv_of (by decide +kernel) mv_X0_arrow
theorem ck_X4_83 : pw_cv RX4 83 mX4_checkLearned 0 := pw_cv_of (by decide +kernel) mv_X4_checkLearned
theorem ck_X4_86 : pw_cv RX4 86 mX0_walk 2 := pw_cv_of (by decide +kernel) mv_X0_walk
theorem ck_X1_62 : pw_cv RX1 62 mX0_count 0 := pw_cv_of (by decide +kernel) mv_X0_count
theorem ck_X1_82 : pw_cv RX1 82 mX0_walk 2 := pw_cv_of (by decide +kernel) mv_X0_walk
theorem ck_X1_66 : pw_cv RX1 66 mX0_markOf 1 := pw_cv_of (by decide +kernel) mv_X0_markOf
theorem ck_X1_73 : pw_cs RX1 73 mJ7_fill_53178 2 := pw_cs_of (by decide +kernel) ms_J7_fill_53178
theorem ck_X1_79 : pw_cv RX1 79 mX1_splitBy 1 := pw_cv_of (by decide +kernel) mv_X1_splitBy
theorem ck_X1_42 : pw_cv RX1 42 mX0_resize 1 := pw_cv_of (by decide +kernel) mv_X0_resize
theorem ck_X1_52 : pw_cv RX1 52 mX1_splitterOfDrawn 2 := pw_cv_of (by decide +kernel) mv_X1_splitterOfDrawn
theorem ck_X1_85 : pw_cv RX1 85 mX1_openClass 2 := pw_cv_of (by decide +kernel) mv_X1_openClass
theorem ck_X1_56 : pw_cv RX1 56 mX1_findSplitters 0 := pw_cv_of (by decide +kernel) mv_X1_findSplitters
theorem ck_X1_59 : pw_cv RX1 59 mX1_findClasses 0 := pw_cv_of (by decide +kernel) mv_X1_findClasses
theorem ck_X1_70 : pw_cv RX1 70 mX0_arrow 2 := pw_cv_of (by decide +kernel) mv_X0_arrow
theorem ck_X1_45 : pw_cv RX1 45 mX0_put 4 := pw_cv_of (by decide +kernel) mv_X0_put
theorem ck_X1_49 : pw_cv RX1 49 mX1_reduce 0 := pw_cv_of (by decide +kernel) mv_X1_reduce
theorem ck_X4_94 : pw_cv RX4 94 mX1_begin 1 := pw_cv_of (by decide +kernel) mv_X1_begin
theorem ck_X4_100 : pw_cv RX4 100 mX1_drawn 0 := pw_cv_of (by decide +kernel) mv_X1_drawn
theorem ck_X4_97 : pw_cv RX4 97 mX4_checkDrafted 0 := pw_cv_of (by decide +kernel) mv_X4_checkDrafted
theorem ck_X4_104 : pw_cv RX4 104 mX1_change 4 := pw_cv_of (by decide +kernel) mv_X1_change
theorem ck_X4_108 : pw_cv RX4 108 mX1_reduced 0 := pw_cv_of (by decide +kernel) mv_X1_reduced
theorem ck_X4_150 : pw_cs RX4 150 mX4_lengthOf 1 := pw_cs_of (by decide +kernel) ms_X4_lengthOf
theorem ck_X4_111 : pw_cv RX4 111 mX1_nameOf 1 := pw_cv_of (by decide +kernel) mv_X1_nameOf
theorem ck_X4_114 : pw_cs RX4 114 mX4_codeOf 1 := pw_cs_of (by decide +kernel) ms_X4_codeOf
theorem ck_X4_117 : pw_cv RX4 117 mX1_splitterOf 2 := pw_cv_of (by decide +kernel) mv_X1_splitterOf
theorem ck_X1_92 : pw_cv RX1 92 mX1_addExample 1 := pw_cv_of (by decide +kernel) mv_X1_addExample
theorem ck_X1_95 : pw_cv RX1 95 mX1_splitterOf 2 := pw_cv_of (by decide +kernel) mv_X1_splitterOf
theorem ck_X1_98 : pw_cn RX1 98 mX4_joined 2 := pw_cn_of ms_X4_joined
theorem ck_X1_89 : pw_cv RX1 89 mX1_addExamples 2 := pw_cv_of (by decide +kernel) mv_X1_addExamples
theorem ck_X3_25 : pw_cv RX3 25 mX3_take 2 := pw_cv_of (by decide +kernel) mv_X3_take
theorem ck_X4_120 : pw_cv RX4 120 mX1_examples 0 := pw_cv_of (by decide +kernel) mv_X1_examples
theorem ck_X4_124 : pw_cv RX4 124 mX3_contradicts 1 := pw_cv_of (by decide +kernel) mv_X3_contradicts
theorem ck_X4_130 : pw_cv RX4 130 mX3_takeAll 1 := pw_cv_of (by decide +kernel) mv_X3_takeAll
theorem ck_X4_134 : pw_cv RX4 134 mX0_isLike 1 := pw_cv_of (by decide +kernel) mv_X0_isLike
theorem ck_X5_63 : pw_cs RX5 63 mX5_lengthOf 1 := pw_cs_of (by decide +kernel) ms_X5_lengthOf
theorem ck_X5_67 : pw_cs RX5 67 mX5_lettersOf 1 := pw_cs_of (by decide +kernel) ms_X5_lettersOf
theorem ck_X5_70 : pw_cs RX5 70 mX5_number 2 := pw_cs_of (by decide +kernel) ms_X5_number
theorem ck_X5_74 : pw_cs RX5 74 mX5_isWord 2 := pw_cs_of (by decide +kernel) ms_X5_isWord
theorem ck_X5_78 : pw_cv RX5 78 mX5_when 2 := pw_cv_of (by decide +kernel) mv_X5_when
theorem ck_X5_88 : pw_cs RX5 88 mX5_followed 2 := pw_cs_of (by decide +kernel) ms_X5_followed
theorem ck_X5_97 : pw_cv RX5 97 mX5_unite 2 := pw_cv_of (by decide +kernel) mv_X5_unite
theorem ck_X5_100 : pw_cv RX5 100 mX5_findTwins 0 := pw_cv_of (by decide +kernel) mv_X5_findTwins
theorem ck_X5_107 : pw_cv RX5 107 mX5_redOf 1 := pw_cv_of (by decide +kernel) mv_X5_redOf
theorem ck_X5_113 : pw_cv RX5 113 mX5_begin 0 := pw_cv_of (by decide +kernel) mv_X5_begin
theorem ck_X5_116 : pw_cv RX5 116 mX5_findBlue 0 := pw_cv_of (by decide +kernel) mv_X5_findBlue
theorem ck_X5_119 : pw_cv RX5 119 mX5_merge 2 := pw_cv_of (by decide +kernel) mv_X5_merge
theorem ck_X5_125 : pw_cv RX5 125 mX5_isState 1 := pw_cv_of (by decide +kernel) mv_X5_isState
theorem ck_X5_132 : pw_cv RX5 132 mX5_isDrafted 1 := pw_cv_of (by decide +kernel) mv_X5_isDrafted
theorem ck_X5_135 : pw_cv RX5 135 mX5_lead 2 := pw_cv_of (by decide +kernel) mv_X5_lead
theorem ck_X5_141 : pw_cv RX5 141 mX5_setsApart 2 := pw_cv_of (by decide +kernel) mv_X5_setsApart
theorem ck_X5_144 : pw_cv RX5 144 mX5_classOf 1 := pw_cv_of (by decide +kernel) mv_X5_classOf
theorem ck_X5_147 : pw_cv RX5 147 mX5_reduce 0 := pw_cv_of (by decide +kernel) mv_X5_reduce
theorem ck_X5_150 : pw_cs RX5 150 mX5_given 1 := pw_cs_of (by decide +kernel) ms_X5_given
theorem ck_X5_153 : pw_cs RX5 153 mX5_joined 2 := pw_cs_of (by decide +kernel) ms_X5_joined
theorem ck_X5_156 : pw_cv RX5 156 mX5_want 2 := pw_cv_of (by decide +kernel) mv_X5_want
theorem ck_X5_160 : pw_cv RX5 160 mX5_characteristic 0 := pw_cv_of (by decide +kernel) mv_X5_characteristic
theorem ck_X5_163 : pw_cv RX5 163 mX5_signOf 1 := pw_cv_of (by decide +kernel) mv_X5_signOf
theorem fk_X3_9 : pw_fk RX3 9 3 0 := ⟨_, _, _, rfl, by decide, by decide +kernel⟩
theorem fk_X3_15 : pw_fk RX3 15 3 1 := ⟨_, _, _, rfl, by decide, by decide +kernel⟩
theorem pk_X3_15 : ∃ C T N, vwCl[3]? = some (C, T, N) ∧ 1 < N ∧ Cond.fieldLink RX3 15 (T 1).1 (T 1).2.1 (T 1).2.2.1 ∈ pw_ws ∧ (T 1).2.2.2 = false ∧ parseFieldDescriptor (T 1).2.2.1 = some .int := ⟨_, _, _, rfl, by decide, by decide +kernel, rfl, by decide +kernel⟩
theorem fk_X4_12 : pw_fk RX4 12 4 0 := ⟨_, _, _, rfl, by decide, by decide +kernel⟩
theorem fk_X2_15 : pw_fk RX2 15 2 1 := ⟨_, _, _, rfl, by decide, by decide +kernel⟩
theorem fk_X2_24 : pw_fk RX2 24 2 4 := ⟨_, _, _, rfl, by decide, by decide +kernel⟩
theorem pk_X2_27 : ∃ C T N, vwCl[2]? = some (C, T, N) ∧ 5 < N ∧ Cond.fieldLink RX2 27 (T 5).1 (T 5).2.1 (T 5).2.2.1 ∈ pw_ws ∧ (T 5).2.2.2 = false ∧ parseFieldDescriptor (T 5).2.2.1 = some .int := ⟨_, _, _, rfl, by decide, by decide +kernel, rfl, by decide +kernel⟩
theorem fk_X2_9 : pw_fk RX2 9 2 0 := ⟨_, _, _, rfl, by decide, by decide +kernel⟩
theorem fk_X2_18 : pw_fk RX2 18 2 2 := ⟨_, _, _, rfl, by decide, by decide +kernel⟩
theorem fk_X2_27 : pw_fk RX2 27 2 5 := ⟨_, _, _, rfl, by decide, by decide +kernel⟩
theorem fk_X2_21 : pw_fk RX2 21 2 3 := ⟨_, _, _, rfl, by decide, by decide +kernel⟩
theorem fk_X2_31 : pw_fk RX2 31 2 6 := ⟨_, _, _, rfl, by decide, by decide +kernel⟩
theorem fk_X2_37 : pw_fk RX2 37 2 8 := ⟨_, _, _, rfl, by decide, by decide +kernel⟩
theorem fk_X2_34 : pw_fk RX2 34 2 7 := ⟨_, _, _, rfl, by decide, by decide +kernel⟩
theorem pk_X2_37 : ∃ C T N, vwCl[2]? = some (C, T, N) ∧ 8 < N ∧ Cond.fieldLink RX2 37 (T 8).1 (T 8).2.1 (T 8).2.2.1 ∈ pw_ws ∧ (T 8).2.2.2 = false ∧ parseFieldDescriptor (T 8).2.2.1 = some .int := ⟨_, _, _, rfl, by decide, by decide +kernel, rfl, by decide +kernel⟩
theorem fk_X2_43 : pw_fk RX2 43 2 10 := ⟨_, _, _, rfl, by decide, by decide +kernel⟩
theorem fk_X2_40 : pw_fk RX2 40 2 9 := ⟨_, _, _, rfl, by decide, by decide +kernel⟩
theorem fk_X2_49 : pw_fk RX2 49 2 12 := ⟨_, _, _, rfl, by decide, by decide +kernel⟩
theorem fk_X2_46 : pw_fk RX2 46 2 11 := ⟨_, _, _, rfl, by decide, by decide +kernel⟩
theorem pk_X2_49 : ∃ C T N, vwCl[2]? = some (C, T, N) ∧ 12 < N ∧ Cond.fieldLink RX2 49 (T 12).1 (T 12).2.1 (T 12).2.2.1 ∈ pw_ws ∧ (T 12).2.2.2 = false ∧ parseFieldDescriptor (T 12).2.2.1 = some .int := ⟨_, _, _, rfl, by decide, by decide +kernel, rfl, by decide +kernel⟩
theorem pk_X2_43 : ∃ C T N, vwCl[2]? = some (C, T, N) ∧ 10 < N ∧ Cond.fieldLink RX2 43 (T 10).1 (T 10).2.1 (T 10).2.2.1 ∈ pw_ws ∧ (T 10).2.2.2 = false ∧ parseFieldDescriptor (T 10).2.2.1 = some .int := ⟨_, _, _, rfl, by decide, by decide +kernel, rfl, by decide +kernel⟩
theorem pk_X0_9 : ∃ C T N, vwCl[0]? = some (C, T, N) ∧ 2 < N ∧ Cond.fieldLink RX0 9 (T 2).1 (T 2).2.1 (T 2).2.2.1 ∈ pw_ws ∧ (T 2).2.2.2 = false ∧ parseFieldDescriptor (T 2).2.2.1 = some .int := ⟨_, _, _, rfl, by decide, by decide +kernel, rfl, by decide +kernel⟩
theorem fk_X0_15 : pw_fk RX0 15 0 0 := ⟨_, _, _, rfl, by decide, by decide +kernel⟩
theorem fk_X0_19 : pw_fk RX0 19 0 1 := ⟨_, _, _, rfl, by decide, by decide +kernel⟩
theorem fk_X0_9 : pw_fk RX0 9 0 2 := ⟨_, _, _, rfl, by decide, by decide +kernel⟩
theorem fk_X4_19 : pw_fk RX4 19 4 1 := ⟨_, _, _, rfl, by decide, by decide +kernel⟩
theorem fk_X4_28 : pw_fk RX4 28 4 2 := ⟨_, _, _, rfl, by decide, by decide +kernel⟩
theorem fk_X1_14 : pw_fk RX1 14 1 0 := ⟨_, _, _, rfl, by decide, by decide +kernel⟩
theorem fk_X1_27 : pw_fk RX1 27 1 3 := ⟨_, _, _, rfl, by decide, by decide +kernel⟩
theorem fk_X1_23 : pw_fk RX1 23 1 2 := ⟨_, _, _, rfl, by decide, by decide +kernel⟩
theorem fk_X1_20 : pw_fk RX1 20 1 1 := ⟨_, _, _, rfl, by decide, by decide +kernel⟩
theorem fk_X1_33 : pw_fk RX1 33 1 5 := ⟨_, _, _, rfl, by decide, by decide +kernel⟩
theorem fk_X1_36 : pw_fk RX1 36 1 6 := ⟨_, _, _, rfl, by decide, by decide +kernel⟩
theorem fk_X1_30 : pw_fk RX1 30 1 4 := ⟨_, _, _, rfl, by decide, by decide +kernel⟩
theorem fk_X4_35 : pw_fk RX4 35 4 3 := ⟨_, _, _, rfl, by decide, by decide +kernel⟩
theorem fk_X1_39 : pw_fk RX1 39 1 7 := ⟨_, _, _, rfl, by decide, by decide +kernel⟩
theorem fk_X5_59 : pw_fk RX5 59 5 0 := ⟨_, _, _, rfl, by decide, by decide +kernel⟩
theorem pk_X5_59 : ∃ C T N, vwCl[5]? = some (C, T, N) ∧ 0 < N ∧ Cond.fieldLink RX5 59 (T 0).1 (T 0).2.1 (T 0).2.2.1 ∈ pw_ws ∧ (T 0).2.2.2 = false ∧ parseFieldDescriptor (T 0).2.2.1 = some .int := ⟨_, _, _, rfl, by decide, by decide +kernel, rfl, by decide +kernel⟩
theorem fk_X5_7 : pw_fk RX5 7 5 2 := ⟨_, _, _, rfl, by decide, by decide +kernel⟩
theorem fk_X5_82 : pw_fk RX5 82 5 1 := ⟨_, _, _, rfl, by decide, by decide +kernel⟩
theorem pk_X5_82 : ∃ C T N, vwCl[5]? = some (C, T, N) ∧ 1 < N ∧ Cond.fieldLink RX5 82 (T 1).1 (T 1).2.1 (T 1).2.2.1 ∈ pw_ws ∧ (T 1).2.2.2 = false ∧ parseFieldDescriptor (T 1).2.2.1 = some .int := ⟨_, _, _, rfl, by decide, by decide +kernel, rfl, by decide +kernel⟩
theorem fk_X5_13 : pw_fk RX5 13 5 3 := ⟨_, _, _, rfl, by decide, by decide +kernel⟩
theorem fk_X5_17 : pw_fk RX5 17 5 4 := ⟨_, _, _, rfl, by decide, by decide +kernel⟩
theorem fk_X5_20 : pw_fk RX5 20 5 5 := ⟨_, _, _, rfl, by decide, by decide +kernel⟩
theorem pk_X5_85 : ∃ C T N, vwCl[5]? = some (C, T, N) ∧ 9 < N ∧ Cond.fieldLink RX5 85 (T 9).1 (T 9).2.1 (T 9).2.2.1 ∈ pw_ws ∧ (T 9).2.2.2 = false ∧ parseFieldDescriptor (T 9).2.2.1 = some .int := ⟨_, _, _, rfl, by decide, by decide +kernel, rfl, by decide +kernel⟩
theorem fk_X5_32 : pw_fk RX5 32 5 10 := ⟨_, _, _, rfl, by decide, by decide +kernel⟩
theorem fk_X5_35 : pw_fk RX5 35 5 11 := ⟨_, _, _, rfl, by decide, by decide +kernel⟩
theorem fk_X5_26 : pw_fk RX5 26 5 7 := ⟨_, _, _, rfl, by decide, by decide +kernel⟩
theorem fk_X5_23 : pw_fk RX5 23 5 6 := ⟨_, _, _, rfl, by decide, by decide +kernel⟩
theorem fk_X5_29 : pw_fk RX5 29 5 8 := ⟨_, _, _, rfl, by decide, by decide +kernel⟩
theorem pk_X5_91 : ∃ C T N, vwCl[5]? = some (C, T, N) ∧ 24 < N ∧ Cond.fieldLink RX5 91 (T 24).1 (T 24).2.1 (T 24).2.2.1 ∈ pw_ws ∧ (T 24).2.2.2 = false ∧ parseFieldDescriptor (T 24).2.2.1 = some .int := ⟨_, _, _, rfl, by decide, by decide +kernel, rfl, by decide +kernel⟩
theorem pk_X5_94 : ∃ C T N, vwCl[5]? = some (C, T, N) ∧ 25 < N ∧ Cond.fieldLink RX5 94 (T 25).1 (T 25).2.1 (T 25).2.2.1 ∈ pw_ws ∧ (T 25).2.2.2 = false ∧ parseFieldDescriptor (T 25).2.2.1 = some .int := ⟨_, _, _, rfl, by decide, by decide +kernel, rfl, by decide +kernel⟩
theorem fk_X5_91 : pw_fk RX5 91 5 24 := ⟨_, _, _, rfl, by decide, by decide +kernel⟩
theorem fk_X5_94 : pw_fk RX5 94 5 25 := ⟨_, _, _, rfl, by decide, by decide +kernel⟩
theorem fk_X5_85 : pw_fk RX5 85 5 9 := ⟨_, _, _, rfl, by decide, by decide +kernel⟩
theorem pk_X5_104 : ∃ C T N, vwCl[5]? = some (C, T, N) ∧ 13 < N ∧ Cond.fieldLink RX5 104 (T 13).1 (T 13).2.1 (T 13).2.2.1 ∈ pw_ws ∧ (T 13).2.2.2 = false ∧ parseFieldDescriptor (T 13).2.2.1 = some .int := ⟨_, _, _, rfl, by decide, by decide +kernel, rfl, by decide +kernel⟩
theorem fk_X5_104 : pw_fk RX5 104 5 13 := ⟨_, _, _, rfl, by decide, by decide +kernel⟩
theorem fk_X5_110 : pw_fk RX5 110 5 12 := ⟨_, _, _, rfl, by decide, by decide +kernel⟩
theorem pk_X5_110 : ∃ C T N, vwCl[5]? = some (C, T, N) ∧ 12 < N ∧ Cond.fieldLink RX5 110 (T 12).1 (T 12).2.1 (T 12).2.2.1 ∈ pw_ws ∧ (T 12).2.2.2 = false ∧ parseFieldDescriptor (T 12).2.2.1 = some .int := ⟨_, _, _, rfl, by decide, by decide +kernel, rfl, by decide +kernel⟩
theorem pk_X5_122 : ∃ C T N, vwCl[5]? = some (C, T, N) ∧ 14 < N ∧ Cond.fieldLink RX5 122 (T 14).1 (T 14).2.1 (T 14).2.2.1 ∈ pw_ws ∧ (T 14).2.2.2 = false ∧ parseFieldDescriptor (T 14).2.2.1 = some .int := ⟨_, _, _, rfl, by decide, by decide +kernel, rfl, by decide +kernel⟩
theorem fk_X5_41 : pw_fk RX5 41 5 16 := ⟨_, _, _, rfl, by decide, by decide +kernel⟩
theorem fk_X5_38 : pw_fk RX5 38 5 15 := ⟨_, _, _, rfl, by decide, by decide +kernel⟩
theorem fk_X5_122 : pw_fk RX5 122 5 14 := ⟨_, _, _, rfl, by decide, by decide +kernel⟩
theorem pk_X5_129 : ∃ C T N, vwCl[5]? = some (C, T, N) ∧ 17 < N ∧ Cond.fieldLink RX5 129 (T 17).1 (T 17).2.1 (T 17).2.2.1 ∈ pw_ws ∧ (T 17).2.2.2 = false ∧ parseFieldDescriptor (T 17).2.2.1 = some .int := ⟨_, _, _, rfl, by decide, by decide +kernel, rfl, by decide +kernel⟩
theorem fk_X5_44 : pw_fk RX5 44 5 18 := ⟨_, _, _, rfl, by decide, by decide +kernel⟩
theorem fk_X5_47 : pw_fk RX5 47 5 19 := ⟨_, _, _, rfl, by decide, by decide +kernel⟩
theorem fk_X5_129 : pw_fk RX5 129 5 17 := ⟨_, _, _, rfl, by decide, by decide +kernel⟩
theorem fk_X5_138 : pw_fk RX5 138 5 20 := ⟨_, _, _, rfl, by decide, by decide +kernel⟩
theorem fk_X5_50 : pw_fk RX5 50 5 21 := ⟨_, _, _, rfl, by decide, by decide +kernel⟩
theorem pk_X5_138 : ∃ C T N, vwCl[5]? = some (C, T, N) ∧ 20 < N ∧ Cond.fieldLink RX5 138 (T 20).1 (T 20).2.1 (T 20).2.2.1 ∈ pw_ws ∧ (T 20).2.2.2 = false ∧ parseFieldDescriptor (T 20).2.2.1 = some .int := ⟨_, _, _, rfl, by decide, by decide +kernel, rfl, by decide +kernel⟩
theorem fk_X5_53 : pw_fk RX5 53 5 22 := ⟨_, _, _, rfl, by decide, by decide +kernel⟩
theorem fk_X5_56 : pw_fk RX5 56 5 23 := ⟨_, _, _, rfl, by decide, by decide +kernel⟩
end
section
section PWG
variable {g : pw_G} {M : pw_M} {pc : Nat} {lv : List (Nat × Value)} {st : List Value} {u : Nat} {σ : pw_Mem} {Q : pw_R → Prop}
theorem wp_getR1 (k0 k1 : Nat) {idx f ci o : Nat} (d : decode (pw_cc M) pc = .ok (.getfield idx, 3)) (hk : pw_kd k0 = ci) (hf : pw_fk (pw_y M).cls idx ci f) (ho : (pw_off ci)[f]? = some (o + 1)) (h1 : k0 + (o + 1) = k1) (k : WP g M (pc + 3) lv (.ref (pw_ad g k1) :: st) u σ Q) : WP g M pc lv (.ref (pw_ad g k0) :: st) u σ Q := by
  subst h1
  exact wp_getR k0 d hk hf ho k
def pw_bool (x : Int32) : Prop := x = 0 ∨ x = 1
theorem pw_nb {x : Int32} (h : pw_bool x) : narrow .boolean (.int x) = .int x := by
  rcases h with rfl | rfl <;> decide
end PWG

set_option maxRecDepth 20000 in
theorem bX0_count_0 {g : pw_G} {σ : pw_Mem} {Q : pw_R → Prop} {k : Nat} (hk0 : pw_kd k = 0) (hk1 : pw_kd (k + 1) = 6) (hk2 : pw_kd (k + 2) = 6) (h1 : Q (.inl (some (.int (σ k 2))), σ)) : WP g mX0_count 0 [(0, .ref (pw_ad g k))] [] 0 σ Q := by
  refine wp_aload_n (pc := 0) 0 dX0_count_0 rfl rfl ?_
  refine wp_getI (pc := 1) k dX0_count_1 hk0 fk_X0_9 rfl ?_
  exact wp_ireturn (pc := 4) dX0_count_4 rfl rfl (Nat.le_of_ble_eq_true rfl) (h1)
set_option maxRecDepth 20000 in
theorem bX0_resize_0 {g : pw_G} {σ : pw_Mem} {Q : pw_R → Prop} {x1 : Int32} {k : Nat} (hk0 : pw_kd k = 0) (hk1 : pw_kd (k + 1) = 6) (hk2 : pw_kd (k + 2) = 6) (h1 : Q (.inl none, (pw_set σ k 2 x1))) : WP g mX0_resize 0 [(0, .ref (pw_ad g k)), (1, .int x1)] [] 0 σ Q := by
  refine wp_aload_n (pc := 0) 0 dX0_resize_0 rfl rfl ?_
  refine wp_iload_n (pc := 1) 1 dX0_resize_1 rfl rfl ?_
  refine wp_putI (pc := 2) k dX0_resize_2 hk0 pk_X0_9 rfl ?_
  exact wp_return (pc := 5) dX0_resize_5 rfl (Nat.le_of_ble_eq_true rfl) (h1)
set_option maxRecDepth 20000 in
theorem bX0_has_0 {g : pw_G} {σ : pw_Mem} {Q : pw_R → Prop} {x1 : Int32} {k : Nat} (hk0 : pw_kd k = 0) (hk1 : pw_kd (k + 1) = 6) (hk2 : pw_kd (k + 2) = 6) (h1 : x1 < 0 → Q (.inl (some (.int 0)), σ)) (h2 : ¬ x1 < 0 → (σ k 2) ≤ x1 → Q (.inl (some (.int 0)), σ)) (h3 : ¬ x1 < 0 → ¬ (σ k 2) ≤ x1 → Q (.inl (some (.int 1)), σ)) : WP g mX0_has 0 [(0, .ref (pw_ad g k)), (1, .int x1)] [] 0 σ Q := by
  refine wp_iload_n (pc := 0) 1 dX0_has_0 rfl rfl ?_
  refine wp_if_lt (pc := 1) (tgt := 16) dX0_has_1 (by decide) (fun c1 => ?_) (fun c1 => ?_)
  ·
    refine wp_iconst (pc := 16) (v := 0) dX0_has_16 (by decide) ?_
    exact wp_ireturn (pc := 17) dX0_has_17 rfl (by decide) (Nat.le_of_ble_eq_true rfl) (h1 c1)
  ·
    refine wp_iload_n (pc := 4) 1 dX0_has_4 rfl rfl ?_
    refine wp_aload_n (pc := 5) 0 dX0_has_5 rfl rfl ?_
    refine wp_getI (pc := 6) k dX0_has_6 hk0 fk_X0_9 rfl ?_
    refine wp_icmp_ge (pc := 9) (tgt := 16) dX0_has_9 (by decide) (fun c9 => ?_) (fun c9 => ?_)
    ·
      refine wp_iconst (pc := 16) (v := 0) dX0_has_16 (by decide) ?_
      exact wp_ireturn (pc := 17) dX0_has_17 rfl (by decide) (Nat.le_of_ble_eq_true rfl) (h2 c1 c9)
    ·
      refine wp_iconst (pc := 12) (v := 1) dX0_has_12 (by decide) ?_
      refine wp_goto (pc := 13) (tgt := 17) dX0_has_13 (by decide) ?_
      exact wp_ireturn (pc := 17) dX0_has_17 rfl (by decide) (Nat.le_of_ble_eq_true rfl) (h3 c1 c9)
set_option maxRecDepth 20000 in
theorem bX0_markOf_0 {g : pw_G} {σ : pw_Mem} {Q : pw_R → Prop} {x1 : Int32} {k : Nat} (hk0 : pw_kd k = 0) (hk1 : pw_kd (k + 1) = 6) (hk2 : pw_kd (k + 2) = 6) (h1 : vp_in x1 (pw_ln (k + 1))) (h2 : Q (.inl (some (.int (σ (k + 1) (x1).toNatClampNeg))), σ)) : WP g mX0_markOf 0 [(0, .ref (pw_ad g k)), (1, .int x1)] [] 0 σ Q := by
  refine wp_aload_n (pc := 0) 0 dX0_markOf_0 rfl rfl ?_
  refine wp_getR1 (pc := 1) k (k + 1) (o := 0) dX0_markOf_1 hk0 fk_X0_15 rfl rfl ?_
  refine wp_iload_n (pc := 4) 1 dX0_markOf_4 rfl rfl ?_
  refine wp_iaload (pc := 5) (k + 1) dX0_markOf_5 hk1 (h1) ?_
  exact wp_ireturn (pc := 6) dX0_markOf_6 rfl rfl (Nat.le_of_ble_eq_true rfl) (h2)
set_option maxRecDepth 20000 in
theorem bX0_arrow_0 {g : pw_G} {σ : pw_Mem} {Q : pw_R → Prop} {x1 x2 : Int32} {k : Nat} (hk0 : pw_kd k = 0) (hk1 : pw_kd (k + 1) = 6) (hk2 : pw_kd (k + 2) = 6) (h1 : vp_in ((2 * x1) + x2) (pw_ln (k + 2))) (h2 : Q (.inl (some (.int (σ (k + 2) (((2 * x1) + x2)).toNatClampNeg))), σ)) : WP g mX0_arrow 0 [(0, .ref (pw_ad g k)), (1, .int x1), (2, .int x2)] [] 0 σ Q := by
  refine wp_aload_n (pc := 0) 0 dX0_arrow_0 rfl rfl ?_
  refine wp_getR1 (pc := 1) k (k + 2) (o := 1) dX0_arrow_1 hk0 fk_X0_19 rfl rfl ?_
  refine wp_iconst (pc := 4) (v := 2) dX0_arrow_4 (by decide) ?_
  refine wp_iload_n (pc := 5) 1 dX0_arrow_5 rfl rfl ?_
  refine wp_imul (pc := 6) dX0_arrow_6 ?_
  refine wp_iload_n (pc := 7) 2 dX0_arrow_7 rfl rfl ?_
  refine wp_iadd (pc := 8) dX0_arrow_8 ?_
  refine wp_iaload (pc := 9) (k + 2) dX0_arrow_9 hk2 (h1) ?_
  exact wp_ireturn (pc := 10) dX0_arrow_10 rfl rfl (Nat.le_of_ble_eq_true rfl) (h2)
set_option maxRecDepth 20000 in
theorem bX0_put_0 {g : pw_G} {σ : pw_Mem} {Q : pw_R → Prop} {x1 x2 x3 x4 : Int32} {k : Nat} (hk0 : pw_kd k = 0) (hk1 : pw_kd (k + 1) = 6) (hk2 : pw_kd (k + 2) = 6) (h1 : vp_in x1 (pw_ln (k + 1))) (h2 : vp_in (2 * x1) (pw_ln (k + 2))) (h3 : vp_in ((2 * x1) + 1) (pw_ln (k + 2))) (h4 : Q (.inl none, (pw_set (pw_set (pw_set σ (k + 1) (x1).toNatClampNeg x2) (k + 2) ((2 * x1)).toNatClampNeg x3) (k + 2) (((2 * x1) + 1)).toNatClampNeg x4))) : WP g mX0_put 0 [(0, .ref (pw_ad g k)), (1, .int x1), (2, .int x2), (3, .int x3), (4, .int x4)] [] 0 σ Q := by
  refine wp_aload_n (pc := 0) 0 dX0_put_0 rfl rfl ?_
  refine wp_getR1 (pc := 1) k (k + 1) (o := 0) dX0_put_1 hk0 fk_X0_15 rfl rfl ?_
  refine wp_iload_n (pc := 4) 1 dX0_put_4 rfl rfl ?_
  refine wp_iload_n (pc := 5) 2 dX0_put_5 rfl rfl ?_
  refine wp_iastore (pc := 6) (k + 1) dX0_put_6 hk1 (h1) ?_
  refine wp_aload_n (pc := 7) 0 dX0_put_7 rfl rfl ?_
  refine wp_getR1 (pc := 8) k (k + 2) (o := 1) dX0_put_8 hk0 fk_X0_19 rfl rfl ?_
  refine wp_iconst (pc := 11) (v := 2) dX0_put_11 (by decide) ?_
  refine wp_iload_n (pc := 12) 1 dX0_put_12 rfl rfl ?_
  refine wp_imul (pc := 13) dX0_put_13 ?_
  refine wp_iload_n (pc := 14) 3 dX0_put_14 rfl rfl ?_
  refine wp_iastore (pc := 15) (k + 2) dX0_put_15 hk2 (h2) ?_
  refine wp_aload_n (pc := 16) 0 dX0_put_16 rfl rfl ?_
  refine wp_getR1 (pc := 17) k (k + 2) (o := 1) dX0_put_17 hk0 fk_X0_19 rfl rfl ?_
  refine wp_iconst (pc := 20) (v := 2) dX0_put_20 (by decide) ?_
  refine wp_iload_n (pc := 21) 1 dX0_put_21 rfl rfl ?_
  refine wp_imul (pc := 22) dX0_put_22 ?_
  refine wp_iconst (pc := 23) (v := 1) dX0_put_23 (by decide) ?_
  refine wp_iadd (pc := 24) dX0_put_24 ?_
  refine wp_iload (pc := 25) 4 dX0_put_25 rfl ?_
  refine wp_iastore (pc := 27) (k + 2) dX0_put_27 hk2 (h3) ?_
  exact wp_return (pc := 28) dX0_put_28 rfl (Nat.le_of_ble_eq_true rfl) (h4)
set_option maxRecDepth 20000 in
theorem bX0_walk_0 {g : pw_G} {σ : pw_Mem} {Q : pw_R → Prop} {x1 x2 : Int32} {k : Nat} (hk0 : pw_kd k = 0) (hk1 : pw_kd (k + 1) = 6) (hk2 : pw_kd (k + 2) = 6) (h1 : WP g mX0_walk 3 [(0, .ref (pw_ad g k)), (1, .int x1), (2, .int x2), (3, .int x1)] [.int x2] 0 σ Q) : WP g mX0_walk 0 [(0, .ref (pw_ad g k)), (1, .int x1), (2, .int x2)] [] 0 σ Q := by
  refine wp_iload_n (pc := 0) 1 dX0_walk_0 rfl rfl ?_
  refine wp_istore_n (pc := 1) (lv' := [(0, .ref (pw_ad g k)), (1, .int x1), (2, .int x2), (3, .int x1)]) dX0_walk_1 rfl (by decide) rfl ?_
  refine wp_iload_n (pc := 2) 2 dX0_walk_2 rfl rfl ?_
  exact h1
set_option maxRecDepth 20000 in
theorem bX0_walk_6 {g : pw_G} {σ : pw_Mem} {Q : pw_R → Prop} {s0 x1 x2 x3 : Int32} {k : Nat} (hk0 : pw_kd k = 0) (hk1 : pw_kd (k + 1) = 6) (hk2 : pw_kd (k + 2) = 6) (h1 : WP g mX0_walk 10 [(0, .ref (pw_ad g k)), (1, .int x1), (2, .int x2), (3, .int x3), (4, .int (s0 - 1))] [] 0 σ Q) : WP g mX0_walk 6 [(0, .ref (pw_ad g k)), (1, .int x1), (2, .int x2), (3, .int x3)] [.int s0] 0 σ Q := by
  refine wp_iconst (pc := 6) (v := 1) dX0_walk_6 (by decide) ?_
  refine wp_isub (pc := 7) dX0_walk_7 ?_
  refine wp_istore (pc := 8) (lv' := [(0, .ref (pw_ad g k)), (1, .int x1), (2, .int x2), (3, .int x3), (4, .int (s0 - 1))]) dX0_walk_8 (by decide) rfl ?_
  exact h1
set_option maxRecDepth 20000 in
theorem bX0_walk_10 {g : pw_G} {σ : pw_Mem} {Q : pw_R → Prop} {x1 x2 x3 x4 : Int32} {k : Nat} (hk0 : pw_kd k = 0) (hk1 : pw_kd (k + 1) = 6) (hk2 : pw_kd (k + 2) = 6) (h1 : x4 < 0 → Q (.inl (some (.int x3)), σ)) (h2 : ¬ x4 < 0 → x3 = (-1) → Q (.inl (some (.int x3)), σ)) (h3 : ¬ x4 < 0 → ¬ x3 = (-1) → WP g mX0_arrow 0 [(0, .ref (pw_ad g k)), (1, .int x3), (2, .int ((x2 >>> (x4 &&& 31)) &&& 1))] [] 0 σ (pw_k g mX0_walk 31 [(0, .ref (pw_ad g k)), (1, .int x1), (2, .int x2), (3, .int x3), (4, .int x4)] [] 0 Q)) : WP g mX0_walk 10 [(0, .ref (pw_ad g k)), (1, .int x1), (2, .int x2), (3, .int x3), (4, .int x4)] [] 0 σ Q := by
  refine wp_iload (pc := 10) 4 dX0_walk_10 rfl ?_
  refine wp_if_lt (pc := 12) (tgt := 38) dX0_walk_12 (by decide) (fun c12 => ?_) (fun c12 => ?_)
  ·
    refine wp_iload_n (pc := 38) 3 dX0_walk_38 rfl rfl ?_
    exact wp_ireturn (pc := 39) dX0_walk_39 rfl rfl (Nat.le_of_ble_eq_true rfl) (h1 c12)
  ·
    refine wp_iload_n (pc := 15) 3 dX0_walk_15 rfl rfl ?_
    refine wp_iconst (pc := 16) (v := (-1)) dX0_walk_16 (by decide) ?_
    refine wp_icmp_eq (pc := 17) (tgt := 38) dX0_walk_17 (by decide) (fun c17 => ?_) (fun c17 => ?_)
    ·
      refine wp_iload_n (pc := 38) 3 dX0_walk_38 rfl rfl ?_
      exact wp_ireturn (pc := 39) dX0_walk_39 rfl rfl (Nat.le_of_ble_eq_true rfl) (h2 c12 c17)
    ·
      refine wp_aload_n (pc := 20) 0 dX0_walk_20 rfl rfl ?_
      refine wp_iload_n (pc := 21) 3 dX0_walk_21 rfl rfl ?_
      refine wp_iload_n (pc := 22) 2 dX0_walk_22 rfl rfl ?_
      refine wp_iload (pc := 23) 4 dX0_walk_23 rfl ?_
      refine wp_ishr (pc := 25) dX0_walk_25 ?_
      refine wp_iconst (pc := 26) (v := 1) dX0_walk_26 (by decide) ?_
      refine wp_iand (pc := 27) dX0_walk_27 ?_
      refine wp_callV (pc := 28) (M' := mX0_arrow) k [.int x3, .int ((x2 >>> (x4 &&& 31)) &&& 1)] [] dX0_walk_28 ck_X0_26 hk0 rfl ⟨Nat.le_of_ble_eq_true rfl, Nat.le_of_ble_eq_true rfl⟩ rfl (Nat.le_of_ble_eq_true rfl) (Nat.le_of_ble_eq_true rfl) (Nat.le_of_ble_eq_true rfl) rfl ?_
      exact h3 c12 c17
set_option maxRecDepth 20000 in
theorem bX0_walk_31 {g : pw_G} {σ : pw_Mem} {Q : pw_R → Prop} {s9 x1 x2 x3 x4 : Int32} {k : Nat} (hk0 : pw_kd k = 0) (hk1 : pw_kd (k + 1) = 6) (hk2 : pw_kd (k + 2) = 6) (h1 : WP g mX0_walk 10 [(0, .ref (pw_ad g k)), (1, .int x1), (2, .int x2), (3, .int s9), (4, .int (x4 + (-1)))] [] 0 σ Q) : WP g mX0_walk 31 [(0, .ref (pw_ad g k)), (1, .int x1), (2, .int x2), (3, .int x3), (4, .int x4)] [.int s9] 0 σ Q := by
  refine wp_istore_n (pc := 31) (lv' := [(0, .ref (pw_ad g k)), (1, .int x1), (2, .int x2), (3, .int s9), (4, .int x4)]) dX0_walk_31 rfl (by decide) rfl ?_
  refine wp_iinc (pc := 32) (v := (x4 + (-1))) (lv' := [(0, .ref (pw_ad g k)), (1, .int x1), (2, .int x2), (3, .int s9), (4, .int (x4 + (-1)))]) 4 dX0_walk_32 rfl rfl (by decide) rfl ?_
  refine wp_goto (pc := 35) (tgt := 10) dX0_walk_35 (by decide) ?_
  exact h1
set_option maxRecDepth 20000 in
theorem bX0_isLike_0 {g : pw_G} {σ : pw_Mem} {Q : pw_R → Prop} (h1 : (σ 13 2) = (σ 20 2) → WP g mX0_isLike 15 [(0, .ref (pw_ad g 13)), (1, .ref (pw_ad g 20)), (2, .int 0)] [] 0 σ Q) (h2 : ¬ (σ 13 2) = (σ 20 2) → Q (.inl (some (.int 0)), σ)) : WP g mX0_isLike 0 [(0, .ref (pw_ad g 13)), (1, .ref (pw_ad g 20))] [] 0 σ Q := by
  refine wp_aload_n (pc := 0) 0 dX0_isLike_0 rfl rfl ?_
  refine wp_getI (pc := 1) 13 dX0_isLike_1 rfl fk_X0_9 rfl ?_
  refine wp_aload_n (pc := 4) 1 dX0_isLike_4 rfl rfl ?_
  refine wp_getI (pc := 5) 20 dX0_isLike_5 rfl fk_X0_9 rfl ?_
  refine wp_icmp_eq (pc := 8) (tgt := 13) dX0_isLike_8 (by decide) (fun c8 => ?_) (fun c8 => ?_)
  ·
    refine wp_iconst (pc := 13) (v := 0) dX0_isLike_13 (by decide) ?_
    refine wp_istore_n (pc := 14) (lv' := [(0, .ref (pw_ad g 13)), (1, .ref (pw_ad g 20)), (2, .int 0)]) dX0_isLike_14 rfl (by decide) rfl ?_
    exact h1 c8
  ·
    refine wp_iconst (pc := 11) (v := 0) dX0_isLike_11 (by decide) ?_
    exact wp_ireturn (pc := 12) dX0_isLike_12 rfl (by decide) (Nat.le_of_ble_eq_true rfl) (h2 c8)
set_option maxRecDepth 20000 in
theorem bX0_isLike_15 {g : pw_G} {σ : pw_Mem} {Q : pw_R → Prop} {x2 : Int32} (h1 : (σ 13 2) ≤ x2 → Q (.inl (some (.int 1)), σ)) (h2 : ¬ (σ 13 2) ≤ x2 → vp_in x2 512) (h3 : ¬ (σ 13 2) ≤ x2 → vp_in x2 5) (h4 : ¬ (σ 13 2) ≤ x2 → ¬ (σ 14 (x2).toNatClampNeg) = (σ 21 (x2).toNatClampNeg) → Q (.inl (some (.int 0)), σ)) (h5 : ¬ (σ 13 2) ≤ x2 → (σ 14 (x2).toNatClampNeg) = (σ 21 (x2).toNatClampNeg) → WP g mX0_arrow 0 [(0, .ref (pw_ad g 13)), (1, .int x2), (2, .int 0)] [] 0 σ (pw_k g mX0_isLike 44 [(0, .ref (pw_ad g 13)), (1, .ref (pw_ad g 20)), (2, .int x2)] [] 0 Q)) : WP g mX0_isLike 15 [(0, .ref (pw_ad g 13)), (1, .ref (pw_ad g 20)), (2, .int x2)] [] 0 σ Q := by
  refine wp_iload_n (pc := 15) 2 dX0_isLike_15 rfl rfl ?_
  refine wp_aload_n (pc := 16) 0 dX0_isLike_16 rfl rfl ?_
  refine wp_getI (pc := 17) 13 dX0_isLike_17 rfl fk_X0_9 rfl ?_
  refine wp_icmp_ge (pc := 20) (tgt := 76) dX0_isLike_20 (by decide) (fun c20 => ?_) (fun c20 => ?_)
  ·
    refine wp_iconst (pc := 76) (v := 1) dX0_isLike_76 (by decide) ?_
    exact wp_ireturn (pc := 77) dX0_isLike_77 rfl (by decide) (Nat.le_of_ble_eq_true rfl) (h1 c20)
  ·
    refine wp_aload_n (pc := 23) 0 dX0_isLike_23 rfl rfl ?_
    refine wp_getR1 (pc := 24) 13 14 (o := 0) dX0_isLike_24 rfl fk_X0_15 rfl rfl ?_
    refine wp_iload_n (pc := 27) 2 dX0_isLike_27 rfl rfl ?_
    refine wp_iaload (pc := 28) 14 dX0_isLike_28 rfl (h2 c20) ?_
    refine wp_aload_n (pc := 29) 1 dX0_isLike_29 rfl rfl ?_
    refine wp_getR1 (pc := 30) 20 21 (o := 0) dX0_isLike_30 rfl fk_X0_15 rfl rfl ?_
    refine wp_iload_n (pc := 33) 2 dX0_isLike_33 rfl rfl ?_
    refine wp_iaload (pc := 34) 21 dX0_isLike_34 rfl (h3 c20) ?_
    refine wp_icmp_ne (pc := 35) (tgt := 68) dX0_isLike_35 (by decide) (fun c35 => ?_) (fun c35 => ?_)
    ·
      refine wp_iconst (pc := 68) (v := 0) dX0_isLike_68 (by decide) ?_
      exact wp_ireturn (pc := 69) dX0_isLike_69 rfl (by decide) (Nat.le_of_ble_eq_true rfl) (h4 c20 c35)
    ·
      refine wp_aload_n (pc := 38) 0 dX0_isLike_38 rfl rfl ?_
      refine wp_iload_n (pc := 39) 2 dX0_isLike_39 rfl rfl ?_
      refine wp_iconst (pc := 40) (v := 0) dX0_isLike_40 (by decide) ?_
      refine wp_callV (pc := 41) (M' := mX0_arrow) 13 [.int x2, .int 0] [] dX0_isLike_41 ck_X0_26 rfl rfl ⟨Nat.le_of_ble_eq_true rfl, Nat.le_of_ble_eq_true rfl⟩ rfl (Nat.le_of_ble_eq_true rfl) (Nat.le_of_ble_eq_true rfl) (Nat.le_of_ble_eq_true rfl) rfl ?_
      exact h5 c20 c35
set_option maxRecDepth 20000 in
theorem bX0_isLike_44 {g : pw_G} {σ : pw_Mem} {Q : pw_R → Prop} {s9 x2 : Int32} (h1 : WP g mX0_arrow 0 [(0, .ref (pw_ad g 20)), (1, .int x2), (2, .int 0)] [] 0 σ (pw_k g mX0_isLike 50 [(0, .ref (pw_ad g 13)), (1, .ref (pw_ad g 20)), (2, .int x2)] [.int s9] 0 Q)) : WP g mX0_isLike 44 [(0, .ref (pw_ad g 13)), (1, .ref (pw_ad g 20)), (2, .int x2)] [.int s9] 0 σ Q := by
  refine wp_aload_n (pc := 44) 1 dX0_isLike_44 rfl rfl ?_
  refine wp_iload_n (pc := 45) 2 dX0_isLike_45 rfl rfl ?_
  refine wp_iconst (pc := 46) (v := 0) dX0_isLike_46 (by decide) ?_
  refine wp_callV (pc := 47) (M' := mX0_arrow) 20 [.int x2, .int 0] [.int s9] dX0_isLike_47 ck_X0_26 rfl rfl ⟨Nat.le_of_ble_eq_true rfl, Nat.le_of_ble_eq_true rfl⟩ rfl (Nat.le_of_ble_eq_true rfl) (Nat.le_of_ble_eq_true rfl) (Nat.le_of_ble_eq_true rfl) rfl ?_
  exact h1
set_option maxRecDepth 20000 in
theorem bX0_isLike_50 {g : pw_G} {σ : pw_Mem} {Q : pw_R → Prop} {s0 s9 x2 : Int32} (h1 : ¬ s0 = s9 → Q (.inl (some (.int 0)), σ)) (h2 : s0 = s9 → WP g mX0_arrow 0 [(0, .ref (pw_ad g 13)), (1, .int x2), (2, .int 1)] [] 0 σ (pw_k g mX0_isLike 59 [(0, .ref (pw_ad g 13)), (1, .ref (pw_ad g 20)), (2, .int x2)] [] 0 Q)) : WP g mX0_isLike 50 [(0, .ref (pw_ad g 13)), (1, .ref (pw_ad g 20)), (2, .int x2)] [.int s9, .int s0] 0 σ Q := by
  refine wp_icmp_ne (pc := 50) (tgt := 68) dX0_isLike_50 (by decide) (fun c50 => ?_) (fun c50 => ?_)
  ·
    refine wp_iconst (pc := 68) (v := 0) dX0_isLike_68 (by decide) ?_
    exact wp_ireturn (pc := 69) dX0_isLike_69 rfl (by decide) (Nat.le_of_ble_eq_true rfl) (h1 c50)
  ·
    refine wp_aload_n (pc := 53) 0 dX0_isLike_53 rfl rfl ?_
    refine wp_iload_n (pc := 54) 2 dX0_isLike_54 rfl rfl ?_
    refine wp_iconst (pc := 55) (v := 1) dX0_isLike_55 (by decide) ?_
    refine wp_callV (pc := 56) (M' := mX0_arrow) 13 [.int x2, .int 1] [] dX0_isLike_56 ck_X0_26 rfl rfl ⟨Nat.le_of_ble_eq_true rfl, Nat.le_of_ble_eq_true rfl⟩ rfl (Nat.le_of_ble_eq_true rfl) (Nat.le_of_ble_eq_true rfl) (Nat.le_of_ble_eq_true rfl) rfl ?_
    exact h2 c50
set_option maxRecDepth 20000 in
theorem bX0_isLike_59 {g : pw_G} {σ : pw_Mem} {Q : pw_R → Prop} {s9 x2 : Int32} (h1 : WP g mX0_arrow 0 [(0, .ref (pw_ad g 20)), (1, .int x2), (2, .int 1)] [] 0 σ (pw_k g mX0_isLike 65 [(0, .ref (pw_ad g 13)), (1, .ref (pw_ad g 20)), (2, .int x2)] [.int s9] 0 Q)) : WP g mX0_isLike 59 [(0, .ref (pw_ad g 13)), (1, .ref (pw_ad g 20)), (2, .int x2)] [.int s9] 0 σ Q := by
  refine wp_aload_n (pc := 59) 1 dX0_isLike_59 rfl rfl ?_
  refine wp_iload_n (pc := 60) 2 dX0_isLike_60 rfl rfl ?_
  refine wp_iconst (pc := 61) (v := 1) dX0_isLike_61 (by decide) ?_
  refine wp_callV (pc := 62) (M' := mX0_arrow) 20 [.int x2, .int 1] [.int s9] dX0_isLike_62 ck_X0_26 rfl rfl ⟨Nat.le_of_ble_eq_true rfl, Nat.le_of_ble_eq_true rfl⟩ rfl (Nat.le_of_ble_eq_true rfl) (Nat.le_of_ble_eq_true rfl) (Nat.le_of_ble_eq_true rfl) rfl ?_
  exact h1
set_option maxRecDepth 20000 in
theorem bX0_isLike_65 {g : pw_G} {σ : pw_Mem} {Q : pw_R → Prop} {s0 s9 x2 : Int32} (h1 : s0 = s9 → WP g mX0_isLike 15 [(0, .ref (pw_ad g 13)), (1, .ref (pw_ad g 20)), (2, .int (x2 + 1))] [] 0 σ Q) (h2 : ¬ s0 = s9 → Q (.inl (some (.int 0)), σ)) : WP g mX0_isLike 65 [(0, .ref (pw_ad g 13)), (1, .ref (pw_ad g 20)), (2, .int x2)] [.int s9, .int s0] 0 σ Q := by
  refine wp_icmp_eq (pc := 65) (tgt := 70) dX0_isLike_65 (by decide) (fun c65 => ?_) (fun c65 => ?_)
  ·
    refine wp_iinc (pc := 70) (v := (x2 + 1)) (lv' := [(0, .ref (pw_ad g 13)), (1, .ref (pw_ad g 20)), (2, .int (x2 + 1))]) 2 dX0_isLike_70 rfl rfl (by decide) rfl ?_
    refine wp_goto (pc := 73) (tgt := 15) dX0_isLike_73 (by decide) ?_
    exact h1 c65
  ·
    refine wp_iconst (pc := 68) (v := 0) dX0_isLike_68 (by decide) ?_
    exact wp_ireturn (pc := 69) dX0_isLike_69 rfl (by decide) (Nat.le_of_ble_eq_true rfl) (h2 c65)
set_option maxRecDepth 20000 in
theorem bJ7_fill_53178_0 {g : pw_G} {σ : pw_Mem} {Q : pw_R → Prop} {x1 : Int32} {k : Nat} (hk0 : pw_kd k = 6) (h1 : WP g mJ7_fill_53178 5 [(0, .ref (pw_ad g k)), (1, .int x1), (2, .int 0), (3, .int (Int32.ofNat (pw_ln k)))] [] 0 σ Q) : WP g mJ7_fill_53178 0 [(0, .ref (pw_ad g k)), (1, .int x1)] [] 0 σ Q := by
  refine wp_iconst (pc := 0) (v := 0) dJ7_fill_53178_0 (by decide) ?_
  refine wp_istore_n (pc := 1) (lv' := [(0, .ref (pw_ad g k)), (1, .int x1), (2, .int 0)]) dJ7_fill_53178_1 rfl (by decide) rfl ?_
  refine wp_aload_n (pc := 2) 0 dJ7_fill_53178_2 rfl rfl ?_
  refine wp_alen (pc := 3) (v := (Int32.ofNat (pw_ln k))) k dJ7_fill_53178_3 hk0 rfl ?_
  refine wp_istore_n (pc := 4) (lv' := [(0, .ref (pw_ad g k)), (1, .int x1), (2, .int 0), (3, .int (Int32.ofNat (pw_ln k)))]) dJ7_fill_53178_4 rfl (by decide) rfl ?_
  exact h1
set_option maxRecDepth 20000 in
theorem bJ7_fill_53178_5 {g : pw_G} {σ : pw_Mem} {Q : pw_R → Prop} {x1 x2 x3 : Int32} {k : Nat} (hk0 : pw_kd k = 6) (h1 : x3 ≤ x2 → Q (.inl none, σ)) (h2 : ¬ x3 ≤ x2 → vp_in x2 (pw_ln k)) (h3 : ¬ x3 ≤ x2 → WP g mJ7_fill_53178 5 [(0, .ref (pw_ad g k)), (1, .int x1), (2, .int (x2 + 1)), (3, .int x3)] [] 0 (pw_set σ k (x2).toNatClampNeg x1) Q) : WP g mJ7_fill_53178 5 [(0, .ref (pw_ad g k)), (1, .int x1), (2, .int x2), (3, .int x3)] [] 0 σ Q := by
  refine wp_iload_n (pc := 5) 2 dJ7_fill_53178_5 rfl rfl ?_
  refine wp_iload_n (pc := 6) 3 dJ7_fill_53178_6 rfl rfl ?_
  refine wp_icmp_ge (pc := 7) (tgt := 20) dJ7_fill_53178_7 (by decide) (fun c7 => ?_) (fun c7 => ?_)
  ·
    exact wp_return (pc := 20) dJ7_fill_53178_20 rfl (Nat.le_of_ble_eq_true rfl) (h1 c7)
  ·
    refine wp_aload_n (pc := 10) 0 dJ7_fill_53178_10 rfl rfl ?_
    refine wp_iload_n (pc := 11) 2 dJ7_fill_53178_11 rfl rfl ?_
    refine wp_iload_n (pc := 12) 1 dJ7_fill_53178_12 rfl rfl ?_
    refine wp_iastore (pc := 13) k dJ7_fill_53178_13 hk0 (h2 c7) ?_
    refine wp_iinc (pc := 14) (v := (x2 + 1)) (lv' := [(0, .ref (pw_ad g k)), (1, .int x1), (2, .int (x2 + 1)), (3, .int x3)]) 2 dJ7_fill_53178_14 rfl rfl (by decide) rfl ?_
    refine wp_goto (pc := 17) (tgt := 5) dJ7_fill_53178_17 (by decide) ?_
    exact h3 c7
end
