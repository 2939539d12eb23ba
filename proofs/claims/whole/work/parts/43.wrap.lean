/-! the law's small methods (written by wip/gen/law.py) -/
theorem cl_13 : Cond.classLink RL 13 "java/lang/IndexOutOfBoundsException" ∈ pw_ws := (pw_tb 243 (by decide +kernel) (by decide +kernel))
theorem cl_15 : Cond.classLink RL 15 "java/lang/IllegalStateException" ∈ pw_ws := (pw_tb 244 (by decide +kernel) (by decide +kernel))
theorem cl_36 : Cond.classLink RL 36 "java/lang/IllegalArgumentException" ∈ pw_ws := (pw_tb 402 (by decide +kernel) (by decide +kernel))
theorem xw_I : Cond.castable E_I E_I ∈ pw_xw := List.mem_of_getElem? (i := 3) rfl
theorem xw_S : Cond.castable E_S E_S ∈ pw_xw := List.mem_of_getElem? (i := 4) rfl
theorem xw_A : Cond.castable E_A E_A ∈ pw_xw := List.mem_of_getElem? (i := 5) rfl
theorem pw_cast {g : pw_G} {p : Program} {s : State} {m : MethodId} {c : Code} {args : Array Value} {own : String} {cc : ByteArray} {nL : Nat} {E : String} (C : GC g p s m c args own cc nL) (h : Cond.castable E E ∈ pw_xw) : (Cond.castable E E).before args s = true := va_Nw.use (pw_xw_on _ h) (C.2.2.2.2.2.2.1.2.2.2.2.2 _ h)
theorem mv_X4_teach : pw_mv mX4_teach 3 := ⟨(pw_tb 246 (by decide +kernel) (by decide +kernel)), (pw_tb 247 (by decide +kernel) (by decide +kernel)), (pw_tb 1 (by decide +kernel) (by decide +kernel)), (pw_tb 248 (by decide +kernel) (by decide +kernel)), by decide +kernel⟩
theorem ck_L_7 : pw_cv RL 7 mX4_teach 3 := pw_cv_of (pw_tb 245 (by decide +kernel) (by decide +kernel)) mv_X4_teach
theorem mv_X4_told : pw_mv mX4_told 2 := ⟨(pw_tb 345 (by decide +kernel) (by decide +kernel)), (pw_tb 346 (by decide +kernel) (by decide +kernel)), (pw_tb 1 (by decide +kernel) (by decide +kernel)), (pw_tb 347 (by decide +kernel) (by decide +kernel)), by decide +kernel⟩
theorem ck_L_17 : pw_cv RL 17 mX4_told 2 := pw_cv_of (pw_tb 344 (by decide +kernel) (by decide +kernel)) mv_X4_told
theorem mv_X4_next : pw_mv mX4_next 2 := ⟨(pw_tb 352 (by decide +kernel) (by decide +kernel)), (pw_tb 353 (by decide +kernel) (by decide +kernel)), (pw_tb 1 (by decide +kernel) (by decide +kernel)), (pw_tb 354 (by decide +kernel) (by decide +kernel)), by decide +kernel⟩
theorem ck_L_21 : pw_cv RL 21 mX4_next 2 := pw_cv_of (pw_tb 351 (by decide +kernel) (by decide +kernel)) mv_X4_next
theorem mv_X4_sign : pw_mv mX4_sign 1 := ⟨(pw_tb 372 (by decide +kernel) (by decide +kernel)), (pw_tb 373 (by decide +kernel) (by decide +kernel)), (pw_tb 1 (by decide +kernel) (by decide +kernel)), (pw_tb 374 (by decide +kernel) (by decide +kernel)), by decide +kernel⟩
theorem ck_L_24 : pw_cv RL 24 mX4_sign 1 := pw_cv_of (pw_tb 371 (by decide +kernel) (by decide +kernel)) mv_X4_sign
theorem mv_X4_accepts : pw_mv mX4_accepts 2 := ⟨(pw_tb 383 (by decide +kernel) (by decide +kernel)), (pw_tb 384 (by decide +kernel) (by decide +kernel)), (pw_tb 1 (by decide +kernel) (by decide +kernel)), (pw_tb 385 (by decide +kernel) (by decide +kernel)), by decide +kernel⟩
theorem ck_L_28 : pw_cv RL 28 mX4_accepts 2 := pw_cv_of (pw_tb 382 (by decide +kernel) (by decide +kernel)) mv_X4_accepts
theorem mv_X4_draft : pw_mv mX4_draft 1 := ⟨(pw_tb 404 (by decide +kernel) (by decide +kernel)), (pw_tb 405 (by decide +kernel) (by decide +kernel)), (pw_tb 1 (by decide +kernel) (by decide +kernel)), (pw_tb 406 (by decide +kernel) (by decide +kernel)), by decide +kernel⟩
theorem ck_L_32 : pw_cv RL 32 mX4_draft 1 := pw_cv_of (pw_tb 403 (by decide +kernel) (by decide +kernel)) mv_X4_draft
theorem mv_X4_define : pw_mv mX4_define 4 := ⟨(pw_tb 462 (by decide +kernel) (by decide +kernel)), (pw_tb 463 (by decide +kernel) (by decide +kernel)), (pw_tb 1 (by decide +kernel) (by decide +kernel)), (pw_tb 464 (by decide +kernel) (by decide +kernel)), by decide +kernel⟩
theorem ck_L_38 : pw_cv RL 38 mX4_define 4 := pw_cv_of (pw_tb 461 (by decide +kernel) (by decide +kernel)) mv_X4_define
theorem mv_X4_least : pw_mv mX4_least 0 := ⟨(pw_tb 482 (by decide +kernel) (by decide +kernel)), (pw_tb 483 (by decide +kernel) (by decide +kernel)), (pw_tb 1 (by decide +kernel) (by decide +kernel)), (pw_tb 484 (by decide +kernel) (by decide +kernel)), by decide +kernel⟩
theorem ck_L_42 : pw_cv RL 42 mX4_least 0 := pw_cv_of (pw_tb 481 (by decide +kernel) (by decide +kernel)) mv_X4_least
theorem mv_X4_name : pw_mv mX4_name 1 := ⟨(pw_tb 493 (by decide +kernel) (by decide +kernel)), (pw_tb 494 (by decide +kernel) (by decide +kernel)), (pw_tb 1 (by decide +kernel) (by decide +kernel)), (pw_tb 495 (by decide +kernel) (by decide +kernel)), by decide +kernel⟩
theorem ck_L_46 : pw_cv RL 46 mX4_name 1 := pw_cv_of (pw_tb 492 (by decide +kernel) (by decide +kernel)) mv_X4_name
theorem mv_X4_apart : pw_mv mX4_apart 2 := ⟨(pw_tb 508 (by decide +kernel) (by decide +kernel)), (pw_tb 509 (by decide +kernel) (by decide +kernel)), (pw_tb 1 (by decide +kernel) (by decide +kernel)), (pw_tb 510 (by decide +kernel) (by decide +kernel)), by decide +kernel⟩
theorem ck_L_49 : pw_cv RL 49 mX4_apart 2 := pw_cv_of (pw_tb 507 (by decide +kernel) (by decide +kernel)) mv_X4_apart
theorem mv_X4_exemplify : pw_mv mX4_exemplify 0 := ⟨(pw_tb 519 (by decide +kernel) (by decide +kernel)), (pw_tb 520 (by decide +kernel) (by decide +kernel)), (pw_tb 1 (by decide +kernel) (by decide +kernel)), (pw_tb 521 (by decide +kernel) (by decide +kernel)), by decide +kernel⟩
theorem ck_L_52 : pw_cv RL 52 mX4_exemplify 0 := pw_cv_of (pw_tb 518 (by decide +kernel) (by decide +kernel)) mv_X4_exemplify
theorem mv_X4_same : pw_mv mX4_same 0 := ⟨(pw_tb 552 (by decide +kernel) (by decide +kernel)), (pw_tb 553 (by decide +kernel) (by decide +kernel)), (pw_tb 1 (by decide +kernel) (by decide +kernel)), (pw_tb 554 (by decide +kernel) (by decide +kernel)), by decide +kernel⟩
theorem ck_L_55 : pw_cv RL 55 mX4_same 0 := pw_cv_of (pw_tb 551 (by decide +kernel) (by decide +kernel)) mv_X4_same
theorem mv_X5_teach : pw_mv mX5_teach 3 := ⟨(pw_tb 650 (by decide +kernel) (by decide +kernel)), (pw_tb 651 (by decide +kernel) (by decide +kernel)), (pw_tb 6 (by decide +kernel) (by decide +kernel)), (pw_tb 652 (by decide +kernel) (by decide +kernel)), by decide +kernel⟩
theorem ck_L_68 : pw_cv RL 68 mX5_teach 3 := pw_cv_of (pw_tb 649 (by decide +kernel) (by decide +kernel)) mv_X5_teach
theorem mv_X5_thrown : pw_mv mX5_thrown 0 := ⟨(pw_tb 646 (by decide +kernel) (by decide +kernel)), (pw_tb 647 (by decide +kernel) (by decide +kernel)), (pw_tb 6 (by decide +kernel) (by decide +kernel)), (pw_tb 648 (by decide +kernel) (by decide +kernel)), by decide +kernel⟩
theorem ck_L_69 : pw_cv RL 69 mX5_thrown 0 := pw_cv_of (pw_tb 645 (by decide +kernel) (by decide +kernel)) mv_X5_thrown
theorem mv_X5_told : pw_mv mX5_told 2 := ⟨(pw_tb 664 (by decide +kernel) (by decide +kernel)), (pw_tb 665 (by decide +kernel) (by decide +kernel)), (pw_tb 6 (by decide +kernel) (by decide +kernel)), (pw_tb 666 (by decide +kernel) (by decide +kernel)), by decide +kernel⟩
theorem ck_L_75 : pw_cv RL 75 mX5_told 2 := pw_cv_of (pw_tb 663 (by decide +kernel) (by decide +kernel)) mv_X5_told
theorem mv_X4_size : pw_mv mX4_size 0 := ⟨(pw_tb 145 (by decide +kernel) (by decide +kernel)), (pw_tb 146 (by decide +kernel) (by decide +kernel)), (pw_tb 1 (by decide +kernel) (by decide +kernel)), (pw_tb 147 (by decide +kernel) (by decide +kernel)), by decide +kernel⟩
theorem ck_L_76 : pw_cv RL 76 mX4_size 0 := pw_cv_of (pw_tb 144 (by decide +kernel) (by decide +kernel)) mv_X4_size
theorem mv_X5_size : pw_mv mX5_size 0 := ⟨(pw_tb 668 (by decide +kernel) (by decide +kernel)), (pw_tb 669 (by decide +kernel) (by decide +kernel)), (pw_tb 6 (by decide +kernel) (by decide +kernel)), (pw_tb 670 (by decide +kernel) (by decide +kernel)), by decide +kernel⟩
theorem ck_L_79 : pw_cv RL 79 mX5_size 0 := pw_cv_of (pw_tb 667 (by decide +kernel) (by decide +kernel)) mv_X5_size
theorem mv_X4_forget : pw_mv mX4_forget 0 := ⟨(pw_tb 153 (by decide +kernel) (by decide +kernel)), (pw_tb 154 (by decide +kernel) (by decide +kernel)), (pw_tb 1 (by decide +kernel) (by decide +kernel)), (pw_tb 155 (by decide +kernel) (by decide +kernel)), by decide +kernel⟩
theorem ck_L_80 : pw_cv RL 80 mX4_forget 0 := pw_cv_of (pw_tb 152 (by decide +kernel) (by decide +kernel)) mv_X4_forget
theorem mv_X5_forget : pw_mv mX5_forget 0 := ⟨(pw_tb 672 (by decide +kernel) (by decide +kernel)), (pw_tb 673 (by decide +kernel) (by decide +kernel)), (pw_tb 6 (by decide +kernel) (by decide +kernel)), (pw_tb 674 (by decide +kernel) (by decide +kernel)), by decide +kernel⟩
theorem ck_L_83 : pw_cv RL 83 mX5_forget 0 := pw_cv_of (pw_tb 671 (by decide +kernel) (by decide +kernel)) mv_X5_forget
theorem mv_X4_learn : pw_mv mX4_learn 0 := ⟨(pw_tb 164 (by decide +kernel) (by decide +kernel)), (pw_tb 165 (by decide +kernel) (by decide +kernel)), (pw_tb 1 (by decide +kernel) (by decide +kernel)), (pw_tb 166 (by decide +kernel) (by decide +kernel)), by decide +kernel⟩
theorem ck_L_84 : pw_cv RL 84 mX4_learn 0 := pw_cv_of (pw_tb 163 (by decide +kernel) (by decide +kernel)) mv_X4_learn
theorem mv_X5_learn : pw_mv mX5_learn 0 := ⟨(pw_tb 676 (by decide +kernel) (by decide +kernel)), (pw_tb 677 (by decide +kernel) (by decide +kernel)), (pw_tb 6 (by decide +kernel) (by decide +kernel)), (pw_tb 678 (by decide +kernel) (by decide +kernel)), by decide +kernel⟩
theorem ck_L_87 : pw_cv RL 87 mX5_learn 0 := pw_cv_of (pw_tb 675 (by decide +kernel) (by decide +kernel)) mv_X5_learn
theorem mv_X4_states : pw_mv mX4_states 0 := ⟨(pw_tb 237 (by decide +kernel) (by decide +kernel)), (pw_tb 238 (by decide +kernel) (by decide +kernel)), (pw_tb 1 (by decide +kernel) (by decide +kernel)), (pw_tb 239 (by decide +kernel) (by decide +kernel)), by decide +kernel⟩
theorem ck_L_88 : pw_cv RL 88 mX4_states 0 := pw_cv_of (pw_tb 236 (by decide +kernel) (by decide +kernel)) mv_X4_states
theorem mv_X5_states : pw_mv mX5_states 0 := ⟨(pw_tb 707 (by decide +kernel) (by decide +kernel)), (pw_tb 708 (by decide +kernel) (by decide +kernel)), (pw_tb 6 (by decide +kernel) (by decide +kernel)), (pw_tb 709 (by decide +kernel) (by decide +kernel)), by decide +kernel⟩
theorem ck_L_91 : pw_cv RL 91 mX5_states 0 := pw_cv_of (pw_tb 706 (by decide +kernel) (by decide +kernel)) mv_X5_states
theorem mv_X5_next : pw_mv mX5_next 2 := ⟨(pw_tb 711 (by decide +kernel) (by decide +kernel)), (pw_tb 712 (by decide +kernel) (by decide +kernel)), (pw_tb 6 (by decide +kernel) (by decide +kernel)), (pw_tb 713 (by decide +kernel) (by decide +kernel)), by decide +kernel⟩
theorem ck_L_94 : pw_cv RL 94 mX5_next 2 := pw_cv_of (pw_tb 710 (by decide +kernel) (by decide +kernel)) mv_X5_next
theorem mv_X5_sign : pw_mv mX5_sign 1 := ⟨(pw_tb 719 (by decide +kernel) (by decide +kernel)), (pw_tb 720 (by decide +kernel) (by decide +kernel)), (pw_tb 6 (by decide +kernel) (by decide +kernel)), (pw_tb 721 (by decide +kernel) (by decide +kernel)), by decide +kernel⟩
theorem ck_L_98 : pw_cv RL 98 mX5_sign 1 := pw_cv_of (pw_tb 718 (by decide +kernel) (by decide +kernel)) mv_X5_sign
theorem mv_X5_accepts : pw_mv mX5_accepts 2 := ⟨(pw_tb 723 (by decide +kernel) (by decide +kernel)), (pw_tb 724 (by decide +kernel) (by decide +kernel)), (pw_tb 6 (by decide +kernel) (by decide +kernel)), (pw_tb 725 (by decide +kernel) (by decide +kernel)), by decide +kernel⟩
theorem ck_L_101 : pw_cv RL 101 mX5_accepts 2 := pw_cv_of (pw_tb 722 (by decide +kernel) (by decide +kernel)) mv_X5_accepts
theorem mv_X5_draft : pw_mv mX5_draft 1 := ⟨(pw_tb 727 (by decide +kernel) (by decide +kernel)), (pw_tb 728 (by decide +kernel) (by decide +kernel)), (pw_tb 6 (by decide +kernel) (by decide +kernel)), (pw_tb 729 (by decide +kernel) (by decide +kernel)), by decide +kernel⟩
theorem ck_L_105 : pw_cv RL 105 mX5_draft 1 := pw_cv_of (pw_tb 726 (by decide +kernel) (by decide +kernel)) mv_X5_draft
theorem mv_X5_define : pw_mv mX5_define 4 := ⟨(pw_tb 731 (by decide +kernel) (by decide +kernel)), (pw_tb 732 (by decide +kernel) (by decide +kernel)), (pw_tb 6 (by decide +kernel) (by decide +kernel)), (pw_tb 733 (by decide +kernel) (by decide +kernel)), by decide +kernel⟩
theorem ck_L_109 : pw_cv RL 109 mX5_define 4 := pw_cv_of (pw_tb 730 (by decide +kernel) (by decide +kernel)) mv_X5_define
theorem mv_X5_least : pw_mv mX5_least 0 := ⟨(pw_tb 739 (by decide +kernel) (by decide +kernel)), (pw_tb 740 (by decide +kernel) (by decide +kernel)), (pw_tb 6 (by decide +kernel) (by decide +kernel)), (pw_tb 741 (by decide +kernel) (by decide +kernel)), by decide +kernel⟩
theorem ck_L_113 : pw_cv RL 113 mX5_least 0 := pw_cv_of (pw_tb 738 (by decide +kernel) (by decide +kernel)) mv_X5_least
theorem mv_X5_name : pw_mv mX5_name 1 := ⟨(pw_tb 765 (by decide +kernel) (by decide +kernel)), (pw_tb 766 (by decide +kernel) (by decide +kernel)), (pw_tb 6 (by decide +kernel) (by decide +kernel)), (pw_tb 767 (by decide +kernel) (by decide +kernel)), by decide +kernel⟩
theorem ck_L_116 : pw_cv RL 116 mX5_name 1 := pw_cv_of (pw_tb 764 (by decide +kernel) (by decide +kernel)) mv_X5_name
theorem mv_X5_apart : pw_mv mX5_apart 2 := ⟨(pw_tb 772 (by decide +kernel) (by decide +kernel)), (pw_tb 773 (by decide +kernel) (by decide +kernel)), (pw_tb 6 (by decide +kernel) (by decide +kernel)), (pw_tb 774 (by decide +kernel) (by decide +kernel)), by decide +kernel⟩
theorem ck_L_119 : pw_cv RL 119 mX5_apart 2 := pw_cv_of (pw_tb 771 (by decide +kernel) (by decide +kernel)) mv_X5_apart
theorem mv_X5_exemplify : pw_mv mX5_exemplify 0 := ⟨(pw_tb 776 (by decide +kernel) (by decide +kernel)), (pw_tb 777 (by decide +kernel) (by decide +kernel)), (pw_tb 6 (by decide +kernel) (by decide +kernel)), (pw_tb 778 (by decide +kernel) (by decide +kernel)), by decide +kernel⟩
theorem ck_L_122 : pw_cv RL 122 mX5_exemplify 0 := pw_cv_of (pw_tb 775 (by decide +kernel) (by decide +kernel)) mv_X5_exemplify
theorem mv_X5_same : pw_mv mX5_same 0 := ⟨(pw_tb 795 (by decide +kernel) (by decide +kernel)), (pw_tb 796 (by decide +kernel) (by decide +kernel)), (pw_tb 6 (by decide +kernel) (by decide +kernel)), (pw_tb 797 (by decide +kernel) (by decide +kernel)), by decide +kernel⟩
theorem ck_L_125 : pw_cv RL 125 mX5_same 0 := pw_cv_of (pw_tb 794 (by decide +kernel) (by decide +kernel)) mv_X5_same
def mL_teach : pw_H := (yL_teach, cL_teach, 6, [(0, 19, 22, 13), (0, 19, 26, 15)], 8, 136, 2)
theorem ck_L_63 : ph_cw RL 63 mL_teach 5 := ph_cw_of (pw_tb 240 (by decide +kernel) (by decide +kernel)) (pw_tb 241 (by decide +kernel) (by decide +kernel)) (pw_tb 0 (by decide +kernel) (by decide +kernel)) (pw_tb 242 (by decide +kernel) (by decide +kernel)) (by decide +kernel)
def mL_told : pw_H := (yL_told, cL_told, 5, [(0, 10, 13, 13)], 8, 133, 1)
theorem ck_L_72 : ph_cw RL 72 mL_told 4 := ph_cw_of (pw_tb 341 (by decide +kernel) (by decide +kernel)) (pw_tb 342 (by decide +kernel) (by decide +kernel)) (pw_tb 0 (by decide +kernel) (by decide +kernel)) (pw_tb 343 (by decide +kernel) (by decide +kernel)) (by decide +kernel)
def mL_next : pw_H := (yL_next, cL_next, 5, [(0, 10, 13, 13)], 8, 133, 2)
theorem ck_L_92 : ph_cw RL 92 mL_next 4 := ph_cw_of (pw_tb 348 (by decide +kernel) (by decide +kernel)) (pw_tb 349 (by decide +kernel) (by decide +kernel)) (pw_tb 0 (by decide +kernel) (by decide +kernel)) (pw_tb 350 (by decide +kernel) (by decide +kernel)) (by decide +kernel)
def mL_sign : pw_H := (yL_sign, cL_sign, 4, [(0, 9, 12, 13)], 8, 132, 1)
theorem ck_L_95 : ph_cw RL 95 mL_sign 3 := ph_cw_of (pw_tb 368 (by decide +kernel) (by decide +kernel)) (pw_tb 369 (by decide +kernel) (by decide +kernel)) (pw_tb 0 (by decide +kernel) (by decide +kernel)) (pw_tb 370 (by decide +kernel) (by decide +kernel)) (by decide +kernel)
def mL_accepts : pw_H := (yL_accepts, cL_accepts, 5, [(0, 17, 20, 13), (0, 17, 24, 15)], 8, 135, 2)
theorem ck_L_99 : ph_cw RL 99 mL_accepts 4 := ph_cw_of (pw_tb 379 (by decide +kernel) (by decide +kernel)) (pw_tb 380 (by decide +kernel) (by decide +kernel)) (pw_tb 0 (by decide +kernel) (by decide +kernel)) (pw_tb 381 (by decide +kernel) (by decide +kernel)) (by decide +kernel)
def mL_draft : pw_H := (yL_draft, cL_draft, 3, [(0, 5, 8, 36)], 7, 155, 1)
theorem ck_L_102 : ph_cw RL 102 mL_draft 2 := ph_cw_of (pw_tb 399 (by decide +kernel) (by decide +kernel)) (pw_tb 400 (by decide +kernel) (by decide +kernel)) (pw_tb 0 (by decide +kernel) (by decide +kernel)) (pw_tb 401 (by decide +kernel) (by decide +kernel)) (by decide +kernel)
def mL_define : pw_H := (yL_define, cL_define, 6, [(0, 9, 12, 15), (0, 9, 16, 13)], 8, 160, 4)
theorem ck_L_106 : ph_cw RL 106 mL_define 5 := ph_cw_of (pw_tb 458 (by decide +kernel) (by decide +kernel)) (pw_tb 459 (by decide +kernel) (by decide +kernel)) (pw_tb 0 (by decide +kernel) (by decide +kernel)) (pw_tb 460 (by decide +kernel) (by decide +kernel)) (by decide +kernel)
def mL_least : pw_H := (yL_least, cL_least, 3, [(0, 8, 11, 15)], 8, 130, 1)
theorem ck_L_110 : ph_cw RL 110 mL_least 2 := ph_cw_of (pw_tb 478 (by decide +kernel) (by decide +kernel)) (pw_tb 479 (by decide +kernel) (by decide +kernel)) (pw_tb 0 (by decide +kernel) (by decide +kernel)) (pw_tb 480 (by decide +kernel) (by decide +kernel)) (by decide +kernel)
def mL_name : pw_H := (yL_name, cL_name, 4, [(0, 9, 12, 15), (0, 9, 15, 13)], 8, 132, 2)
theorem ck_L_114 : ph_cw RL 114 mL_name 3 := ph_cw_of (pw_tb 489 (by decide +kernel) (by decide +kernel)) (pw_tb 490 (by decide +kernel) (by decide +kernel)) (pw_tb 0 (by decide +kernel) (by decide +kernel)) (pw_tb 491 (by decide +kernel) (by decide +kernel)) (by decide +kernel)
def mL_apart : pw_H := (yL_apart, cL_apart, 5, [(0, 10, 13, 15), (0, 10, 17, 13)], 8, 133, 3)
theorem ck_L_117 : ph_cw RL 117 mL_apart 4 := ph_cw_of (pw_tb 504 (by decide +kernel) (by decide +kernel)) (pw_tb 505 (by decide +kernel) (by decide +kernel)) (pw_tb 0 (by decide +kernel) (by decide +kernel)) (pw_tb 506 (by decide +kernel) (by decide +kernel)) (by decide +kernel)
def mL_exemplify : pw_H := (yL_exemplify, cL_exemplify, 3, [(0, 8, 11, 15), (0, 8, 14, 36)], 8, 134, 2)
theorem ck_L_120 : ph_cw RL 120 mL_exemplify 2 := ph_cw_of (pw_tb 515 (by decide +kernel) (by decide +kernel)) (pw_tb 516 (by decide +kernel) (by decide +kernel)) (pw_tb 0 (by decide +kernel) (by decide +kernel)) (pw_tb 517 (by decide +kernel) (by decide +kernel)) (by decide +kernel)
def mL_same : pw_H := (yL_same, cL_same, 3, [(0, 15, 18, 15)], 8, 130, 2)
theorem ck_L_123 : ph_cw RL 123 mL_same 2 := ph_cw_of (pw_tb 548 (by decide +kernel) (by decide +kernel)) (pw_tb 549 (by decide +kernel) (by decide +kernel)) (pw_tb 0 (by decide +kernel) (by decide +kernel)) (pw_tb 550 (by decide +kernel) (by decide +kernel)) (by decide +kernel)
theorem w_teach {g : pw_G} {σ : pw_Mem} {x1 x2 x3 : Int32} {Q0 : Int32 → pw_Mem → Prop} {Qa Qb : pw_Mem → Prop} (h : WP g mX4_teach 0 [(0, .ref (pw_ad g 0)), (1, .int x1), (2, .int x2), (3, .int x3)] [] 0 σ (wQ E_I E_S Q0 Qa Qb)) : WrM g mL_teach [.ref (pw_ad g 0), .int x1, .int x2, .int x3, .ref (pw_ad g 46)] σ (wR (pw_o g) zJ Q0 Qa Qb) := by
  refine gw_body (by decide) (Nat.le_of_ble_eq_true rfl) (fun p e s m args below meth c C hr hlk ht hN => ?_)
  have C : GC g p s m c args RL cL_teach 6 := C
  have ht : c.exceptionTable.toList = tableOf [(0, 19, 22, 13), (0, 19, 26, 15)] := ht
  refine gw_aload 4 C dL_teach_0 rfl ?_
  refine gw_iconst (v := 0) C dL_teach_2 rfl ?_
  refine gw_aload_n 0 C dL_teach_3 rfl rfl ?_
  refine gw_iload_n 1 C dL_teach_4 rfl rfl ?_
  refine gw_iload_n 2 C dL_teach_5 rfl rfl ?_
  refine gw_iload_n 3 C dL_teach_6 rfl rfl ?_
  refine gw_callV (M' := mX4_teach) (ci := 4) 0 [.int x1, .int x2, .int x3] [.int 0, .ref (pw_ad g 46)] C dL_teach_7 ck_L_7 rfl rfl ⟨Nat.le_of_ble_eq_true rfl, Nat.le_of_ble_eq_true rfl⟩ rfl (Nat.le_of_ble_eq_true rfl) (Nat.le_of_ble_eq_true rfl) ⟨Nat.le_of_ble_eq_true rfl, Nat.le_of_ble_eq_true rfl⟩ rfl h (fun rv σ' q => ?_) (fun E σ' q => ?_)
  · obtain ⟨y, rfl, q⟩ := wQ_some q
    refine gw_if_eq C dL_teach_10 rfl (fun z => ?_) (fun z => ?_)
    · refine gw_lconst (v := 0) C dL_teach_17 rfl ?_
      refine gw_lastore C dL_teach_18 ?_
      refine gw_goto (C.out _) dL_teach_19 rfl ?_
      refine gw_iconst (v := 0) (C.out _) dL_teach_30 rfl ?_
      exact gw_wret (M := mL_teach) C dL_teach_31 hr hlk (Nat.le_of_ble_eq_true rfl) (Or.inl ⟨rfl, y, by rw [zJ, if_pos z], q⟩)
    · refine gw_lconst (v := 1) C dL_teach_13 rfl ?_
      refine gw_goto C dL_teach_14 rfl ?_
      refine gw_lastore C dL_teach_18 ?_
      refine gw_goto (C.out _) dL_teach_19 rfl ?_
      refine gw_iconst (v := 0) (C.out _) dL_teach_30 rfl ?_
      exact gw_wret (M := mL_teach) C dL_teach_31 hr hlk (Nat.le_of_ble_eq_true rfl) (Or.inl ⟨rfl, y, by rw [zJ, if_neg z], q⟩)
  · rcases q with ⟨rfl, q⟩ | ⟨rfl, q⟩
    · refine gw_catch (h := 22) (fun pl k hpl hk => by rw [ht]; exact cx_hit hpl C.2.2.2.1 rfl (by decide) rfl (C.2.2.2.2.1 _ cl_13) (pw_cast C xw_I) hk) (fun q9 => ?_)
      refine gw_astore C dL_teach_22 (by decide) rfl ?_
      refine gw_iconst (v := 1) C dL_teach_24 rfl ?_
      exact gw_wret (M := mL_teach) (o' := pw_o g) C dL_teach_25 hr hlk (Nat.le_of_ble_eq_true rfl) (Or.inr (Or.inl ⟨rfl, rfl, q⟩))
    · refine gw_catch (h := 26) (fun pl k hpl hk => by rw [ht]; exact cx_pass hpl C.2.2.2.1 rfl (by decide) (C.2.2.2.2.1 _ cl_13) hN.1 hk (cx_hit hpl C.2.2.2.1 rfl (by decide) rfl (C.2.2.2.2.1 _ cl_15) (pw_cast C xw_S) hk)) (fun q9 => ?_)
      refine gw_astore C dL_teach_26 (by decide) rfl ?_
      refine gw_iconst (v := 2) C dL_teach_28 rfl ?_
      exact gw_wret (M := mL_teach) (o' := pw_o g) C dL_teach_29 hr hlk (Nat.le_of_ble_eq_true rfl) (Or.inr (Or.inr ⟨rfl, rfl, q⟩))
theorem w_told {g : pw_G} {σ : pw_Mem} {x1 x2 : Int32} {Q0 : Int32 → pw_Mem → Prop} {Qa : pw_Mem → Prop} (h : WP g mX4_told 0 [(0, .ref (pw_ad g 0)), (1, .int x1), (2, .int x2)] [] 0 σ (wQ E_I "" Q0 Qa (fun _ => False))) : WrM g mL_told [.ref (pw_ad g 0), .int x1, .int x2, .ref (pw_ad g 46)] σ (wR (pw_o g) (fun y => y.toInt64) Q0 Qa (fun _ => False)) := by
  refine gw_body (by decide) (Nat.le_of_ble_eq_true rfl) (fun p e s m args below meth c C hr hlk ht hN => ?_)
  have C : GC g p s m c args RL cL_told 5 := C
  have ht : c.exceptionTable.toList = tableOf [(0, 10, 13, 13)] := ht
  refine gw_aload_n 3 C dL_told_0 rfl rfl ?_
  refine gw_iconst (v := 0) C dL_told_1 rfl ?_
  refine gw_aload_n 0 C dL_told_2 rfl rfl ?_
  refine gw_iload_n 1 C dL_told_3 rfl rfl ?_
  refine gw_iload_n 2 C dL_told_4 rfl rfl ?_
  refine gw_callV (M' := mX4_told) (ci := 4) 0 [.int x1, .int x2] [.int 0, .ref (pw_ad g 46)] C dL_told_5 ck_L_17 rfl rfl ⟨Nat.le_of_ble_eq_true rfl, Nat.le_of_ble_eq_true rfl⟩ rfl (Nat.le_of_ble_eq_true rfl) (Nat.le_of_ble_eq_true rfl) ⟨Nat.le_of_ble_eq_true rfl, Nat.le_of_ble_eq_true rfl⟩ rfl h (fun rv σ' q => ?_) (fun E σ' q => ?_)
  · obtain ⟨y, rfl, q⟩ := wQ_some q
    refine gw_i2l C dL_told_8 ?_
    refine gw_lastore C dL_told_9 ?_
    refine gw_goto (C.out _) dL_told_10 rfl ?_
    refine gw_iconst (v := 0) (C.out _) dL_told_17 rfl ?_
    exact gw_wret (M := mL_told) C dL_told_18 hr hlk (Nat.le_of_ble_eq_true rfl) (Or.inl ⟨rfl, y, rfl, q⟩)
  · rcases q with ⟨rfl, q⟩ | ⟨he, q⟩
    · refine gw_catch (h := 13) (fun pl k hpl hk => by rw [ht]; exact cx_hit hpl C.2.2.2.1 rfl (by decide) rfl (C.2.2.2.2.1 _ cl_13) (pw_cast C xw_I) hk) (fun q9 => ?_)
      refine gw_astore C dL_told_13 (by decide) rfl ?_
      refine gw_iconst (v := 1) C dL_told_15 rfl ?_
      exact gw_wret (M := mL_told) (o' := pw_o g) C dL_told_16 hr hlk (Nat.le_of_ble_eq_true rfl) (Or.inr (Or.inl ⟨rfl, rfl, q⟩))
    · exact q.elim
theorem w_next {g : pw_G} {σ : pw_Mem} {x1 x2 : Int32} {Q0 : Int32 → pw_Mem → Prop} {Qa : pw_Mem → Prop} (h : WP g mX4_next 0 [(0, .ref (pw_ad g 0)), (1, .int x1), (2, .int x2)] [] 0 σ (wQ E_I "" Q0 Qa (fun _ => False))) : WrM g mL_next [.ref (pw_ad g 0), .int x1, .int x2, .ref (pw_ad g 46)] σ (wR (pw_o g) (fun y => y.toInt64) Q0 Qa (fun _ => False)) := by
  refine gw_body (by decide) (Nat.le_of_ble_eq_true rfl) (fun p e s m args below meth c C hr hlk ht hN => ?_)
  have C : GC g p s m c args RL cL_next 5 := C
  have ht : c.exceptionTable.toList = tableOf [(0, 10, 13, 13)] := ht
  refine gw_aload_n 3 C dL_next_0 rfl rfl ?_
  refine gw_iconst (v := 0) C dL_next_1 rfl ?_
  refine gw_aload_n 0 C dL_next_2 rfl rfl ?_
  refine gw_iload_n 1 C dL_next_3 rfl rfl ?_
  refine gw_iload_n 2 C dL_next_4 rfl rfl ?_
  refine gw_callV (M' := mX4_next) (ci := 4) 0 [.int x1, .int x2] [.int 0, .ref (pw_ad g 46)] C dL_next_5 ck_L_21 rfl rfl ⟨Nat.le_of_ble_eq_true rfl, Nat.le_of_ble_eq_true rfl⟩ rfl (Nat.le_of_ble_eq_true rfl) (Nat.le_of_ble_eq_true rfl) ⟨Nat.le_of_ble_eq_true rfl, Nat.le_of_ble_eq_true rfl⟩ rfl h (fun rv σ' q => ?_) (fun E σ' q => ?_)
  · obtain ⟨y, rfl, q⟩ := wQ_some q
    refine gw_i2l C dL_next_8 ?_
    refine gw_lastore C dL_next_9 ?_
    refine gw_goto (C.out _) dL_next_10 rfl ?_
    refine gw_iconst (v := 0) (C.out _) dL_next_17 rfl ?_
    exact gw_wret (M := mL_next) C dL_next_18 hr hlk (Nat.le_of_ble_eq_true rfl) (Or.inl ⟨rfl, y, rfl, q⟩)
  · rcases q with ⟨rfl, q⟩ | ⟨he, q⟩
    · refine gw_catch (h := 13) (fun pl k hpl hk => by rw [ht]; exact cx_hit hpl C.2.2.2.1 rfl (by decide) rfl (C.2.2.2.2.1 _ cl_13) (pw_cast C xw_I) hk) (fun q9 => ?_)
      refine gw_astore C dL_next_13 (by decide) rfl ?_
      refine gw_iconst (v := 1) C dL_next_15 rfl ?_
      exact gw_wret (M := mL_next) (o' := pw_o g) C dL_next_16 hr hlk (Nat.le_of_ble_eq_true rfl) (Or.inr (Or.inl ⟨rfl, rfl, q⟩))
    · exact q.elim
theorem w_sign {g : pw_G} {σ : pw_Mem} {x1 : Int32} {Q0 : Int32 → pw_Mem → Prop} {Qa : pw_Mem → Prop} (h : WP g mX4_sign 0 [(0, .ref (pw_ad g 0)), (1, .int x1)] [] 0 σ (wQ E_I "" Q0 Qa (fun _ => False))) : WrM g mL_sign [.ref (pw_ad g 0), .int x1, .ref (pw_ad g 46)] σ (wR (pw_o g) (fun y => y.toInt64) Q0 Qa (fun _ => False)) := by
  refine gw_body (by decide) (Nat.le_of_ble_eq_true rfl) (fun p e s m args below meth c C hr hlk ht hN => ?_)
  have C : GC g p s m c args RL cL_sign 4 := C
  have ht : c.exceptionTable.toList = tableOf [(0, 9, 12, 13)] := ht
  refine gw_aload_n 2 C dL_sign_0 rfl rfl ?_
  refine gw_iconst (v := 0) C dL_sign_1 rfl ?_
  refine gw_aload_n 0 C dL_sign_2 rfl rfl ?_
  refine gw_iload_n 1 C dL_sign_3 rfl rfl ?_
  refine gw_callV (M' := mX4_sign) (ci := 4) 0 [.int x1] [.int 0, .ref (pw_ad g 46)] C dL_sign_4 ck_L_24 rfl rfl ⟨Nat.le_of_ble_eq_true rfl, Nat.le_of_ble_eq_true rfl⟩ rfl (Nat.le_of_ble_eq_true rfl) (Nat.le_of_ble_eq_true rfl) ⟨Nat.le_of_ble_eq_true rfl, Nat.le_of_ble_eq_true rfl⟩ rfl h (fun rv σ' q => ?_) (fun E σ' q => ?_)
  · obtain ⟨y, rfl, q⟩ := wQ_some q
    refine gw_i2l C dL_sign_7 ?_
    refine gw_lastore C dL_sign_8 ?_
    refine gw_goto (C.out _) dL_sign_9 rfl ?_
    refine gw_iconst (v := 0) (C.out _) dL_sign_15 rfl ?_
    exact gw_wret (M := mL_sign) C dL_sign_16 hr hlk (Nat.le_of_ble_eq_true rfl) (Or.inl ⟨rfl, y, rfl, q⟩)
  · rcases q with ⟨rfl, q⟩ | ⟨he, q⟩
    · refine gw_catch (h := 12) (fun pl k hpl hk => by rw [ht]; exact cx_hit hpl C.2.2.2.1 rfl (by decide) rfl (C.2.2.2.2.1 _ cl_13) (pw_cast C xw_I) hk) (fun q9 => ?_)
      refine gw_astore_n C dL_sign_12 rfl (by decide) rfl ?_
      refine gw_iconst (v := 1) C dL_sign_13 rfl ?_
      exact gw_wret (M := mL_sign) (o' := pw_o g) C dL_sign_14 hr hlk (Nat.le_of_ble_eq_true rfl) (Or.inr (Or.inl ⟨rfl, rfl, q⟩))
    · exact q.elim
theorem w_accepts {g : pw_G} {σ : pw_Mem} {x1 x2 : Int32} {Q0 : Int32 → pw_Mem → Prop} {Qa Qb : pw_Mem → Prop} (h : WP g mX4_accepts 0 [(0, .ref (pw_ad g 0)), (1, .int x1), (2, .int x2)] [] 0 σ (wQ E_I E_S Q0 Qa Qb)) : WrM g mL_accepts [.ref (pw_ad g 0), .int x1, .int x2, .ref (pw_ad g 46)] σ (wR (pw_o g) zJ Q0 Qa Qb) := by
  refine gw_body (by decide) (Nat.le_of_ble_eq_true rfl) (fun p e s m args below meth c C hr hlk ht hN => ?_)
  have C : GC g p s m c args RL cL_accepts 5 := C
  have ht : c.exceptionTable.toList = tableOf [(0, 17, 20, 13), (0, 17, 24, 15)] := ht
  refine gw_aload_n 3 C dL_accepts_0 rfl rfl ?_
  refine gw_iconst (v := 0) C dL_accepts_1 rfl ?_
  refine gw_aload_n 0 C dL_accepts_2 rfl rfl ?_
  refine gw_iload_n 1 C dL_accepts_3 rfl rfl ?_
  refine gw_iload_n 2 C dL_accepts_4 rfl rfl ?_
  refine gw_callV (M' := mX4_accepts) (ci := 4) 0 [.int x1, .int x2] [.int 0, .ref (pw_ad g 46)] C dL_accepts_5 ck_L_28 rfl rfl ⟨Nat.le_of_ble_eq_true rfl, Nat.le_of_ble_eq_true rfl⟩ rfl (Nat.le_of_ble_eq_true rfl) (Nat.le_of_ble_eq_true rfl) ⟨Nat.le_of_ble_eq_true rfl, Nat.le_of_ble_eq_true rfl⟩ rfl h (fun rv σ' q => ?_) (fun E σ' q => ?_)
  · obtain ⟨y, rfl, q⟩ := wQ_some q
    refine gw_if_eq C dL_accepts_8 rfl (fun z => ?_) (fun z => ?_)
    · refine gw_lconst (v := 0) C dL_accepts_15 rfl ?_
      refine gw_lastore C dL_accepts_16 ?_
      refine gw_goto (C.out _) dL_accepts_17 rfl ?_
      refine gw_iconst (v := 0) (C.out _) dL_accepts_28 rfl ?_
      exact gw_wret (M := mL_accepts) C dL_accepts_29 hr hlk (Nat.le_of_ble_eq_true rfl) (Or.inl ⟨rfl, y, by rw [zJ, if_pos z], q⟩)
    · refine gw_lconst (v := 1) C dL_accepts_11 rfl ?_
      refine gw_goto C dL_accepts_12 rfl ?_
      refine gw_lastore C dL_accepts_16 ?_
      refine gw_goto (C.out _) dL_accepts_17 rfl ?_
      refine gw_iconst (v := 0) (C.out _) dL_accepts_28 rfl ?_
      exact gw_wret (M := mL_accepts) C dL_accepts_29 hr hlk (Nat.le_of_ble_eq_true rfl) (Or.inl ⟨rfl, y, by rw [zJ, if_neg z], q⟩)
  · rcases q with ⟨rfl, q⟩ | ⟨rfl, q⟩
    · refine gw_catch (h := 20) (fun pl k hpl hk => by rw [ht]; exact cx_hit hpl C.2.2.2.1 rfl (by decide) rfl (C.2.2.2.2.1 _ cl_13) (pw_cast C xw_I) hk) (fun q9 => ?_)
      refine gw_astore C dL_accepts_20 (by decide) rfl ?_
      refine gw_iconst (v := 1) C dL_accepts_22 rfl ?_
      exact gw_wret (M := mL_accepts) (o' := pw_o g) C dL_accepts_23 hr hlk (Nat.le_of_ble_eq_true rfl) (Or.inr (Or.inl ⟨rfl, rfl, q⟩))
    · refine gw_catch (h := 24) (fun pl k hpl hk => by rw [ht]; exact cx_pass hpl C.2.2.2.1 rfl (by decide) (C.2.2.2.2.1 _ cl_13) hN.1 hk (cx_hit hpl C.2.2.2.1 rfl (by decide) rfl (C.2.2.2.2.1 _ cl_15) (pw_cast C xw_S) hk)) (fun q9 => ?_)
      refine gw_astore C dL_accepts_24 (by decide) rfl ?_
      refine gw_iconst (v := 2) C dL_accepts_26 rfl ?_
      exact gw_wret (M := mL_accepts) (o' := pw_o g) C dL_accepts_27 hr hlk (Nat.le_of_ble_eq_true rfl) (Or.inr (Or.inr ⟨rfl, rfl, q⟩))
theorem w_draft {g : pw_G} {σ : pw_Mem} {x1 : Int32} {Q0 : pw_Mem → Prop} {Qa : pw_Mem → Prop} (h : WP g mX4_draft 0 [(0, .ref (pw_ad g 0)), (1, .int x1)] [] 0 σ (wV E_A "" Q0 Qa (fun _ => False))) : WrM g mL_draft [.ref (pw_ad g 0), .int x1] σ (wR (pw_o g) (fun _ => pw_o g) (fun _ => Q0) Qa (fun _ => False)) := by
  refine gw_body (by decide) (Nat.le_of_ble_eq_true rfl) (fun p e s m args below meth c C hr hlk ht hN => ?_)
  have C : GC g p s m c args RL cL_draft 3 := C
  have ht : c.exceptionTable.toList = tableOf [(0, 5, 8, 36)] := ht
  refine gw_aload_n 0 C dL_draft_0 rfl rfl ?_
  refine gw_iload_n 1 C dL_draft_1 rfl rfl ?_
  refine gw_callV (M' := mX4_draft) (ci := 4) 0 [.int x1] [] C dL_draft_2 ck_L_32 rfl rfl ⟨Nat.le_of_ble_eq_true rfl, Nat.le_of_ble_eq_true rfl⟩ rfl (Nat.le_of_ble_eq_true rfl) (Nat.le_of_ble_eq_true rfl) ⟨Nat.le_of_ble_eq_true rfl, Nat.le_of_ble_eq_true rfl⟩ rfl h (fun rv σ' q => ?_) (fun E σ' q => ?_)
  · obtain ⟨rfl, q⟩ := wV_none q
    refine gw_goto C dL_draft_5 rfl ?_
    refine gw_iconst (v := 0) C dL_draft_11 rfl ?_
    exact gw_wret (M := mL_draft) (o' := pw_o g) C dL_draft_12 hr hlk (Nat.le_of_ble_eq_true rfl) (Or.inl ⟨rfl, 0, rfl, q⟩)
  · rcases q with ⟨rfl, q⟩ | ⟨he, q⟩
    · refine gw_catch (h := 8) (fun pl k hpl hk => by rw [ht]; exact cx_hit hpl C.2.2.2.1 rfl (by decide) rfl (C.2.2.2.2.1 _ cl_36) (pw_cast C xw_A) hk) (fun q9 => ?_)
      refine gw_astore_n C dL_draft_8 rfl (by decide) rfl ?_
      refine gw_iconst (v := 1) C dL_draft_9 rfl ?_
      exact gw_wret (M := mL_draft) (o' := pw_o g) C dL_draft_10 hr hlk (Nat.le_of_ble_eq_true rfl) (Or.inr (Or.inl ⟨rfl, rfl, q⟩))
    · exact q.elim
theorem w_define {g : pw_G} {σ : pw_Mem} {x1 x2 x3 x4 : Int32} {Q0 : pw_Mem → Prop} {Qa Qb : pw_Mem → Prop} (h : WP g mX4_define 0 [(0, .ref (pw_ad g 0)), (1, .int x1), (2, .int x2), (3, .int x3), (4, .int x4)] [] 0 σ (wV E_S E_I Q0 Qa Qb)) : WrM g mL_define [.ref (pw_ad g 0), .int x1, .int x2, .int x3, .int x4] σ (wR (pw_o g) (fun _ => pw_o g) (fun _ => Q0) Qa Qb) := by
  refine gw_body (by decide) (Nat.le_of_ble_eq_true rfl) (fun p e s m args below meth c C hr hlk ht hN => ?_)
  have C : GC g p s m c args RL cL_define 6 := C
  have ht : c.exceptionTable.toList = tableOf [(0, 9, 12, 15), (0, 9, 16, 13)] := ht
  refine gw_aload_n 0 C dL_define_0 rfl rfl ?_
  refine gw_iload_n 1 C dL_define_1 rfl rfl ?_
  refine gw_iload_n 2 C dL_define_2 rfl rfl ?_
  refine gw_iload_n 3 C dL_define_3 rfl rfl ?_
  refine gw_iload 4 C dL_define_4 rfl ?_
  refine gw_callV (M' := mX4_define) (ci := 4) 0 [.int x1, .int x2, .int x3, .int x4] [] C dL_define_6 ck_L_38 rfl rfl ⟨Nat.le_of_ble_eq_true rfl, Nat.le_of_ble_eq_true rfl⟩ rfl (Nat.le_of_ble_eq_true rfl) (Nat.le_of_ble_eq_true rfl) ⟨Nat.le_of_ble_eq_true rfl, Nat.le_of_ble_eq_true rfl⟩ rfl h (fun rv σ' q => ?_) (fun E σ' q => ?_)
  · obtain ⟨rfl, q⟩ := wV_none q
    refine gw_goto C dL_define_9 rfl ?_
    refine gw_iconst (v := 0) C dL_define_20 rfl ?_
    exact gw_wret (M := mL_define) (o' := pw_o g) C dL_define_21 hr hlk (Nat.le_of_ble_eq_true rfl) (Or.inl ⟨rfl, 0, rfl, q⟩)
  · rcases q with ⟨rfl, q⟩ | ⟨rfl, q⟩
    · refine gw_catch (h := 12) (fun pl k hpl hk => by rw [ht]; exact cx_hit hpl C.2.2.2.1 rfl (by decide) rfl (C.2.2.2.2.1 _ cl_15) (pw_cast C xw_S) hk) (fun q9 => ?_)
      refine gw_astore C dL_define_12 (by decide) rfl ?_
      refine gw_iconst (v := 1) C dL_define_14 rfl ?_
      exact gw_wret (M := mL_define) (o' := pw_o g) C dL_define_15 hr hlk (Nat.le_of_ble_eq_true rfl) (Or.inr (Or.inl ⟨rfl, rfl, q⟩))
    · refine gw_catch (h := 16) (fun pl k hpl hk => by rw [ht]; exact cx_pass hpl C.2.2.2.1 rfl (by decide) (C.2.2.2.2.1 _ cl_15) hN.2.1 hk (cx_hit hpl C.2.2.2.1 rfl (by decide) rfl (C.2.2.2.2.1 _ cl_13) (pw_cast C xw_I) hk)) (fun q9 => ?_)
      refine gw_astore C dL_define_16 (by decide) rfl ?_
      refine gw_iconst (v := 2) C dL_define_18 rfl ?_
      exact gw_wret (M := mL_define) (o' := pw_o g) C dL_define_19 hr hlk (Nat.le_of_ble_eq_true rfl) (Or.inr (Or.inr ⟨rfl, rfl, q⟩))
theorem w_least {g : pw_G} {σ : pw_Mem} {Q0 : Int32 → pw_Mem → Prop} {Qa : pw_Mem → Prop} (h : WP g mX4_least 0 [(0, .ref (pw_ad g 0))] [] 0 σ (wQ E_S "" Q0 Qa (fun _ => False))) : WrM g mL_least [.ref (pw_ad g 0), .ref (pw_ad g 46)] σ (wR (pw_o g) (fun y => y.toInt64) Q0 Qa (fun _ => False)) := by
  refine gw_body (by decide) (Nat.le_of_ble_eq_true rfl) (fun p e s m args below meth c C hr hlk ht hN => ?_)
  have C : GC g p s m c args RL cL_least 3 := C
  have ht : c.exceptionTable.toList = tableOf [(0, 8, 11, 15)] := ht
  refine gw_aload_n 1 C dL_least_0 rfl rfl ?_
  refine gw_iconst (v := 0) C dL_least_1 rfl ?_
  refine gw_aload_n 0 C dL_least_2 rfl rfl ?_
  refine gw_callV (M' := mX4_least) (ci := 4) 0 [] [.int 0, .ref (pw_ad g 46)] C dL_least_3 ck_L_42 rfl rfl ⟨Nat.le_of_ble_eq_true rfl, Nat.le_of_ble_eq_true rfl⟩ rfl (Nat.le_of_ble_eq_true rfl) (Nat.le_of_ble_eq_true rfl) ⟨Nat.le_of_ble_eq_true rfl, Nat.le_of_ble_eq_true rfl⟩ rfl h (fun rv σ' q => ?_) (fun E σ' q => ?_)
  · obtain ⟨y, rfl, q⟩ := wQ_some q
    refine gw_i2l C dL_least_6 ?_
    refine gw_lastore C dL_least_7 ?_
    refine gw_goto (C.out _) dL_least_8 rfl ?_
    refine gw_iconst (v := 0) (C.out _) dL_least_14 rfl ?_
    exact gw_wret (M := mL_least) C dL_least_15 hr hlk (Nat.le_of_ble_eq_true rfl) (Or.inl ⟨rfl, y, rfl, q⟩)
  · rcases q with ⟨rfl, q⟩ | ⟨he, q⟩
    · refine gw_catch (h := 11) (fun pl k hpl hk => by rw [ht]; exact cx_hit hpl C.2.2.2.1 rfl (by decide) rfl (C.2.2.2.2.1 _ cl_15) (pw_cast C xw_S) hk) (fun q9 => ?_)
      refine gw_astore_n C dL_least_11 rfl (by decide) rfl ?_
      refine gw_iconst (v := 1) C dL_least_12 rfl ?_
      exact gw_wret (M := mL_least) (o' := pw_o g) C dL_least_13 hr hlk (Nat.le_of_ble_eq_true rfl) (Or.inr (Or.inl ⟨rfl, rfl, q⟩))
    · exact q.elim
theorem w_name {g : pw_G} {σ : pw_Mem} {x1 : Int32} {Q0 : Int32 → pw_Mem → Prop} {Qa Qb : pw_Mem → Prop} (h : WP g mX4_name 0 [(0, .ref (pw_ad g 0)), (1, .int x1)] [] 0 σ (wQ E_S E_I Q0 Qa Qb)) : WrM g mL_name [.ref (pw_ad g 0), .int x1, .ref (pw_ad g 46)] σ (wR (pw_o g) (fun y => y.toInt64) Q0 Qa Qb) := by
  refine gw_body (by decide) (Nat.le_of_ble_eq_true rfl) (fun p e s m args below meth c C hr hlk ht hN => ?_)
  have C : GC g p s m c args RL cL_name 4 := C
  have ht : c.exceptionTable.toList = tableOf [(0, 9, 12, 15), (0, 9, 15, 13)] := ht
  refine gw_aload_n 2 C dL_name_0 rfl rfl ?_
  refine gw_iconst (v := 0) C dL_name_1 rfl ?_
  refine gw_aload_n 0 C dL_name_2 rfl rfl ?_
  refine gw_iload_n 1 C dL_name_3 rfl rfl ?_
  refine gw_callV (M' := mX4_name) (ci := 4) 0 [.int x1] [.int 0, .ref (pw_ad g 46)] C dL_name_4 ck_L_46 rfl rfl ⟨Nat.le_of_ble_eq_true rfl, Nat.le_of_ble_eq_true rfl⟩ rfl (Nat.le_of_ble_eq_true rfl) (Nat.le_of_ble_eq_true rfl) ⟨Nat.le_of_ble_eq_true rfl, Nat.le_of_ble_eq_true rfl⟩ rfl h (fun rv σ' q => ?_) (fun E σ' q => ?_)
  · obtain ⟨y, rfl, q⟩ := wQ_some q
    refine gw_i2l C dL_name_7 ?_
    refine gw_lastore C dL_name_8 ?_
    refine gw_goto (C.out _) dL_name_9 rfl ?_
    refine gw_iconst (v := 0) (C.out _) dL_name_18 rfl ?_
    exact gw_wret (M := mL_name) C dL_name_19 hr hlk (Nat.le_of_ble_eq_true rfl) (Or.inl ⟨rfl, y, rfl, q⟩)
  · rcases q with ⟨rfl, q⟩ | ⟨rfl, q⟩
    · refine gw_catch (h := 12) (fun pl k hpl hk => by rw [ht]; exact cx_hit hpl C.2.2.2.1 rfl (by decide) rfl (C.2.2.2.2.1 _ cl_15) (pw_cast C xw_S) hk) (fun q9 => ?_)
      refine gw_astore_n C dL_name_12 rfl (by decide) rfl ?_
      refine gw_iconst (v := 1) C dL_name_13 rfl ?_
      exact gw_wret (M := mL_name) (o' := pw_o g) C dL_name_14 hr hlk (Nat.le_of_ble_eq_true rfl) (Or.inr (Or.inl ⟨rfl, rfl, q⟩))
    · refine gw_catch (h := 15) (fun pl k hpl hk => by rw [ht]; exact cx_pass hpl C.2.2.2.1 rfl (by decide) (C.2.2.2.2.1 _ cl_15) hN.2.1 hk (cx_hit hpl C.2.2.2.1 rfl (by decide) rfl (C.2.2.2.2.1 _ cl_13) (pw_cast C xw_I) hk)) (fun q9 => ?_)
      refine gw_astore_n C dL_name_15 rfl (by decide) rfl ?_
      refine gw_iconst (v := 2) C dL_name_16 rfl ?_
      exact gw_wret (M := mL_name) (o' := pw_o g) C dL_name_17 hr hlk (Nat.le_of_ble_eq_true rfl) (Or.inr (Or.inr ⟨rfl, rfl, q⟩))
theorem w_apart {g : pw_G} {σ : pw_Mem} {x1 x2 : Int32} {Q0 : Int32 → pw_Mem → Prop} {Qa Qb : pw_Mem → Prop} (h : WP g mX4_apart 0 [(0, .ref (pw_ad g 0)), (1, .int x1), (2, .int x2)] [] 0 σ (wQ E_S E_I Q0 Qa Qb)) : WrM g mL_apart [.ref (pw_ad g 0), .int x1, .int x2, .ref (pw_ad g 46)] σ (wR (pw_o g) (fun y => y.toInt64) Q0 Qa Qb) := by
  refine gw_body (by decide) (Nat.le_of_ble_eq_true rfl) (fun p e s m args below meth c C hr hlk ht hN => ?_)
  have C : GC g p s m c args RL cL_apart 5 := C
  have ht : c.exceptionTable.toList = tableOf [(0, 10, 13, 15), (0, 10, 17, 13)] := ht
  refine gw_aload_n 3 C dL_apart_0 rfl rfl ?_
  refine gw_iconst (v := 0) C dL_apart_1 rfl ?_
  refine gw_aload_n 0 C dL_apart_2 rfl rfl ?_
  refine gw_iload_n 1 C dL_apart_3 rfl rfl ?_
  refine gw_iload_n 2 C dL_apart_4 rfl rfl ?_
  refine gw_callV (M' := mX4_apart) (ci := 4) 0 [.int x1, .int x2] [.int 0, .ref (pw_ad g 46)] C dL_apart_5 ck_L_49 rfl rfl ⟨Nat.le_of_ble_eq_true rfl, Nat.le_of_ble_eq_true rfl⟩ rfl (Nat.le_of_ble_eq_true rfl) (Nat.le_of_ble_eq_true rfl) ⟨Nat.le_of_ble_eq_true rfl, Nat.le_of_ble_eq_true rfl⟩ rfl h (fun rv σ' q => ?_) (fun E σ' q => ?_)
  · obtain ⟨y, rfl, q⟩ := wQ_some q
    refine gw_i2l C dL_apart_8 ?_
    refine gw_lastore C dL_apart_9 ?_
    refine gw_goto (C.out _) dL_apart_10 rfl ?_
    refine gw_iconst (v := 0) (C.out _) dL_apart_21 rfl ?_
    exact gw_wret (M := mL_apart) C dL_apart_22 hr hlk (Nat.le_of_ble_eq_true rfl) (Or.inl ⟨rfl, y, rfl, q⟩)
  · rcases q with ⟨rfl, q⟩ | ⟨rfl, q⟩
    · refine gw_catch (h := 13) (fun pl k hpl hk => by rw [ht]; exact cx_hit hpl C.2.2.2.1 rfl (by decide) rfl (C.2.2.2.2.1 _ cl_15) (pw_cast C xw_S) hk) (fun q9 => ?_)
      refine gw_astore C dL_apart_13 (by decide) rfl ?_
      refine gw_iconst (v := 1) C dL_apart_15 rfl ?_
      exact gw_wret (M := mL_apart) (o' := pw_o g) C dL_apart_16 hr hlk (Nat.le_of_ble_eq_true rfl) (Or.inr (Or.inl ⟨rfl, rfl, q⟩))
    · refine gw_catch (h := 17) (fun pl k hpl hk => by rw [ht]; exact cx_pass hpl C.2.2.2.1 rfl (by decide) (C.2.2.2.2.1 _ cl_15) hN.2.1 hk (cx_hit hpl C.2.2.2.1 rfl (by decide) rfl (C.2.2.2.2.1 _ cl_13) (pw_cast C xw_I) hk)) (fun q9 => ?_)
      refine gw_astore C dL_apart_17 (by decide) rfl ?_
      refine gw_iconst (v := 2) C dL_apart_19 rfl ?_
      exact gw_wret (M := mL_apart) (o' := pw_o g) C dL_apart_20 hr hlk (Nat.le_of_ble_eq_true rfl) (Or.inr (Or.inr ⟨rfl, rfl, q⟩))
theorem w_exemplify {g : pw_G} {σ : pw_Mem} {Q0 : Int32 → pw_Mem → Prop} {Qa Qb : pw_Mem → Prop} (h : WP g mX4_exemplify 0 [(0, .ref (pw_ad g 0))] [] 0 σ (wQ E_S E_A Q0 Qa Qb)) : WrM g mL_exemplify [.ref (pw_ad g 0), .ref (pw_ad g 46)] σ (wR (pw_o g) (fun y => y.toInt64) Q0 Qa Qb) := by
  refine gw_body (by decide) (Nat.le_of_ble_eq_true rfl) (fun p e s m args below meth c C hr hlk ht hN => ?_)
  have C : GC g p s m c args RL cL_exemplify 3 := C
  have ht : c.exceptionTable.toList = tableOf [(0, 8, 11, 15), (0, 8, 14, 36)] := ht
  refine gw_aload_n 1 C dL_exemplify_0 rfl rfl ?_
  refine gw_iconst (v := 0) C dL_exemplify_1 rfl ?_
  refine gw_aload_n 0 C dL_exemplify_2 rfl rfl ?_
  refine gw_callV (M' := mX4_exemplify) (ci := 4) 0 [] [.int 0, .ref (pw_ad g 46)] C dL_exemplify_3 ck_L_52 rfl rfl ⟨Nat.le_of_ble_eq_true rfl, Nat.le_of_ble_eq_true rfl⟩ rfl (Nat.le_of_ble_eq_true rfl) (Nat.le_of_ble_eq_true rfl) ⟨Nat.le_of_ble_eq_true rfl, Nat.le_of_ble_eq_true rfl⟩ rfl h (fun rv σ' q => ?_) (fun E σ' q => ?_)
  · obtain ⟨y, rfl, q⟩ := wQ_some q
    refine gw_i2l C dL_exemplify_6 ?_
    refine gw_lastore C dL_exemplify_7 ?_
    refine gw_goto (C.out _) dL_exemplify_8 rfl ?_
    refine gw_iconst (v := 0) (C.out _) dL_exemplify_17 rfl ?_
    exact gw_wret (M := mL_exemplify) C dL_exemplify_18 hr hlk (Nat.le_of_ble_eq_true rfl) (Or.inl ⟨rfl, y, rfl, q⟩)
  · rcases q with ⟨rfl, q⟩ | ⟨rfl, q⟩
    · refine gw_catch (h := 11) (fun pl k hpl hk => by rw [ht]; exact cx_hit hpl C.2.2.2.1 rfl (by decide) rfl (C.2.2.2.2.1 _ cl_15) (pw_cast C xw_S) hk) (fun q9 => ?_)
      refine gw_astore_n C dL_exemplify_11 rfl (by decide) rfl ?_
      refine gw_iconst (v := 1) C dL_exemplify_12 rfl ?_
      exact gw_wret (M := mL_exemplify) (o' := pw_o g) C dL_exemplify_13 hr hlk (Nat.le_of_ble_eq_true rfl) (Or.inr (Or.inl ⟨rfl, rfl, q⟩))
    · refine gw_catch (h := 14) (fun pl k hpl hk => by rw [ht]; exact cx_pass hpl C.2.2.2.1 rfl (by decide) (C.2.2.2.2.1 _ cl_15) hN.2.2 hk (cx_hit hpl C.2.2.2.1 rfl (by decide) rfl (C.2.2.2.2.1 _ cl_36) (pw_cast C xw_A) hk)) (fun q9 => ?_)
      refine gw_astore_n C dL_exemplify_14 rfl (by decide) rfl ?_
      refine gw_iconst (v := 2) C dL_exemplify_15 rfl ?_
      exact gw_wret (M := mL_exemplify) (o' := pw_o g) C dL_exemplify_16 hr hlk (Nat.le_of_ble_eq_true rfl) (Or.inr (Or.inr ⟨rfl, rfl, q⟩))
theorem w_same {g : pw_G} {σ : pw_Mem} {Q0 : Int32 → pw_Mem → Prop} {Qa : pw_Mem → Prop} (h : WP g mX4_same 0 [(0, .ref (pw_ad g 0))] [] 0 σ (wQ E_S "" Q0 Qa (fun _ => False))) : WrM g mL_same [.ref (pw_ad g 0), .ref (pw_ad g 46)] σ (wR (pw_o g) zJ Q0 Qa (fun _ => False)) := by
  refine gw_body (by decide) (Nat.le_of_ble_eq_true rfl) (fun p e s m args below meth c C hr hlk ht hN => ?_)
  have C : GC g p s m c args RL cL_same 3 := C
  have ht : c.exceptionTable.toList = tableOf [(0, 15, 18, 15)] := ht
  refine gw_aload_n 1 C dL_same_0 rfl rfl ?_
  refine gw_iconst (v := 0) C dL_same_1 rfl ?_
  refine gw_aload_n 0 C dL_same_2 rfl rfl ?_
  refine gw_callV (M' := mX4_same) (ci := 4) 0 [] [.int 0, .ref (pw_ad g 46)] C dL_same_3 ck_L_55 rfl rfl ⟨Nat.le_of_ble_eq_true rfl, Nat.le_of_ble_eq_true rfl⟩ rfl (Nat.le_of_ble_eq_true rfl) (Nat.le_of_ble_eq_true rfl) ⟨Nat.le_of_ble_eq_true rfl, Nat.le_of_ble_eq_true rfl⟩ rfl h (fun rv σ' q => ?_) (fun E σ' q => ?_)
  · obtain ⟨y, rfl, q⟩ := wQ_some q
    refine gw_if_eq C dL_same_6 rfl (fun z => ?_) (fun z => ?_)
    · refine gw_lconst (v := 0) C dL_same_13 rfl ?_
      refine gw_lastore C dL_same_14 ?_
      refine gw_goto (C.out _) dL_same_15 rfl ?_
      refine gw_iconst (v := 0) (C.out _) dL_same_21 rfl ?_
      exact gw_wret (M := mL_same) C dL_same_22 hr hlk (Nat.le_of_ble_eq_true rfl) (Or.inl ⟨rfl, y, by rw [zJ, if_pos z], q⟩)
    · refine gw_lconst (v := 1) C dL_same_9 rfl ?_
      refine gw_goto C dL_same_10 rfl ?_
      refine gw_lastore C dL_same_14 ?_
      refine gw_goto (C.out _) dL_same_15 rfl ?_
      refine gw_iconst (v := 0) (C.out _) dL_same_21 rfl ?_
      exact gw_wret (M := mL_same) C dL_same_22 hr hlk (Nat.le_of_ble_eq_true rfl) (Or.inl ⟨rfl, y, by rw [zJ, if_neg z], q⟩)
  · rcases q with ⟨rfl, q⟩ | ⟨he, q⟩
    · refine gw_catch (h := 18) (fun pl k hpl hk => by rw [ht]; exact cx_hit hpl C.2.2.2.1 rfl (by decide) rfl (C.2.2.2.2.1 _ cl_15) (pw_cast C xw_S) hk) (fun q9 => ?_)
      refine gw_astore_n C dL_same_18 rfl (by decide) rfl ?_
      refine gw_iconst (v := 1) C dL_same_19 rfl ?_
      exact gw_wret (M := mL_same) (o' := pw_o g) C dL_same_20 hr hlk (Nat.le_of_ble_eq_true rfl) (Or.inr (Or.inl ⟨rfl, rfl, q⟩))
    · exact q.elim
