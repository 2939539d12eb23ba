theorem dX0_init_0 : decode cX0_init 0 = .ok (.aload_n 0, 1) := by decide +kernel
theorem dX0_init_1 : decode cX0_init 1 = .ok (.invokespecial 3, 3) := by decide +kernel
theorem dX0_init_4 : decode cX0_init 4 = .ok (.aload_n 0, 1) := by decide +kernel
theorem dX0_init_5 : decode cX0_init 5 = .ok (.iconst 0, 1) := by decide +kernel
theorem dX0_init_6 : decode cX0_init 6 = .ok (.putfield 9, 3) := by decide +kernel
theorem dX0_init_9 : decode cX0_init 9 = .ok (.aload_n 0, 1) := by decide +kernel
theorem dX0_init_10 : decode cX0_init 10 = .ok (.iload_n 1, 1) := by decide +kernel
theorem dX0_init_11 : decode cX0_init 11 = .ok (.newarray .int, 2) := by decide +kernel
theorem dX0_init_13 : decode cX0_init 13 = .ok (.putfield 15, 3) := by decide +kernel
theorem dX0_init_16 : decode cX0_init 16 = .ok (.aload_n 0, 1) := by decide +kernel
theorem dX0_init_17 : decode cX0_init 17 = .ok (.iconst 2, 1) := by decide +kernel
theorem dX0_init_18 : decode cX0_init 18 = .ok (.iload_n 1, 1) := by decide +kernel
theorem dX0_init_19 : decode cX0_init 19 = .ok (.imul, 1) := by decide +kernel
theorem dX0_init_20 : decode cX0_init 20 = .ok (.newarray .int, 2) := by decide +kernel
theorem dX0_init_22 : decode cX0_init 22 = .ok (.putfield 19, 3) := by decide +kernel
theorem dX0_init_25 : decode cX0_init 25 = .ok (.return_, 1) := by decide +kernel
theorem dX0_count_0 : decode cX0_count 0 = .ok (.aload_n 0, 1) := by decide +kernel
theorem dX0_count_1 : decode cX0_count 1 = .ok (.getfield 9, 3) := by decide +kernel
theorem dX0_count_4 : decode cX0_count 4 = .ok (.ireturn, 1) := by decide +kernel
theorem dX0_resize_0 : decode cX0_resize 0 = .ok (.aload_n 0, 1) := by decide +kernel
theorem dX0_resize_1 : decode cX0_resize 1 = .ok (.iload_n 1, 1) := by decide +kernel
theorem dX0_resize_2 : decode cX0_resize 2 = .ok (.putfield 9, 3) := by decide +kernel
theorem dX0_resize_5 : decode cX0_resize 5 = .ok (.return_, 1) := by decide +kernel
theorem dX0_has_0 : decode cX0_has 0 = .ok (.iload_n 1, 1) := by decide +kernel
theorem dX0_has_1 : decode cX0_has 1 = .ok (.ifCond .lt 15, 3) := by decide +kernel
theorem dX0_has_4 : decode cX0_has 4 = .ok (.iload_n 1, 1) := by decide +kernel
theorem dX0_has_5 : decode cX0_has 5 = .ok (.aload_n 0, 1) := by decide +kernel
theorem dX0_has_6 : decode cX0_has 6 = .ok (.getfield 9, 3) := by decide +kernel
theorem dX0_has_9 : decode cX0_has 9 = .ok (.if_icmp .ge 7, 3) := by decide +kernel
theorem dX0_has_12 : decode cX0_has 12 = .ok (.iconst 1, 1) := by decide +kernel
theorem dX0_has_13 : decode cX0_has 13 = .ok (.goto 4, 3) := by decide +kernel
theorem dX0_has_16 : decode cX0_has 16 = .ok (.iconst 0, 1) := by decide +kernel
theorem dX0_has_17 : decode cX0_has 17 = .ok (.ireturn, 1) := by decide +kernel
theorem dX0_markOf_0 : decode cX0_markOf 0 = .ok (.aload_n 0, 1) := by decide +kernel
theorem dX0_markOf_1 : decode cX0_markOf 1 = .ok (.getfield 15, 3) := by decide +kernel
theorem dX0_markOf_4 : decode cX0_markOf 4 = .ok (.iload_n 1, 1) := by decide +kernel
theorem dX0_markOf_5 : decode cX0_markOf 5 = .ok (.iaload, 1) := by decide +kernel
theorem dX0_markOf_6 : decode cX0_markOf 6 = .ok (.ireturn, 1) := by decide +kernel
theorem dX0_arrow_0 : decode cX0_arrow 0 = .ok (.aload_n 0, 1) := by decide +kernel
theorem dX0_arrow_1 : decode cX0_arrow 1 = .ok (.getfield 19, 3) := by decide +kernel
theorem dX0_arrow_4 : decode cX0_arrow 4 = .ok (.iconst 2, 1) := by decide +kernel
theorem dX0_arrow_5 : decode cX0_arrow 5 = .ok (.iload_n 1, 1) := by decide +kernel
theorem dX0_arrow_6 : decode cX0_arrow 6 = .ok (.imul, 1) := by decide +kernel
theorem dX0_arrow_7 : decode cX0_arrow 7 = .ok (.iload_n 2, 1) := by decide +kernel
theorem dX0_arrow_8 : decode cX0_arrow 8 = .ok (.iadd, 1) := by decide +kernel
theorem dX0_arrow_9 : decode cX0_arrow 9 = .ok (.iaload, 1) := by decide +kernel
theorem dX0_arrow_10 : decode cX0_arrow 10 = .ok (.ireturn, 1) := by decide +kernel
theorem dX0_put_0 : decode cX0_put 0 = .ok (.aload_n 0, 1) := by decide +kernel
theorem dX0_put_1 : decode cX0_put 1 = .ok (.getfield 15, 3) := by decide +kernel
theorem dX0_put_4 : decode cX0_put 4 = .ok (.iload_n 1, 1) := by decide +kernel
theorem dX0_put_5 : decode cX0_put 5 = .ok (.iload_n 2, 1) := by decide +kernel
theorem dX0_put_6 : decode cX0_put 6 = .ok (.iastore, 1) := by decide +kernel
theorem dX0_put_7 : decode cX0_put 7 = .ok (.aload_n 0, 1) := by decide +kernel
theorem dX0_put_8 : decode cX0_put 8 = .ok (.getfield 19, 3) := by decide +kernel
theorem dX0_put_11 : decode cX0_put 11 = .ok (.iconst 2, 1) := by decide +kernel
theorem dX0_put_12 : decode cX0_put 12 = .ok (.iload_n 1, 1) := by decide +kernel
theorem dX0_put_13 : decode cX0_put 13 = .ok (.imul, 1) := by decide +kernel
theorem dX0_put_14 : decode cX0_put 14 = .ok (.iload_n 3, 1) := by decide +kernel
theorem dX0_put_15 : decode cX0_put 15 = .ok (.iastore, 1) := by decide +kernel
theorem dX0_put_16 : decode cX0_put 16 = .ok (.aload_n 0, 1) := by decide +kernel
theorem dX0_put_17 : decode cX0_put 17 = .ok (.getfield 19, 3) := by decide +kernel
theorem dX0_put_20 : decode cX0_put 20 = .ok (.iconst 2, 1) := by decide +kernel
theorem dX0_put_21 : decode cX0_put 21 = .ok (.iload_n 1, 1) := by decide +kernel
theorem dX0_put_22 : decode cX0_put 22 = .ok (.imul, 1) := by decide +kernel
theorem dX0_put_23 : decode cX0_put 23 = .ok (.iconst 1, 1) := by decide +kernel
theorem dX0_put_24 : decode cX0_put 24 = .ok (.iadd, 1) := by decide +kernel
theorem dX0_put_25 : decode cX0_put 25 = .ok (.iload 4, 2) := by decide +kernel
theorem dX0_put_27 : decode cX0_put 27 = .ok (.iastore, 1) := by decide +kernel
theorem dX0_put_28 : decode cX0_put 28 = .ok (.return_, 1) := by decide +kernel
theorem dX0_walk_0 : decode cX0_walk 0 = .ok (.iload_n 1, 1) := by decide +kernel
theorem dX0_walk_1 : decode cX0_walk 1 = .ok (.istore_n 3, 1) := by decide +kernel
theorem dX0_walk_2 : decode cX0_walk 2 = .ok (.iload_n 2, 1) := by decide +kernel
theorem dX0_walk_3 : decode cX0_walk 3 = .ok (.invokestatic 22, 3) := by decide +kernel
theorem dX0_walk_6 : decode cX0_walk 6 = .ok (.iconst 1, 1) := by decide +kernel
theorem dX0_walk_7 : decode cX0_walk 7 = .ok (.isub, 1) := by decide +kernel
theorem dX0_walk_8 : decode cX0_walk 8 = .ok (.istore 4, 2) := by decide +kernel
theorem dX0_walk_10 : decode cX0_walk 10 = .ok (.iload 4, 2) := by decide +kernel
theorem dX0_walk_12 : decode cX0_walk 12 = .ok (.ifCond .lt 26, 3) := by decide +kernel
theorem dX0_walk_15 : decode cX0_walk 15 = .ok (.iload_n 3, 1) := by decide +kernel
theorem dX0_walk_16 : decode cX0_walk 16 = .ok (.iconst (-1), 1) := by decide +kernel
theorem dX0_walk_17 : decode cX0_walk 17 = .ok (.if_icmp .eq 21, 3) := by decide +kernel
theorem dX0_walk_20 : decode cX0_walk 20 = .ok (.aload_n 0, 1) := by decide +kernel
theorem dX0_walk_21 : decode cX0_walk 21 = .ok (.iload_n 3, 1) := by decide +kernel
theorem dX0_walk_22 : decode cX0_walk 22 = .ok (.iload_n 2, 1) := by decide +kernel
theorem dX0_walk_23 : decode cX0_walk 23 = .ok (.iload 4, 2) := by decide +kernel
theorem dX0_walk_25 : decode cX0_walk 25 = .ok (.ishr, 1) := by decide +kernel
theorem dX0_walk_26 : decode cX0_walk 26 = .ok (.iconst 1, 1) := by decide +kernel
theorem dX0_walk_27 : decode cX0_walk 27 = .ok (.iand, 1) := by decide +kernel
theorem dX0_walk_28 : decode cX0_walk 28 = .ok (.invokevirtual 26, 3) := by decide +kernel
theorem dX0_walk_31 : decode cX0_walk 31 = .ok (.istore_n 3, 1) := by decide +kernel
theorem dX0_walk_32 : decode cX0_walk 32 = .ok (.iinc 4 (-1), 3) := by decide +kernel
theorem dX0_walk_35 : decode cX0_walk 35 = .ok (.goto (-25), 3) := by decide +kernel
theorem dX0_walk_38 : decode cX0_walk 38 = .ok (.iload_n 3, 1) := by decide +kernel
theorem dX0_walk_39 : decode cX0_walk 39 = .ok (.ireturn, 1) := by decide +kernel
theorem dX0_isLike_0 : decode cX0_isLike 0 = .ok (.aload_n 0, 1) := by decide +kernel
theorem dX0_isLike_1 : decode cX0_isLike 1 = .ok (.getfield 9, 3) := by decide +kernel
theorem dX0_isLike_4 : decode cX0_isLike 4 = .ok (.aload_n 1, 1) := by decide +kernel
theorem dX0_isLike_5 : decode cX0_isLike 5 = .ok (.getfield 9, 3) := by decide +kernel
theorem dX0_isLike_8 : decode cX0_isLike 8 = .ok (.if_icmp .eq 5, 3) := by decide +kernel
theorem dX0_isLike_11 : decode cX0_isLike 11 = .ok (.iconst 0, 1) := by decide +kernel
theorem dX0_isLike_12 : decode cX0_isLike 12 = .ok (.ireturn, 1) := by decide +kernel
theorem dX0_isLike_13 : decode cX0_isLike 13 = .ok (.iconst 0, 1) := by decide +kernel
theorem dX0_isLike_14 : decode cX0_isLike 14 = .ok (.istore_n 2, 1) := by decide +kernel
theorem dX0_isLike_15 : decode cX0_isLike 15 = .ok (.iload_n 2, 1) := by decide +kernel
theorem dX0_isLike_16 : decode cX0_isLike 16 = .ok (.aload_n 0, 1) := by decide +kernel
theorem dX0_isLike_17 : decode cX0_isLike 17 = .ok (.getfield 9, 3) := by decide +kernel
theorem dX0_isLike_20 : decode cX0_isLike 20 = .ok (.if_icmp .ge 56, 3) := by decide +kernel
theorem dX0_isLike_23 : decode cX0_isLike 23 = .ok (.aload_n 0, 1) := by decide +kernel
theorem dX0_isLike_24 : decode cX0_isLike 24 = .ok (.getfield 15, 3) := by decide +kernel
theorem dX0_isLike_27 : decode cX0_isLike 27 = .ok (.iload_n 2, 1) := by decide +kernel
theorem dX0_isLike_28 : decode cX0_isLike 28 = .ok (.iaload, 1) := by decide +kernel
theorem dX0_isLike_29 : decode cX0_isLike 29 = .ok (.aload_n 1, 1) := by decide +kernel
theorem dX0_isLike_30 : decode cX0_isLike 30 = .ok (.getfield 15, 3) := by decide +kernel
theorem dX0_isLike_33 : decode cX0_isLike 33 = .ok (.iload_n 2, 1) := by decide +kernel
theorem dX0_isLike_34 : decode cX0_isLike 34 = .ok (.iaload, 1) := by decide +kernel
theorem dX0_isLike_35 : decode cX0_isLike 35 = .ok (.if_icmp .ne 33, 3) := by decide +kernel
theorem dX0_isLike_38 : decode cX0_isLike 38 = .ok (.aload_n 0, 1) := by decide +kernel
theorem dX0_isLike_39 : decode cX0_isLike 39 = .ok (.iload_n 2, 1) := by decide +kernel
theorem dX0_isLike_40 : decode cX0_isLike 40 = .ok (.iconst 0, 1) := by decide +kernel
theorem dX0_isLike_41 : decode cX0_isLike 41 = .ok (.invokevirtual 26, 3) := by decide +kernel
theorem dX0_isLike_44 : decode cX0_isLike 44 = .ok (.aload_n 1, 1) := by decide +kernel
theorem dX0_isLike_45 : decode cX0_isLike 45 = .ok (.iload_n 2, 1) := by decide +kernel
theorem dX0_isLike_46 : decode cX0_isLike 46 = .ok (.iconst 0, 1) := by decide +kernel
theorem dX0_isLike_47 : decode cX0_isLike 47 = .ok (.invokevirtual 26, 3) := by decide +kernel
theorem dX0_isLike_50 : decode cX0_isLike 50 = .ok (.if_icmp .ne 18, 3) := by decide +kernel
theorem dX0_isLike_53 : decode cX0_isLike 53 = .ok (.aload_n 0, 1) := by decide +kernel
theorem dX0_isLike_54 : decode cX0_isLike 54 = .ok (.iload_n 2, 1) := by decide +kernel
theorem dX0_isLike_55 : decode cX0_isLike 55 = .ok (.iconst 1, 1) := by decide +kernel
theorem dX0_isLike_56 : decode cX0_isLike 56 = .ok (.invokevirtual 26, 3) := by decide +kernel
theorem dX0_isLike_59 : decode cX0_isLike 59 = .ok (.aload_n 1, 1) := by decide +kernel
theorem dX0_isLike_60 : decode cX0_isLike 60 = .ok (.iload_n 2, 1) := by decide +kernel
theorem dX0_isLike_61 : decode cX0_isLike 61 = .ok (.iconst 1, 1) := by decide +kernel
theorem dX0_isLike_62 : decode cX0_isLike 62 = .ok (.invokevirtual 26, 3) := by decide +kernel
theorem dX0_isLike_65 : decode cX0_isLike 65 = .ok (.if_icmp .eq 5, 3) := by decide +kernel
theorem dX0_isLike_68 : decode cX0_isLike 68 = .ok (.iconst 0, 1) := by decide +kernel
theorem dX0_isLike_69 : decode cX0_isLike 69 = .ok (.ireturn, 1) := by decide +kernel
theorem dX0_isLike_70 : decode cX0_isLike 70 = .ok (.iinc 2 1, 3) := by decide +kernel
theorem dX0_isLike_73 : decode cX0_isLike 73 = .ok (.goto (-58), 3) := by decide +kernel
theorem dX0_isLike_76 : decode cX0_isLike 76 = .ok (.iconst 1, 1) := by decide +kernel
theorem dX0_isLike_77 : decode cX0_isLike 77 = .ok (.ireturn, 1) := by decide +kernel
theorem dX1_init_0 : decode cX1_init 0 = .ok (.aload_n 0, 1) := by decide +kernel
theorem dX1_init_1 : decode cX1_init 1 = .ok (.invokespecial 3, 3) := by decide +kernel
theorem dX1_init_4 : decode cX1_init 4 = .ok (.aload_n 0, 1) := by decide +kernel
theorem dX1_init_5 : decode cX1_init 5 = .ok (.new 9, 3) := by decide +kernel
theorem dX1_init_8 : decode cX1_init 8 = .ok (.dup, 1) := by decide +kernel
theorem dX1_init_9 : decode cX1_init 9 = .ok (.iconst 5, 1) := by decide +kernel
theorem dX1_init_10 : decode cX1_init 10 = .ok (.invokespecial 11, 3) := by decide +kernel
theorem dX1_init_13 : decode cX1_init 13 = .ok (.putfield 14, 3) := by decide +kernel
theorem dX1_init_16 : decode cX1_init 16 = .ok (.aload_n 0, 1) := by decide +kernel
theorem dX1_init_17 : decode cX1_init 17 = .ok (.new 9, 3) := by decide +kernel
theorem dX1_init_20 : decode cX1_init 20 = .ok (.dup, 1) := by decide +kernel
theorem dX1_init_21 : decode cX1_init 21 = .ok (.iconst 5, 1) := by decide +kernel
theorem dX1_init_22 : decode cX1_init 22 = .ok (.invokespecial 11, 3) := by decide +kernel
theorem dX1_init_25 : decode cX1_init 25 = .ok (.putfield 20, 3) := by decide +kernel
theorem dX1_init_28 : decode cX1_init 28 = .ok (.aload_n 0, 1) := by decide +kernel
theorem dX1_init_29 : decode cX1_init 29 = .ok (.bipush 25, 2) := by decide +kernel
theorem dX1_init_31 : decode cX1_init 31 = .ok (.newarray .int, 2) := by decide +kernel
theorem dX1_init_33 : decode cX1_init 33 = .ok (.putfield 23, 3) := by decide +kernel
theorem dX1_init_36 : decode cX1_init 36 = .ok (.aload_n 0, 1) := by decide +kernel
theorem dX1_init_37 : decode cX1_init 37 = .ok (.iconst 5, 1) := by decide +kernel
theorem dX1_init_38 : decode cX1_init 38 = .ok (.newarray .int, 2) := by decide +kernel
theorem dX1_init_40 : decode cX1_init 40 = .ok (.putfield 27, 3) := by decide +kernel
theorem dX1_init_43 : decode cX1_init 43 = .ok (.aload_n 0, 1) := by decide +kernel
theorem dX1_init_44 : decode cX1_init 44 = .ok (.iconst 5, 1) := by decide +kernel
theorem dX1_init_45 : decode cX1_init 45 = .ok (.newarray .int, 2) := by decide +kernel
theorem dX1_init_47 : decode cX1_init 47 = .ok (.putfield 30, 3) := by decide +kernel
theorem dX1_init_50 : decode cX1_init 50 = .ok (.aload_n 0, 1) := by decide +kernel
theorem dX1_init_51 : decode cX1_init 51 = .ok (.iconst 5, 1) := by decide +kernel
theorem dX1_init_52 : decode cX1_init 52 = .ok (.newarray .int, 2) := by decide +kernel
theorem dX1_init_54 : decode cX1_init 54 = .ok (.putfield 33, 3) := by decide +kernel
theorem dX1_init_57 : decode cX1_init 57 = .ok (.aload_n 0, 1) := by decide +kernel
theorem dX1_init_58 : decode cX1_init 58 = .ok (.iconst 5, 1) := by decide +kernel
theorem dX1_init_59 : decode cX1_init 59 = .ok (.newarray .int, 2) := by decide +kernel
theorem dX1_init_61 : decode cX1_init 61 = .ok (.putfield 36, 3) := by decide +kernel
theorem dX1_init_64 : decode cX1_init 64 = .ok (.aload_n 0, 1) := by decide +kernel
theorem dX1_init_65 : decode cX1_init 65 = .ok (.sipush 512, 3) := by decide +kernel
theorem dX1_init_68 : decode cX1_init 68 = .ok (.newarray .int, 2) := by decide +kernel
theorem dX1_init_70 : decode cX1_init 70 = .ok (.putfield 39, 3) := by decide +kernel
theorem dX1_init_73 : decode cX1_init 73 = .ok (.return_, 1) := by decide +kernel
theorem dX1_drawn_0 : decode cX1_drawn 0 = .ok (.aload_n 0, 1) := by decide +kernel
theorem dX1_drawn_1 : decode cX1_drawn 1 = .ok (.getfield 14, 3) := by decide +kernel
theorem dX1_drawn_4 : decode cX1_drawn 4 = .ok (.areturn, 1) := by decide +kernel
theorem dX1_reduced_0 : decode cX1_reduced 0 = .ok (.aload_n 0, 1) := by decide +kernel
theorem dX1_reduced_1 : decode cX1_reduced 1 = .ok (.getfield 20, 3) := by decide +kernel
theorem dX1_reduced_4 : decode cX1_reduced 4 = .ok (.areturn, 1) := by decide +kernel
theorem dX1_begin_0 : decode cX1_begin 0 = .ok (.aload_n 0, 1) := by decide +kernel
theorem dX1_begin_1 : decode cX1_begin 1 = .ok (.getfield 14, 3) := by decide +kernel
theorem dX1_begin_4 : decode cX1_begin 4 = .ok (.iload_n 1, 1) := by decide +kernel
theorem dX1_begin_5 : decode cX1_begin 5 = .ok (.invokevirtual 42, 3) := by decide +kernel
theorem dX1_begin_8 : decode cX1_begin 8 = .ok (.iconst 0, 1) := by decide +kernel
theorem dX1_begin_9 : decode cX1_begin 9 = .ok (.istore_n 2, 1) := by decide +kernel
theorem dX1_begin_10 : decode cX1_begin 10 = .ok (.iload_n 2, 1) := by decide +kernel
theorem dX1_begin_11 : decode cX1_begin 11 = .ok (.iload_n 1, 1) := by decide +kernel
theorem dX1_begin_12 : decode cX1_begin 12 = .ok (.if_icmp .ge 20, 3) := by decide +kernel
theorem dX1_begin_15 : decode cX1_begin 15 = .ok (.aload_n 0, 1) := by decide +kernel
theorem dX1_begin_16 : decode cX1_begin 16 = .ok (.getfield 14, 3) := by decide +kernel
theorem dX1_begin_19 : decode cX1_begin 19 = .ok (.iload_n 2, 1) := by decide +kernel
theorem dX1_begin_20 : decode cX1_begin 20 = .ok (.iconst (-1), 1) := by decide +kernel
theorem dX1_begin_21 : decode cX1_begin 21 = .ok (.iload_n 2, 1) := by decide +kernel
theorem dX1_begin_22 : decode cX1_begin 22 = .ok (.iload_n 2, 1) := by decide +kernel
theorem dX1_begin_23 : decode cX1_begin 23 = .ok (.invokevirtual 45, 3) := by decide +kernel
theorem dX1_begin_26 : decode cX1_begin 26 = .ok (.iinc 2 1, 3) := by decide +kernel
theorem dX1_begin_29 : decode cX1_begin 29 = .ok (.goto (-19), 3) := by decide +kernel
theorem dX1_begin_32 : decode cX1_begin 32 = .ok (.aload_n 0, 1) := by decide +kernel
theorem dX1_begin_33 : decode cX1_begin 33 = .ok (.invokevirtual 49, 3) := by decide +kernel
theorem dX1_begin_36 : decode cX1_begin 36 = .ok (.return_, 1) := by decide +kernel
theorem dX1_change_0 : decode cX1_change 0 = .ok (.aload_n 0, 1) := by decide +kernel
theorem dX1_change_1 : decode cX1_change 1 = .ok (.getfield 14, 3) := by decide +kernel
theorem dX1_change_4 : decode cX1_change 4 = .ok (.iload_n 1, 1) := by decide +kernel
theorem dX1_change_5 : decode cX1_change 5 = .ok (.iload_n 2, 1) := by decide +kernel
theorem dX1_change_6 : decode cX1_change 6 = .ok (.iload_n 3, 1) := by decide +kernel
theorem dX1_change_7 : decode cX1_change 7 = .ok (.iload 4, 2) := by decide +kernel
theorem dX1_change_9 : decode cX1_change 9 = .ok (.invokevirtual 45, 3) := by decide +kernel
theorem dX1_change_12 : decode cX1_change 12 = .ok (.aload_n 0, 1) := by decide +kernel
theorem dX1_change_13 : decode cX1_change 13 = .ok (.invokevirtual 49, 3) := by decide +kernel
theorem dX1_change_16 : decode cX1_change 16 = .ok (.return_, 1) := by decide +kernel
theorem dX1_nameOf_0 : decode cX1_nameOf 0 = .ok (.aload_n 0, 1) := by decide +kernel
theorem dX1_nameOf_1 : decode cX1_nameOf 1 = .ok (.getfield 36, 3) := by decide +kernel
theorem dX1_nameOf_4 : decode cX1_nameOf 4 = .ok (.iload_n 1, 1) := by decide +kernel
theorem dX1_nameOf_5 : decode cX1_nameOf 5 = .ok (.iaload, 1) := by decide +kernel
theorem dX1_nameOf_6 : decode cX1_nameOf 6 = .ok (.ireturn, 1) := by decide +kernel
theorem dX1_splitterOf_0 : decode cX1_splitterOf 0 = .ok (.aload_n 0, 1) := by decide +kernel
theorem dX1_splitterOf_1 : decode cX1_splitterOf 1 = .ok (.aload_n 0, 1) := by decide +kernel
theorem dX1_splitterOf_2 : decode cX1_splitterOf 2 = .ok (.getfield 33, 3) := by decide +kernel
theorem dX1_splitterOf_5 : decode cX1_splitterOf 5 = .ok (.iload_n 1, 1) := by decide +kernel
theorem dX1_splitterOf_6 : decode cX1_splitterOf 6 = .ok (.iaload, 1) := by decide +kernel
theorem dX1_splitterOf_7 : decode cX1_splitterOf 7 = .ok (.aload_n 0, 1) := by decide +kernel
theorem dX1_splitterOf_8 : decode cX1_splitterOf 8 = .ok (.getfield 33, 3) := by decide +kernel
theorem dX1_splitterOf_11 : decode cX1_splitterOf 11 = .ok (.iload_n 2, 1) := by decide +kernel
theorem dX1_splitterOf_12 : decode cX1_splitterOf 12 = .ok (.iaload, 1) := by decide +kernel
theorem dX1_splitterOf_13 : decode cX1_splitterOf 13 = .ok (.invokevirtual 52, 3) := by decide +kernel
theorem dX1_splitterOf_16 : decode cX1_splitterOf 16 = .ok (.ireturn, 1) := by decide +kernel
theorem dX1_splitterOfDrawn_0 : decode cX1_splitterOfDrawn 0 = .ok (.aload_n 0, 1) := by decide +kernel
theorem dX1_splitterOfDrawn_1 : decode cX1_splitterOfDrawn 1 = .ok (.getfield 23, 3) := by decide +kernel
theorem dX1_splitterOfDrawn_4 : decode cX1_splitterOfDrawn 4 = .ok (.iconst 5, 1) := by decide +kernel
theorem dX1_splitterOfDrawn_5 : decode cX1_splitterOfDrawn 5 = .ok (.iload_n 1, 1) := by decide +kernel
theorem dX1_splitterOfDrawn_6 : decode cX1_splitterOfDrawn 6 = .ok (.imul, 1) := by decide +kernel
theorem dX1_splitterOfDrawn_7 : decode cX1_splitterOfDrawn 7 = .ok (.iload_n 2, 1) := by decide +kernel
theorem dX1_splitterOfDrawn_8 : decode cX1_splitterOfDrawn 8 = .ok (.iadd, 1) := by decide +kernel
theorem dX1_splitterOfDrawn_9 : decode cX1_splitterOfDrawn 9 = .ok (.iaload, 1) := by decide +kernel
theorem dX1_splitterOfDrawn_10 : decode cX1_splitterOfDrawn 10 = .ok (.ireturn, 1) := by decide +kernel
theorem dX1_reduce_0 : decode cX1_reduce 0 = .ok (.aload_n 0, 1) := by decide +kernel
theorem dX1_reduce_1 : decode cX1_reduce 1 = .ok (.invokevirtual 56, 3) := by decide +kernel
theorem dX1_reduce_4 : decode cX1_reduce 4 = .ok (.aload_n 0, 1) := by decide +kernel
theorem dX1_reduce_5 : decode cX1_reduce 5 = .ok (.invokevirtual 59, 3) := by decide +kernel
theorem dX1_reduce_8 : decode cX1_reduce 8 = .ok (.iconst 0, 1) := by decide +kernel
theorem dX1_reduce_9 : decode cX1_reduce 9 = .ok (.istore_n 1, 1) := by decide +kernel
theorem dX1_reduce_10 : decode cX1_reduce 10 = .ok (.iload_n 1, 1) := by decide +kernel
theorem dX1_reduce_11 : decode cX1_reduce 11 = .ok (.aload_n 0, 1) := by decide +kernel
theorem dX1_reduce_12 : decode cX1_reduce 12 = .ok (.getfield 20, 3) := by decide +kernel
theorem dX1_reduce_15 : decode cX1_reduce 15 = .ok (.invokevirtual 62, 3) := by decide +kernel
theorem dX1_reduce_18 : decode cX1_reduce 18 = .ok (.if_icmp .ge 60, 3) := by decide +kernel
theorem dX1_reduce_21 : decode cX1_reduce 21 = .ok (.aload_n 0, 1) := by decide +kernel
theorem dX1_reduce_22 : decode cX1_reduce 22 = .ok (.getfield 33, 3) := by decide +kernel
theorem dX1_reduce_25 : decode cX1_reduce 25 = .ok (.iload_n 1, 1) := by decide +kernel
theorem dX1_reduce_26 : decode cX1_reduce 26 = .ok (.iaload, 1) := by decide +kernel
theorem dX1_reduce_27 : decode cX1_reduce 27 = .ok (.istore_n 2, 1) := by decide +kernel
theorem dX1_reduce_28 : decode cX1_reduce 28 = .ok (.aload_n 0, 1) := by decide +kernel
theorem dX1_reduce_29 : decode cX1_reduce 29 = .ok (.getfield 20, 3) := by decide +kernel
theorem dX1_reduce_32 : decode cX1_reduce 32 = .ok (.iload_n 1, 1) := by decide +kernel
theorem dX1_reduce_33 : decode cX1_reduce 33 = .ok (.aload_n 0, 1) := by decide +kernel
theorem dX1_reduce_34 : decode cX1_reduce 34 = .ok (.getfield 14, 3) := by decide +kernel
theorem dX1_reduce_37 : decode cX1_reduce 37 = .ok (.iload_n 2, 1) := by decide +kernel
theorem dX1_reduce_38 : decode cX1_reduce 38 = .ok (.invokevirtual 66, 3) := by decide +kernel
theorem dX1_reduce_41 : decode cX1_reduce 41 = .ok (.aload_n 0, 1) := by decide +kernel
theorem dX1_reduce_42 : decode cX1_reduce 42 = .ok (.getfield 30, 3) := by decide +kernel
theorem dX1_reduce_45 : decode cX1_reduce 45 = .ok (.aload_n 0, 1) := by decide +kernel
theorem dX1_reduce_46 : decode cX1_reduce 46 = .ok (.getfield 14, 3) := by decide +kernel
theorem dX1_reduce_49 : decode cX1_reduce 49 = .ok (.iload_n 2, 1) := by decide +kernel
theorem dX1_reduce_50 : decode cX1_reduce 50 = .ok (.iconst 0, 1) := by decide +kernel
theorem dX1_reduce_51 : decode cX1_reduce 51 = .ok (.invokevirtual 70, 3) := by decide +kernel
theorem dX1_reduce_54 : decode cX1_reduce 54 = .ok (.iaload, 1) := by decide +kernel
theorem dX1_reduce_55 : decode cX1_reduce 55 = .ok (.aload_n 0, 1) := by decide +kernel
theorem dX1_reduce_56 : decode cX1_reduce 56 = .ok (.getfield 30, 3) := by decide +kernel
theorem dX1_reduce_59 : decode cX1_reduce 59 = .ok (.aload_n 0, 1) := by decide +kernel
theorem dX1_reduce_60 : decode cX1_reduce 60 = .ok (.getfield 14, 3) := by decide +kernel
theorem dX1_reduce_63 : decode cX1_reduce 63 = .ok (.iload_n 2, 1) := by decide +kernel
theorem dX1_reduce_64 : decode cX1_reduce 64 = .ok (.iconst 1, 1) := by decide +kernel
theorem dX1_reduce_65 : decode cX1_reduce 65 = .ok (.invokevirtual 70, 3) := by decide +kernel
theorem dX1_reduce_68 : decode cX1_reduce 68 = .ok (.iaload, 1) := by decide +kernel
theorem dX1_reduce_69 : decode cX1_reduce 69 = .ok (.invokevirtual 45, 3) := by decide +kernel
theorem dX1_reduce_72 : decode cX1_reduce 72 = .ok (.iinc 1 1, 3) := by decide +kernel
theorem dX1_reduce_75 : decode cX1_reduce 75 = .ok (.goto (-65), 3) := by decide +kernel
theorem dX1_reduce_78 : decode cX1_reduce 78 = .ok (.return_, 1) := by decide +kernel
theorem dX1_findSplitters_0 : decode cX1_findSplitters 0 = .ok (.aload_n 0, 1) := by decide +kernel
theorem dX1_findSplitters_1 : decode cX1_findSplitters 1 = .ok (.getfield 23, 3) := by decide +kernel
theorem dX1_findSplitters_4 : decode cX1_findSplitters 4 = .ok (.iconst 0, 1) := by decide +kernel
theorem dX1_findSplitters_5 : decode cX1_findSplitters 5 = .ok (.invokestatic 73, 3) := by decide +kernel
theorem dX1_findSplitters_8 : decode cX1_findSplitters 8 = .ok (.bipush 15, 2) := by decide +kernel
theorem dX1_findSplitters_10 : decode cX1_findSplitters 10 = .ok (.istore_n 1, 1) := by decide +kernel
theorem dX1_findSplitters_11 : decode cX1_findSplitters 11 = .ok (.iload_n 1, 1) := by decide +kernel
theorem dX1_findSplitters_12 : decode cX1_findSplitters 12 = .ok (.iconst 1, 1) := by decide +kernel
theorem dX1_findSplitters_13 : decode cX1_findSplitters 13 = .ok (.if_icmp .lt 14, 3) := by decide +kernel
theorem dX1_findSplitters_16 : decode cX1_findSplitters 16 = .ok (.aload_n 0, 1) := by decide +kernel
theorem dX1_findSplitters_17 : decode cX1_findSplitters 17 = .ok (.iload_n 1, 1) := by decide +kernel
theorem dX1_findSplitters_18 : decode cX1_findSplitters 18 = .ok (.invokevirtual 79, 3) := by decide +kernel
theorem dX1_findSplitters_21 : decode cX1_findSplitters 21 = .ok (.iinc 1 (-1), 3) := by decide +kernel
theorem dX1_findSplitters_24 : decode cX1_findSplitters 24 = .ok (.goto (-13), 3) := by decide +kernel
theorem dX1_findSplitters_27 : decode cX1_findSplitters 27 = .ok (.return_, 1) := by decide +kernel
theorem dX1_splitBy_0 : decode cX1_splitBy 0 = .ok (.iconst 0, 1) := by decide +kernel
theorem dX1_splitBy_1 : decode cX1_splitBy 1 = .ok (.istore_n 2, 1) := by decide +kernel
theorem dX1_splitBy_2 : decode cX1_splitBy 2 = .ok (.iload_n 2, 1) := by decide +kernel
theorem dX1_splitBy_3 : decode cX1_splitBy 3 = .ok (.aload_n 0, 1) := by decide +kernel
theorem dX1_splitBy_4 : decode cX1_splitBy 4 = .ok (.getfield 14, 3) := by decide +kernel
theorem dX1_splitBy_7 : decode cX1_splitBy 7 = .ok (.invokevirtual 62, 3) := by decide +kernel
theorem dX1_splitBy_10 : decode cX1_splitBy 10 = .ok (.if_icmp .ge 24, 3) := by decide +kernel
theorem dX1_splitBy_13 : decode cX1_splitBy 13 = .ok (.aload_n 0, 1) := by decide +kernel
theorem dX1_splitBy_14 : decode cX1_splitBy 14 = .ok (.getfield 27, 3) := by decide +kernel
theorem dX1_splitBy_17 : decode cX1_splitBy 17 = .ok (.iload_n 2, 1) := by decide +kernel
theorem dX1_splitBy_18 : decode cX1_splitBy 18 = .ok (.aload_n 0, 1) := by decide +kernel
theorem dX1_splitBy_19 : decode cX1_splitBy 19 = .ok (.getfield 14, 3) := by decide +kernel
theorem dX1_splitBy_22 : decode cX1_splitBy 22 = .ok (.iload_n 2, 1) := by decide +kernel
theorem dX1_splitBy_23 : decode cX1_splitBy 23 = .ok (.iload_n 1, 1) := by decide +kernel
theorem dX1_splitBy_24 : decode cX1_splitBy 24 = .ok (.invokevirtual 82, 3) := by decide +kernel
theorem dX1_splitBy_27 : decode cX1_splitBy 27 = .ok (.iastore, 1) := by decide +kernel
theorem dX1_splitBy_28 : decode cX1_splitBy 28 = .ok (.iinc 2 1, 3) := by decide +kernel
theorem dX1_splitBy_31 : decode cX1_splitBy 31 = .ok (.goto (-29), 3) := by decide +kernel
theorem dX1_splitBy_34 : decode cX1_splitBy 34 = .ok (.iconst 0, 1) := by decide +kernel
theorem dX1_splitBy_35 : decode cX1_splitBy 35 = .ok (.istore_n 2, 1) := by decide +kernel
theorem dX1_splitBy_36 : decode cX1_splitBy 36 = .ok (.iload_n 2, 1) := by decide +kernel
theorem dX1_splitBy_37 : decode cX1_splitBy 37 = .ok (.aload_n 0, 1) := by decide +kernel
theorem dX1_splitBy_38 : decode cX1_splitBy 38 = .ok (.getfield 14, 3) := by decide +kernel
theorem dX1_splitBy_41 : decode cX1_splitBy 41 = .ok (.invokevirtual 62, 3) := by decide +kernel
theorem dX1_splitBy_44 : decode cX1_splitBy 44 = .ok (.if_icmp .ge 68, 3) := by decide +kernel
theorem dX1_splitBy_47 : decode cX1_splitBy 47 = .ok (.iconst 0, 1) := by decide +kernel
theorem dX1_splitBy_48 : decode cX1_splitBy 48 = .ok (.istore_n 3, 1) := by decide +kernel
theorem dX1_splitBy_49 : decode cX1_splitBy 49 = .ok (.iload_n 3, 1) := by decide +kernel
theorem dX1_splitBy_50 : decode cX1_splitBy 50 = .ok (.aload_n 0, 1) := by decide +kernel
theorem dX1_splitBy_51 : decode cX1_splitBy 51 = .ok (.getfield 14, 3) := by decide +kernel
theorem dX1_splitBy_54 : decode cX1_splitBy 54 = .ok (.invokevirtual 62, 3) := by decide +kernel
theorem dX1_splitBy_57 : decode cX1_splitBy 57 = .ok (.if_icmp .ge 49, 3) := by decide +kernel
theorem dX1_splitBy_60 : decode cX1_splitBy 60 = .ok (.aload_n 0, 1) := by decide +kernel
theorem dX1_splitBy_61 : decode cX1_splitBy 61 = .ok (.getfield 14, 3) := by decide +kernel
theorem dX1_splitBy_64 : decode cX1_splitBy 64 = .ok (.aload_n 0, 1) := by decide +kernel
theorem dX1_splitBy_65 : decode cX1_splitBy 65 = .ok (.getfield 27, 3) := by decide +kernel
theorem dX1_splitBy_68 : decode cX1_splitBy 68 = .ok (.iload_n 2, 1) := by decide +kernel
theorem dX1_splitBy_69 : decode cX1_splitBy 69 = .ok (.iaload, 1) := by decide +kernel
theorem dX1_splitBy_70 : decode cX1_splitBy 70 = .ok (.invokevirtual 66, 3) := by decide +kernel
theorem dX1_splitBy_73 : decode cX1_splitBy 73 = .ok (.aload_n 0, 1) := by decide +kernel
theorem dX1_splitBy_74 : decode cX1_splitBy 74 = .ok (.getfield 14, 3) := by decide +kernel
theorem dX1_splitBy_77 : decode cX1_splitBy 77 = .ok (.aload_n 0, 1) := by decide +kernel
theorem dX1_splitBy_78 : decode cX1_splitBy 78 = .ok (.getfield 27, 3) := by decide +kernel
theorem dX1_splitBy_81 : decode cX1_splitBy 81 = .ok (.iload_n 3, 1) := by decide +kernel
theorem dX1_splitBy_82 : decode cX1_splitBy 82 = .ok (.iaload, 1) := by decide +kernel
theorem dX1_splitBy_83 : decode cX1_splitBy 83 = .ok (.invokevirtual 66, 3) := by decide +kernel
theorem dX1_splitBy_86 : decode cX1_splitBy 86 = .ok (.if_icmp .eq 14, 3) := by decide +kernel
theorem dX1_splitBy_89 : decode cX1_splitBy 89 = .ok (.aload_n 0, 1) := by decide +kernel
theorem dX1_splitBy_90 : decode cX1_splitBy 90 = .ok (.getfield 23, 3) := by decide +kernel
theorem dX1_splitBy_93 : decode cX1_splitBy 93 = .ok (.iconst 5, 1) := by decide +kernel
theorem dX1_splitBy_94 : decode cX1_splitBy 94 = .ok (.iload_n 2, 1) := by decide +kernel
theorem dX1_splitBy_95 : decode cX1_splitBy 95 = .ok (.imul, 1) := by decide +kernel
theorem dX1_splitBy_96 : decode cX1_splitBy 96 = .ok (.iload_n 3, 1) := by decide +kernel
theorem dX1_splitBy_97 : decode cX1_splitBy 97 = .ok (.iadd, 1) := by decide +kernel
theorem dX1_splitBy_98 : decode cX1_splitBy 98 = .ok (.iload_n 1, 1) := by decide +kernel
theorem dX1_splitBy_99 : decode cX1_splitBy 99 = .ok (.iastore, 1) := by decide +kernel
theorem dX1_splitBy_100 : decode cX1_splitBy 100 = .ok (.iinc 3 1, 3) := by decide +kernel
theorem dX1_splitBy_103 : decode cX1_splitBy 103 = .ok (.goto (-54), 3) := by decide +kernel
theorem dX1_splitBy_106 : decode cX1_splitBy 106 = .ok (.iinc 2 1, 3) := by decide +kernel
theorem dX1_splitBy_109 : decode cX1_splitBy 109 = .ok (.goto (-73), 3) := by decide +kernel
theorem dX1_splitBy_112 : decode cX1_splitBy 112 = .ok (.return_, 1) := by decide +kernel
theorem dX1_findClasses_0 : decode cX1_findClasses 0 = .ok (.aload_n 0, 1) := by decide +kernel
theorem dX1_findClasses_1 : decode cX1_findClasses 1 = .ok (.getfield 30, 3) := by decide +kernel
theorem dX1_findClasses_4 : decode cX1_findClasses 4 = .ok (.iconst (-1), 1) := by decide +kernel
theorem dX1_findClasses_5 : decode cX1_findClasses 5 = .ok (.invokestatic 73, 3) := by decide +kernel
theorem dX1_findClasses_8 : decode cX1_findClasses 8 = .ok (.aload_n 0, 1) := by decide +kernel
theorem dX1_findClasses_9 : decode cX1_findClasses 9 = .ok (.getfield 20, 3) := by decide +kernel
theorem dX1_findClasses_12 : decode cX1_findClasses 12 = .ok (.iconst 0, 1) := by decide +kernel
theorem dX1_findClasses_13 : decode cX1_findClasses 13 = .ok (.invokevirtual 42, 3) := by decide +kernel
theorem dX1_findClasses_16 : decode cX1_findClasses 16 = .ok (.iconst 1, 1) := by decide +kernel
theorem dX1_findClasses_17 : decode cX1_findClasses 17 = .ok (.istore_n 1, 1) := by decide +kernel
theorem dX1_findClasses_18 : decode cX1_findClasses 18 = .ok (.iload_n 1, 1) := by decide +kernel
theorem dX1_findClasses_19 : decode cX1_findClasses 19 = .ok (.bipush 32, 2) := by decide +kernel
theorem dX1_findClasses_21 : decode cX1_findClasses 21 = .ok (.if_icmp .ge 35, 3) := by decide +kernel
theorem dX1_findClasses_24 : decode cX1_findClasses 24 = .ok (.aload_n 0, 1) := by decide +kernel
theorem dX1_findClasses_25 : decode cX1_findClasses 25 = .ok (.getfield 14, 3) := by decide +kernel
theorem dX1_findClasses_28 : decode cX1_findClasses 28 = .ok (.iconst 0, 1) := by decide +kernel
theorem dX1_findClasses_29 : decode cX1_findClasses 29 = .ok (.iload_n 1, 1) := by decide +kernel
theorem dX1_findClasses_30 : decode cX1_findClasses 30 = .ok (.invokevirtual 82, 3) := by decide +kernel
theorem dX1_findClasses_33 : decode cX1_findClasses 33 = .ok (.istore_n 2, 1) := by decide +kernel
theorem dX1_findClasses_34 : decode cX1_findClasses 34 = .ok (.aload_n 0, 1) := by decide +kernel
theorem dX1_findClasses_35 : decode cX1_findClasses 35 = .ok (.getfield 30, 3) := by decide +kernel
theorem dX1_findClasses_38 : decode cX1_findClasses 38 = .ok (.iload_n 2, 1) := by decide +kernel
theorem dX1_findClasses_39 : decode cX1_findClasses 39 = .ok (.iaload, 1) := by decide +kernel
theorem dX1_findClasses_40 : decode cX1_findClasses 40 = .ok (.iconst (-1), 1) := by decide +kernel
theorem dX1_findClasses_41 : decode cX1_findClasses 41 = .ok (.if_icmp .ne 9, 3) := by decide +kernel
theorem dX1_findClasses_44 : decode cX1_findClasses 44 = .ok (.aload_n 0, 1) := by decide +kernel
theorem dX1_findClasses_45 : decode cX1_findClasses 45 = .ok (.iload_n 2, 1) := by decide +kernel
theorem dX1_findClasses_46 : decode cX1_findClasses 46 = .ok (.iload_n 1, 1) := by decide +kernel
theorem dX1_findClasses_47 : decode cX1_findClasses 47 = .ok (.invokevirtual 85, 3) := by decide +kernel
theorem dX1_findClasses_50 : decode cX1_findClasses 50 = .ok (.iinc 1 1, 3) := by decide +kernel
theorem dX1_findClasses_53 : decode cX1_findClasses 53 = .ok (.goto (-35), 3) := by decide +kernel
theorem dX1_findClasses_56 : decode cX1_findClasses 56 = .ok (.return_, 1) := by decide +kernel
theorem dX1_openClass_0 : decode cX1_openClass 0 = .ok (.aload_n 0, 1) := by decide +kernel
theorem dX1_openClass_1 : decode cX1_openClass 1 = .ok (.getfield 20, 3) := by decide +kernel
theorem dX1_openClass_4 : decode cX1_openClass 4 = .ok (.invokevirtual 62, 3) := by decide +kernel
theorem dX1_openClass_7 : decode cX1_openClass 7 = .ok (.istore_n 3, 1) := by decide +kernel
theorem dX1_openClass_8 : decode cX1_openClass 8 = .ok (.aload_n 0, 1) := by decide +kernel
theorem dX1_openClass_9 : decode cX1_openClass 9 = .ok (.getfield 20, 3) := by decide +kernel
theorem dX1_openClass_12 : decode cX1_openClass 12 = .ok (.iload_n 3, 1) := by decide +kernel
theorem dX1_openClass_13 : decode cX1_openClass 13 = .ok (.iconst 1, 1) := by decide +kernel
theorem dX1_openClass_14 : decode cX1_openClass 14 = .ok (.iadd, 1) := by decide +kernel
theorem dX1_openClass_15 : decode cX1_openClass 15 = .ok (.invokevirtual 42, 3) := by decide +kernel
theorem dX1_openClass_18 : decode cX1_openClass 18 = .ok (.aload_n 0, 1) := by decide +kernel
theorem dX1_openClass_19 : decode cX1_openClass 19 = .ok (.getfield 33, 3) := by decide +kernel
theorem dX1_openClass_22 : decode cX1_openClass 22 = .ok (.iload_n 3, 1) := by decide +kernel
theorem dX1_openClass_23 : decode cX1_openClass 23 = .ok (.iload_n 1, 1) := by decide +kernel
theorem dX1_openClass_24 : decode cX1_openClass 24 = .ok (.iastore, 1) := by decide +kernel
theorem dX1_openClass_25 : decode cX1_openClass 25 = .ok (.aload_n 0, 1) := by decide +kernel
theorem dX1_openClass_26 : decode cX1_openClass 26 = .ok (.getfield 36, 3) := by decide +kernel
theorem dX1_openClass_29 : decode cX1_openClass 29 = .ok (.iload_n 3, 1) := by decide +kernel
theorem dX1_openClass_30 : decode cX1_openClass 30 = .ok (.iload_n 2, 1) := by decide +kernel
theorem dX1_openClass_31 : decode cX1_openClass 31 = .ok (.iastore, 1) := by decide +kernel
theorem dX1_openClass_32 : decode cX1_openClass 32 = .ok (.iconst 0, 1) := by decide +kernel
theorem dX1_openClass_33 : decode cX1_openClass 33 = .ok (.istore 4, 2) := by decide +kernel
theorem dX1_openClass_35 : decode cX1_openClass 35 = .ok (.iload 4, 2) := by decide +kernel
theorem dX1_openClass_37 : decode cX1_openClass 37 = .ok (.aload_n 0, 1) := by decide +kernel
theorem dX1_openClass_38 : decode cX1_openClass 38 = .ok (.getfield 14, 3) := by decide +kernel
theorem dX1_openClass_41 : decode cX1_openClass 41 = .ok (.invokevirtual 62, 3) := by decide +kernel
theorem dX1_openClass_44 : decode cX1_openClass 44 = .ok (.if_icmp .ge 27, 3) := by decide +kernel
theorem dX1_openClass_47 : decode cX1_openClass 47 = .ok (.aload_n 0, 1) := by decide +kernel
theorem dX1_openClass_48 : decode cX1_openClass 48 = .ok (.iload_n 1, 1) := by decide +kernel
theorem dX1_openClass_49 : decode cX1_openClass 49 = .ok (.iload 4, 2) := by decide +kernel
theorem dX1_openClass_51 : decode cX1_openClass 51 = .ok (.invokevirtual 52, 3) := by decide +kernel
theorem dX1_openClass_54 : decode cX1_openClass 54 = .ok (.ifCond .ne 11, 3) := by decide +kernel
theorem dX1_openClass_57 : decode cX1_openClass 57 = .ok (.aload_n 0, 1) := by decide +kernel
theorem dX1_openClass_58 : decode cX1_openClass 58 = .ok (.getfield 30, 3) := by decide +kernel
theorem dX1_openClass_61 : decode cX1_openClass 61 = .ok (.iload 4, 2) := by decide +kernel
theorem dX1_openClass_63 : decode cX1_openClass 63 = .ok (.iload_n 3, 1) := by decide +kernel
theorem dX1_openClass_64 : decode cX1_openClass 64 = .ok (.iastore, 1) := by decide +kernel
theorem dX1_openClass_65 : decode cX1_openClass 65 = .ok (.iinc 4 1, 3) := by decide +kernel
theorem dX1_openClass_68 : decode cX1_openClass 68 = .ok (.goto (-33), 3) := by decide +kernel
theorem dX1_openClass_71 : decode cX1_openClass 71 = .ok (.return_, 1) := by decide +kernel
theorem dX1_examples_0 : decode cX1_examples 0 = .ok (.aload_n 0, 1) := by decide +kernel
theorem dX1_examples_1 : decode cX1_examples 1 = .ok (.getfield 39, 3) := by decide +kernel
theorem dX1_examples_4 : decode cX1_examples 4 = .ok (.iconst 0, 1) := by decide +kernel
theorem dX1_examples_5 : decode cX1_examples 5 = .ok (.invokestatic 73, 3) := by decide +kernel
theorem dX1_examples_8 : decode cX1_examples 8 = .ok (.iconst 0, 1) := by decide +kernel
theorem dX1_examples_9 : decode cX1_examples 9 = .ok (.istore_n 1, 1) := by decide +kernel
theorem dX1_examples_10 : decode cX1_examples 10 = .ok (.iload_n 1, 1) := by decide +kernel
theorem dX1_examples_11 : decode cX1_examples 11 = .ok (.aload_n 0, 1) := by decide +kernel
theorem dX1_examples_12 : decode cX1_examples 12 = .ok (.getfield 20, 3) := by decide +kernel
theorem dX1_examples_15 : decode cX1_examples 15 = .ok (.invokevirtual 62, 3) := by decide +kernel
theorem dX1_examples_18 : decode cX1_examples 18 = .ok (.if_icmp .ge 62, 3) := by decide +kernel
theorem dX1_examples_21 : decode cX1_examples 21 = .ok (.aload_n 0, 1) := by decide +kernel
theorem dX1_examples_22 : decode cX1_examples 22 = .ok (.iload_n 1, 1) := by decide +kernel
theorem dX1_examples_23 : decode cX1_examples 23 = .ok (.iconst 1, 1) := by decide +kernel
theorem dX1_examples_24 : decode cX1_examples 24 = .ok (.invokevirtual 89, 3) := by decide +kernel
theorem dX1_examples_27 : decode cX1_examples 27 = .ok (.iconst 0, 1) := by decide +kernel
theorem dX1_examples_28 : decode cX1_examples 28 = .ok (.istore_n 2, 1) := by decide +kernel
theorem dX1_examples_29 : decode cX1_examples 29 = .ok (.iload_n 2, 1) := by decide +kernel
theorem dX1_examples_30 : decode cX1_examples 30 = .ok (.aload_n 0, 1) := by decide +kernel
theorem dX1_examples_31 : decode cX1_examples 31 = .ok (.getfield 20, 3) := by decide +kernel
theorem dX1_examples_34 : decode cX1_examples 34 = .ok (.invokevirtual 62, 3) := by decide +kernel
theorem dX1_examples_37 : decode cX1_examples 37 = .ok (.if_icmp .ge 37, 3) := by decide +kernel
theorem dX1_examples_40 : decode cX1_examples 40 = .ok (.aload_n 0, 1) := by decide +kernel
theorem dX1_examples_41 : decode cX1_examples 41 = .ok (.iload_n 1, 1) := by decide +kernel
theorem dX1_examples_42 : decode cX1_examples 42 = .ok (.iconst 2, 1) := by decide +kernel
theorem dX1_examples_43 : decode cX1_examples 43 = .ok (.aload_n 0, 1) := by decide +kernel
theorem dX1_examples_44 : decode cX1_examples 44 = .ok (.getfield 36, 3) := by decide +kernel
theorem dX1_examples_47 : decode cX1_examples 47 = .ok (.iload_n 2, 1) := by decide +kernel
theorem dX1_examples_48 : decode cX1_examples 48 = .ok (.iaload, 1) := by decide +kernel
theorem dX1_examples_49 : decode cX1_examples 49 = .ok (.imul, 1) := by decide +kernel
theorem dX1_examples_50 : decode cX1_examples 50 = .ok (.invokevirtual 89, 3) := by decide +kernel
theorem dX1_examples_53 : decode cX1_examples 53 = .ok (.aload_n 0, 1) := by decide +kernel
theorem dX1_examples_54 : decode cX1_examples 54 = .ok (.iload_n 1, 1) := by decide +kernel
theorem dX1_examples_55 : decode cX1_examples 55 = .ok (.iconst 2, 1) := by decide +kernel
theorem dX1_examples_56 : decode cX1_examples 56 = .ok (.aload_n 0, 1) := by decide +kernel
theorem dX1_examples_57 : decode cX1_examples 57 = .ok (.getfield 36, 3) := by decide +kernel
theorem dX1_examples_60 : decode cX1_examples 60 = .ok (.iload_n 2, 1) := by decide +kernel
theorem dX1_examples_61 : decode cX1_examples 61 = .ok (.iaload, 1) := by decide +kernel
theorem dX1_examples_62 : decode cX1_examples 62 = .ok (.imul, 1) := by decide +kernel
theorem dX1_examples_63 : decode cX1_examples 63 = .ok (.iconst 1, 1) := by decide +kernel
theorem dX1_examples_64 : decode cX1_examples 64 = .ok (.iadd, 1) := by decide +kernel
theorem dX1_examples_65 : decode cX1_examples 65 = .ok (.invokevirtual 89, 3) := by decide +kernel
theorem dX1_examples_68 : decode cX1_examples 68 = .ok (.iinc 2 1, 3) := by decide +kernel
theorem dX1_examples_71 : decode cX1_examples 71 = .ok (.goto (-42), 3) := by decide +kernel
theorem dX1_examples_74 : decode cX1_examples 74 = .ok (.iinc 1 1, 3) := by decide +kernel
theorem dX1_examples_77 : decode cX1_examples 77 = .ok (.goto (-67), 3) := by decide +kernel
theorem dX1_examples_80 : decode cX1_examples 80 = .ok (.aload_n 0, 1) := by decide +kernel
theorem dX1_examples_81 : decode cX1_examples 81 = .ok (.getfield 39, 3) := by decide +kernel
theorem dX1_examples_84 : decode cX1_examples 84 = .ok (.areturn, 1) := by decide +kernel
theorem dX1_addExamples_0 : decode cX1_addExamples 0 = .ok (.aload_n 0, 1) := by decide +kernel
theorem dX1_addExamples_1 : decode cX1_addExamples 1 = .ok (.aload_n 0, 1) := by decide +kernel
theorem dX1_addExamples_2 : decode cX1_addExamples 2 = .ok (.getfield 36, 3) := by decide +kernel
theorem dX1_addExamples_5 : decode cX1_addExamples 5 = .ok (.iload_n 1, 1) := by decide +kernel
theorem dX1_addExamples_6 : decode cX1_addExamples 6 = .ok (.iaload, 1) := by decide +kernel
theorem dX1_addExamples_7 : decode cX1_addExamples 7 = .ok (.invokevirtual 92, 3) := by decide +kernel
theorem dX1_addExamples_10 : decode cX1_addExamples 10 = .ok (.aload_n 0, 1) := by decide +kernel
theorem dX1_addExamples_11 : decode cX1_addExamples 11 = .ok (.iload_n 2, 1) := by decide +kernel
theorem dX1_addExamples_12 : decode cX1_addExamples 12 = .ok (.invokevirtual 92, 3) := by decide +kernel
theorem dX1_addExamples_15 : decode cX1_addExamples 15 = .ok (.aload_n 0, 1) := by decide +kernel
theorem dX1_addExamples_16 : decode cX1_addExamples 16 = .ok (.getfield 20, 3) := by decide +kernel
theorem dX1_addExamples_19 : decode cX1_addExamples 19 = .ok (.iconst 0, 1) := by decide +kernel
theorem dX1_addExamples_20 : decode cX1_addExamples 20 = .ok (.iload_n 2, 1) := by decide +kernel
theorem dX1_addExamples_21 : decode cX1_addExamples 21 = .ok (.invokevirtual 82, 3) := by decide +kernel
theorem dX1_addExamples_24 : decode cX1_addExamples 24 = .ok (.istore_n 3, 1) := by decide +kernel
theorem dX1_addExamples_25 : decode cX1_addExamples 25 = .ok (.iload_n 3, 1) := by decide +kernel
theorem dX1_addExamples_26 : decode cX1_addExamples 26 = .ok (.iload_n 1, 1) := by decide +kernel
theorem dX1_addExamples_27 : decode cX1_addExamples 27 = .ok (.if_icmp .eq 36, 3) := by decide +kernel
theorem dX1_addExamples_30 : decode cX1_addExamples 30 = .ok (.aload_n 0, 1) := by decide +kernel
theorem dX1_addExamples_31 : decode cX1_addExamples 31 = .ok (.iload_n 1, 1) := by decide +kernel
theorem dX1_addExamples_32 : decode cX1_addExamples 32 = .ok (.iload_n 3, 1) := by decide +kernel
theorem dX1_addExamples_33 : decode cX1_addExamples 33 = .ok (.invokevirtual 95, 3) := by decide +kernel
theorem dX1_addExamples_36 : decode cX1_addExamples 36 = .ok (.istore 4, 2) := by decide +kernel
theorem dX1_addExamples_38 : decode cX1_addExamples 38 = .ok (.aload_n 0, 1) := by decide +kernel
theorem dX1_addExamples_39 : decode cX1_addExamples 39 = .ok (.aload_n 0, 1) := by decide +kernel
theorem dX1_addExamples_40 : decode cX1_addExamples 40 = .ok (.getfield 36, 3) := by decide +kernel
theorem dX1_addExamples_43 : decode cX1_addExamples 43 = .ok (.iload_n 1, 1) := by decide +kernel
theorem dX1_addExamples_44 : decode cX1_addExamples 44 = .ok (.iaload, 1) := by decide +kernel
theorem dX1_addExamples_45 : decode cX1_addExamples 45 = .ok (.iload 4, 2) := by decide +kernel
theorem dX1_addExamples_47 : decode cX1_addExamples 47 = .ok (.invokestatic 98, 3) := by decide +kernel
theorem dX1_addExamples_50 : decode cX1_addExamples 50 = .ok (.invokevirtual 92, 3) := by decide +kernel
theorem dX1_addExamples_53 : decode cX1_addExamples 53 = .ok (.aload_n 0, 1) := by decide +kernel
theorem dX1_addExamples_54 : decode cX1_addExamples 54 = .ok (.iload_n 2, 1) := by decide +kernel
theorem dX1_addExamples_55 : decode cX1_addExamples 55 = .ok (.iload 4, 2) := by decide +kernel
theorem dX1_addExamples_57 : decode cX1_addExamples 57 = .ok (.invokestatic 98, 3) := by decide +kernel
theorem dX1_addExamples_60 : decode cX1_addExamples 60 = .ok (.invokevirtual 92, 3) := by decide +kernel
theorem dX1_addExamples_63 : decode cX1_addExamples 63 = .ok (.return_, 1) := by decide +kernel
theorem dX1_addExample_0 : decode cX1_addExample 0 = .ok (.aload_n 0, 1) := by decide +kernel
theorem dX1_addExample_1 : decode cX1_addExample 1 = .ok (.getfield 39, 3) := by decide +kernel
theorem dX1_addExample_4 : decode cX1_addExample 4 = .ok (.iload_n 1, 1) := by decide +kernel
theorem dX1_addExample_5 : decode cX1_addExample 5 = .ok (.aload_n 0, 1) := by decide +kernel
theorem dX1_addExample_6 : decode cX1_addExample 6 = .ok (.getfield 20, 3) := by decide +kernel
theorem dX1_addExample_9 : decode cX1_addExample 9 = .ok (.aload_n 0, 1) := by decide +kernel
theorem dX1_addExample_10 : decode cX1_addExample 10 = .ok (.getfield 20, 3) := by decide +kernel
theorem dX1_addExample_13 : decode cX1_addExample 13 = .ok (.iconst 0, 1) := by decide +kernel
theorem dX1_addExample_14 : decode cX1_addExample 14 = .ok (.iload_n 1, 1) := by decide +kernel
theorem dX1_addExample_15 : decode cX1_addExample 15 = .ok (.invokevirtual 82, 3) := by decide +kernel
theorem dX1_addExample_18 : decode cX1_addExample 18 = .ok (.invokevirtual 66, 3) := by decide +kernel
theorem dX1_addExample_21 : decode cX1_addExample 21 = .ok (.iastore, 1) := by decide +kernel
theorem dX1_addExample_22 : decode cX1_addExample 22 = .ok (.return_, 1) := by decide +kernel
theorem dX2_init_0 : decode cX2_init 0 = .ok (.aload_n 0, 1) := by decide +kernel
theorem dX2_init_1 : decode cX2_init 1 = .ok (.invokespecial 3, 3) := by decide +kernel
theorem dX2_init_4 : decode cX2_init 4 = .ok (.aload_n 0, 1) := by decide +kernel
theorem dX2_init_5 : decode cX2_init 5 = .ok (.sipush 512, 3) := by decide +kernel
theorem dX2_init_8 : decode cX2_init 8 = .ok (.newarray .int, 2) := by decide +kernel
theorem dX2_init_10 : decode cX2_init 10 = .ok (.putfield 9, 3) := by decide +kernel
theorem dX2_init_13 : decode cX2_init 13 = .ok (.aload_n 0, 1) := by decide +kernel
theorem dX2_init_14 : decode cX2_init 14 = .ok (.sipush 1024, 3) := by decide +kernel
theorem dX2_init_17 : decode cX2_init 17 = .ok (.newarray .int, 2) := by decide +kernel
theorem dX2_init_19 : decode cX2_init 19 = .ok (.putfield 15, 3) := by decide +kernel
theorem dX2_init_22 : decode cX2_init 22 = .ok (.aload_n 0, 1) := by decide +kernel
theorem dX2_init_23 : decode cX2_init 23 = .ok (.sipush 512, 3) := by decide +kernel
theorem dX2_init_26 : decode cX2_init 26 = .ok (.newarray .int, 2) := by decide +kernel
theorem dX2_init_28 : decode cX2_init 28 = .ok (.putfield 18, 3) := by decide +kernel
theorem dX2_init_31 : decode cX2_init 31 = .ok (.aload_n 0, 1) := by decide +kernel
theorem dX2_init_32 : decode cX2_init 32 = .ok (.sipush 512, 3) := by decide +kernel
theorem dX2_init_35 : decode cX2_init 35 = .ok (.newarray .int, 2) := by decide +kernel
theorem dX2_init_37 : decode cX2_init 37 = .ok (.putfield 21, 3) := by decide +kernel
theorem dX2_init_40 : decode cX2_init 40 = .ok (.aload_n 0, 1) := by decide +kernel
theorem dX2_init_41 : decode cX2_init 41 = .ok (.sipush 512, 3) := by decide +kernel
theorem dX2_init_44 : decode cX2_init 44 = .ok (.newarray .int, 2) := by decide +kernel
theorem dX2_init_46 : decode cX2_init 46 = .ok (.putfield 24, 3) := by decide +kernel
theorem dX2_init_49 : decode cX2_init 49 = .ok (.aload_n 0, 1) := by decide +kernel
theorem dX2_init_50 : decode cX2_init 50 = .ok (.iconst 0, 1) := by decide +kernel
theorem dX2_init_51 : decode cX2_init 51 = .ok (.putfield 27, 3) := by decide +kernel
theorem dX2_init_54 : decode cX2_init 54 = .ok (.aload_n 0, 1) := by decide +kernel
theorem dX2_init_55 : decode cX2_init 55 = .ok (.sipush 512, 3) := by decide +kernel
theorem dX2_init_58 : decode cX2_init 58 = .ok (.newarray .int, 2) := by decide +kernel
theorem dX2_init_60 : decode cX2_init 60 = .ok (.putfield 31, 3) := by decide +kernel
theorem dX2_init_63 : decode cX2_init 63 = .ok (.aload_n 0, 1) := by decide +kernel
theorem dX2_init_64 : decode cX2_init 64 = .ok (.sipush 512, 3) := by decide +kernel
theorem dX2_init_67 : decode cX2_init 67 = .ok (.newarray .int, 2) := by decide +kernel
theorem dX2_init_69 : decode cX2_init 69 = .ok (.putfield 34, 3) := by decide +kernel
theorem dX2_init_72 : decode cX2_init 72 = .ok (.aload_n 0, 1) := by decide +kernel
theorem dX2_init_73 : decode cX2_init 73 = .ok (.iconst 0, 1) := by decide +kernel
theorem dX2_init_74 : decode cX2_init 74 = .ok (.putfield 37, 3) := by decide +kernel
theorem dX2_init_77 : decode cX2_init 77 = .ok (.aload_n 0, 1) := by decide +kernel
theorem dX2_init_78 : decode cX2_init 78 = .ok (.sipush 512, 3) := by decide +kernel
theorem dX2_init_81 : decode cX2_init 81 = .ok (.newarray .int, 2) := by decide +kernel
theorem dX2_init_83 : decode cX2_init 83 = .ok (.putfield 40, 3) := by decide +kernel
theorem dX2_init_86 : decode cX2_init 86 = .ok (.aload_n 0, 1) := by decide +kernel
theorem dX2_init_87 : decode cX2_init 87 = .ok (.iconst 0, 1) := by decide +kernel
theorem dX2_init_88 : decode cX2_init 88 = .ok (.putfield 43, 3) := by decide +kernel
theorem dX2_init_91 : decode cX2_init 91 = .ok (.aload_n 0, 1) := by decide +kernel
theorem dX2_init_92 : decode cX2_init 92 = .ok (.sipush 512, 3) := by decide +kernel
theorem dX2_init_95 : decode cX2_init 95 = .ok (.newarray .int, 2) := by decide +kernel
theorem dX2_init_97 : decode cX2_init 97 = .ok (.putfield 46, 3) := by decide +kernel
theorem dX2_init_100 : decode cX2_init 100 = .ok (.aload_n 0, 1) := by decide +kernel
theorem dX2_init_101 : decode cX2_init 101 = .ok (.iconst 0, 1) := by decide +kernel
theorem dX2_init_102 : decode cX2_init 102 = .ok (.putfield 49, 3) := by decide +kernel
theorem dX2_init_105 : decode cX2_init 105 = .ok (.return_, 1) := by decide +kernel
theorem dX2_run_0 : decode cX2_run 0 = .ok (.aload_n 0, 1) := by decide +kernel
theorem dX2_run_1 : decode cX2_run 1 = .ok (.aload_n 1, 1) := by decide +kernel
theorem dX2_run_2 : decode cX2_run 2 = .ok (.invokevirtual 52, 3) := by decide +kernel
theorem dX2_run_5 : decode cX2_run 5 = .ok (.aload_n 0, 1) := by decide +kernel
theorem dX2_run_6 : decode cX2_run 6 = .ok (.iconst 1, 1) := by decide +kernel
theorem dX2_run_7 : decode cX2_run 7 = .ok (.iconst 1, 1) := by decide +kernel
theorem dX2_run_8 : decode cX2_run 8 = .ok (.invokevirtual 56, 3) := by decide +kernel
theorem dX2_run_11 : decode cX2_run 11 = .ok (.iconst 0, 1) := by decide +kernel
theorem dX2_run_12 : decode cX2_run 12 = .ok (.istore_n 3, 1) := by decide +kernel
theorem dX2_run_13 : decode cX2_run 13 = .ok (.iload_n 3, 1) := by decide +kernel
theorem dX2_run_14 : decode cX2_run 14 = .ok (.sipush 512, 3) := by decide +kernel
theorem dX2_run_17 : decode cX2_run 17 = .ok (.if_icmp .ge 29, 3) := by decide +kernel
theorem dX2_run_20 : decode cX2_run 20 = .ok (.aload_n 0, 1) := by decide +kernel
theorem dX2_run_21 : decode cX2_run 21 = .ok (.invokevirtual 60, 3) := by decide +kernel
theorem dX2_run_24 : decode cX2_run 24 = .ok (.istore 4, 2) := by decide +kernel
theorem dX2_run_26 : decode cX2_run 26 = .ok (.iload 4, 2) := by decide +kernel
theorem dX2_run_28 : decode cX2_run 28 = .ok (.ifCond .ne 6, 3) := by decide +kernel
theorem dX2_run_31 : decode cX2_run 31 = .ok (.goto 15, 3) := by decide +kernel
theorem dX2_run_34 : decode cX2_run 34 = .ok (.aload_n 0, 1) := by decide +kernel
theorem dX2_run_35 : decode cX2_run 35 = .ok (.iload 4, 2) := by decide +kernel
theorem dX2_run_37 : decode cX2_run 37 = .ok (.invokevirtual 64, 3) := by decide +kernel
theorem dX2_run_40 : decode cX2_run 40 = .ok (.iinc 3 1, 3) := by decide +kernel
theorem dX2_run_43 : decode cX2_run 43 = .ok (.goto (-30), 3) := by decide +kernel
theorem dX2_run_46 : decode cX2_run 46 = .ok (.aload_n 0, 1) := by decide +kernel
theorem dX2_run_47 : decode cX2_run 47 = .ok (.aload_n 2, 1) := by decide +kernel
theorem dX2_run_48 : decode cX2_run 48 = .ok (.invokevirtual 68, 3) := by decide +kernel
theorem dX2_run_51 : decode cX2_run 51 = .ok (.return_, 1) := by decide +kernel
theorem dX2_plantTree_0 : decode cX2_plantTree 0 = .ok (.aload_n 0, 1) := by decide +kernel
theorem dX2_plantTree_1 : decode cX2_plantTree 1 = .ok (.getfield 15, 3) := by decide +kernel
theorem dX2_plantTree_4 : decode cX2_plantTree 4 = .ok (.iconst 0, 1) := by decide +kernel
theorem dX2_plantTree_5 : decode cX2_plantTree 5 = .ok (.invokestatic 72, 3) := by decide +kernel
theorem dX2_plantTree_8 : decode cX2_plantTree 8 = .ok (.aload_n 0, 1) := by decide +kernel
theorem dX2_plantTree_9 : decode cX2_plantTree 9 = .ok (.getfield 24, 3) := by decide +kernel
theorem dX2_plantTree_12 : decode cX2_plantTree 12 = .ok (.iconst (-1), 1) := by decide +kernel
theorem dX2_plantTree_13 : decode cX2_plantTree 13 = .ok (.invokestatic 72, 3) := by decide +kernel
theorem dX2_plantTree_16 : decode cX2_plantTree 16 = .ok (.aload_n 0, 1) := by decide +kernel
theorem dX2_plantTree_17 : decode cX2_plantTree 17 = .ok (.iconst 0, 1) := by decide +kernel
theorem dX2_plantTree_18 : decode cX2_plantTree 18 = .ok (.putfield 27, 3) := by decide +kernel
theorem dX2_plantTree_21 : decode cX2_plantTree 21 = .ok (.sipush 511, 3) := by decide +kernel
theorem dX2_plantTree_24 : decode cX2_plantTree 24 = .ok (.istore_n 2, 1) := by decide +kernel
theorem dX2_plantTree_25 : decode cX2_plantTree 25 = .ok (.iload_n 2, 1) := by decide +kernel
theorem dX2_plantTree_26 : decode cX2_plantTree 26 = .ok (.iconst 1, 1) := by decide +kernel
theorem dX2_plantTree_27 : decode cX2_plantTree 27 = .ok (.if_icmp .lt 74, 3) := by decide +kernel
theorem dX2_plantTree_30 : decode cX2_plantTree 30 = .ok (.aload_n 0, 1) := by decide +kernel
theorem dX2_plantTree_31 : decode cX2_plantTree 31 = .ok (.getfield 9, 3) := by decide +kernel
theorem dX2_plantTree_34 : decode cX2_plantTree 34 = .ok (.iload_n 2, 1) := by decide +kernel
theorem dX2_plantTree_35 : decode cX2_plantTree 35 = .ok (.aload_n 1, 1) := by decide +kernel
theorem dX2_plantTree_36 : decode cX2_plantTree 36 = .ok (.iload_n 2, 1) := by decide +kernel
theorem dX2_plantTree_37 : decode cX2_plantTree 37 = .ok (.invokevirtual 78, 3) := by decide +kernel
theorem dX2_plantTree_40 : decode cX2_plantTree 40 = .ok (.iastore, 1) := by decide +kernel
theorem dX2_plantTree_41 : decode cX2_plantTree 41 = .ok (.aload_n 0, 1) := by decide +kernel
theorem dX2_plantTree_42 : decode cX2_plantTree 42 = .ok (.getfield 9, 3) := by decide +kernel
theorem dX2_plantTree_45 : decode cX2_plantTree 45 = .ok (.iload_n 2, 1) := by decide +kernel
theorem dX2_plantTree_46 : decode cX2_plantTree 46 = .ok (.iaload, 1) := by decide +kernel
theorem dX2_plantTree_47 : decode cX2_plantTree 47 = .ok (.ifCond .ne 27, 3) := by decide +kernel
theorem dX2_plantTree_50 : decode cX2_plantTree 50 = .ok (.aload_n 0, 1) := by decide +kernel
theorem dX2_plantTree_51 : decode cX2_plantTree 51 = .ok (.getfield 15, 3) := by decide +kernel
theorem dX2_plantTree_54 : decode cX2_plantTree 54 = .ok (.iconst 2, 1) := by decide +kernel
theorem dX2_plantTree_55 : decode cX2_plantTree 55 = .ok (.iload_n 2, 1) := by decide +kernel
theorem dX2_plantTree_56 : decode cX2_plantTree 56 = .ok (.imul, 1) := by decide +kernel
theorem dX2_plantTree_57 : decode cX2_plantTree 57 = .ok (.iaload, 1) := by decide +kernel
theorem dX2_plantTree_58 : decode cX2_plantTree 58 = .ok (.ifCond .ne 16, 3) := by decide +kernel
theorem dX2_plantTree_61 : decode cX2_plantTree 61 = .ok (.aload_n 0, 1) := by decide +kernel
theorem dX2_plantTree_62 : decode cX2_plantTree 62 = .ok (.getfield 15, 3) := by decide +kernel
theorem dX2_plantTree_65 : decode cX2_plantTree 65 = .ok (.iconst 2, 1) := by decide +kernel
theorem dX2_plantTree_66 : decode cX2_plantTree 66 = .ok (.iload_n 2, 1) := by decide +kernel
theorem dX2_plantTree_67 : decode cX2_plantTree 67 = .ok (.imul, 1) := by decide +kernel
theorem dX2_plantTree_68 : decode cX2_plantTree 68 = .ok (.iconst 1, 1) := by decide +kernel
theorem dX2_plantTree_69 : decode cX2_plantTree 69 = .ok (.iadd, 1) := by decide +kernel
theorem dX2_plantTree_70 : decode cX2_plantTree 70 = .ok (.iaload, 1) := by decide +kernel
theorem dX2_plantTree_71 : decode cX2_plantTree 71 = .ok (.ifCond .eq 7, 3) := by decide +kernel
theorem dX2_plantTree_74 : decode cX2_plantTree 74 = .ok (.iconst 1, 1) := by decide +kernel
theorem dX2_plantTree_75 : decode cX2_plantTree 75 = .ok (.goto 4, 3) := by decide +kernel
theorem dX2_plantTree_78 : decode cX2_plantTree 78 = .ok (.iconst 0, 1) := by decide +kernel
theorem dX2_plantTree_79 : decode cX2_plantTree 79 = .ok (.istore_n 3, 1) := by decide +kernel
theorem dX2_plantTree_80 : decode cX2_plantTree 80 = .ok (.aload_n 0, 1) := by decide +kernel
theorem dX2_plantTree_81 : decode cX2_plantTree 81 = .ok (.getfield 15, 3) := by decide +kernel
theorem dX2_plantTree_84 : decode cX2_plantTree 84 = .ok (.iload_n 2, 1) := by decide +kernel
theorem dX2_plantTree_85 : decode cX2_plantTree 85 = .ok (.iload_n 3, 1) := by decide +kernel
theorem dX2_plantTree_86 : decode cX2_plantTree 86 = .ok (.ifCond .eq 7, 3) := by decide +kernel
theorem dX2_plantTree_89 : decode cX2_plantTree 89 = .ok (.iload_n 2, 1) := by decide +kernel
theorem dX2_plantTree_90 : decode cX2_plantTree 90 = .ok (.goto 4, 3) := by decide +kernel
theorem dX2_plantTree_93 : decode cX2_plantTree 93 = .ok (.iconst 0, 1) := by decide +kernel
theorem dX2_plantTree_94 : decode cX2_plantTree 94 = .ok (.iastore, 1) := by decide +kernel
theorem dX2_plantTree_95 : decode cX2_plantTree 95 = .ok (.iinc 2 (-1), 3) := by decide +kernel
theorem dX2_plantTree_98 : decode cX2_plantTree 98 = .ok (.goto (-73), 3) := by decide +kernel
theorem dX2_plantTree_101 : decode cX2_plantTree 101 = .ok (.return_, 1) := by decide +kernel
theorem dX2_redden_0 : decode cX2_redden 0 = .ok (.aload_n 0, 1) := by decide +kernel
theorem dX2_redden_1 : decode cX2_redden 1 = .ok (.getfield 18, 3) := by decide +kernel
theorem dX2_redden_4 : decode cX2_redden 4 = .ok (.aload_n 0, 1) := by decide +kernel
theorem dX2_redden_5 : decode cX2_redden 5 = .ok (.getfield 27, 3) := by decide +kernel
theorem dX2_redden_8 : decode cX2_redden 8 = .ok (.iload_n 1, 1) := by decide +kernel
theorem dX2_redden_9 : decode cX2_redden 9 = .ok (.iastore, 1) := by decide +kernel
theorem dX2_redden_10 : decode cX2_redden 10 = .ok (.aload_n 0, 1) := by decide +kernel
theorem dX2_redden_11 : decode cX2_redden 11 = .ok (.getfield 21, 3) := by decide +kernel
theorem dX2_redden_14 : decode cX2_redden 14 = .ok (.aload_n 0, 1) := by decide +kernel
theorem dX2_redden_15 : decode cX2_redden 15 = .ok (.getfield 27, 3) := by decide +kernel
theorem dX2_redden_18 : decode cX2_redden 18 = .ok (.iload_n 2, 1) := by decide +kernel
theorem dX2_redden_19 : decode cX2_redden 19 = .ok (.iastore, 1) := by decide +kernel
theorem dX2_redden_20 : decode cX2_redden 20 = .ok (.aload_n 0, 1) := by decide +kernel
theorem dX2_redden_21 : decode cX2_redden 21 = .ok (.getfield 24, 3) := by decide +kernel
theorem dX2_redden_24 : decode cX2_redden 24 = .ok (.iload_n 1, 1) := by decide +kernel
theorem dX2_redden_25 : decode cX2_redden 25 = .ok (.aload_n 0, 1) := by decide +kernel
theorem dX2_redden_26 : decode cX2_redden 26 = .ok (.getfield 27, 3) := by decide +kernel
theorem dX2_redden_29 : decode cX2_redden 29 = .ok (.iastore, 1) := by decide +kernel
theorem dX2_redden_30 : decode cX2_redden 30 = .ok (.aload_n 0, 1) := by decide +kernel
theorem dX2_redden_31 : decode cX2_redden 31 = .ok (.dup, 1) := by decide +kernel
theorem dX2_redden_32 : decode cX2_redden 32 = .ok (.getfield 27, 3) := by decide +kernel
theorem dX2_redden_35 : decode cX2_redden 35 = .ok (.iconst 1, 1) := by decide +kernel
theorem dX2_redden_36 : decode cX2_redden 36 = .ok (.iadd, 1) := by decide +kernel
theorem dX2_redden_37 : decode cX2_redden 37 = .ok (.putfield 27, 3) := by decide +kernel
theorem dX2_redden_40 : decode cX2_redden 40 = .ok (.return_, 1) := by decide +kernel
theorem dX2_nameBehind_0 : decode cX2_nameBehind 0 = .ok (.iconst 2, 1) := by decide +kernel
theorem dX2_nameBehind_1 : decode cX2_nameBehind 1 = .ok (.aload_n 0, 1) := by decide +kernel
theorem dX2_nameBehind_2 : decode cX2_nameBehind 2 = .ok (.getfield 21, 3) := by decide +kernel
theorem dX2_nameBehind_5 : decode cX2_nameBehind 5 = .ok (.aload_n 0, 1) := by decide +kernel
theorem dX2_nameBehind_6 : decode cX2_nameBehind 6 = .ok (.getfield 24, 3) := by decide +kernel
theorem dX2_nameBehind_9 : decode cX2_nameBehind 9 = .ok (.iload_n 1, 1) := by decide +kernel
theorem dX2_nameBehind_10 : decode cX2_nameBehind 10 = .ok (.iconst 2, 1) := by decide +kernel
theorem dX2_nameBehind_11 : decode cX2_nameBehind 11 = .ok (.idiv, 1) := by decide +kernel
theorem dX2_nameBehind_12 : decode cX2_nameBehind 12 = .ok (.iaload, 1) := by decide +kernel
theorem dX2_nameBehind_13 : decode cX2_nameBehind 13 = .ok (.iaload, 1) := by decide +kernel
theorem dX2_nameBehind_14 : decode cX2_nameBehind 14 = .ok (.imul, 1) := by decide +kernel
theorem dX2_nameBehind_15 : decode cX2_nameBehind 15 = .ok (.iload_n 1, 1) := by decide +kernel
theorem dX2_nameBehind_16 : decode cX2_nameBehind 16 = .ok (.iconst 2, 1) := by decide +kernel
theorem dX2_nameBehind_17 : decode cX2_nameBehind 17 = .ok (.irem, 1) := by decide +kernel
theorem dX2_nameBehind_18 : decode cX2_nameBehind 18 = .ok (.iadd, 1) := by decide +kernel
theorem dX2_nameBehind_19 : decode cX2_nameBehind 19 = .ok (.ireturn, 1) := by decide +kernel
theorem dX2_firstArrowToBlue_0 : decode cX2_firstArrowToBlue 0 = .ok (.iconst 0, 1) := by decide +kernel
theorem dX2_firstArrowToBlue_1 : decode cX2_firstArrowToBlue 1 = .ok (.istore_n 1, 1) := by decide +kernel
theorem dX2_firstArrowToBlue_2 : decode cX2_firstArrowToBlue 2 = .ok (.iconst 0, 1) := by decide +kernel
theorem dX2_firstArrowToBlue_3 : decode cX2_firstArrowToBlue 3 = .ok (.istore_n 2, 1) := by decide +kernel
theorem dX2_firstArrowToBlue_4 : decode cX2_firstArrowToBlue 4 = .ok (.iload_n 2, 1) := by decide +kernel
theorem dX2_firstArrowToBlue_5 : decode cX2_firstArrowToBlue 5 = .ok (.aload_n 0, 1) := by decide +kernel
theorem dX2_firstArrowToBlue_6 : decode cX2_firstArrowToBlue 6 = .ok (.getfield 27, 3) := by decide +kernel
theorem dX2_firstArrowToBlue_9 : decode cX2_firstArrowToBlue 9 = .ok (.if_icmp .ge 64, 3) := by decide +kernel
theorem dX2_firstArrowToBlue_12 : decode cX2_firstArrowToBlue 12 = .ok (.iconst 0, 1) := by decide +kernel
theorem dX2_firstArrowToBlue_13 : decode cX2_firstArrowToBlue 13 = .ok (.istore_n 3, 1) := by decide +kernel
theorem dX2_firstArrowToBlue_14 : decode cX2_firstArrowToBlue 14 = .ok (.iload_n 3, 1) := by decide +kernel
theorem dX2_firstArrowToBlue_15 : decode cX2_firstArrowToBlue 15 = .ok (.iconst 2, 1) := by decide +kernel
theorem dX2_firstArrowToBlue_16 : decode cX2_firstArrowToBlue 16 = .ok (.if_icmp .ge 51, 3) := by decide +kernel
theorem dX2_firstArrowToBlue_19 : decode cX2_firstArrowToBlue 19 = .ok (.iconst 2, 1) := by decide +kernel
theorem dX2_firstArrowToBlue_20 : decode cX2_firstArrowToBlue 20 = .ok (.aload_n 0, 1) := by decide +kernel
theorem dX2_firstArrowToBlue_21 : decode cX2_firstArrowToBlue 21 = .ok (.getfield 18, 3) := by decide +kernel
theorem dX2_firstArrowToBlue_24 : decode cX2_firstArrowToBlue 24 = .ok (.iload_n 2, 1) := by decide +kernel
theorem dX2_firstArrowToBlue_25 : decode cX2_firstArrowToBlue 25 = .ok (.iaload, 1) := by decide +kernel
theorem dX2_firstArrowToBlue_26 : decode cX2_firstArrowToBlue 26 = .ok (.imul, 1) := by decide +kernel
theorem dX2_firstArrowToBlue_27 : decode cX2_firstArrowToBlue 27 = .ok (.iload_n 3, 1) := by decide +kernel
theorem dX2_firstArrowToBlue_28 : decode cX2_firstArrowToBlue 28 = .ok (.iadd, 1) := by decide +kernel
theorem dX2_firstArrowToBlue_29 : decode cX2_firstArrowToBlue 29 = .ok (.istore 4, 2) := by decide +kernel
theorem dX2_firstArrowToBlue_31 : decode cX2_firstArrowToBlue 31 = .ok (.aload_n 0, 1) := by decide +kernel
theorem dX2_firstArrowToBlue_32 : decode cX2_firstArrowToBlue 32 = .ok (.iload 4, 2) := by decide +kernel
theorem dX2_firstArrowToBlue_34 : decode cX2_firstArrowToBlue 34 = .ok (.invokevirtual 84, 3) := by decide +kernel
theorem dX2_firstArrowToBlue_37 : decode cX2_firstArrowToBlue 37 = .ok (.ifCond .eq 24, 3) := by decide +kernel
theorem dX2_firstArrowToBlue_40 : decode cX2_firstArrowToBlue 40 = .ok (.iload_n 1, 1) := by decide +kernel
theorem dX2_firstArrowToBlue_41 : decode cX2_firstArrowToBlue 41 = .ok (.ifCond .eq 17, 3) := by decide +kernel
theorem dX2_firstArrowToBlue_44 : decode cX2_firstArrowToBlue 44 = .ok (.aload_n 0, 1) := by decide +kernel
theorem dX2_firstArrowToBlue_45 : decode cX2_firstArrowToBlue 45 = .ok (.iload 4, 2) := by decide +kernel
theorem dX2_firstArrowToBlue_47 : decode cX2_firstArrowToBlue 47 = .ok (.invokevirtual 88, 3) := by decide +kernel
theorem dX2_firstArrowToBlue_50 : decode cX2_firstArrowToBlue 50 = .ok (.aload_n 0, 1) := by decide +kernel
theorem dX2_firstArrowToBlue_51 : decode cX2_firstArrowToBlue 51 = .ok (.iload_n 1, 1) := by decide +kernel
theorem dX2_firstArrowToBlue_52 : decode cX2_firstArrowToBlue 52 = .ok (.invokevirtual 88, 3) := by decide +kernel
theorem dX2_firstArrowToBlue_55 : decode cX2_firstArrowToBlue 55 = .ok (.if_icmp .ge 6, 3) := by decide +kernel
theorem dX2_firstArrowToBlue_58 : decode cX2_firstArrowToBlue 58 = .ok (.iload 4, 2) := by decide +kernel
theorem dX2_firstArrowToBlue_60 : decode cX2_firstArrowToBlue 60 = .ok (.istore_n 1, 1) := by decide +kernel
theorem dX2_firstArrowToBlue_61 : decode cX2_firstArrowToBlue 61 = .ok (.iinc 3 1, 3) := by decide +kernel
theorem dX2_firstArrowToBlue_64 : decode cX2_firstArrowToBlue 64 = .ok (.goto (-50), 3) := by decide +kernel
theorem dX2_firstArrowToBlue_67 : decode cX2_firstArrowToBlue 67 = .ok (.iinc 2 1, 3) := by decide +kernel
theorem dX2_firstArrowToBlue_70 : decode cX2_firstArrowToBlue 70 = .ok (.goto (-66), 3) := by decide +kernel
theorem dX2_firstArrowToBlue_73 : decode cX2_firstArrowToBlue 73 = .ok (.iload_n 1, 1) := by decide +kernel
theorem dX2_firstArrowToBlue_74 : decode cX2_firstArrowToBlue 74 = .ok (.ireturn, 1) := by decide +kernel
theorem dX2_leadsToBlue_0 : decode cX2_leadsToBlue 0 = .ok (.aload_n 0, 1) := by decide +kernel
theorem dX2_leadsToBlue_1 : decode cX2_leadsToBlue 1 = .ok (.getfield 15, 3) := by decide +kernel
theorem dX2_leadsToBlue_4 : decode cX2_leadsToBlue 4 = .ok (.iload_n 1, 1) := by decide +kernel
theorem dX2_leadsToBlue_5 : decode cX2_leadsToBlue 5 = .ok (.iaload, 1) := by decide +kernel
theorem dX2_leadsToBlue_6 : decode cX2_leadsToBlue 6 = .ok (.ifCond .eq 22, 3) := by decide +kernel
theorem dX2_leadsToBlue_9 : decode cX2_leadsToBlue 9 = .ok (.aload_n 0, 1) := by decide +kernel
theorem dX2_leadsToBlue_10 : decode cX2_leadsToBlue 10 = .ok (.getfield 24, 3) := by decide +kernel
theorem dX2_leadsToBlue_13 : decode cX2_leadsToBlue 13 = .ok (.aload_n 0, 1) := by decide +kernel
theorem dX2_leadsToBlue_14 : decode cX2_leadsToBlue 14 = .ok (.getfield 15, 3) := by decide +kernel
theorem dX2_leadsToBlue_17 : decode cX2_leadsToBlue 17 = .ok (.iload_n 1, 1) := by decide +kernel
theorem dX2_leadsToBlue_18 : decode cX2_leadsToBlue 18 = .ok (.iaload, 1) := by decide +kernel
theorem dX2_leadsToBlue_19 : decode cX2_leadsToBlue 19 = .ok (.iaload, 1) := by decide +kernel
theorem dX2_leadsToBlue_20 : decode cX2_leadsToBlue 20 = .ok (.iconst (-1), 1) := by decide +kernel
theorem dX2_leadsToBlue_21 : decode cX2_leadsToBlue 21 = .ok (.if_icmp .ne 7, 3) := by decide +kernel
theorem dX2_leadsToBlue_24 : decode cX2_leadsToBlue 24 = .ok (.iconst 1, 1) := by decide +kernel
theorem dX2_leadsToBlue_25 : decode cX2_leadsToBlue 25 = .ok (.goto 4, 3) := by decide +kernel
theorem dX2_leadsToBlue_28 : decode cX2_leadsToBlue 28 = .ok (.iconst 0, 1) := by decide +kernel
theorem dX2_leadsToBlue_29 : decode cX2_leadsToBlue 29 = .ok (.ireturn, 1) := by decide +kernel
theorem dX2_settle_0 : decode cX2_settle 0 = .ok (.iconst 0, 1) := by decide +kernel
theorem dX2_settle_1 : decode cX2_settle 1 = .ok (.istore_n 2, 1) := by decide +kernel
theorem dX2_settle_2 : decode cX2_settle 2 = .ok (.iload_n 2, 1) := by decide +kernel
theorem dX2_settle_3 : decode cX2_settle 3 = .ok (.aload_n 0, 1) := by decide +kernel
theorem dX2_settle_4 : decode cX2_settle 4 = .ok (.getfield 27, 3) := by decide +kernel
theorem dX2_settle_7 : decode cX2_settle 7 = .ok (.if_icmp .ge 24, 3) := by decide +kernel
theorem dX2_settle_10 : decode cX2_settle 10 = .ok (.aload_n 0, 1) := by decide +kernel
theorem dX2_settle_11 : decode cX2_settle 11 = .ok (.iload_n 1, 1) := by decide +kernel
theorem dX2_settle_12 : decode cX2_settle 12 = .ok (.aload_n 0, 1) := by decide +kernel
theorem dX2_settle_13 : decode cX2_settle 13 = .ok (.getfield 18, 3) := by decide +kernel
theorem dX2_settle_16 : decode cX2_settle 16 = .ok (.iload_n 2, 1) := by decide +kernel
theorem dX2_settle_17 : decode cX2_settle 17 = .ok (.iaload, 1) := by decide +kernel
theorem dX2_settle_18 : decode cX2_settle 18 = .ok (.invokevirtual 91, 3) := by decide +kernel
theorem dX2_settle_21 : decode cX2_settle 21 = .ok (.ifCond .eq 4, 3) := by decide +kernel
theorem dX2_settle_24 : decode cX2_settle 24 = .ok (.return_, 1) := by decide +kernel
theorem dX2_settle_25 : decode cX2_settle 25 = .ok (.iinc 2 1, 3) := by decide +kernel
theorem dX2_settle_28 : decode cX2_settle 28 = .ok (.goto (-26), 3) := by decide +kernel
theorem dX2_settle_31 : decode cX2_settle 31 = .ok (.aload_n 0, 1) := by decide +kernel
theorem dX2_settle_32 : decode cX2_settle 32 = .ok (.aload_n 0, 1) := by decide +kernel
theorem dX2_settle_33 : decode cX2_settle 33 = .ok (.getfield 15, 3) := by decide +kernel
theorem dX2_settle_36 : decode cX2_settle 36 = .ok (.iload_n 1, 1) := by decide +kernel
theorem dX2_settle_37 : decode cX2_settle 37 = .ok (.iaload, 1) := by decide +kernel
theorem dX2_settle_38 : decode cX2_settle 38 = .ok (.aload_n 0, 1) := by decide +kernel
theorem dX2_settle_39 : decode cX2_settle 39 = .ok (.iload_n 1, 1) := by decide +kernel
theorem dX2_settle_40 : decode cX2_settle 40 = .ok (.invokevirtual 88, 3) := by decide +kernel
theorem dX2_settle_43 : decode cX2_settle 43 = .ok (.invokevirtual 56, 3) := by decide +kernel
theorem dX2_settle_46 : decode cX2_settle 46 = .ok (.return_, 1) := by decide +kernel
theorem dX2_merges_0 : decode cX2_merges 0 = .ok (.aload_n 0, 1) := by decide +kernel
theorem dX2_merges_1 : decode cX2_merges 1 = .ok (.getfield 15, 3) := by decide +kernel
theorem dX2_merges_4 : decode cX2_merges 4 = .ok (.iload_n 1, 1) := by decide +kernel
theorem dX2_merges_5 : decode cX2_merges 5 = .ok (.iaload, 1) := by decide +kernel
theorem dX2_merges_6 : decode cX2_merges 6 = .ok (.istore_n 3, 1) := by decide +kernel
theorem dX2_merges_7 : decode cX2_merges 7 = .ok (.aload_n 0, 1) := by decide +kernel
theorem dX2_merges_8 : decode cX2_merges 8 = .ok (.iconst 0, 1) := by decide +kernel
theorem dX2_merges_9 : decode cX2_merges 9 = .ok (.putfield 43, 3) := by decide +kernel
theorem dX2_merges_12 : decode cX2_merges 12 = .ok (.aload_n 0, 1) := by decide +kernel
theorem dX2_merges_13 : decode cX2_merges 13 = .ok (.iconst 0, 1) := by decide +kernel
theorem dX2_merges_14 : decode cX2_merges 14 = .ok (.putfield 49, 3) := by decide +kernel
theorem dX2_merges_17 : decode cX2_merges 17 = .ok (.aload_n 0, 1) := by decide +kernel
theorem dX2_merges_18 : decode cX2_merges 18 = .ok (.iconst 0, 1) := by decide +kernel
theorem dX2_merges_19 : decode cX2_merges 19 = .ok (.putfield 37, 3) := by decide +kernel
theorem dX2_merges_22 : decode cX2_merges 22 = .ok (.aload_n 0, 1) := by decide +kernel
theorem dX2_merges_23 : decode cX2_merges 23 = .ok (.getfield 15, 3) := by decide +kernel
theorem dX2_merges_26 : decode cX2_merges 26 = .ok (.iload_n 1, 1) := by decide +kernel
theorem dX2_merges_27 : decode cX2_merges 27 = .ok (.iload_n 2, 1) := by decide +kernel
theorem dX2_merges_28 : decode cX2_merges 28 = .ok (.iastore, 1) := by decide +kernel
theorem dX2_merges_29 : decode cX2_merges 29 = .ok (.aload_n 0, 1) := by decide +kernel
theorem dX2_merges_30 : decode cX2_merges 30 = .ok (.iload_n 2, 1) := by decide +kernel
theorem dX2_merges_31 : decode cX2_merges 31 = .ok (.iload_n 3, 1) := by decide +kernel
theorem dX2_merges_32 : decode cX2_merges 32 = .ok (.invokevirtual 95, 3) := by decide +kernel
theorem dX2_merges_35 : decode cX2_merges 35 = .ok (.iconst 0, 1) := by decide +kernel
theorem dX2_merges_36 : decode cX2_merges 36 = .ok (.istore 4, 2) := by decide +kernel
theorem dX2_merges_38 : decode cX2_merges 38 = .ok (.iload 4, 2) := by decide +kernel
theorem dX2_merges_40 : decode cX2_merges 40 = .ok (.aload_n 0, 1) := by decide +kernel
theorem dX2_merges_41 : decode cX2_merges 41 = .ok (.getfield 37, 3) := by decide +kernel
theorem dX2_merges_44 : decode cX2_merges 44 = .ok (.if_icmp .ge 76, 3) := by decide +kernel
theorem dX2_merges_47 : decode cX2_merges 47 = .ok (.iload 4, 2) := by decide +kernel
theorem dX2_merges_49 : decode cX2_merges 49 = .ok (.sipush 512, 3) := by decide +kernel
theorem dX2_merges_52 : decode cX2_merges 52 = .ok (.if_icmp .ge 68, 3) := by decide +kernel
theorem dX2_merges_55 : decode cX2_merges 55 = .ok (.aload_n 0, 1) := by decide +kernel
theorem dX2_merges_56 : decode cX2_merges 56 = .ok (.getfield 9, 3) := by decide +kernel
theorem dX2_merges_59 : decode cX2_merges 59 = .ok (.aload_n 0, 1) := by decide +kernel
theorem dX2_merges_60 : decode cX2_merges 60 = .ok (.getfield 31, 3) := by decide +kernel
theorem dX2_merges_63 : decode cX2_merges 63 = .ok (.iload 4, 2) := by decide +kernel
theorem dX2_merges_65 : decode cX2_merges 65 = .ok (.iaload, 1) := by decide +kernel
theorem dX2_merges_66 : decode cX2_merges 66 = .ok (.iaload, 1) := by decide +kernel
theorem dX2_merges_67 : decode cX2_merges 67 = .ok (.aload_n 0, 1) := by decide +kernel
theorem dX2_merges_68 : decode cX2_merges 68 = .ok (.getfield 9, 3) := by decide +kernel
theorem dX2_merges_71 : decode cX2_merges 71 = .ok (.aload_n 0, 1) := by decide +kernel
theorem dX2_merges_72 : decode cX2_merges 72 = .ok (.getfield 34, 3) := by decide +kernel
theorem dX2_merges_75 : decode cX2_merges 75 = .ok (.iload 4, 2) := by decide +kernel
theorem dX2_merges_77 : decode cX2_merges 77 = .ok (.iaload, 1) := by decide +kernel
theorem dX2_merges_78 : decode cX2_merges 78 = .ok (.iaload, 1) := by decide +kernel
theorem dX2_merges_79 : decode cX2_merges 79 = .ok (.imul, 1) := by decide +kernel
theorem dX2_merges_80 : decode cX2_merges 80 = .ok (.ifCond .ge 16, 3) := by decide +kernel
theorem dX2_merges_83 : decode cX2_merges 83 = .ok (.aload_n 0, 1) := by decide +kernel
theorem dX2_merges_84 : decode cX2_merges 84 = .ok (.invokevirtual 98, 3) := by decide +kernel
theorem dX2_merges_87 : decode cX2_merges 87 = .ok (.aload_n 0, 1) := by decide +kernel
theorem dX2_merges_88 : decode cX2_merges 88 = .ok (.getfield 15, 3) := by decide +kernel
theorem dX2_merges_91 : decode cX2_merges 91 = .ok (.iload_n 1, 1) := by decide +kernel
theorem dX2_merges_92 : decode cX2_merges 92 = .ok (.iload_n 3, 1) := by decide +kernel
theorem dX2_merges_93 : decode cX2_merges 93 = .ok (.iastore, 1) := by decide +kernel
theorem dX2_merges_94 : decode cX2_merges 94 = .ok (.iconst 0, 1) := by decide +kernel
theorem dX2_merges_95 : decode cX2_merges 95 = .ok (.ireturn, 1) := by decide +kernel
theorem dX2_merges_96 : decode cX2_merges 96 = .ok (.aload_n 0, 1) := by decide +kernel
theorem dX2_merges_97 : decode cX2_merges 97 = .ok (.aload_n 0, 1) := by decide +kernel
theorem dX2_merges_98 : decode cX2_merges 98 = .ok (.getfield 31, 3) := by decide +kernel
theorem dX2_merges_101 : decode cX2_merges 101 = .ok (.iload 4, 2) := by decide +kernel
theorem dX2_merges_103 : decode cX2_merges 103 = .ok (.iaload, 1) := by decide +kernel
theorem dX2_merges_104 : decode cX2_merges 104 = .ok (.aload_n 0, 1) := by decide +kernel
theorem dX2_merges_105 : decode cX2_merges 105 = .ok (.getfield 34, 3) := by decide +kernel
theorem dX2_merges_108 : decode cX2_merges 108 = .ok (.iload 4, 2) := by decide +kernel
theorem dX2_merges_110 : decode cX2_merges 110 = .ok (.iaload, 1) := by decide +kernel
theorem dX2_merges_111 : decode cX2_merges 111 = .ok (.invokevirtual 101, 3) := by decide +kernel
theorem dX2_merges_114 : decode cX2_merges 114 = .ok (.iinc 4 1, 3) := by decide +kernel
theorem dX2_merges_117 : decode cX2_merges 117 = .ok (.goto (-79), 3) := by decide +kernel
theorem dX2_merges_120 : decode cX2_merges 120 = .ok (.iconst 1, 1) := by decide +kernel
theorem dX2_merges_121 : decode cX2_merges 121 = .ok (.ireturn, 1) := by decide +kernel
theorem dX2_addPair_0 : decode cX2_addPair 0 = .ok (.aload_n 0, 1) := by decide +kernel
theorem dX2_addPair_1 : decode cX2_addPair 1 = .ok (.getfield 31, 3) := by decide +kernel
theorem dX2_addPair_4 : decode cX2_addPair 4 = .ok (.aload_n 0, 1) := by decide +kernel
theorem dX2_addPair_5 : decode cX2_addPair 5 = .ok (.getfield 37, 3) := by decide +kernel
theorem dX2_addPair_8 : decode cX2_addPair 8 = .ok (.iload_n 1, 1) := by decide +kernel
theorem dX2_addPair_9 : decode cX2_addPair 9 = .ok (.iastore, 1) := by decide +kernel
theorem dX2_addPair_10 : decode cX2_addPair 10 = .ok (.aload_n 0, 1) := by decide +kernel
theorem dX2_addPair_11 : decode cX2_addPair 11 = .ok (.getfield 34, 3) := by decide +kernel
theorem dX2_addPair_14 : decode cX2_addPair 14 = .ok (.aload_n 0, 1) := by decide +kernel
theorem dX2_addPair_15 : decode cX2_addPair 15 = .ok (.getfield 37, 3) := by decide +kernel
theorem dX2_addPair_18 : decode cX2_addPair 18 = .ok (.iload_n 2, 1) := by decide +kernel
theorem dX2_addPair_19 : decode cX2_addPair 19 = .ok (.iastore, 1) := by decide +kernel
theorem dX2_addPair_20 : decode cX2_addPair 20 = .ok (.aload_n 0, 1) := by decide +kernel
theorem dX2_addPair_21 : decode cX2_addPair 21 = .ok (.dup, 1) := by decide +kernel
theorem dX2_addPair_22 : decode cX2_addPair 22 = .ok (.getfield 37, 3) := by decide +kernel
theorem dX2_addPair_25 : decode cX2_addPair 25 = .ok (.iconst 1, 1) := by decide +kernel
theorem dX2_addPair_26 : decode cX2_addPair 26 = .ok (.iadd, 1) := by decide +kernel
theorem dX2_addPair_27 : decode cX2_addPair 27 = .ok (.putfield 37, 3) := by decide +kernel
theorem dX2_addPair_30 : decode cX2_addPair 30 = .ok (.return_, 1) := by decide +kernel
theorem dX2_layOver_0 : decode cX2_layOver 0 = .ok (.aload_n 0, 1) := by decide +kernel
theorem dX2_layOver_1 : decode cX2_layOver 1 = .ok (.getfield 9, 3) := by decide +kernel
theorem dX2_layOver_4 : decode cX2_layOver 4 = .ok (.iload_n 1, 1) := by decide +kernel
theorem dX2_layOver_5 : decode cX2_layOver 5 = .ok (.iaload, 1) := by decide +kernel
theorem dX2_layOver_6 : decode cX2_layOver 6 = .ok (.ifCond .ne 44, 3) := by decide +kernel
theorem dX2_layOver_9 : decode cX2_layOver 9 = .ok (.aload_n 0, 1) := by decide +kernel
theorem dX2_layOver_10 : decode cX2_layOver 10 = .ok (.getfield 9, 3) := by decide +kernel
theorem dX2_layOver_13 : decode cX2_layOver 13 = .ok (.iload_n 2, 1) := by decide +kernel
theorem dX2_layOver_14 : decode cX2_layOver 14 = .ok (.iaload, 1) := by decide +kernel
theorem dX2_layOver_15 : decode cX2_layOver 15 = .ok (.ifCond .eq 35, 3) := by decide +kernel
theorem dX2_layOver_18 : decode cX2_layOver 18 = .ok (.aload_n 0, 1) := by decide +kernel
theorem dX2_layOver_19 : decode cX2_layOver 19 = .ok (.getfield 9, 3) := by decide +kernel
theorem dX2_layOver_22 : decode cX2_layOver 22 = .ok (.iload_n 1, 1) := by decide +kernel
theorem dX2_layOver_23 : decode cX2_layOver 23 = .ok (.aload_n 0, 1) := by decide +kernel
theorem dX2_layOver_24 : decode cX2_layOver 24 = .ok (.getfield 9, 3) := by decide +kernel
theorem dX2_layOver_27 : decode cX2_layOver 27 = .ok (.iload_n 2, 1) := by decide +kernel
theorem dX2_layOver_28 : decode cX2_layOver 28 = .ok (.iaload, 1) := by decide +kernel
theorem dX2_layOver_29 : decode cX2_layOver 29 = .ok (.iastore, 1) := by decide +kernel
theorem dX2_layOver_30 : decode cX2_layOver 30 = .ok (.aload_n 0, 1) := by decide +kernel
theorem dX2_layOver_31 : decode cX2_layOver 31 = .ok (.getfield 40, 3) := by decide +kernel
theorem dX2_layOver_34 : decode cX2_layOver 34 = .ok (.aload_n 0, 1) := by decide +kernel
theorem dX2_layOver_35 : decode cX2_layOver 35 = .ok (.getfield 43, 3) := by decide +kernel
theorem dX2_layOver_38 : decode cX2_layOver 38 = .ok (.iload_n 1, 1) := by decide +kernel
theorem dX2_layOver_39 : decode cX2_layOver 39 = .ok (.iastore, 1) := by decide +kernel
theorem dX2_layOver_40 : decode cX2_layOver 40 = .ok (.aload_n 0, 1) := by decide +kernel
theorem dX2_layOver_41 : decode cX2_layOver 41 = .ok (.dup, 1) := by decide +kernel
theorem dX2_layOver_42 : decode cX2_layOver 42 = .ok (.getfield 43, 3) := by decide +kernel
theorem dX2_layOver_45 : decode cX2_layOver 45 = .ok (.iconst 1, 1) := by decide +kernel
theorem dX2_layOver_46 : decode cX2_layOver 46 = .ok (.iadd, 1) := by decide +kernel
theorem dX2_layOver_47 : decode cX2_layOver 47 = .ok (.putfield 43, 3) := by decide +kernel
theorem dX2_layOver_50 : decode cX2_layOver 50 = .ok (.iconst 0, 1) := by decide +kernel
theorem dX2_layOver_51 : decode cX2_layOver 51 = .ok (.istore_n 3, 1) := by decide +kernel
theorem dX2_layOver_52 : decode cX2_layOver 52 = .ok (.iload_n 3, 1) := by decide +kernel
theorem dX2_layOver_53 : decode cX2_layOver 53 = .ok (.iconst 2, 1) := by decide +kernel
theorem dX2_layOver_54 : decode cX2_layOver 54 = .ok (.if_icmp .ge 28, 3) := by decide +kernel
theorem dX2_layOver_57 : decode cX2_layOver 57 = .ok (.aload_n 0, 1) := by decide +kernel
theorem dX2_layOver_58 : decode cX2_layOver 58 = .ok (.iconst 2, 1) := by decide +kernel
theorem dX2_layOver_59 : decode cX2_layOver 59 = .ok (.iload_n 1, 1) := by decide +kernel
theorem dX2_layOver_60 : decode cX2_layOver 60 = .ok (.imul, 1) := by decide +kernel
theorem dX2_layOver_61 : decode cX2_layOver 61 = .ok (.iload_n 3, 1) := by decide +kernel
theorem dX2_layOver_62 : decode cX2_layOver 62 = .ok (.iadd, 1) := by decide +kernel
theorem dX2_layOver_63 : decode cX2_layOver 63 = .ok (.aload_n 0, 1) := by decide +kernel
theorem dX2_layOver_64 : decode cX2_layOver 64 = .ok (.getfield 15, 3) := by decide +kernel
theorem dX2_layOver_67 : decode cX2_layOver 67 = .ok (.iconst 2, 1) := by decide +kernel
theorem dX2_layOver_68 : decode cX2_layOver 68 = .ok (.iload_n 2, 1) := by decide +kernel
theorem dX2_layOver_69 : decode cX2_layOver 69 = .ok (.imul, 1) := by decide +kernel
theorem dX2_layOver_70 : decode cX2_layOver 70 = .ok (.iload_n 3, 1) := by decide +kernel
theorem dX2_layOver_71 : decode cX2_layOver 71 = .ok (.iadd, 1) := by decide +kernel
theorem dX2_layOver_72 : decode cX2_layOver 72 = .ok (.iaload, 1) := by decide +kernel
theorem dX2_layOver_73 : decode cX2_layOver 73 = .ok (.invokevirtual 104, 3) := by decide +kernel
theorem dX2_layOver_76 : decode cX2_layOver 76 = .ok (.iinc 3 1, 3) := by decide +kernel
theorem dX2_layOver_79 : decode cX2_layOver 79 = .ok (.goto (-27), 3) := by decide +kernel
theorem dX2_layOver_82 : decode cX2_layOver 82 = .ok (.return_, 1) := by decide +kernel
theorem dX2_layArrowOver_0 : decode cX2_layArrowOver 0 = .ok (.iload_n 2, 1) := by decide +kernel
theorem dX2_layArrowOver_1 : decode cX2_layArrowOver 1 = .ok (.ifCond .ne 4, 3) := by decide +kernel
theorem dX2_layArrowOver_4 : decode cX2_layArrowOver 4 = .ok (.return_, 1) := by decide +kernel
theorem dX2_layArrowOver_5 : decode cX2_layArrowOver 5 = .ok (.aload_n 0, 1) := by decide +kernel
theorem dX2_layArrowOver_6 : decode cX2_layArrowOver 6 = .ok (.getfield 15, 3) := by decide +kernel
theorem dX2_layArrowOver_9 : decode cX2_layArrowOver 9 = .ok (.iload_n 1, 1) := by decide +kernel
theorem dX2_layArrowOver_10 : decode cX2_layArrowOver 10 = .ok (.iaload, 1) := by decide +kernel
theorem dX2_layArrowOver_11 : decode cX2_layArrowOver 11 = .ok (.ifCond .eq 15, 3) := by decide +kernel
theorem dX2_layArrowOver_14 : decode cX2_layArrowOver 14 = .ok (.aload_n 0, 1) := by decide +kernel
theorem dX2_layArrowOver_15 : decode cX2_layArrowOver 15 = .ok (.aload_n 0, 1) := by decide +kernel
theorem dX2_layArrowOver_16 : decode cX2_layArrowOver 16 = .ok (.getfield 15, 3) := by decide +kernel
theorem dX2_layArrowOver_19 : decode cX2_layArrowOver 19 = .ok (.iload_n 1, 1) := by decide +kernel
theorem dX2_layArrowOver_20 : decode cX2_layArrowOver 20 = .ok (.iaload, 1) := by decide +kernel
theorem dX2_layArrowOver_21 : decode cX2_layArrowOver 21 = .ok (.iload_n 2, 1) := by decide +kernel
theorem dX2_layArrowOver_22 : decode cX2_layArrowOver 22 = .ok (.invokevirtual 95, 3) := by decide +kernel
theorem dX2_layArrowOver_25 : decode cX2_layArrowOver 25 = .ok (.return_, 1) := by decide +kernel
theorem dX2_layArrowOver_26 : decode cX2_layArrowOver 26 = .ok (.aload_n 0, 1) := by decide +kernel
theorem dX2_layArrowOver_27 : decode cX2_layArrowOver 27 = .ok (.getfield 15, 3) := by decide +kernel
theorem dX2_layArrowOver_30 : decode cX2_layArrowOver 30 = .ok (.iload_n 1, 1) := by decide +kernel
theorem dX2_layArrowOver_31 : decode cX2_layArrowOver 31 = .ok (.iload_n 2, 1) := by decide +kernel
theorem dX2_layArrowOver_32 : decode cX2_layArrowOver 32 = .ok (.iastore, 1) := by decide +kernel
theorem dX2_layArrowOver_33 : decode cX2_layArrowOver 33 = .ok (.aload_n 0, 1) := by decide +kernel
theorem dX2_layArrowOver_34 : decode cX2_layArrowOver 34 = .ok (.getfield 46, 3) := by decide +kernel
theorem dX2_layArrowOver_37 : decode cX2_layArrowOver 37 = .ok (.aload_n 0, 1) := by decide +kernel
theorem dX2_layArrowOver_38 : decode cX2_layArrowOver 38 = .ok (.getfield 49, 3) := by decide +kernel
theorem dX2_layArrowOver_41 : decode cX2_layArrowOver 41 = .ok (.iload_n 1, 1) := by decide +kernel
theorem dX2_layArrowOver_42 : decode cX2_layArrowOver 42 = .ok (.iastore, 1) := by decide +kernel
theorem dX2_layArrowOver_43 : decode cX2_layArrowOver 43 = .ok (.aload_n 0, 1) := by decide +kernel
theorem dX2_layArrowOver_44 : decode cX2_layArrowOver 44 = .ok (.dup, 1) := by decide +kernel
theorem dX2_layArrowOver_45 : decode cX2_layArrowOver 45 = .ok (.getfield 49, 3) := by decide +kernel
theorem dX2_layArrowOver_48 : decode cX2_layArrowOver 48 = .ok (.iconst 1, 1) := by decide +kernel
theorem dX2_layArrowOver_49 : decode cX2_layArrowOver 49 = .ok (.iadd, 1) := by decide +kernel
theorem dX2_layArrowOver_50 : decode cX2_layArrowOver 50 = .ok (.putfield 49, 3) := by decide +kernel
theorem dX2_layArrowOver_53 : decode cX2_layArrowOver 53 = .ok (.return_, 1) := by decide +kernel
theorem dX2_takeBack_0 : decode cX2_takeBack 0 = .ok (.iconst 0, 1) := by decide +kernel
theorem dX2_takeBack_1 : decode cX2_takeBack 1 = .ok (.istore_n 1, 1) := by decide +kernel
theorem dX2_takeBack_2 : decode cX2_takeBack 2 = .ok (.iload_n 1, 1) := by decide +kernel
theorem dX2_takeBack_3 : decode cX2_takeBack 3 = .ok (.aload_n 0, 1) := by decide +kernel
theorem dX2_takeBack_4 : decode cX2_takeBack 4 = .ok (.getfield 43, 3) := by decide +kernel
theorem dX2_takeBack_7 : decode cX2_takeBack 7 = .ok (.if_icmp .ge 21, 3) := by decide +kernel
theorem dX2_takeBack_10 : decode cX2_takeBack 10 = .ok (.aload_n 0, 1) := by decide +kernel
theorem dX2_takeBack_11 : decode cX2_takeBack 11 = .ok (.getfield 9, 3) := by decide +kernel
theorem dX2_takeBack_14 : decode cX2_takeBack 14 = .ok (.aload_n 0, 1) := by decide +kernel
theorem dX2_takeBack_15 : decode cX2_takeBack 15 = .ok (.getfield 40, 3) := by decide +kernel
theorem dX2_takeBack_18 : decode cX2_takeBack 18 = .ok (.iload_n 1, 1) := by decide +kernel
theorem dX2_takeBack_19 : decode cX2_takeBack 19 = .ok (.iaload, 1) := by decide +kernel
theorem dX2_takeBack_20 : decode cX2_takeBack 20 = .ok (.iconst 0, 1) := by decide +kernel
theorem dX2_takeBack_21 : decode cX2_takeBack 21 = .ok (.iastore, 1) := by decide +kernel
theorem dX2_takeBack_22 : decode cX2_takeBack 22 = .ok (.iinc 1 1, 3) := by decide +kernel
theorem dX2_takeBack_25 : decode cX2_takeBack 25 = .ok (.goto (-23), 3) := by decide +kernel
theorem dX2_takeBack_28 : decode cX2_takeBack 28 = .ok (.iconst 0, 1) := by decide +kernel
theorem dX2_takeBack_29 : decode cX2_takeBack 29 = .ok (.istore_n 1, 1) := by decide +kernel
theorem dX2_takeBack_30 : decode cX2_takeBack 30 = .ok (.iload_n 1, 1) := by decide +kernel
theorem dX2_takeBack_31 : decode cX2_takeBack 31 = .ok (.aload_n 0, 1) := by decide +kernel
theorem dX2_takeBack_32 : decode cX2_takeBack 32 = .ok (.getfield 49, 3) := by decide +kernel
theorem dX2_takeBack_35 : decode cX2_takeBack 35 = .ok (.if_icmp .ge 21, 3) := by decide +kernel
theorem dX2_takeBack_38 : decode cX2_takeBack 38 = .ok (.aload_n 0, 1) := by decide +kernel
theorem dX2_takeBack_39 : decode cX2_takeBack 39 = .ok (.getfield 15, 3) := by decide +kernel
theorem dX2_takeBack_42 : decode cX2_takeBack 42 = .ok (.aload_n 0, 1) := by decide +kernel
theorem dX2_takeBack_43 : decode cX2_takeBack 43 = .ok (.getfield 46, 3) := by decide +kernel
theorem dX2_takeBack_46 : decode cX2_takeBack 46 = .ok (.iload_n 1, 1) := by decide +kernel
theorem dX2_takeBack_47 : decode cX2_takeBack 47 = .ok (.iaload, 1) := by decide +kernel
theorem dX2_takeBack_48 : decode cX2_takeBack 48 = .ok (.iconst 0, 1) := by decide +kernel
theorem dX2_takeBack_49 : decode cX2_takeBack 49 = .ok (.iastore, 1) := by decide +kernel
theorem dX2_takeBack_50 : decode cX2_takeBack 50 = .ok (.iinc 1 1, 3) := by decide +kernel
theorem dX2_takeBack_53 : decode cX2_takeBack 53 = .ok (.goto (-23), 3) := by decide +kernel
theorem dX2_takeBack_56 : decode cX2_takeBack 56 = .ok (.return_, 1) := by decide +kernel
theorem dX2_writeTo_0 : decode cX2_writeTo 0 = .ok (.aload_n 1, 1) := by decide +kernel
theorem dX2_writeTo_1 : decode cX2_writeTo 1 = .ok (.aload_n 0, 1) := by decide +kernel
theorem dX2_writeTo_2 : decode cX2_writeTo 2 = .ok (.getfield 27, 3) := by decide +kernel
theorem dX2_writeTo_5 : decode cX2_writeTo 5 = .ok (.invokevirtual 107, 3) := by decide +kernel
theorem dX2_writeTo_8 : decode cX2_writeTo 8 = .ok (.iconst 0, 1) := by decide +kernel
theorem dX2_writeTo_9 : decode cX2_writeTo 9 = .ok (.istore_n 2, 1) := by decide +kernel
theorem dX2_writeTo_10 : decode cX2_writeTo 10 = .ok (.iload_n 2, 1) := by decide +kernel
theorem dX2_writeTo_11 : decode cX2_writeTo 11 = .ok (.aload_n 0, 1) := by decide +kernel
theorem dX2_writeTo_12 : decode cX2_writeTo 12 = .ok (.getfield 27, 3) := by decide +kernel
theorem dX2_writeTo_15 : decode cX2_writeTo 15 = .ok (.if_icmp .ge 55, 3) := by decide +kernel
theorem dX2_writeTo_18 : decode cX2_writeTo 18 = .ok (.aload_n 0, 1) := by decide +kernel
theorem dX2_writeTo_19 : decode cX2_writeTo 19 = .ok (.getfield 18, 3) := by decide +kernel
theorem dX2_writeTo_22 : decode cX2_writeTo 22 = .ok (.iload_n 2, 1) := by decide +kernel
theorem dX2_writeTo_23 : decode cX2_writeTo 23 = .ok (.iaload, 1) := by decide +kernel
theorem dX2_writeTo_24 : decode cX2_writeTo 24 = .ok (.istore_n 3, 1) := by decide +kernel
theorem dX2_writeTo_25 : decode cX2_writeTo 25 = .ok (.aload_n 1, 1) := by decide +kernel
theorem dX2_writeTo_26 : decode cX2_writeTo 26 = .ok (.iload_n 2, 1) := by decide +kernel
theorem dX2_writeTo_27 : decode cX2_writeTo 27 = .ok (.aload_n 0, 1) := by decide +kernel
theorem dX2_writeTo_28 : decode cX2_writeTo 28 = .ok (.getfield 9, 3) := by decide +kernel
theorem dX2_writeTo_31 : decode cX2_writeTo 31 = .ok (.iload_n 3, 1) := by decide +kernel
theorem dX2_writeTo_32 : decode cX2_writeTo 32 = .ok (.iaload, 1) := by decide +kernel
theorem dX2_writeTo_33 : decode cX2_writeTo 33 = .ok (.aload_n 0, 1) := by decide +kernel
theorem dX2_writeTo_34 : decode cX2_writeTo 34 = .ok (.getfield 24, 3) := by decide +kernel
theorem dX2_writeTo_37 : decode cX2_writeTo 37 = .ok (.aload_n 0, 1) := by decide +kernel
theorem dX2_writeTo_38 : decode cX2_writeTo 38 = .ok (.getfield 15, 3) := by decide +kernel
theorem dX2_writeTo_41 : decode cX2_writeTo 41 = .ok (.iconst 2, 1) := by decide +kernel
theorem dX2_writeTo_42 : decode cX2_writeTo 42 = .ok (.iload_n 3, 1) := by decide +kernel
theorem dX2_writeTo_43 : decode cX2_writeTo 43 = .ok (.imul, 1) := by decide +kernel
theorem dX2_writeTo_44 : decode cX2_writeTo 44 = .ok (.iaload, 1) := by decide +kernel
theorem dX2_writeTo_45 : decode cX2_writeTo 45 = .ok (.iaload, 1) := by decide +kernel
theorem dX2_writeTo_46 : decode cX2_writeTo 46 = .ok (.aload_n 0, 1) := by decide +kernel
theorem dX2_writeTo_47 : decode cX2_writeTo 47 = .ok (.getfield 24, 3) := by decide +kernel
theorem dX2_writeTo_50 : decode cX2_writeTo 50 = .ok (.aload_n 0, 1) := by decide +kernel
theorem dX2_writeTo_51 : decode cX2_writeTo 51 = .ok (.getfield 15, 3) := by decide +kernel
theorem dX2_writeTo_54 : decode cX2_writeTo 54 = .ok (.iconst 2, 1) := by decide +kernel
theorem dX2_writeTo_55 : decode cX2_writeTo 55 = .ok (.iload_n 3, 1) := by decide +kernel
theorem dX2_writeTo_56 : decode cX2_writeTo 56 = .ok (.imul, 1) := by decide +kernel
theorem dX2_writeTo_57 : decode cX2_writeTo 57 = .ok (.iconst 1, 1) := by decide +kernel
theorem dX2_writeTo_58 : decode cX2_writeTo 58 = .ok (.iadd, 1) := by decide +kernel
theorem dX2_writeTo_59 : decode cX2_writeTo 59 = .ok (.iaload, 1) := by decide +kernel
theorem dX2_writeTo_60 : decode cX2_writeTo 60 = .ok (.iaload, 1) := by decide +kernel
theorem dX2_writeTo_61 : decode cX2_writeTo 61 = .ok (.invokevirtual 112, 3) := by decide +kernel
theorem dX2_writeTo_64 : decode cX2_writeTo 64 = .ok (.iinc 2 1, 3) := by decide +kernel
theorem dX2_writeTo_67 : decode cX2_writeTo 67 = .ok (.goto (-57), 3) := by decide +kernel
theorem dX2_writeTo_70 : decode cX2_writeTo 70 = .ok (.return_, 1) := by decide +kernel
theorem dX3_init_0 : decode cX3_init 0 = .ok (.aload_n 0, 1) := by decide +kernel
theorem dX3_init_1 : decode cX3_init 1 = .ok (.invokespecial 3, 3) := by decide +kernel
theorem dX3_init_4 : decode cX3_init 4 = .ok (.aload_n 0, 1) := by decide +kernel
theorem dX3_init_5 : decode cX3_init 5 = .ok (.sipush 512, 3) := by decide +kernel
theorem dX3_init_8 : decode cX3_init 8 = .ok (.newarray .int, 2) := by decide +kernel
theorem dX3_init_10 : decode cX3_init 10 = .ok (.putfield 9, 3) := by decide +kernel
theorem dX3_init_13 : decode cX3_init 13 = .ok (.aload_n 0, 1) := by decide +kernel
theorem dX3_init_14 : decode cX3_init 14 = .ok (.iconst 0, 1) := by decide +kernel
theorem dX3_init_15 : decode cX3_init 15 = .ok (.putfield 15, 3) := by decide +kernel
theorem dX3_init_18 : decode cX3_init 18 = .ok (.return_, 1) := by decide +kernel
theorem dX3_count_0 : decode cX3_count 0 = .ok (.aload_n 0, 1) := by decide +kernel
theorem dX3_count_1 : decode cX3_count 1 = .ok (.getfield 15, 3) := by decide +kernel
theorem dX3_count_4 : decode cX3_count 4 = .ok (.ireturn, 1) := by decide +kernel
theorem dX3_markOf_0 : decode cX3_markOf 0 = .ok (.aload_n 0, 1) := by decide +kernel
theorem dX3_markOf_1 : decode cX3_markOf 1 = .ok (.getfield 9, 3) := by decide +kernel
theorem dX3_markOf_4 : decode cX3_markOf 4 = .ok (.iload_n 1, 1) := by decide +kernel
theorem dX3_markOf_5 : decode cX3_markOf 5 = .ok (.iaload, 1) := by decide +kernel
theorem dX3_markOf_6 : decode cX3_markOf 6 = .ok (.ireturn, 1) := by decide +kernel
theorem dX3_clear_0 : decode cX3_clear 0 = .ok (.aload_n 0, 1) := by decide +kernel
theorem dX3_clear_1 : decode cX3_clear 1 = .ok (.getfield 9, 3) := by decide +kernel
theorem dX3_clear_4 : decode cX3_clear 4 = .ok (.iconst 0, 1) := by decide +kernel
theorem dX3_clear_5 : decode cX3_clear 5 = .ok (.invokestatic 19, 3) := by decide +kernel
theorem dX3_clear_8 : decode cX3_clear 8 = .ok (.aload_n 0, 1) := by decide +kernel
theorem dX3_clear_9 : decode cX3_clear 9 = .ok (.iconst 0, 1) := by decide +kernel
theorem dX3_clear_10 : decode cX3_clear 10 = .ok (.putfield 15, 3) := by decide +kernel
theorem dX3_clear_13 : decode cX3_clear 13 = .ok (.return_, 1) := by decide +kernel
theorem dX3_take_0 : decode cX3_take 0 = .ok (.aload_n 0, 1) := by decide +kernel
theorem dX3_take_1 : decode cX3_take 1 = .ok (.getfield 9, 3) := by decide +kernel
theorem dX3_take_4 : decode cX3_take 4 = .ok (.iload_n 1, 1) := by decide +kernel
theorem dX3_take_5 : decode cX3_take 5 = .ok (.iaload, 1) := by decide +kernel
theorem dX3_take_6 : decode cX3_take 6 = .ok (.ifCond .ne 7, 3) := by decide +kernel
theorem dX3_take_9 : decode cX3_take 9 = .ok (.iconst 1, 1) := by decide +kernel
theorem dX3_take_10 : decode cX3_take 10 = .ok (.goto 4, 3) := by decide +kernel
theorem dX3_take_13 : decode cX3_take 13 = .ok (.iconst 0, 1) := by decide +kernel
theorem dX3_take_14 : decode cX3_take 14 = .ok (.istore_n 3, 1) := by decide +kernel
theorem dX3_take_15 : decode cX3_take 15 = .ok (.aload_n 0, 1) := by decide +kernel
theorem dX3_take_16 : decode cX3_take 16 = .ok (.getfield 9, 3) := by decide +kernel
theorem dX3_take_19 : decode cX3_take 19 = .ok (.iload_n 1, 1) := by decide +kernel
theorem dX3_take_20 : decode cX3_take 20 = .ok (.iload_n 2, 1) := by decide +kernel
theorem dX3_take_21 : decode cX3_take 21 = .ok (.iastore, 1) := by decide +kernel
theorem dX3_take_22 : decode cX3_take 22 = .ok (.iload_n 3, 1) := by decide +kernel
theorem dX3_take_23 : decode cX3_take 23 = .ok (.ifCond .eq 13, 3) := by decide +kernel
theorem dX3_take_26 : decode cX3_take 26 = .ok (.aload_n 0, 1) := by decide +kernel
theorem dX3_take_27 : decode cX3_take 27 = .ok (.dup, 1) := by decide +kernel
theorem dX3_take_28 : decode cX3_take 28 = .ok (.getfield 15, 3) := by decide +kernel
theorem dX3_take_31 : decode cX3_take 31 = .ok (.iconst 1, 1) := by decide +kernel
theorem dX3_take_32 : decode cX3_take 32 = .ok (.iadd, 1) := by decide +kernel
theorem dX3_take_33 : decode cX3_take 33 = .ok (.putfield 15, 3) := by decide +kernel
theorem dX3_take_36 : decode cX3_take 36 = .ok (.iload_n 3, 1) := by decide +kernel
theorem dX3_take_37 : decode cX3_take 37 = .ok (.ireturn, 1) := by decide +kernel
theorem dX3_contradicts_0 : decode cX3_contradicts 0 = .ok (.iconst 1, 1) := by decide +kernel
theorem dX3_contradicts_1 : decode cX3_contradicts 1 = .ok (.istore_n 2, 1) := by decide +kernel
theorem dX3_contradicts_2 : decode cX3_contradicts 2 = .ok (.iload_n 2, 1) := by decide +kernel
theorem dX3_contradicts_3 : decode cX3_contradicts 3 = .ok (.sipush 512, 3) := by decide +kernel
theorem dX3_contradicts_6 : decode cX3_contradicts 6 = .ok (.if_icmp .ge 24, 3) := by decide +kernel
theorem dX3_contradicts_9 : decode cX3_contradicts 9 = .ok (.aload_n 1, 1) := by decide +kernel
theorem dX3_contradicts_10 : decode cX3_contradicts 10 = .ok (.iload_n 2, 1) := by decide +kernel
theorem dX3_contradicts_11 : decode cX3_contradicts 11 = .ok (.iaload, 1) := by decide +kernel
theorem dX3_contradicts_12 : decode cX3_contradicts 12 = .ok (.aload_n 0, 1) := by decide +kernel
theorem dX3_contradicts_13 : decode cX3_contradicts 13 = .ok (.getfield 9, 3) := by decide +kernel
theorem dX3_contradicts_16 : decode cX3_contradicts 16 = .ok (.iload_n 2, 1) := by decide +kernel
theorem dX3_contradicts_17 : decode cX3_contradicts 17 = .ok (.iaload, 1) := by decide +kernel
theorem dX3_contradicts_18 : decode cX3_contradicts 18 = .ok (.imul, 1) := by decide +kernel
theorem dX3_contradicts_19 : decode cX3_contradicts 19 = .ok (.ifCond .ge 5, 3) := by decide +kernel
theorem dX3_contradicts_22 : decode cX3_contradicts 22 = .ok (.iconst 1, 1) := by decide +kernel
theorem dX3_contradicts_23 : decode cX3_contradicts 23 = .ok (.ireturn, 1) := by decide +kernel
theorem dX3_contradicts_24 : decode cX3_contradicts 24 = .ok (.iinc 2 1, 3) := by decide +kernel
theorem dX3_contradicts_27 : decode cX3_contradicts 27 = .ok (.goto (-25), 3) := by decide +kernel
theorem dX3_contradicts_30 : decode cX3_contradicts 30 = .ok (.iconst 0, 1) := by decide +kernel
theorem dX3_contradicts_31 : decode cX3_contradicts 31 = .ok (.ireturn, 1) := by decide +kernel
theorem dX3_takeAll_0 : decode cX3_takeAll 0 = .ok (.aload_n 0, 1) := by decide +kernel
theorem dX3_takeAll_1 : decode cX3_takeAll 1 = .ok (.getfield 15, 3) := by decide +kernel
theorem dX3_takeAll_4 : decode cX3_takeAll 4 = .ok (.istore_n 2, 1) := by decide +kernel
theorem dX3_takeAll_5 : decode cX3_takeAll 5 = .ok (.iconst 1, 1) := by decide +kernel
theorem dX3_takeAll_6 : decode cX3_takeAll 6 = .ok (.istore_n 3, 1) := by decide +kernel
theorem dX3_takeAll_7 : decode cX3_takeAll 7 = .ok (.iload_n 3, 1) := by decide +kernel
theorem dX3_takeAll_8 : decode cX3_takeAll 8 = .ok (.sipush 512, 3) := by decide +kernel
theorem dX3_takeAll_11 : decode cX3_takeAll 11 = .ok (.if_icmp .ge 24, 3) := by decide +kernel
theorem dX3_takeAll_14 : decode cX3_takeAll 14 = .ok (.aload_n 1, 1) := by decide +kernel
theorem dX3_takeAll_15 : decode cX3_takeAll 15 = .ok (.iload_n 3, 1) := by decide +kernel
theorem dX3_takeAll_16 : decode cX3_takeAll 16 = .ok (.iaload, 1) := by decide +kernel
theorem dX3_takeAll_17 : decode cX3_takeAll 17 = .ok (.ifCond .eq 12, 3) := by decide +kernel
theorem dX3_takeAll_20 : decode cX3_takeAll 20 = .ok (.aload_n 0, 1) := by decide +kernel
theorem dX3_takeAll_21 : decode cX3_takeAll 21 = .ok (.iload_n 3, 1) := by decide +kernel
theorem dX3_takeAll_22 : decode cX3_takeAll 22 = .ok (.aload_n 1, 1) := by decide +kernel
theorem dX3_takeAll_23 : decode cX3_takeAll 23 = .ok (.iload_n 3, 1) := by decide +kernel
theorem dX3_takeAll_24 : decode cX3_takeAll 24 = .ok (.iaload, 1) := by decide +kernel
theorem dX3_takeAll_25 : decode cX3_takeAll 25 = .ok (.invokevirtual 25, 3) := by decide +kernel
theorem dX3_takeAll_28 : decode cX3_takeAll 28 = .ok (.pop, 1) := by decide +kernel
theorem dX3_takeAll_29 : decode cX3_takeAll 29 = .ok (.iinc 3 1, 3) := by decide +kernel
theorem dX3_takeAll_32 : decode cX3_takeAll 32 = .ok (.goto (-25), 3) := by decide +kernel
theorem dX3_takeAll_35 : decode cX3_takeAll 35 = .ok (.aload_n 0, 1) := by decide +kernel
theorem dX3_takeAll_36 : decode cX3_takeAll 36 = .ok (.getfield 15, 3) := by decide +kernel
theorem dX3_takeAll_39 : decode cX3_takeAll 39 = .ok (.iload_n 2, 1) := by decide +kernel
theorem dX3_takeAll_40 : decode cX3_takeAll 40 = .ok (.isub, 1) := by decide +kernel
theorem dX3_takeAll_41 : decode cX3_takeAll 41 = .ok (.ireturn, 1) := by decide +kernel
theorem dX4_init_0 : decode cX4_init 0 = .ok (.aload_n 0, 1) := by decide +kernel
theorem dX4_init_1 : decode cX4_init 1 = .ok (.invokespecial 3, 3) := by decide +kernel
theorem dX4_init_4 : decode cX4_init 4 = .ok (.aload_n 0, 1) := by decide +kernel
theorem dX4_init_5 : decode cX4_init 5 = .ok (.new 9, 3) := by decide +kernel
theorem dX4_init_8 : decode cX4_init 8 = .ok (.dup, 1) := by decide +kernel
theorem dX4_init_9 : decode cX4_init 9 = .ok (.invokespecial 11, 3) := by decide +kernel
theorem dX4_init_12 : decode cX4_init 12 = .ok (.putfield 12, 3) := by decide +kernel
theorem dX4_init_15 : decode cX4_init 15 = .ok (.aload_n 0, 1) := by decide +kernel
theorem dX4_init_16 : decode cX4_init 16 = .ok (.new 16, 3) := by decide +kernel
theorem dX4_init_19 : decode cX4_init 19 = .ok (.dup, 1) := by decide +kernel
theorem dX4_init_20 : decode cX4_init 20 = .ok (.invokespecial 18, 3) := by decide +kernel
theorem dX4_init_23 : decode cX4_init 23 = .ok (.putfield 19, 3) := by decide +kernel
theorem dX4_init_26 : decode cX4_init 26 = .ok (.aload_n 0, 1) := by decide +kernel
theorem dX4_init_27 : decode cX4_init 27 = .ok (.new 23, 3) := by decide +kernel
theorem dX4_init_30 : decode cX4_init 30 = .ok (.dup, 1) := by decide +kernel
theorem dX4_init_31 : decode cX4_init 31 = .ok (.sipush 512, 3) := by decide +kernel
theorem dX4_init_34 : decode cX4_init 34 = .ok (.invokespecial 25, 3) := by decide +kernel
theorem dX4_init_37 : decode cX4_init 37 = .ok (.putfield 28, 3) := by decide +kernel
theorem dX4_init_40 : decode cX4_init 40 = .ok (.aload_n 0, 1) := by decide +kernel
theorem dX4_init_41 : decode cX4_init 41 = .ok (.new 32, 3) := by decide +kernel
theorem dX4_init_44 : decode cX4_init 44 = .ok (.dup, 1) := by decide +kernel
theorem dX4_init_45 : decode cX4_init 45 = .ok (.invokespecial 34, 3) := by decide +kernel
theorem dX4_init_48 : decode cX4_init 48 = .ok (.putfield 35, 3) := by decide +kernel
theorem dX4_init_51 : decode cX4_init 51 = .ok (.return_, 1) := by decide +kernel
theorem dX4_teach_0 : decode cX4_teach 0 = .ok (.iload_n 1, 1) := by decide +kernel
theorem dX4_teach_1 : decode cX4_teach 1 = .ok (.iload_n 2, 1) := by decide +kernel
theorem dX4_teach_2 : decode cX4_teach 2 = .ok (.invokestatic 39, 3) := by decide +kernel
theorem dX4_teach_5 : decode cX4_teach 5 = .ok (.istore 4, 2) := by decide +kernel
theorem dX4_teach_7 : decode cX4_teach 7 = .ok (.iload_n 3, 1) := by decide +kernel
theorem dX4_teach_8 : decode cX4_teach 8 = .ok (.ifCond .eq 7, 3) := by decide +kernel
theorem dX4_teach_11 : decode cX4_teach 11 = .ok (.iconst 1, 1) := by decide +kernel
theorem dX4_teach_12 : decode cX4_teach 12 = .ok (.goto 4, 3) := by decide +kernel
theorem dX4_teach_15 : decode cX4_teach 15 = .ok (.iconst (-1), 1) := by decide +kernel
theorem dX4_teach_16 : decode cX4_teach 16 = .ok (.istore 5, 2) := by decide +kernel
theorem dX4_teach_18 : decode cX4_teach 18 = .ok (.aload_n 0, 1) := by decide +kernel
theorem dX4_teach_19 : decode cX4_teach 19 = .ok (.getfield 12, 3) := by decide +kernel
theorem dX4_teach_22 : decode cX4_teach 22 = .ok (.iload 4, 2) := by decide +kernel
theorem dX4_teach_24 : decode cX4_teach 24 = .ok (.invokevirtual 43, 3) := by decide +kernel
theorem dX4_teach_27 : decode cX4_teach 27 = .ok (.iload 5, 2) := by decide +kernel
theorem dX4_teach_29 : decode cX4_teach 29 = .ok (.ineg, 1) := by decide +kernel
theorem dX4_teach_30 : decode cX4_teach 30 = .ok (.if_icmp .ne 13, 3) := by decide +kernel
theorem dX4_teach_33 : decode cX4_teach 33 = .ok (.new 47, 3) := by decide +kernel
theorem dX4_teach_36 : decode cX4_teach 36 = .ok (.dup, 1) := by decide +kernel
theorem dX4_teach_37 : decode cX4_teach 37 = .ok (.ldc 49, 2) := by decide +kernel
theorem dX4_teach_39 : decode cX4_teach 39 = .ok (.invokespecial 51, 3) := by decide +kernel
theorem dX4_teach_42 : decode cX4_teach 42 = .ok (.athrow, 1) := by decide +kernel
theorem dX4_teach_43 : decode cX4_teach 43 = .ok (.aload_n 0, 1) := by decide +kernel
theorem dX4_teach_44 : decode cX4_teach 44 = .ok (.getfield 12, 3) := by decide +kernel
theorem dX4_teach_47 : decode cX4_teach 47 = .ok (.iload 4, 2) := by decide +kernel
theorem dX4_teach_49 : decode cX4_teach 49 = .ok (.iload 5, 2) := by decide +kernel
theorem dX4_teach_51 : decode cX4_teach 51 = .ok (.invokevirtual 54, 3) := by decide +kernel
theorem dX4_teach_54 : decode cX4_teach 54 = .ok (.ireturn, 1) := by decide +kernel
theorem dX4_told_0 : decode cX4_told 0 = .ok (.aload_n 0, 1) := by decide +kernel
theorem dX4_told_1 : decode cX4_told 1 = .ok (.getfield 12, 3) := by decide +kernel
theorem dX4_told_4 : decode cX4_told 4 = .ok (.iload_n 1, 1) := by decide +kernel
theorem dX4_told_5 : decode cX4_told 5 = .ok (.iload_n 2, 1) := by decide +kernel
theorem dX4_told_6 : decode cX4_told 6 = .ok (.invokestatic 39, 3) := by decide +kernel
theorem dX4_told_9 : decode cX4_told 9 = .ok (.invokevirtual 43, 3) := by decide +kernel
theorem dX4_told_12 : decode cX4_told 12 = .ok (.ireturn, 1) := by decide +kernel
theorem dX4_size_0 : decode cX4_size 0 = .ok (.aload_n 0, 1) := by decide +kernel
theorem dX4_size_1 : decode cX4_size 1 = .ok (.getfield 12, 3) := by decide +kernel
theorem dX4_size_4 : decode cX4_size 4 = .ok (.invokevirtual 58, 3) := by decide +kernel
theorem dX4_size_7 : decode cX4_size 7 = .ok (.ireturn, 1) := by decide +kernel
theorem dX4_forget_0 : decode cX4_forget 0 = .ok (.aload_n 0, 1) := by decide +kernel
theorem dX4_forget_1 : decode cX4_forget 1 = .ok (.getfield 12, 3) := by decide +kernel
theorem dX4_forget_4 : decode cX4_forget 4 = .ok (.invokevirtual 62, 3) := by decide +kernel
theorem dX4_forget_7 : decode cX4_forget 7 = .ok (.return_, 1) := by decide +kernel
theorem dX4_learn_0 : decode cX4_learn 0 = .ok (.aload_n 0, 1) := by decide +kernel
theorem dX4_learn_1 : decode cX4_learn 1 = .ok (.getfield 19, 3) := by decide +kernel
theorem dX4_learn_4 : decode cX4_learn 4 = .ok (.aload_n 0, 1) := by decide +kernel
theorem dX4_learn_5 : decode cX4_learn 5 = .ok (.getfield 12, 3) := by decide +kernel
theorem dX4_learn_8 : decode cX4_learn 8 = .ok (.aload_n 0, 1) := by decide +kernel
theorem dX4_learn_9 : decode cX4_learn 9 = .ok (.getfield 28, 3) := by decide +kernel
theorem dX4_learn_12 : decode cX4_learn 12 = .ok (.invokevirtual 65, 3) := by decide +kernel
theorem dX4_learn_15 : decode cX4_learn 15 = .ok (.aload_n 0, 1) := by decide +kernel
theorem dX4_learn_16 : decode cX4_learn 16 = .ok (.getfield 28, 3) := by decide +kernel
theorem dX4_learn_19 : decode cX4_learn 19 = .ok (.invokevirtual 69, 3) := by decide +kernel
theorem dX4_learn_22 : decode cX4_learn 22 = .ok (.ireturn, 1) := by decide +kernel
theorem dX4_states_0 : decode cX4_states 0 = .ok (.aload_n 0, 1) := by decide +kernel
theorem dX4_states_1 : decode cX4_states 1 = .ok (.getfield 28, 3) := by decide +kernel
theorem dX4_states_4 : decode cX4_states 4 = .ok (.invokevirtual 69, 3) := by decide +kernel
theorem dX4_states_7 : decode cX4_states 7 = .ok (.ireturn, 1) := by decide +kernel
theorem dX4_next_0 : decode cX4_next 0 = .ok (.aload_n 0, 1) := by decide +kernel
theorem dX4_next_1 : decode cX4_next 1 = .ok (.getfield 28, 3) := by decide +kernel
theorem dX4_next_4 : decode cX4_next 4 = .ok (.iload_n 1, 1) := by decide +kernel
theorem dX4_next_5 : decode cX4_next 5 = .ok (.invokestatic 70, 3) := by decide +kernel
theorem dX4_next_8 : decode cX4_next 8 = .ok (.iload_n 2, 1) := by decide +kernel
theorem dX4_next_9 : decode cX4_next 9 = .ok (.ifCond .lt 8, 3) := by decide +kernel
theorem dX4_next_12 : decode cX4_next 12 = .ok (.iload_n 2, 1) := by decide +kernel
theorem dX4_next_13 : decode cX4_next 13 = .ok (.iconst 2, 1) := by decide +kernel
theorem dX4_next_14 : decode cX4_next 14 = .ok (.if_icmp .lt 13, 3) := by decide +kernel
theorem dX4_next_17 : decode cX4_next 17 = .ok (.new 74, 3) := by decide +kernel
theorem dX4_next_20 : decode cX4_next 20 = .ok (.dup, 1) := by decide +kernel
theorem dX4_next_21 : decode cX4_next 21 = .ok (.ldc 76, 2) := by decide +kernel
theorem dX4_next_23 : decode cX4_next 23 = .ok (.invokespecial 78, 3) := by decide +kernel
theorem dX4_next_26 : decode cX4_next 26 = .ok (.athrow, 1) := by decide +kernel
theorem dX4_next_27 : decode cX4_next 27 = .ok (.aload_n 0, 1) := by decide +kernel
theorem dX4_next_28 : decode cX4_next 28 = .ok (.getfield 28, 3) := by decide +kernel
theorem dX4_next_31 : decode cX4_next 31 = .ok (.iload_n 1, 1) := by decide +kernel
theorem dX4_next_32 : decode cX4_next 32 = .ok (.iload_n 2, 1) := by decide +kernel
theorem dX4_next_33 : decode cX4_next 33 = .ok (.invokevirtual 79, 3) := by decide +kernel
theorem dX4_next_36 : decode cX4_next 36 = .ok (.ireturn, 1) := by decide +kernel
theorem dX4_sign_0 : decode cX4_sign 0 = .ok (.aload_n 0, 1) := by decide +kernel
theorem dX4_sign_1 : decode cX4_sign 1 = .ok (.getfield 28, 3) := by decide +kernel
theorem dX4_sign_4 : decode cX4_sign 4 = .ok (.iload_n 1, 1) := by decide +kernel
theorem dX4_sign_5 : decode cX4_sign 5 = .ok (.invokestatic 70, 3) := by decide +kernel
theorem dX4_sign_8 : decode cX4_sign 8 = .ok (.aload_n 0, 1) := by decide +kernel
theorem dX4_sign_9 : decode cX4_sign 9 = .ok (.getfield 28, 3) := by decide +kernel
theorem dX4_sign_12 : decode cX4_sign 12 = .ok (.iload_n 1, 1) := by decide +kernel
theorem dX4_sign_13 : decode cX4_sign 13 = .ok (.invokevirtual 82, 3) := by decide +kernel
theorem dX4_sign_16 : decode cX4_sign 16 = .ok (.ireturn, 1) := by decide +kernel
theorem dX4_accepts_0 : decode cX4_accepts 0 = .ok (.iload_n 1, 1) := by decide +kernel
theorem dX4_accepts_1 : decode cX4_accepts 1 = .ok (.iload_n 2, 1) := by decide +kernel
theorem dX4_accepts_2 : decode cX4_accepts 2 = .ok (.invokestatic 39, 3) := by decide +kernel
theorem dX4_accepts_5 : decode cX4_accepts 5 = .ok (.istore_n 3, 1) := by decide +kernel
theorem dX4_accepts_6 : decode cX4_accepts 6 = .ok (.aload_n 0, 1) := by decide +kernel
theorem dX4_accepts_7 : decode cX4_accepts 7 = .ok (.invokevirtual 83, 3) := by decide +kernel
theorem dX4_accepts_10 : decode cX4_accepts 10 = .ok (.aload_n 0, 1) := by decide +kernel
theorem dX4_accepts_11 : decode cX4_accepts 11 = .ok (.getfield 28, 3) := by decide +kernel
theorem dX4_accepts_14 : decode cX4_accepts 14 = .ok (.iconst 0, 1) := by decide +kernel
theorem dX4_accepts_15 : decode cX4_accepts 15 = .ok (.iload_n 3, 1) := by decide +kernel
theorem dX4_accepts_16 : decode cX4_accepts 16 = .ok (.invokevirtual 86, 3) := by decide +kernel
theorem dX4_accepts_19 : decode cX4_accepts 19 = .ok (.istore 4, 2) := by decide +kernel
theorem dX4_accepts_21 : decode cX4_accepts 21 = .ok (.iload 4, 2) := by decide +kernel
theorem dX4_accepts_23 : decode cX4_accepts 23 = .ok (.iconst (-1), 1) := by decide +kernel
theorem dX4_accepts_24 : decode cX4_accepts 24 = .ok (.if_icmp .eq 20, 3) := by decide +kernel
theorem dX4_accepts_27 : decode cX4_accepts 27 = .ok (.aload_n 0, 1) := by decide +kernel
theorem dX4_accepts_28 : decode cX4_accepts 28 = .ok (.getfield 28, 3) := by decide +kernel
theorem dX4_accepts_31 : decode cX4_accepts 31 = .ok (.iload 4, 2) := by decide +kernel
theorem dX4_accepts_33 : decode cX4_accepts 33 = .ok (.invokevirtual 82, 3) := by decide +kernel
theorem dX4_accepts_36 : decode cX4_accepts 36 = .ok (.iconst 1, 1) := by decide +kernel
theorem dX4_accepts_37 : decode cX4_accepts 37 = .ok (.if_icmp .ne 7, 3) := by decide +kernel
theorem dX4_accepts_40 : decode cX4_accepts 40 = .ok (.iconst 1, 1) := by decide +kernel
theorem dX4_accepts_41 : decode cX4_accepts 41 = .ok (.goto 4, 3) := by decide +kernel
theorem dX4_accepts_44 : decode cX4_accepts 44 = .ok (.iconst 0, 1) := by decide +kernel
theorem dX4_accepts_45 : decode cX4_accepts 45 = .ok (.ireturn, 1) := by decide +kernel
theorem dX4_draft_0 : decode cX4_draft 0 = .ok (.iload_n 1, 1) := by decide +kernel
theorem dX4_draft_1 : decode cX4_draft 1 = .ok (.iconst 1, 1) := by decide +kernel
theorem dX4_draft_2 : decode cX4_draft 2 = .ok (.if_icmp .lt 8, 3) := by decide +kernel
theorem dX4_draft_5 : decode cX4_draft 5 = .ok (.iload_n 1, 1) := by decide +kernel
theorem dX4_draft_6 : decode cX4_draft 6 = .ok (.iconst 5, 1) := by decide +kernel
theorem dX4_draft_7 : decode cX4_draft 7 = .ok (.if_icmp .le 13, 3) := by decide +kernel
theorem dX4_draft_10 : decode cX4_draft 10 = .ok (.new 89, 3) := by decide +kernel
theorem dX4_draft_13 : decode cX4_draft 13 = .ok (.dup, 1) := by decide +kernel
theorem dX4_draft_14 : decode cX4_draft 14 = .ok (.ldc 91, 2) := by decide +kernel
theorem dX4_draft_16 : decode cX4_draft 16 = .ok (.invokespecial 93, 3) := by decide +kernel
theorem dX4_draft_19 : decode cX4_draft 19 = .ok (.athrow, 1) := by decide +kernel
theorem dX4_draft_20 : decode cX4_draft 20 = .ok (.aload_n 0, 1) := by decide +kernel
theorem dX4_draft_21 : decode cX4_draft 21 = .ok (.getfield 35, 3) := by decide +kernel
theorem dX4_draft_24 : decode cX4_draft 24 = .ok (.iload_n 1, 1) := by decide +kernel
theorem dX4_draft_25 : decode cX4_draft 25 = .ok (.invokevirtual 94, 3) := by decide +kernel
theorem dX4_draft_28 : decode cX4_draft 28 = .ok (.return_, 1) := by decide +kernel
theorem dX4_define_0 : decode cX4_define 0 = .ok (.aload_n 0, 1) := by decide +kernel
theorem dX4_define_1 : decode cX4_define 1 = .ok (.invokevirtual 97, 3) := by decide +kernel
theorem dX4_define_4 : decode cX4_define 4 = .ok (.aload_n 0, 1) := by decide +kernel
theorem dX4_define_5 : decode cX4_define 5 = .ok (.getfield 35, 3) := by decide +kernel
theorem dX4_define_8 : decode cX4_define 8 = .ok (.invokevirtual 100, 3) := by decide +kernel
theorem dX4_define_11 : decode cX4_define 11 = .ok (.iload_n 1, 1) := by decide +kernel
theorem dX4_define_12 : decode cX4_define 12 = .ok (.invokestatic 70, 3) := by decide +kernel
theorem dX4_define_15 : decode cX4_define 15 = .ok (.aload_n 0, 1) := by decide +kernel
theorem dX4_define_16 : decode cX4_define 16 = .ok (.getfield 35, 3) := by decide +kernel
theorem dX4_define_19 : decode cX4_define 19 = .ok (.invokevirtual 100, 3) := by decide +kernel
theorem dX4_define_22 : decode cX4_define 22 = .ok (.iload_n 3, 1) := by decide +kernel
theorem dX4_define_23 : decode cX4_define 23 = .ok (.invokestatic 70, 3) := by decide +kernel
theorem dX4_define_26 : decode cX4_define 26 = .ok (.aload_n 0, 1) := by decide +kernel
theorem dX4_define_27 : decode cX4_define 27 = .ok (.getfield 35, 3) := by decide +kernel
theorem dX4_define_30 : decode cX4_define 30 = .ok (.invokevirtual 100, 3) := by decide +kernel
theorem dX4_define_33 : decode cX4_define 33 = .ok (.iload 4, 2) := by decide +kernel
theorem dX4_define_35 : decode cX4_define 35 = .ok (.invokestatic 70, 3) := by decide +kernel
theorem dX4_define_38 : decode cX4_define 38 = .ok (.aload_n 0, 1) := by decide +kernel
theorem dX4_define_39 : decode cX4_define 39 = .ok (.getfield 35, 3) := by decide +kernel
theorem dX4_define_42 : decode cX4_define 42 = .ok (.iload_n 1, 1) := by decide +kernel
theorem dX4_define_43 : decode cX4_define 43 = .ok (.iload_n 2, 1) := by decide +kernel
theorem dX4_define_44 : decode cX4_define 44 = .ok (.ifCond .eq 7, 3) := by decide +kernel
theorem dX4_define_47 : decode cX4_define 47 = .ok (.iconst 1, 1) := by decide +kernel
theorem dX4_define_48 : decode cX4_define 48 = .ok (.goto 4, 3) := by decide +kernel
theorem dX4_define_51 : decode cX4_define 51 = .ok (.iconst (-1), 1) := by decide +kernel
theorem dX4_define_52 : decode cX4_define 52 = .ok (.iload_n 3, 1) := by decide +kernel
theorem dX4_define_53 : decode cX4_define 53 = .ok (.iload 4, 2) := by decide +kernel
theorem dX4_define_55 : decode cX4_define 55 = .ok (.invokevirtual 104, 3) := by decide +kernel
theorem dX4_define_58 : decode cX4_define 58 = .ok (.return_, 1) := by decide +kernel
theorem dX4_least_0 : decode cX4_least 0 = .ok (.aload_n 0, 1) := by decide +kernel
theorem dX4_least_1 : decode cX4_least 1 = .ok (.invokevirtual 97, 3) := by decide +kernel
theorem dX4_least_4 : decode cX4_least 4 = .ok (.aload_n 0, 1) := by decide +kernel
theorem dX4_least_5 : decode cX4_least 5 = .ok (.getfield 35, 3) := by decide +kernel
theorem dX4_least_8 : decode cX4_least 8 = .ok (.invokevirtual 108, 3) := by decide +kernel
theorem dX4_least_11 : decode cX4_least 11 = .ok (.invokevirtual 69, 3) := by decide +kernel
theorem dX4_least_14 : decode cX4_least 14 = .ok (.ireturn, 1) := by decide +kernel
theorem dX4_name_0 : decode cX4_name 0 = .ok (.aload_n 0, 1) := by decide +kernel
theorem dX4_name_1 : decode cX4_name 1 = .ok (.invokevirtual 97, 3) := by decide +kernel
theorem dX4_name_4 : decode cX4_name 4 = .ok (.aload_n 0, 1) := by decide +kernel
theorem dX4_name_5 : decode cX4_name 5 = .ok (.getfield 35, 3) := by decide +kernel
theorem dX4_name_8 : decode cX4_name 8 = .ok (.invokevirtual 108, 3) := by decide +kernel
theorem dX4_name_11 : decode cX4_name 11 = .ok (.iload_n 1, 1) := by decide +kernel
theorem dX4_name_12 : decode cX4_name 12 = .ok (.invokestatic 70, 3) := by decide +kernel
theorem dX4_name_15 : decode cX4_name 15 = .ok (.aload_n 0, 1) := by decide +kernel
theorem dX4_name_16 : decode cX4_name 16 = .ok (.getfield 35, 3) := by decide +kernel
theorem dX4_name_19 : decode cX4_name 19 = .ok (.iload_n 1, 1) := by decide +kernel
theorem dX4_name_20 : decode cX4_name 20 = .ok (.invokevirtual 111, 3) := by decide +kernel
theorem dX4_name_23 : decode cX4_name 23 = .ok (.invokestatic 114, 3) := by decide +kernel
theorem dX4_name_26 : decode cX4_name 26 = .ok (.ireturn, 1) := by decide +kernel
theorem dX4_apart_0 : decode cX4_apart 0 = .ok (.aload_n 0, 1) := by decide +kernel
theorem dX4_apart_1 : decode cX4_apart 1 = .ok (.invokevirtual 97, 3) := by decide +kernel
theorem dX4_apart_4 : decode cX4_apart 4 = .ok (.aload_n 0, 1) := by decide +kernel
theorem dX4_apart_5 : decode cX4_apart 5 = .ok (.getfield 35, 3) := by decide +kernel
theorem dX4_apart_8 : decode cX4_apart 8 = .ok (.invokevirtual 108, 3) := by decide +kernel
theorem dX4_apart_11 : decode cX4_apart 11 = .ok (.iload_n 1, 1) := by decide +kernel
theorem dX4_apart_12 : decode cX4_apart 12 = .ok (.invokestatic 70, 3) := by decide +kernel
theorem dX4_apart_15 : decode cX4_apart 15 = .ok (.aload_n 0, 1) := by decide +kernel
theorem dX4_apart_16 : decode cX4_apart 16 = .ok (.getfield 35, 3) := by decide +kernel
theorem dX4_apart_19 : decode cX4_apart 19 = .ok (.invokevirtual 108, 3) := by decide +kernel
theorem dX4_apart_22 : decode cX4_apart 22 = .ok (.iload_n 2, 1) := by decide +kernel
theorem dX4_apart_23 : decode cX4_apart 23 = .ok (.invokestatic 70, 3) := by decide +kernel
theorem dX4_apart_26 : decode cX4_apart 26 = .ok (.iload_n 1, 1) := by decide +kernel
theorem dX4_apart_27 : decode cX4_apart 27 = .ok (.iload_n 2, 1) := by decide +kernel
theorem dX4_apart_28 : decode cX4_apart 28 = .ok (.if_icmp .ne 7, 3) := by decide +kernel
theorem dX4_apart_31 : decode cX4_apart 31 = .ok (.iconst (-1), 1) := by decide +kernel
theorem dX4_apart_32 : decode cX4_apart 32 = .ok (.goto 15, 3) := by decide +kernel
theorem dX4_apart_35 : decode cX4_apart 35 = .ok (.aload_n 0, 1) := by decide +kernel
theorem dX4_apart_36 : decode cX4_apart 36 = .ok (.getfield 35, 3) := by decide +kernel
theorem dX4_apart_39 : decode cX4_apart 39 = .ok (.iload_n 1, 1) := by decide +kernel
theorem dX4_apart_40 : decode cX4_apart 40 = .ok (.iload_n 2, 1) := by decide +kernel
theorem dX4_apart_41 : decode cX4_apart 41 = .ok (.invokevirtual 117, 3) := by decide +kernel
theorem dX4_apart_44 : decode cX4_apart 44 = .ok (.invokestatic 114, 3) := by decide +kernel
theorem dX4_apart_47 : decode cX4_apart 47 = .ok (.ireturn, 1) := by decide +kernel
theorem dX4_exemplify_0 : decode cX4_exemplify 0 = .ok (.aload_n 0, 1) := by decide +kernel
theorem dX4_exemplify_1 : decode cX4_exemplify 1 = .ok (.invokevirtual 97, 3) := by decide +kernel
theorem dX4_exemplify_4 : decode cX4_exemplify 4 = .ok (.aload_n 0, 1) := by decide +kernel
theorem dX4_exemplify_5 : decode cX4_exemplify 5 = .ok (.getfield 35, 3) := by decide +kernel
theorem dX4_exemplify_8 : decode cX4_exemplify 8 = .ok (.invokevirtual 120, 3) := by decide +kernel
theorem dX4_exemplify_11 : decode cX4_exemplify 11 = .ok (.astore_n 1, 1) := by decide +kernel
theorem dX4_exemplify_12 : decode cX4_exemplify 12 = .ok (.aload_n 0, 1) := by decide +kernel
theorem dX4_exemplify_13 : decode cX4_exemplify 13 = .ok (.getfield 12, 3) := by decide +kernel
theorem dX4_exemplify_16 : decode cX4_exemplify 16 = .ok (.aload_n 1, 1) := by decide +kernel
theorem dX4_exemplify_17 : decode cX4_exemplify 17 = .ok (.invokevirtual 124, 3) := by decide +kernel
theorem dX4_exemplify_20 : decode cX4_exemplify 20 = .ok (.ifCond .eq 13, 3) := by decide +kernel
theorem dX4_exemplify_23 : decode cX4_exemplify 23 = .ok (.new 89, 3) := by decide +kernel
theorem dX4_exemplify_26 : decode cX4_exemplify 26 = .ok (.dup, 1) := by decide +kernel
theorem dX4_exemplify_27 : decode cX4_exemplify 27 = .ok (.ldc 128, 2) := by decide +kernel
theorem dX4_exemplify_29 : decode cX4_exemplify 29 = .ok (.invokespecial 93, 3) := by decide +kernel
theorem dX4_exemplify_32 : decode cX4_exemplify 32 = .ok (.athrow, 1) := by decide +kernel
theorem dX4_exemplify_33 : decode cX4_exemplify 33 = .ok (.aload_n 0, 1) := by decide +kernel
theorem dX4_exemplify_34 : decode cX4_exemplify 34 = .ok (.getfield 12, 3) := by decide +kernel
theorem dX4_exemplify_37 : decode cX4_exemplify 37 = .ok (.aload_n 1, 1) := by decide +kernel
theorem dX4_exemplify_38 : decode cX4_exemplify 38 = .ok (.invokevirtual 130, 3) := by decide +kernel
theorem dX4_exemplify_41 : decode cX4_exemplify 41 = .ok (.ireturn, 1) := by decide +kernel
theorem dX4_same_0 : decode cX4_same 0 = .ok (.aload_n 0, 1) := by decide +kernel
theorem dX4_same_1 : decode cX4_same 1 = .ok (.invokevirtual 97, 3) := by decide +kernel
theorem dX4_same_4 : decode cX4_same 4 = .ok (.aload_n 0, 1) := by decide +kernel
theorem dX4_same_5 : decode cX4_same 5 = .ok (.invokevirtual 83, 3) := by decide +kernel
theorem dX4_same_8 : decode cX4_same 8 = .ok (.aload_n 0, 1) := by decide +kernel
theorem dX4_same_9 : decode cX4_same 9 = .ok (.getfield 28, 3) := by decide +kernel
theorem dX4_same_12 : decode cX4_same 12 = .ok (.aload_n 0, 1) := by decide +kernel
theorem dX4_same_13 : decode cX4_same 13 = .ok (.getfield 35, 3) := by decide +kernel
theorem dX4_same_16 : decode cX4_same 16 = .ok (.invokevirtual 108, 3) := by decide +kernel
theorem dX4_same_19 : decode cX4_same 19 = .ok (.invokevirtual 134, 3) := by decide +kernel
theorem dX4_same_22 : decode cX4_same 22 = .ok (.ireturn, 1) := by decide +kernel
theorem dX4_checkLearned_0 : decode cX4_checkLearned 0 = .ok (.aload_n 0, 1) := by decide +kernel
theorem dX4_checkLearned_1 : decode cX4_checkLearned 1 = .ok (.getfield 28, 3) := by decide +kernel
theorem dX4_checkLearned_4 : decode cX4_checkLearned 4 = .ok (.invokevirtual 69, 3) := by decide +kernel
theorem dX4_checkLearned_7 : decode cX4_checkLearned 7 = .ok (.ifCond .ne 13, 3) := by decide +kernel
theorem dX4_checkLearned_10 : decode cX4_checkLearned 10 = .ok (.new 47, 3) := by decide +kernel
theorem dX4_checkLearned_13 : decode cX4_checkLearned 13 = .ok (.dup, 1) := by decide +kernel
theorem dX4_checkLearned_14 : decode cX4_checkLearned 14 = .ok (.ldc 138, 2) := by decide +kernel
theorem dX4_checkLearned_16 : decode cX4_checkLearned 16 = .ok (.invokespecial 51, 3) := by decide +kernel
theorem dX4_checkLearned_19 : decode cX4_checkLearned 19 = .ok (.athrow, 1) := by decide +kernel
theorem dX4_checkLearned_20 : decode cX4_checkLearned 20 = .ok (.return_, 1) := by decide +kernel
theorem dX4_checkDrafted_0 : decode cX4_checkDrafted 0 = .ok (.aload_n 0, 1) := by decide +kernel
theorem dX4_checkDrafted_1 : decode cX4_checkDrafted 1 = .ok (.getfield 35, 3) := by decide +kernel
theorem dX4_checkDrafted_4 : decode cX4_checkDrafted 4 = .ok (.invokevirtual 100, 3) := by decide +kernel
theorem dX4_checkDrafted_7 : decode cX4_checkDrafted 7 = .ok (.invokevirtual 69, 3) := by decide +kernel
theorem dX4_checkDrafted_10 : decode cX4_checkDrafted 10 = .ok (.ifCond .ne 13, 3) := by decide +kernel
theorem dX4_checkDrafted_13 : decode cX4_checkDrafted 13 = .ok (.new 47, 3) := by decide +kernel
theorem dX4_checkDrafted_16 : decode cX4_checkDrafted 16 = .ok (.dup, 1) := by decide +kernel
theorem dX4_checkDrafted_17 : decode cX4_checkDrafted 17 = .ok (.ldc 140, 2) := by decide +kernel
theorem dX4_checkDrafted_19 : decode cX4_checkDrafted 19 = .ok (.invokespecial 51, 3) := by decide +kernel
theorem dX4_checkDrafted_22 : decode cX4_checkDrafted 22 = .ok (.athrow, 1) := by decide +kernel
theorem dX4_checkDrafted_23 : decode cX4_checkDrafted 23 = .ok (.return_, 1) := by decide +kernel
theorem dX4_checkState_0 : decode cX4_checkState 0 = .ok (.aload_n 0, 1) := by decide +kernel
theorem dX4_checkState_1 : decode cX4_checkState 1 = .ok (.iload_n 1, 1) := by decide +kernel
theorem dX4_checkState_2 : decode cX4_checkState 2 = .ok (.invokevirtual 142, 3) := by decide +kernel
theorem dX4_checkState_5 : decode cX4_checkState 5 = .ok (.ifCond .ne 13, 3) := by decide +kernel
theorem dX4_checkState_8 : decode cX4_checkState 8 = .ok (.new 74, 3) := by decide +kernel
theorem dX4_checkState_11 : decode cX4_checkState 11 = .ok (.dup, 1) := by decide +kernel
theorem dX4_checkState_12 : decode cX4_checkState 12 = .ok (.ldc 146, 2) := by decide +kernel
theorem dX4_checkState_14 : decode cX4_checkState 14 = .ok (.invokespecial 78, 3) := by decide +kernel
theorem dX4_checkState_17 : decode cX4_checkState 17 = .ok (.athrow, 1) := by decide +kernel
theorem dX4_checkState_18 : decode cX4_checkState 18 = .ok (.return_, 1) := by decide +kernel
theorem dX4_checkedWord_0 : decode cX4_checkedWord 0 = .ok (.iload_n 0, 1) := by decide +kernel
theorem dX4_checkedWord_1 : decode cX4_checkedWord 1 = .ok (.ifCond .lt 20, 3) := by decide +kernel
theorem dX4_checkedWord_4 : decode cX4_checkedWord 4 = .ok (.iload_n 0, 1) := by decide +kernel
theorem dX4_checkedWord_5 : decode cX4_checkedWord 5 = .ok (.bipush 8, 2) := by decide +kernel
theorem dX4_checkedWord_7 : decode cX4_checkedWord 7 = .ok (.if_icmp .gt 14, 3) := by decide +kernel
theorem dX4_checkedWord_10 : decode cX4_checkedWord 10 = .ok (.iload_n 1, 1) := by decide +kernel
theorem dX4_checkedWord_11 : decode cX4_checkedWord 11 = .ok (.ifCond .lt 10, 3) := by decide +kernel
theorem dX4_checkedWord_14 : decode cX4_checkedWord 14 = .ok (.iload_n 1, 1) := by decide +kernel
theorem dX4_checkedWord_15 : decode cX4_checkedWord 15 = .ok (.iconst 1, 1) := by decide +kernel
theorem dX4_checkedWord_16 : decode cX4_checkedWord 16 = .ok (.iload_n 0, 1) := by decide +kernel
theorem dX4_checkedWord_17 : decode cX4_checkedWord 17 = .ok (.ishl, 1) := by decide +kernel
theorem dX4_checkedWord_18 : decode cX4_checkedWord 18 = .ok (.if_icmp .lt 13, 3) := by decide +kernel
theorem dX4_checkedWord_21 : decode cX4_checkedWord 21 = .ok (.new 74, 3) := by decide +kernel
theorem dX4_checkedWord_24 : decode cX4_checkedWord 24 = .ok (.dup, 1) := by decide +kernel
theorem dX4_checkedWord_25 : decode cX4_checkedWord 25 = .ok (.ldc 148, 2) := by decide +kernel
theorem dX4_checkedWord_27 : decode cX4_checkedWord 27 = .ok (.invokespecial 78, 3) := by decide +kernel
theorem dX4_checkedWord_30 : decode cX4_checkedWord 30 = .ok (.athrow, 1) := by decide +kernel
theorem dX4_checkedWord_31 : decode cX4_checkedWord 31 = .ok (.iconst 1, 1) := by decide +kernel
theorem dX4_checkedWord_32 : decode cX4_checkedWord 32 = .ok (.iload_n 0, 1) := by decide +kernel
theorem dX4_checkedWord_33 : decode cX4_checkedWord 33 = .ok (.ishl, 1) := by decide +kernel
theorem dX4_checkedWord_34 : decode cX4_checkedWord 34 = .ok (.iload_n 1, 1) := by decide +kernel
theorem dX4_checkedWord_35 : decode cX4_checkedWord 35 = .ok (.iadd, 1) := by decide +kernel
theorem dX4_checkedWord_36 : decode cX4_checkedWord 36 = .ok (.ireturn, 1) := by decide +kernel
theorem dX4_lengthOf_0 : decode cX4_lengthOf 0 = .ok (.iconst 0, 1) := by decide +kernel
theorem dX4_lengthOf_1 : decode cX4_lengthOf 1 = .ok (.istore_n 1, 1) := by decide +kernel
theorem dX4_lengthOf_2 : decode cX4_lengthOf 2 = .ok (.iload_n 1, 1) := by decide +kernel
theorem dX4_lengthOf_3 : decode cX4_lengthOf 3 = .ok (.bipush 8, 2) := by decide +kernel
theorem dX4_lengthOf_5 : decode cX4_lengthOf 5 = .ok (.if_icmp .ge 17, 3) := by decide +kernel
theorem dX4_lengthOf_8 : decode cX4_lengthOf 8 = .ok (.iload_n 0, 1) := by decide +kernel
theorem dX4_lengthOf_9 : decode cX4_lengthOf 9 = .ok (.iload_n 1, 1) := by decide +kernel
theorem dX4_lengthOf_10 : decode cX4_lengthOf 10 = .ok (.iconst 1, 1) := by decide +kernel
theorem dX4_lengthOf_11 : decode cX4_lengthOf 11 = .ok (.iadd, 1) := by decide +kernel
theorem dX4_lengthOf_12 : decode cX4_lengthOf 12 = .ok (.ishr, 1) := by decide +kernel
theorem dX4_lengthOf_13 : decode cX4_lengthOf 13 = .ok (.ifCond .eq 9, 3) := by decide +kernel
theorem dX4_lengthOf_16 : decode cX4_lengthOf 16 = .ok (.iinc 1 1, 3) := by decide +kernel
theorem dX4_lengthOf_19 : decode cX4_lengthOf 19 = .ok (.goto (-17), 3) := by decide +kernel
theorem dX4_lengthOf_22 : decode cX4_lengthOf 22 = .ok (.iload_n 1, 1) := by decide +kernel
theorem dX4_lengthOf_23 : decode cX4_lengthOf 23 = .ok (.ireturn, 1) := by decide +kernel
theorem dX4_codeOf_0 : decode cX4_codeOf 0 = .ok (.iload_n 0, 1) := by decide +kernel
theorem dX4_codeOf_1 : decode cX4_codeOf 1 = .ok (.invokestatic 150, 3) := by decide +kernel
theorem dX4_codeOf_4 : decode cX4_codeOf 4 = .ok (.istore_n 1, 1) := by decide +kernel
theorem dX4_codeOf_5 : decode cX4_codeOf 5 = .ok (.sipush 256, 3) := by decide +kernel
theorem dX4_codeOf_8 : decode cX4_codeOf 8 = .ok (.iload_n 1, 1) := by decide +kernel
theorem dX4_codeOf_9 : decode cX4_codeOf 9 = .ok (.imul, 1) := by decide +kernel
theorem dX4_codeOf_10 : decode cX4_codeOf 10 = .ok (.iload_n 0, 1) := by decide +kernel
theorem dX4_codeOf_11 : decode cX4_codeOf 11 = .ok (.iadd, 1) := by decide +kernel
theorem dX4_codeOf_12 : decode cX4_codeOf 12 = .ok (.iconst 1, 1) := by decide +kernel
theorem dX4_codeOf_13 : decode cX4_codeOf 13 = .ok (.iload_n 1, 1) := by decide +kernel
theorem dX4_codeOf_14 : decode cX4_codeOf 14 = .ok (.ishl, 1) := by decide +kernel
theorem dX4_codeOf_15 : decode cX4_codeOf 15 = .ok (.isub, 1) := by decide +kernel
theorem dX4_codeOf_16 : decode cX4_codeOf 16 = .ok (.ireturn, 1) := by decide +kernel
theorem dX4_joined_0 : decode cX4_joined 0 = .ok (.iload_n 1, 1) := by decide +kernel
theorem dX4_joined_1 : decode cX4_joined 1 = .ok (.invokestatic 150, 3) := by decide +kernel
theorem dX4_joined_4 : decode cX4_joined 4 = .ok (.istore_n 2, 1) := by decide +kernel
theorem dX4_joined_5 : decode cX4_joined 5 = .ok (.iload_n 0, 1) := by decide +kernel
theorem dX4_joined_6 : decode cX4_joined 6 = .ok (.iload_n 2, 1) := by decide +kernel
theorem dX4_joined_7 : decode cX4_joined 7 = .ok (.ishl, 1) := by decide +kernel
theorem dX4_joined_8 : decode cX4_joined 8 = .ok (.iload_n 1, 1) := by decide +kernel
theorem dX4_joined_9 : decode cX4_joined 9 = .ok (.iadd, 1) := by decide +kernel
theorem dX4_joined_10 : decode cX4_joined 10 = .ok (.iconst 1, 1) := by decide +kernel
theorem dX4_joined_11 : decode cX4_joined 11 = .ok (.iload_n 2, 1) := by decide +kernel
theorem dX4_joined_12 : decode cX4_joined 12 = .ok (.ishl, 1) := by decide +kernel
theorem dX4_joined_13 : decode cX4_joined 13 = .ok (.isub, 1) := by decide +kernel
theorem dX4_joined_14 : decode cX4_joined 14 = .ok (.ireturn, 1) := by decide +kernel
theorem dX5_init_0 : decode cX5_init 0 = .ok (.aload_n 0, 1) := by decide +kernel
theorem dX5_init_1 : decode cX5_init 1 = .ok (.invokespecial 1, 3) := by decide +kernel
theorem dX5_init_4 : decode cX5_init 4 = .ok (.aload_n 0, 1) := by decide +kernel
theorem dX5_init_5 : decode cX5_init 5 = .ok (.sipush 511, 3) := by decide +kernel
theorem dX5_init_8 : decode cX5_init 8 = .ok (.newarray .int, 2) := by decide +kernel
theorem dX5_init_10 : decode cX5_init 10 = .ok (.putfield 7, 3) := by decide +kernel
theorem dX5_init_13 : decode cX5_init 13 = .ok (.aload_n 0, 1) := by decide +kernel
theorem dX5_init_14 : decode cX5_init 14 = .ok (.sipush 511, 3) := by decide +kernel
theorem dX5_init_17 : decode cX5_init 17 = .ok (.newarray .boolean, 2) := by decide +kernel
theorem dX5_init_19 : decode cX5_init 19 = .ok (.putfield 13, 3) := by decide +kernel
theorem dX5_init_22 : decode cX5_init 22 = .ok (.aload_n 0, 1) := by decide +kernel
theorem dX5_init_23 : decode cX5_init 23 = .ok (.sipush 511, 3) := by decide +kernel
theorem dX5_init_26 : decode cX5_init 26 = .ok (.newarray .int, 2) := by decide +kernel
theorem dX5_init_28 : decode cX5_init 28 = .ok (.putfield 17, 3) := by decide +kernel
theorem dX5_init_31 : decode cX5_init 31 = .ok (.aload_n 0, 1) := by decide +kernel
theorem dX5_init_32 : decode cX5_init 32 = .ok (.sipush 511, 3) := by decide +kernel
theorem dX5_init_35 : decode cX5_init 35 = .ok (.newarray .int, 2) := by decide +kernel
theorem dX5_init_37 : decode cX5_init 37 = .ok (.putfield 20, 3) := by decide +kernel
theorem dX5_init_40 : decode cX5_init 40 = .ok (.aload_n 0, 1) := by decide +kernel
theorem dX5_init_41 : decode cX5_init 41 = .ok (.sipush 511, 3) := by decide +kernel
theorem dX5_init_44 : decode cX5_init 44 = .ok (.newarray .int, 2) := by decide +kernel
theorem dX5_init_46 : decode cX5_init 46 = .ok (.putfield 23, 3) := by decide +kernel
theorem dX5_init_49 : decode cX5_init 49 = .ok (.aload_n 0, 1) := by decide +kernel
theorem dX5_init_50 : decode cX5_init 50 = .ok (.sipush 511, 3) := by decide +kernel
theorem dX5_init_53 : decode cX5_init 53 = .ok (.newarray .int, 2) := by decide +kernel
theorem dX5_init_55 : decode cX5_init 55 = .ok (.putfield 26, 3) := by decide +kernel
theorem dX5_init_58 : decode cX5_init 58 = .ok (.aload_n 0, 1) := by decide +kernel
theorem dX5_init_59 : decode cX5_init 59 = .ok (.sipush 1022, 3) := by decide +kernel
theorem dX5_init_62 : decode cX5_init 62 = .ok (.newarray .int, 2) := by decide +kernel
theorem dX5_init_64 : decode cX5_init 64 = .ok (.putfield 29, 3) := by decide +kernel
theorem dX5_init_67 : decode cX5_init 67 = .ok (.aload_n 0, 1) := by decide +kernel
theorem dX5_init_68 : decode cX5_init 68 = .ok (.sipush 511, 3) := by decide +kernel
theorem dX5_init_71 : decode cX5_init 71 = .ok (.newarray .int, 2) := by decide +kernel
theorem dX5_init_73 : decode cX5_init 73 = .ok (.putfield 32, 3) := by decide +kernel
theorem dX5_init_76 : decode cX5_init 76 = .ok (.aload_n 0, 1) := by decide +kernel
theorem dX5_init_77 : decode cX5_init 77 = .ok (.sipush 511, 3) := by decide +kernel
theorem dX5_init_80 : decode cX5_init 80 = .ok (.newarray .int, 2) := by decide +kernel
theorem dX5_init_82 : decode cX5_init 82 = .ok (.putfield 35, 3) := by decide +kernel
theorem dX5_init_85 : decode cX5_init 85 = .ok (.aload_n 0, 1) := by decide +kernel
theorem dX5_init_86 : decode cX5_init 86 = .ok (.sipush 1022, 3) := by decide +kernel
theorem dX5_init_89 : decode cX5_init 89 = .ok (.newarray .int, 2) := by decide +kernel
theorem dX5_init_91 : decode cX5_init 91 = .ok (.putfield 38, 3) := by decide +kernel
theorem dX5_init_94 : decode cX5_init 94 = .ok (.aload_n 0, 1) := by decide +kernel
theorem dX5_init_95 : decode cX5_init 95 = .ok (.sipush 511, 3) := by decide +kernel
theorem dX5_init_98 : decode cX5_init 98 = .ok (.newarray .int, 2) := by decide +kernel
theorem dX5_init_100 : decode cX5_init 100 = .ok (.putfield 41, 3) := by decide +kernel
theorem dX5_init_103 : decode cX5_init 103 = .ok (.aload_n 0, 1) := by decide +kernel
theorem dX5_init_104 : decode cX5_init 104 = .ok (.iconst 5, 1) := by decide +kernel
theorem dX5_init_105 : decode cX5_init 105 = .ok (.newarray .boolean, 2) := by decide +kernel
theorem dX5_init_107 : decode cX5_init 107 = .ok (.putfield 44, 3) := by decide +kernel
theorem dX5_init_110 : decode cX5_init 110 = .ok (.aload_n 0, 1) := by decide +kernel
theorem dX5_init_111 : decode cX5_init 111 = .ok (.bipush 10, 2) := by decide +kernel
theorem dX5_init_113 : decode cX5_init 113 = .ok (.newarray .int, 2) := by decide +kernel
theorem dX5_init_115 : decode cX5_init 115 = .ok (.putfield 47, 3) := by decide +kernel
theorem dX5_init_118 : decode cX5_init 118 = .ok (.aload_n 0, 1) := by decide +kernel
theorem dX5_init_119 : decode cX5_init 119 = .ok (.iconst 5, 1) := by decide +kernel
theorem dX5_init_120 : decode cX5_init 120 = .ok (.newarray .int, 2) := by decide +kernel
theorem dX5_init_122 : decode cX5_init 122 = .ok (.putfield 50, 3) := by decide +kernel
theorem dX5_init_125 : decode cX5_init 125 = .ok (.aload_n 0, 1) := by decide +kernel
theorem dX5_init_126 : decode cX5_init 126 = .ok (.iconst 5, 1) := by decide +kernel
theorem dX5_init_127 : decode cX5_init 127 = .ok (.newarray .int, 2) := by decide +kernel
theorem dX5_init_129 : decode cX5_init 129 = .ok (.putfield 53, 3) := by decide +kernel
theorem dX5_init_132 : decode cX5_init 132 = .ok (.aload_n 0, 1) := by decide +kernel
theorem dX5_init_133 : decode cX5_init 133 = .ok (.sipush 511, 3) := by decide +kernel
theorem dX5_init_136 : decode cX5_init 136 = .ok (.newarray .boolean, 2) := by decide +kernel
theorem dX5_init_138 : decode cX5_init 138 = .ok (.putfield 56, 3) := by decide +kernel
theorem dX5_init_141 : decode cX5_init 141 = .ok (.return_, 1) := by decide +kernel
theorem dX5_thrown_0 : decode cX5_thrown 0 = .ok (.aload_n 0, 1) := by decide +kernel
theorem dX5_thrown_1 : decode cX5_thrown 1 = .ok (.getfield 59, 3) := by decide +kernel
theorem dX5_thrown_4 : decode cX5_thrown 4 = .ok (.ireturn, 1) := by decide +kernel
theorem dX5_when_0 : decode cX5_when 0 = .ok (.aload_n 0, 1) := by decide +kernel
theorem dX5_when_1 : decode cX5_when 1 = .ok (.iload_n 1, 1) := by decide +kernel
theorem dX5_when_2 : decode cX5_when 2 = .ok (.ifCond .eq 7, 3) := by decide +kernel
theorem dX5_when_5 : decode cX5_when 5 = .ok (.iconst 0, 1) := by decide +kernel
theorem dX5_when_6 : decode cX5_when 6 = .ok (.goto 4, 3) := by decide +kernel
theorem dX5_when_9 : decode cX5_when 9 = .ok (.iload_n 2, 1) := by decide +kernel
theorem dX5_when_10 : decode cX5_when 10 = .ok (.putfield 59, 3) := by decide +kernel
theorem dX5_when_13 : decode cX5_when 13 = .ok (.iload_n 1, 1) := by decide +kernel
theorem dX5_when_14 : decode cX5_when 14 = .ok (.ireturn, 1) := by decide +kernel
theorem dX5_isWord_0 : decode cX5_isWord 0 = .ok (.iload_n 0, 1) := by decide +kernel
theorem dX5_isWord_1 : decode cX5_isWord 1 = .ok (.ifCond .lt 24, 3) := by decide +kernel
theorem dX5_isWord_4 : decode cX5_isWord 4 = .ok (.iload_n 0, 1) := by decide +kernel
theorem dX5_isWord_5 : decode cX5_isWord 5 = .ok (.bipush 8, 2) := by decide +kernel
theorem dX5_isWord_7 : decode cX5_isWord 7 = .ok (.if_icmp .gt 18, 3) := by decide +kernel
theorem dX5_isWord_10 : decode cX5_isWord 10 = .ok (.iload_n 1, 1) := by decide +kernel
theorem dX5_isWord_11 : decode cX5_isWord 11 = .ok (.ifCond .lt 14, 3) := by decide +kernel
theorem dX5_isWord_14 : decode cX5_isWord 14 = .ok (.iload_n 1, 1) := by decide +kernel
theorem dX5_isWord_15 : decode cX5_isWord 15 = .ok (.iconst 1, 1) := by decide +kernel
theorem dX5_isWord_16 : decode cX5_isWord 16 = .ok (.iload_n 0, 1) := by decide +kernel
theorem dX5_isWord_17 : decode cX5_isWord 17 = .ok (.ishl, 1) := by decide +kernel
theorem dX5_isWord_18 : decode cX5_isWord 18 = .ok (.if_icmp .ge 7, 3) := by decide +kernel
theorem dX5_isWord_21 : decode cX5_isWord 21 = .ok (.iconst 1, 1) := by decide +kernel
theorem dX5_isWord_22 : decode cX5_isWord 22 = .ok (.goto 4, 3) := by decide +kernel
theorem dX5_isWord_25 : decode cX5_isWord 25 = .ok (.iconst 0, 1) := by decide +kernel
theorem dX5_isWord_26 : decode cX5_isWord 26 = .ok (.ireturn, 1) := by decide +kernel
theorem dX5_number_0 : decode cX5_number 0 = .ok (.iconst 1, 1) := by decide +kernel
theorem dX5_number_1 : decode cX5_number 1 = .ok (.iload_n 0, 1) := by decide +kernel
theorem dX5_number_2 : decode cX5_number 2 = .ok (.ishl, 1) := by decide +kernel
theorem dX5_number_3 : decode cX5_number 3 = .ok (.iconst 1, 1) := by decide +kernel
theorem dX5_number_4 : decode cX5_number 4 = .ok (.isub, 1) := by decide +kernel
theorem dX5_number_5 : decode cX5_number 5 = .ok (.iload_n 1, 1) := by decide +kernel
theorem dX5_number_6 : decode cX5_number 6 = .ok (.iadd, 1) := by decide +kernel
theorem dX5_number_7 : decode cX5_number 7 = .ok (.ireturn, 1) := by decide +kernel
theorem dX5_lengthOf_0 : decode cX5_lengthOf 0 = .ok (.iconst 0, 1) := by decide +kernel
theorem dX5_lengthOf_1 : decode cX5_lengthOf 1 = .ok (.istore_n 1, 1) := by decide +kernel
theorem dX5_lengthOf_2 : decode cX5_lengthOf 2 = .ok (.iconst 2, 1) := by decide +kernel
theorem dX5_lengthOf_3 : decode cX5_lengthOf 3 = .ok (.iload_n 1, 1) := by decide +kernel
theorem dX5_lengthOf_4 : decode cX5_lengthOf 4 = .ok (.ishl, 1) := by decide +kernel
theorem dX5_lengthOf_5 : decode cX5_lengthOf 5 = .ok (.iconst 1, 1) := by decide +kernel
theorem dX5_lengthOf_6 : decode cX5_lengthOf 6 = .ok (.isub, 1) := by decide +kernel
theorem dX5_lengthOf_7 : decode cX5_lengthOf 7 = .ok (.iload_n 0, 1) := by decide +kernel
theorem dX5_lengthOf_8 : decode cX5_lengthOf 8 = .ok (.if_icmp .gt 9, 3) := by decide +kernel
theorem dX5_lengthOf_11 : decode cX5_lengthOf 11 = .ok (.iinc 1 1, 3) := by decide +kernel
theorem dX5_lengthOf_14 : decode cX5_lengthOf 14 = .ok (.goto (-12), 3) := by decide +kernel
theorem dX5_lengthOf_17 : decode cX5_lengthOf 17 = .ok (.iload_n 1, 1) := by decide +kernel
theorem dX5_lengthOf_18 : decode cX5_lengthOf 18 = .ok (.ireturn, 1) := by decide +kernel
theorem dX5_lettersOf_0 : decode cX5_lettersOf 0 = .ok (.iload_n 0, 1) := by decide +kernel
theorem dX5_lettersOf_1 : decode cX5_lettersOf 1 = .ok (.iconst 1, 1) := by decide +kernel
theorem dX5_lettersOf_2 : decode cX5_lettersOf 2 = .ok (.iload_n 0, 1) := by decide +kernel
theorem dX5_lettersOf_3 : decode cX5_lettersOf 3 = .ok (.invokestatic 63, 3) := by decide +kernel
theorem dX5_lettersOf_6 : decode cX5_lettersOf 6 = .ok (.ishl, 1) := by decide +kernel
theorem dX5_lettersOf_7 : decode cX5_lettersOf 7 = .ok (.isub, 1) := by decide +kernel
theorem dX5_lettersOf_8 : decode cX5_lettersOf 8 = .ok (.iconst 1, 1) := by decide +kernel
theorem dX5_lettersOf_9 : decode cX5_lettersOf 9 = .ok (.iadd, 1) := by decide +kernel
theorem dX5_lettersOf_10 : decode cX5_lettersOf 10 = .ok (.ireturn, 1) := by decide +kernel
theorem dX5_followed_0 : decode cX5_followed 0 = .ok (.iconst 2, 1) := by decide +kernel
theorem dX5_followed_1 : decode cX5_followed 1 = .ok (.iload_n 0, 1) := by decide +kernel
theorem dX5_followed_2 : decode cX5_followed 2 = .ok (.imul, 1) := by decide +kernel
theorem dX5_followed_3 : decode cX5_followed 3 = .ok (.iconst 1, 1) := by decide +kernel
theorem dX5_followed_4 : decode cX5_followed 4 = .ok (.iadd, 1) := by decide +kernel
theorem dX5_followed_5 : decode cX5_followed 5 = .ok (.iload_n 1, 1) := by decide +kernel
theorem dX5_followed_6 : decode cX5_followed 6 = .ok (.iadd, 1) := by decide +kernel
theorem dX5_followed_7 : decode cX5_followed 7 = .ok (.ireturn, 1) := by decide +kernel
theorem dX5_joined_0 : decode cX5_joined 0 = .ok (.iload_n 1, 1) := by decide +kernel
theorem dX5_joined_1 : decode cX5_joined 1 = .ok (.invokestatic 63, 3) := by decide +kernel
theorem dX5_joined_4 : decode cX5_joined 4 = .ok (.istore_n 2, 1) := by decide +kernel
theorem dX5_joined_5 : decode cX5_joined 5 = .ok (.iload_n 0, 1) := by decide +kernel
theorem dX5_joined_6 : decode cX5_joined 6 = .ok (.invokestatic 63, 3) := by decide +kernel
theorem dX5_joined_9 : decode cX5_joined 9 = .ok (.iload_n 2, 1) := by decide +kernel
theorem dX5_joined_10 : decode cX5_joined 10 = .ok (.iadd, 1) := by decide +kernel
theorem dX5_joined_11 : decode cX5_joined 11 = .ok (.iload_n 0, 1) := by decide +kernel
theorem dX5_joined_12 : decode cX5_joined 12 = .ok (.invokestatic 67, 3) := by decide +kernel
theorem dX5_joined_15 : decode cX5_joined 15 = .ok (.iload_n 2, 1) := by decide +kernel
theorem dX5_joined_16 : decode cX5_joined 16 = .ok (.ishl, 1) := by decide +kernel
theorem dX5_joined_17 : decode cX5_joined 17 = .ok (.iload_n 1, 1) := by decide +kernel
theorem dX5_joined_18 : decode cX5_joined 18 = .ok (.invokestatic 67, 3) := by decide +kernel
theorem dX5_joined_21 : decode cX5_joined 21 = .ok (.ior, 1) := by decide +kernel
theorem dX5_joined_22 : decode cX5_joined 22 = .ok (.invokestatic 70, 3) := by decide +kernel
theorem dX5_joined_25 : decode cX5_joined 25 = .ok (.ireturn, 1) := by decide +kernel
theorem dX5_given_0 : decode cX5_given 0 = .ok (.sipush 256, 3) := by decide +kernel
theorem dX5_given_3 : decode cX5_given 3 = .ok (.iload_n 0, 1) := by decide +kernel
theorem dX5_given_4 : decode cX5_given 4 = .ok (.invokestatic 63, 3) := by decide +kernel
theorem dX5_given_7 : decode cX5_given 7 = .ok (.imul, 1) := by decide +kernel
theorem dX5_given_8 : decode cX5_given 8 = .ok (.iload_n 0, 1) := by decide +kernel
theorem dX5_given_9 : decode cX5_given 9 = .ok (.invokestatic 67, 3) := by decide +kernel
theorem dX5_given_12 : decode cX5_given 12 = .ok (.iadd, 1) := by decide +kernel
theorem dX5_given_13 : decode cX5_given 13 = .ok (.ireturn, 1) := by decide +kernel
theorem dX5_teach_0 : decode cX5_teach 0 = .ok (.aload_n 0, 1) := by decide +kernel
theorem dX5_teach_1 : decode cX5_teach 1 = .ok (.iload_n 1, 1) := by decide +kernel
theorem dX5_teach_2 : decode cX5_teach 2 = .ok (.iload_n 2, 1) := by decide +kernel
theorem dX5_teach_3 : decode cX5_teach 3 = .ok (.invokestatic 74, 3) := by decide +kernel
theorem dX5_teach_6 : decode cX5_teach 6 = .ok (.iconst 1, 1) := by decide +kernel
theorem dX5_teach_7 : decode cX5_teach 7 = .ok (.invokevirtual 78, 3) := by decide +kernel
theorem dX5_teach_10 : decode cX5_teach 10 = .ok (.ifCond .ne 5, 3) := by decide +kernel
theorem dX5_teach_13 : decode cX5_teach 13 = .ok (.iconst 0, 1) := by decide +kernel
theorem dX5_teach_14 : decode cX5_teach 14 = .ok (.ireturn, 1) := by decide +kernel
theorem dX5_teach_15 : decode cX5_teach 15 = .ok (.iload_n 1, 1) := by decide +kernel
theorem dX5_teach_16 : decode cX5_teach 16 = .ok (.iload_n 2, 1) := by decide +kernel
theorem dX5_teach_17 : decode cX5_teach 17 = .ok (.invokestatic 70, 3) := by decide +kernel
theorem dX5_teach_20 : decode cX5_teach 20 = .ok (.istore 4, 2) := by decide +kernel
theorem dX5_teach_22 : decode cX5_teach 22 = .ok (.iload_n 3, 1) := by decide +kernel
theorem dX5_teach_23 : decode cX5_teach 23 = .ok (.ifCond .eq 7, 3) := by decide +kernel
theorem dX5_teach_26 : decode cX5_teach 26 = .ok (.iconst 1, 1) := by decide +kernel
theorem dX5_teach_27 : decode cX5_teach 27 = .ok (.goto 4, 3) := by decide +kernel
theorem dX5_teach_30 : decode cX5_teach 30 = .ok (.iconst (-1), 1) := by decide +kernel
theorem dX5_teach_31 : decode cX5_teach 31 = .ok (.istore 5, 2) := by decide +kernel
theorem dX5_teach_33 : decode cX5_teach 33 = .ok (.aload_n 0, 1) := by decide +kernel
theorem dX5_teach_34 : decode cX5_teach 34 = .ok (.aload_n 0, 1) := by decide +kernel
theorem dX5_teach_35 : decode cX5_teach 35 = .ok (.getfield 7, 3) := by decide +kernel
theorem dX5_teach_38 : decode cX5_teach 38 = .ok (.iload 4, 2) := by decide +kernel
theorem dX5_teach_40 : decode cX5_teach 40 = .ok (.iaload, 1) := by decide +kernel
theorem dX5_teach_41 : decode cX5_teach 41 = .ok (.iload 5, 2) := by decide +kernel
theorem dX5_teach_43 : decode cX5_teach 43 = .ok (.ineg, 1) := by decide +kernel
theorem dX5_teach_44 : decode cX5_teach 44 = .ok (.if_icmp .eq 7, 3) := by decide +kernel
theorem dX5_teach_47 : decode cX5_teach 47 = .ok (.iconst 1, 1) := by decide +kernel
theorem dX5_teach_48 : decode cX5_teach 48 = .ok (.goto 4, 3) := by decide +kernel
theorem dX5_teach_51 : decode cX5_teach 51 = .ok (.iconst 0, 1) := by decide +kernel
theorem dX5_teach_52 : decode cX5_teach 52 = .ok (.iconst 2, 1) := by decide +kernel
theorem dX5_teach_53 : decode cX5_teach 53 = .ok (.invokevirtual 78, 3) := by decide +kernel
theorem dX5_teach_56 : decode cX5_teach 56 = .ok (.ifCond .ne 5, 3) := by decide +kernel
theorem dX5_teach_59 : decode cX5_teach 59 = .ok (.iconst 0, 1) := by decide +kernel
theorem dX5_teach_60 : decode cX5_teach 60 = .ok (.ireturn, 1) := by decide +kernel
theorem dX5_teach_61 : decode cX5_teach 61 = .ok (.aload_n 0, 1) := by decide +kernel
theorem dX5_teach_62 : decode cX5_teach 62 = .ok (.getfield 7, 3) := by decide +kernel
theorem dX5_teach_65 : decode cX5_teach 65 = .ok (.iload 4, 2) := by decide +kernel
theorem dX5_teach_67 : decode cX5_teach 67 = .ok (.iaload, 1) := by decide +kernel
theorem dX5_teach_68 : decode cX5_teach 68 = .ok (.ifCond .ne 7, 3) := by decide +kernel
theorem dX5_teach_71 : decode cX5_teach 71 = .ok (.iconst 1, 1) := by decide +kernel
theorem dX5_teach_72 : decode cX5_teach 72 = .ok (.goto 4, 3) := by decide +kernel
theorem dX5_teach_75 : decode cX5_teach 75 = .ok (.iconst 0, 1) := by decide +kernel
theorem dX5_teach_76 : decode cX5_teach 76 = .ok (.istore 6, 2) := by decide +kernel
theorem dX5_teach_78 : decode cX5_teach 78 = .ok (.aload_n 0, 1) := by decide +kernel
theorem dX5_teach_79 : decode cX5_teach 79 = .ok (.getfield 7, 3) := by decide +kernel
theorem dX5_teach_82 : decode cX5_teach 82 = .ok (.iload 4, 2) := by decide +kernel
theorem dX5_teach_84 : decode cX5_teach 84 = .ok (.iload 5, 2) := by decide +kernel
theorem dX5_teach_86 : decode cX5_teach 86 = .ok (.iastore, 1) := by decide +kernel
theorem dX5_teach_87 : decode cX5_teach 87 = .ok (.aload_n 0, 1) := by decide +kernel
theorem dX5_teach_88 : decode cX5_teach 88 = .ok (.iload 6, 2) := by decide +kernel
theorem dX5_teach_90 : decode cX5_teach 90 = .ok (.ifCond .eq 12, 3) := by decide +kernel
theorem dX5_teach_93 : decode cX5_teach 93 = .ok (.aload_n 0, 1) := by decide +kernel
theorem dX5_teach_94 : decode cX5_teach 94 = .ok (.getfield 82, 3) := by decide +kernel
theorem dX5_teach_97 : decode cX5_teach 97 = .ok (.iconst 1, 1) := by decide +kernel
theorem dX5_teach_98 : decode cX5_teach 98 = .ok (.iadd, 1) := by decide +kernel
theorem dX5_teach_99 : decode cX5_teach 99 = .ok (.goto 7, 3) := by decide +kernel
theorem dX5_teach_102 : decode cX5_teach 102 = .ok (.aload_n 0, 1) := by decide +kernel
theorem dX5_teach_103 : decode cX5_teach 103 = .ok (.getfield 82, 3) := by decide +kernel
theorem dX5_teach_106 : decode cX5_teach 106 = .ok (.putfield 82, 3) := by decide +kernel
theorem dX5_teach_109 : decode cX5_teach 109 = .ok (.iload 6, 2) := by decide +kernel
theorem dX5_teach_111 : decode cX5_teach 111 = .ok (.ireturn, 1) := by decide +kernel
theorem dX5_told_0 : decode cX5_told 0 = .ok (.aload_n 0, 1) := by decide +kernel
theorem dX5_told_1 : decode cX5_told 1 = .ok (.iload_n 1, 1) := by decide +kernel
theorem dX5_told_2 : decode cX5_told 2 = .ok (.iload_n 2, 1) := by decide +kernel
theorem dX5_told_3 : decode cX5_told 3 = .ok (.invokestatic 74, 3) := by decide +kernel
theorem dX5_told_6 : decode cX5_told 6 = .ok (.iconst 1, 1) := by decide +kernel
theorem dX5_told_7 : decode cX5_told 7 = .ok (.invokevirtual 78, 3) := by decide +kernel
theorem dX5_told_10 : decode cX5_told 10 = .ok (.ifCond .eq 16, 3) := by decide +kernel
theorem dX5_told_13 : decode cX5_told 13 = .ok (.aload_n 0, 1) := by decide +kernel
theorem dX5_told_14 : decode cX5_told 14 = .ok (.getfield 7, 3) := by decide +kernel
theorem dX5_told_17 : decode cX5_told 17 = .ok (.iload_n 1, 1) := by decide +kernel
theorem dX5_told_18 : decode cX5_told 18 = .ok (.iload_n 2, 1) := by decide +kernel
theorem dX5_told_19 : decode cX5_told 19 = .ok (.invokestatic 70, 3) := by decide +kernel
theorem dX5_told_22 : decode cX5_told 22 = .ok (.iaload, 1) := by decide +kernel
theorem dX5_told_23 : decode cX5_told 23 = .ok (.goto 4, 3) := by decide +kernel
theorem dX5_told_26 : decode cX5_told 26 = .ok (.iconst 0, 1) := by decide +kernel
theorem dX5_told_27 : decode cX5_told 27 = .ok (.ireturn, 1) := by decide +kernel
theorem dX5_size_0 : decode cX5_size 0 = .ok (.aload_n 0, 1) := by decide +kernel
theorem dX5_size_1 : decode cX5_size 1 = .ok (.iconst 0, 1) := by decide +kernel
theorem dX5_size_2 : decode cX5_size 2 = .ok (.putfield 59, 3) := by decide +kernel
theorem dX5_size_5 : decode cX5_size 5 = .ok (.aload_n 0, 1) := by decide +kernel
theorem dX5_size_6 : decode cX5_size 6 = .ok (.getfield 82, 3) := by decide +kernel
theorem dX5_size_9 : decode cX5_size 9 = .ok (.ireturn, 1) := by decide +kernel
theorem dX5_forget_0 : decode cX5_forget 0 = .ok (.aload_n 0, 1) := by decide +kernel
theorem dX5_forget_1 : decode cX5_forget 1 = .ok (.iconst 0, 1) := by decide +kernel
theorem dX5_forget_2 : decode cX5_forget 2 = .ok (.putfield 59, 3) := by decide +kernel
theorem dX5_forget_5 : decode cX5_forget 5 = .ok (.iconst 0, 1) := by decide +kernel
theorem dX5_forget_6 : decode cX5_forget 6 = .ok (.istore_n 1, 1) := by decide +kernel
theorem dX5_forget_7 : decode cX5_forget 7 = .ok (.iload_n 1, 1) := by decide +kernel
theorem dX5_forget_8 : decode cX5_forget 8 = .ok (.sipush 511, 3) := by decide +kernel
theorem dX5_forget_11 : decode cX5_forget 11 = .ok (.if_icmp .ge 16, 3) := by decide +kernel
theorem dX5_forget_14 : decode cX5_forget 14 = .ok (.aload_n 0, 1) := by decide +kernel
theorem dX5_forget_15 : decode cX5_forget 15 = .ok (.getfield 7, 3) := by decide +kernel
theorem dX5_forget_18 : decode cX5_forget 18 = .ok (.iload_n 1, 1) := by decide +kernel
theorem dX5_forget_19 : decode cX5_forget 19 = .ok (.iconst 0, 1) := by decide +kernel
theorem dX5_forget_20 : decode cX5_forget 20 = .ok (.iastore, 1) := by decide +kernel
theorem dX5_forget_21 : decode cX5_forget 21 = .ok (.iinc 1 1, 3) := by decide +kernel
theorem dX5_forget_24 : decode cX5_forget 24 = .ok (.goto (-17), 3) := by decide +kernel
theorem dX5_forget_27 : decode cX5_forget 27 = .ok (.aload_n 0, 1) := by decide +kernel
theorem dX5_forget_28 : decode cX5_forget 28 = .ok (.iconst 0, 1) := by decide +kernel
theorem dX5_forget_29 : decode cX5_forget 29 = .ok (.putfield 82, 3) := by decide +kernel
theorem dX5_forget_32 : decode cX5_forget 32 = .ok (.return_, 1) := by decide +kernel
theorem dX5_begin_0 : decode cX5_begin 0 = .ok (.iconst 0, 1) := by decide +kernel
theorem dX5_begin_1 : decode cX5_begin 1 = .ok (.istore_n 1, 1) := by decide +kernel
theorem dX5_begin_2 : decode cX5_begin 2 = .ok (.iload_n 1, 1) := by decide +kernel
theorem dX5_begin_3 : decode cX5_begin 3 = .ok (.sipush 511, 3) := by decide +kernel
theorem dX5_begin_6 : decode cX5_begin 6 = .ok (.if_icmp .ge 33, 3) := by decide +kernel
theorem dX5_begin_9 : decode cX5_begin 9 = .ok (.aload_n 0, 1) := by decide +kernel
theorem dX5_begin_10 : decode cX5_begin 10 = .ok (.getfield 13, 3) := by decide +kernel
theorem dX5_begin_13 : decode cX5_begin 13 = .ok (.iload_n 1, 1) := by decide +kernel
theorem dX5_begin_14 : decode cX5_begin 14 = .ok (.iload_n 1, 1) := by decide +kernel
theorem dX5_begin_15 : decode cX5_begin 15 = .ok (.ifCond .eq 12, 3) := by decide +kernel
theorem dX5_begin_18 : decode cX5_begin 18 = .ok (.aload_n 0, 1) := by decide +kernel
theorem dX5_begin_19 : decode cX5_begin 19 = .ok (.getfield 7, 3) := by decide +kernel
theorem dX5_begin_22 : decode cX5_begin 22 = .ok (.iload_n 1, 1) := by decide +kernel
theorem dX5_begin_23 : decode cX5_begin 23 = .ok (.iaload, 1) := by decide +kernel
theorem dX5_begin_24 : decode cX5_begin 24 = .ok (.ifCond .eq 7, 3) := by decide +kernel
theorem dX5_begin_27 : decode cX5_begin 27 = .ok (.iconst 1, 1) := by decide +kernel
theorem dX5_begin_28 : decode cX5_begin 28 = .ok (.goto 4, 3) := by decide +kernel
theorem dX5_begin_31 : decode cX5_begin 31 = .ok (.iconst 0, 1) := by decide +kernel
theorem dX5_begin_32 : decode cX5_begin 32 = .ok (.bastore, 1) := by decide +kernel
theorem dX5_begin_33 : decode cX5_begin 33 = .ok (.iinc 1 1, 3) := by decide +kernel
theorem dX5_begin_36 : decode cX5_begin 36 = .ok (.goto (-34), 3) := by decide +kernel
theorem dX5_begin_39 : decode cX5_begin 39 = .ok (.sipush 510, 3) := by decide +kernel
theorem dX5_begin_42 : decode cX5_begin 42 = .ok (.istore_n 1, 1) := by decide +kernel
theorem dX5_begin_43 : decode cX5_begin 43 = .ok (.iload_n 1, 1) := by decide +kernel
theorem dX5_begin_44 : decode cX5_begin 44 = .ok (.ifCond .le 29, 3) := by decide +kernel
theorem dX5_begin_47 : decode cX5_begin 47 = .ok (.aload_n 0, 1) := by decide +kernel
theorem dX5_begin_48 : decode cX5_begin 48 = .ok (.getfield 13, 3) := by decide +kernel
theorem dX5_begin_51 : decode cX5_begin 51 = .ok (.iload_n 1, 1) := by decide +kernel
theorem dX5_begin_52 : decode cX5_begin 52 = .ok (.baload, 1) := by decide +kernel
theorem dX5_begin_53 : decode cX5_begin 53 = .ok (.ifCond .eq 14, 3) := by decide +kernel
theorem dX5_begin_56 : decode cX5_begin 56 = .ok (.aload_n 0, 1) := by decide +kernel
theorem dX5_begin_57 : decode cX5_begin 57 = .ok (.getfield 13, 3) := by decide +kernel
theorem dX5_begin_60 : decode cX5_begin 60 = .ok (.iload_n 1, 1) := by decide +kernel
theorem dX5_begin_61 : decode cX5_begin 61 = .ok (.iconst 1, 1) := by decide +kernel
theorem dX5_begin_62 : decode cX5_begin 62 = .ok (.isub, 1) := by decide +kernel
theorem dX5_begin_63 : decode cX5_begin 63 = .ok (.iconst 2, 1) := by decide +kernel
theorem dX5_begin_64 : decode cX5_begin 64 = .ok (.idiv, 1) := by decide +kernel
theorem dX5_begin_65 : decode cX5_begin 65 = .ok (.iconst 1, 1) := by decide +kernel
theorem dX5_begin_66 : decode cX5_begin 66 = .ok (.bastore, 1) := by decide +kernel
theorem dX5_begin_67 : decode cX5_begin 67 = .ok (.iinc 1 (-1), 3) := by decide +kernel
theorem dX5_begin_70 : decode cX5_begin 70 = .ok (.goto (-27), 3) := by decide +kernel
theorem dX5_begin_73 : decode cX5_begin 73 = .ok (.iconst 0, 1) := by decide +kernel
theorem dX5_begin_74 : decode cX5_begin 74 = .ok (.istore_n 1, 1) := by decide +kernel
theorem dX5_begin_75 : decode cX5_begin 75 = .ok (.iload_n 1, 1) := by decide +kernel
theorem dX5_begin_76 : decode cX5_begin 76 = .ok (.sipush 511, 3) := by decide +kernel
theorem dX5_begin_79 : decode cX5_begin 79 = .ok (.if_icmp .ge 28, 3) := by decide +kernel
theorem dX5_begin_82 : decode cX5_begin 82 = .ok (.aload_n 0, 1) := by decide +kernel
theorem dX5_begin_83 : decode cX5_begin 83 = .ok (.getfield 17, 3) := by decide +kernel
theorem dX5_begin_86 : decode cX5_begin 86 = .ok (.iload_n 1, 1) := by decide +kernel
theorem dX5_begin_87 : decode cX5_begin 87 = .ok (.iload_n 1, 1) := by decide +kernel
theorem dX5_begin_88 : decode cX5_begin 88 = .ok (.iastore, 1) := by decide +kernel
theorem dX5_begin_89 : decode cX5_begin 89 = .ok (.aload_n 0, 1) := by decide +kernel
theorem dX5_begin_90 : decode cX5_begin 90 = .ok (.getfield 20, 3) := by decide +kernel
theorem dX5_begin_93 : decode cX5_begin 93 = .ok (.iload_n 1, 1) := by decide +kernel
theorem dX5_begin_94 : decode cX5_begin 94 = .ok (.aload_n 0, 1) := by decide +kernel
theorem dX5_begin_95 : decode cX5_begin 95 = .ok (.getfield 7, 3) := by decide +kernel
theorem dX5_begin_98 : decode cX5_begin 98 = .ok (.iload_n 1, 1) := by decide +kernel
theorem dX5_begin_99 : decode cX5_begin 99 = .ok (.iaload, 1) := by decide +kernel
theorem dX5_begin_100 : decode cX5_begin 100 = .ok (.iastore, 1) := by decide +kernel
theorem dX5_begin_101 : decode cX5_begin 101 = .ok (.iinc 1 1, 3) := by decide +kernel
theorem dX5_begin_104 : decode cX5_begin 104 = .ok (.goto (-29), 3) := by decide +kernel
theorem dX5_begin_107 : decode cX5_begin 107 = .ok (.aload_n 0, 1) := by decide +kernel
theorem dX5_begin_108 : decode cX5_begin 108 = .ok (.iconst 1, 1) := by decide +kernel
theorem dX5_begin_109 : decode cX5_begin 109 = .ok (.putfield 85, 3) := by decide +kernel
theorem dX5_begin_112 : decode cX5_begin 112 = .ok (.aload_n 0, 1) := by decide +kernel
theorem dX5_begin_113 : decode cX5_begin 113 = .ok (.getfield 32, 3) := by decide +kernel
theorem dX5_begin_116 : decode cX5_begin 116 = .ok (.iconst 0, 1) := by decide +kernel
theorem dX5_begin_117 : decode cX5_begin 117 = .ok (.iconst 0, 1) := by decide +kernel
theorem dX5_begin_118 : decode cX5_begin 118 = .ok (.iastore, 1) := by decide +kernel
theorem dX5_begin_119 : decode cX5_begin 119 = .ok (.aload_n 0, 1) := by decide +kernel
theorem dX5_begin_120 : decode cX5_begin 120 = .ok (.getfield 35, 3) := by decide +kernel
theorem dX5_begin_123 : decode cX5_begin 123 = .ok (.iconst 0, 1) := by decide +kernel
theorem dX5_begin_124 : decode cX5_begin 124 = .ok (.iconst 0, 1) := by decide +kernel
theorem dX5_begin_125 : decode cX5_begin 125 = .ok (.iastore, 1) := by decide +kernel
theorem dX5_begin_126 : decode cX5_begin 126 = .ok (.return_, 1) := by decide +kernel
theorem dX5_unite_0 : decode cX5_unite 0 = .ok (.aload_n 0, 1) := by decide +kernel
theorem dX5_unite_1 : decode cX5_unite 1 = .ok (.getfield 26, 3) := by decide +kernel
theorem dX5_unite_4 : decode cX5_unite 4 = .ok (.iload_n 1, 1) := by decide +kernel
theorem dX5_unite_5 : decode cX5_unite 5 = .ok (.iaload, 1) := by decide +kernel
theorem dX5_unite_6 : decode cX5_unite 6 = .ok (.aload_n 0, 1) := by decide +kernel
theorem dX5_unite_7 : decode cX5_unite 7 = .ok (.getfield 26, 3) := by decide +kernel
theorem dX5_unite_10 : decode cX5_unite 10 = .ok (.iload_n 2, 1) := by decide +kernel
theorem dX5_unite_11 : decode cX5_unite 11 = .ok (.iaload, 1) := by decide +kernel
theorem dX5_unite_12 : decode cX5_unite 12 = .ok (.imul, 1) := by decide +kernel
theorem dX5_unite_13 : decode cX5_unite 13 = .ok (.ifCond .ge 5, 3) := by decide +kernel
theorem dX5_unite_16 : decode cX5_unite 16 = .ok (.iconst 0, 1) := by decide +kernel
theorem dX5_unite_17 : decode cX5_unite 17 = .ok (.ireturn, 1) := by decide +kernel
theorem dX5_unite_18 : decode cX5_unite 18 = .ok (.aload_n 0, 1) := by decide +kernel
theorem dX5_unite_19 : decode cX5_unite 19 = .ok (.getfield 26, 3) := by decide +kernel
theorem dX5_unite_22 : decode cX5_unite 22 = .ok (.iload_n 1, 1) := by decide +kernel
theorem dX5_unite_23 : decode cX5_unite 23 = .ok (.aload_n 0, 1) := by decide +kernel
theorem dX5_unite_24 : decode cX5_unite 24 = .ok (.getfield 26, 3) := by decide +kernel
theorem dX5_unite_27 : decode cX5_unite 27 = .ok (.iload_n 1, 1) := by decide +kernel
theorem dX5_unite_28 : decode cX5_unite 28 = .ok (.iaload, 1) := by decide +kernel
theorem dX5_unite_29 : decode cX5_unite 29 = .ok (.ifCond .eq 12, 3) := by decide +kernel
theorem dX5_unite_32 : decode cX5_unite 32 = .ok (.aload_n 0, 1) := by decide +kernel
theorem dX5_unite_33 : decode cX5_unite 33 = .ok (.getfield 26, 3) := by decide +kernel
theorem dX5_unite_36 : decode cX5_unite 36 = .ok (.iload_n 1, 1) := by decide +kernel
theorem dX5_unite_37 : decode cX5_unite 37 = .ok (.iaload, 1) := by decide +kernel
theorem dX5_unite_38 : decode cX5_unite 38 = .ok (.goto 9, 3) := by decide +kernel
theorem dX5_unite_41 : decode cX5_unite 41 = .ok (.aload_n 0, 1) := by decide +kernel
theorem dX5_unite_42 : decode cX5_unite 42 = .ok (.getfield 26, 3) := by decide +kernel
theorem dX5_unite_45 : decode cX5_unite 45 = .ok (.iload_n 2, 1) := by decide +kernel
theorem dX5_unite_46 : decode cX5_unite 46 = .ok (.iaload, 1) := by decide +kernel
theorem dX5_unite_47 : decode cX5_unite 47 = .ok (.iastore, 1) := by decide +kernel
theorem dX5_unite_48 : decode cX5_unite 48 = .ok (.iconst 0, 1) := by decide +kernel
theorem dX5_unite_49 : decode cX5_unite 49 = .ok (.istore_n 3, 1) := by decide +kernel
theorem dX5_unite_50 : decode cX5_unite 50 = .ok (.iload_n 3, 1) := by decide +kernel
theorem dX5_unite_51 : decode cX5_unite 51 = .ok (.sipush 511, 3) := by decide +kernel
theorem dX5_unite_54 : decode cX5_unite 54 = .ok (.if_icmp .ge 35, 3) := by decide +kernel
theorem dX5_unite_57 : decode cX5_unite 57 = .ok (.aload_n 0, 1) := by decide +kernel
theorem dX5_unite_58 : decode cX5_unite 58 = .ok (.getfield 23, 3) := by decide +kernel
theorem dX5_unite_61 : decode cX5_unite 61 = .ok (.iload_n 3, 1) := by decide +kernel
theorem dX5_unite_62 : decode cX5_unite 62 = .ok (.aload_n 0, 1) := by decide +kernel
theorem dX5_unite_63 : decode cX5_unite 63 = .ok (.getfield 23, 3) := by decide +kernel
theorem dX5_unite_66 : decode cX5_unite 66 = .ok (.iload_n 3, 1) := by decide +kernel
theorem dX5_unite_67 : decode cX5_unite 67 = .ok (.iaload, 1) := by decide +kernel
theorem dX5_unite_68 : decode cX5_unite 68 = .ok (.iload_n 2, 1) := by decide +kernel
theorem dX5_unite_69 : decode cX5_unite 69 = .ok (.if_icmp .ne 7, 3) := by decide +kernel
theorem dX5_unite_72 : decode cX5_unite 72 = .ok (.iload_n 1, 1) := by decide +kernel
theorem dX5_unite_73 : decode cX5_unite 73 = .ok (.goto 9, 3) := by decide +kernel
theorem dX5_unite_76 : decode cX5_unite 76 = .ok (.aload_n 0, 1) := by decide +kernel
theorem dX5_unite_77 : decode cX5_unite 77 = .ok (.getfield 23, 3) := by decide +kernel
theorem dX5_unite_80 : decode cX5_unite 80 = .ok (.iload_n 3, 1) := by decide +kernel
theorem dX5_unite_81 : decode cX5_unite 81 = .ok (.iaload, 1) := by decide +kernel
theorem dX5_unite_82 : decode cX5_unite 82 = .ok (.iastore, 1) := by decide +kernel
theorem dX5_unite_83 : decode cX5_unite 83 = .ok (.iinc 3 1, 3) := by decide +kernel
theorem dX5_unite_86 : decode cX5_unite 86 = .ok (.goto (-36), 3) := by decide +kernel
theorem dX5_unite_89 : decode cX5_unite 89 = .ok (.iconst 1, 1) := by decide +kernel
theorem dX5_unite_90 : decode cX5_unite 90 = .ok (.ireturn, 1) := by decide +kernel
theorem dX5_findTwins_0 : decode cX5_findTwins 0 = .ok (.iconst 0, 1) := by decide +kernel
theorem dX5_findTwins_1 : decode cX5_findTwins 1 = .ok (.istore_n 1, 1) := by decide +kernel
theorem dX5_findTwins_2 : decode cX5_findTwins 2 = .ok (.iload_n 1, 1) := by decide +kernel
theorem dX5_findTwins_3 : decode cX5_findTwins 3 = .ok (.sipush 1022, 3) := by decide +kernel
theorem dX5_findTwins_6 : decode cX5_findTwins 6 = .ok (.if_icmp .ge 16, 3) := by decide +kernel
theorem dX5_findTwins_9 : decode cX5_findTwins 9 = .ok (.aload_n 0, 1) := by decide +kernel
theorem dX5_findTwins_10 : decode cX5_findTwins 10 = .ok (.getfield 29, 3) := by decide +kernel
theorem dX5_findTwins_13 : decode cX5_findTwins 13 = .ok (.iload_n 1, 1) := by decide +kernel
theorem dX5_findTwins_14 : decode cX5_findTwins 14 = .ok (.iconst (-1), 1) := by decide +kernel
theorem dX5_findTwins_15 : decode cX5_findTwins 15 = .ok (.iastore, 1) := by decide +kernel
theorem dX5_findTwins_16 : decode cX5_findTwins 16 = .ok (.iinc 1 1, 3) := by decide +kernel
theorem dX5_findTwins_19 : decode cX5_findTwins 19 = .ok (.goto (-17), 3) := by decide +kernel
theorem dX5_findTwins_22 : decode cX5_findTwins 22 = .ok (.iconst 0, 1) := by decide +kernel
theorem dX5_findTwins_23 : decode cX5_findTwins 23 = .ok (.istore_n 1, 1) := by decide +kernel
theorem dX5_findTwins_24 : decode cX5_findTwins 24 = .ok (.iload_n 1, 1) := by decide +kernel
theorem dX5_findTwins_25 : decode cX5_findTwins 25 = .ok (.sipush 255, 3) := by decide +kernel
theorem dX5_findTwins_28 : decode cX5_findTwins 28 = .ok (.if_icmp .ge 129, 3) := by decide +kernel
theorem dX5_findTwins_31 : decode cX5_findTwins 31 = .ok (.iconst 0, 1) := by decide +kernel
theorem dX5_findTwins_32 : decode cX5_findTwins 32 = .ok (.istore_n 2, 1) := by decide +kernel
theorem dX5_findTwins_33 : decode cX5_findTwins 33 = .ok (.iload_n 2, 1) := by decide +kernel
theorem dX5_findTwins_34 : decode cX5_findTwins 34 = .ok (.iconst 2, 1) := by decide +kernel
theorem dX5_findTwins_35 : decode cX5_findTwins 35 = .ok (.if_icmp .ge 116, 3) := by decide +kernel
theorem dX5_findTwins_38 : decode cX5_findTwins 38 = .ok (.aload_n 0, 1) := by decide +kernel
theorem dX5_findTwins_39 : decode cX5_findTwins 39 = .ok (.getfield 13, 3) := by decide +kernel
theorem dX5_findTwins_42 : decode cX5_findTwins 42 = .ok (.iload_n 1, 1) := by decide +kernel
theorem dX5_findTwins_43 : decode cX5_findTwins 43 = .ok (.baload, 1) := by decide +kernel
theorem dX5_findTwins_44 : decode cX5_findTwins 44 = .ok (.ifCond .eq 107, 3) := by decide +kernel
theorem dX5_findTwins_47 : decode cX5_findTwins 47 = .ok (.iload_n 1, 1) := by decide +kernel
theorem dX5_findTwins_48 : decode cX5_findTwins 48 = .ok (.iload_n 2, 1) := by decide +kernel
theorem dX5_findTwins_49 : decode cX5_findTwins 49 = .ok (.invokestatic 88, 3) := by decide +kernel
theorem dX5_findTwins_52 : decode cX5_findTwins 52 = .ok (.istore_n 3, 1) := by decide +kernel
theorem dX5_findTwins_53 : decode cX5_findTwins 53 = .ok (.iconst 2, 1) := by decide +kernel
theorem dX5_findTwins_54 : decode cX5_findTwins 54 = .ok (.aload_n 0, 1) := by decide +kernel
theorem dX5_findTwins_55 : decode cX5_findTwins 55 = .ok (.getfield 23, 3) := by decide +kernel
theorem dX5_findTwins_58 : decode cX5_findTwins 58 = .ok (.iload_n 1, 1) := by decide +kernel
theorem dX5_findTwins_59 : decode cX5_findTwins 59 = .ok (.iaload, 1) := by decide +kernel
theorem dX5_findTwins_60 : decode cX5_findTwins 60 = .ok (.imul, 1) := by decide +kernel
theorem dX5_findTwins_61 : decode cX5_findTwins 61 = .ok (.iload_n 2, 1) := by decide +kernel
theorem dX5_findTwins_62 : decode cX5_findTwins 62 = .ok (.iadd, 1) := by decide +kernel
theorem dX5_findTwins_63 : decode cX5_findTwins 63 = .ok (.istore 4, 2) := by decide +kernel
theorem dX5_findTwins_65 : decode cX5_findTwins 65 = .ok (.aload_n 0, 1) := by decide +kernel
theorem dX5_findTwins_66 : decode cX5_findTwins 66 = .ok (.getfield 13, 3) := by decide +kernel
theorem dX5_findTwins_69 : decode cX5_findTwins 69 = .ok (.iload_n 3, 1) := by decide +kernel
theorem dX5_findTwins_70 : decode cX5_findTwins 70 = .ok (.baload, 1) := by decide +kernel
theorem dX5_findTwins_71 : decode cX5_findTwins 71 = .ok (.ifCond .eq 52, 3) := by decide +kernel
theorem dX5_findTwins_74 : decode cX5_findTwins 74 = .ok (.aload_n 0, 1) := by decide +kernel
theorem dX5_findTwins_75 : decode cX5_findTwins 75 = .ok (.getfield 29, 3) := by decide +kernel
theorem dX5_findTwins_78 : decode cX5_findTwins 78 = .ok (.iload 4, 2) := by decide +kernel
theorem dX5_findTwins_80 : decode cX5_findTwins 80 = .ok (.iaload, 1) := by decide +kernel
theorem dX5_findTwins_81 : decode cX5_findTwins 81 = .ok (.ifCond .lt 42, 3) := by decide +kernel
theorem dX5_findTwins_84 : decode cX5_findTwins 84 = .ok (.aload_n 0, 1) := by decide +kernel
theorem dX5_findTwins_85 : decode cX5_findTwins 85 = .ok (.getfield 29, 3) := by decide +kernel
theorem dX5_findTwins_88 : decode cX5_findTwins 88 = .ok (.iload 4, 2) := by decide +kernel
theorem dX5_findTwins_90 : decode cX5_findTwins 90 = .ok (.iaload, 1) := by decide +kernel
theorem dX5_findTwins_91 : decode cX5_findTwins 91 = .ok (.aload_n 0, 1) := by decide +kernel
theorem dX5_findTwins_92 : decode cX5_findTwins 92 = .ok (.getfield 23, 3) := by decide +kernel
theorem dX5_findTwins_95 : decode cX5_findTwins 95 = .ok (.iload_n 3, 1) := by decide +kernel
theorem dX5_findTwins_96 : decode cX5_findTwins 96 = .ok (.iaload, 1) := by decide +kernel
theorem dX5_findTwins_97 : decode cX5_findTwins 97 = .ok (.if_icmp .eq 26, 3) := by decide +kernel
theorem dX5_findTwins_100 : decode cX5_findTwins 100 = .ok (.aload_n 0, 1) := by decide +kernel
theorem dX5_findTwins_101 : decode cX5_findTwins 101 = .ok (.aload_n 0, 1) := by decide +kernel
theorem dX5_findTwins_102 : decode cX5_findTwins 102 = .ok (.getfield 29, 3) := by decide +kernel
theorem dX5_findTwins_105 : decode cX5_findTwins 105 = .ok (.iload 4, 2) := by decide +kernel
theorem dX5_findTwins_107 : decode cX5_findTwins 107 = .ok (.iaload, 1) := by decide +kernel
theorem dX5_findTwins_108 : decode cX5_findTwins 108 = .ok (.putfield 91, 3) := by decide +kernel
theorem dX5_findTwins_111 : decode cX5_findTwins 111 = .ok (.aload_n 0, 1) := by decide +kernel
theorem dX5_findTwins_112 : decode cX5_findTwins 112 = .ok (.aload_n 0, 1) := by decide +kernel
theorem dX5_findTwins_113 : decode cX5_findTwins 113 = .ok (.getfield 23, 3) := by decide +kernel
theorem dX5_findTwins_116 : decode cX5_findTwins 116 = .ok (.iload_n 3, 1) := by decide +kernel
theorem dX5_findTwins_117 : decode cX5_findTwins 117 = .ok (.iaload, 1) := by decide +kernel
theorem dX5_findTwins_118 : decode cX5_findTwins 118 = .ok (.putfield 94, 3) := by decide +kernel
theorem dX5_findTwins_121 : decode cX5_findTwins 121 = .ok (.iconst 1, 1) := by decide +kernel
theorem dX5_findTwins_122 : decode cX5_findTwins 122 = .ok (.ireturn, 1) := by decide +kernel
theorem dX5_findTwins_123 : decode cX5_findTwins 123 = .ok (.aload_n 0, 1) := by decide +kernel
theorem dX5_findTwins_124 : decode cX5_findTwins 124 = .ok (.getfield 13, 3) := by decide +kernel
theorem dX5_findTwins_127 : decode cX5_findTwins 127 = .ok (.iload_n 3, 1) := by decide +kernel
theorem dX5_findTwins_128 : decode cX5_findTwins 128 = .ok (.baload, 1) := by decide +kernel
theorem dX5_findTwins_129 : decode cX5_findTwins 129 = .ok (.ifCond .eq 16, 3) := by decide +kernel
theorem dX5_findTwins_132 : decode cX5_findTwins 132 = .ok (.aload_n 0, 1) := by decide +kernel
theorem dX5_findTwins_133 : decode cX5_findTwins 133 = .ok (.getfield 29, 3) := by decide +kernel
theorem dX5_findTwins_136 : decode cX5_findTwins 136 = .ok (.iload 4, 2) := by decide +kernel
theorem dX5_findTwins_138 : decode cX5_findTwins 138 = .ok (.aload_n 0, 1) := by decide +kernel
theorem dX5_findTwins_139 : decode cX5_findTwins 139 = .ok (.getfield 23, 3) := by decide +kernel
theorem dX5_findTwins_142 : decode cX5_findTwins 142 = .ok (.iload_n 3, 1) := by decide +kernel
theorem dX5_findTwins_143 : decode cX5_findTwins 143 = .ok (.iaload, 1) := by decide +kernel
theorem dX5_findTwins_144 : decode cX5_findTwins 144 = .ok (.iastore, 1) := by decide +kernel
theorem dX5_findTwins_145 : decode cX5_findTwins 145 = .ok (.iinc 2 1, 3) := by decide +kernel
theorem dX5_findTwins_148 : decode cX5_findTwins 148 = .ok (.goto (-115), 3) := by decide +kernel
theorem dX5_findTwins_151 : decode cX5_findTwins 151 = .ok (.iinc 1 1, 3) := by decide +kernel
theorem dX5_findTwins_154 : decode cX5_findTwins 154 = .ok (.goto (-130), 3) := by decide +kernel
theorem dX5_findTwins_157 : decode cX5_findTwins 157 = .ok (.iconst 0, 1) := by decide +kernel
theorem dX5_findTwins_158 : decode cX5_findTwins 158 = .ok (.ireturn, 1) := by decide +kernel
theorem dX5_merge_0 : decode cX5_merge 0 = .ok (.iconst 0, 1) := by decide +kernel
theorem dX5_merge_1 : decode cX5_merge 1 = .ok (.istore_n 3, 1) := by decide +kernel
theorem dX5_merge_2 : decode cX5_merge 2 = .ok (.iload_n 3, 1) := by decide +kernel
theorem dX5_merge_3 : decode cX5_merge 3 = .ok (.sipush 511, 3) := by decide +kernel
theorem dX5_merge_6 : decode cX5_merge 6 = .ok (.if_icmp .ge 33, 3) := by decide +kernel
theorem dX5_merge_9 : decode cX5_merge 9 = .ok (.aload_n 0, 1) := by decide +kernel
theorem dX5_merge_10 : decode cX5_merge 10 = .ok (.getfield 23, 3) := by decide +kernel
theorem dX5_merge_13 : decode cX5_merge 13 = .ok (.iload_n 3, 1) := by decide +kernel
theorem dX5_merge_14 : decode cX5_merge 14 = .ok (.aload_n 0, 1) := by decide +kernel
theorem dX5_merge_15 : decode cX5_merge 15 = .ok (.getfield 17, 3) := by decide +kernel
theorem dX5_merge_18 : decode cX5_merge 18 = .ok (.iload_n 3, 1) := by decide +kernel
theorem dX5_merge_19 : decode cX5_merge 19 = .ok (.iaload, 1) := by decide +kernel
theorem dX5_merge_20 : decode cX5_merge 20 = .ok (.iastore, 1) := by decide +kernel
theorem dX5_merge_21 : decode cX5_merge 21 = .ok (.aload_n 0, 1) := by decide +kernel
theorem dX5_merge_22 : decode cX5_merge 22 = .ok (.getfield 26, 3) := by decide +kernel
theorem dX5_merge_25 : decode cX5_merge 25 = .ok (.iload_n 3, 1) := by decide +kernel
theorem dX5_merge_26 : decode cX5_merge 26 = .ok (.aload_n 0, 1) := by decide +kernel
theorem dX5_merge_27 : decode cX5_merge 27 = .ok (.getfield 20, 3) := by decide +kernel
theorem dX5_merge_30 : decode cX5_merge 30 = .ok (.iload_n 3, 1) := by decide +kernel
theorem dX5_merge_31 : decode cX5_merge 31 = .ok (.iaload, 1) := by decide +kernel
theorem dX5_merge_32 : decode cX5_merge 32 = .ok (.iastore, 1) := by decide +kernel
theorem dX5_merge_33 : decode cX5_merge 33 = .ok (.iinc 3 1, 3) := by decide +kernel
theorem dX5_merge_36 : decode cX5_merge 36 = .ok (.goto (-34), 3) := by decide +kernel
theorem dX5_merge_39 : decode cX5_merge 39 = .ok (.aload_n 0, 1) := by decide +kernel
theorem dX5_merge_40 : decode cX5_merge 40 = .ok (.aload_n 0, 1) := by decide +kernel
theorem dX5_merge_41 : decode cX5_merge 41 = .ok (.getfield 17, 3) := by decide +kernel
theorem dX5_merge_44 : decode cX5_merge 44 = .ok (.iload_n 1, 1) := by decide +kernel
theorem dX5_merge_45 : decode cX5_merge 45 = .ok (.iaload, 1) := by decide +kernel
theorem dX5_merge_46 : decode cX5_merge 46 = .ok (.aload_n 0, 1) := by decide +kernel
theorem dX5_merge_47 : decode cX5_merge 47 = .ok (.getfield 17, 3) := by decide +kernel
theorem dX5_merge_50 : decode cX5_merge 50 = .ok (.iload_n 2, 1) := by decide +kernel
theorem dX5_merge_51 : decode cX5_merge 51 = .ok (.iaload, 1) := by decide +kernel
theorem dX5_merge_52 : decode cX5_merge 52 = .ok (.invokevirtual 97, 3) := by decide +kernel
theorem dX5_merge_55 : decode cX5_merge 55 = .ok (.istore_n 3, 1) := by decide +kernel
theorem dX5_merge_56 : decode cX5_merge 56 = .ok (.iload_n 3, 1) := by decide +kernel
theorem dX5_merge_57 : decode cX5_merge 57 = .ok (.ifCond .eq 26, 3) := by decide +kernel
theorem dX5_merge_60 : decode cX5_merge 60 = .ok (.aload_n 0, 1) := by decide +kernel
theorem dX5_merge_61 : decode cX5_merge 61 = .ok (.invokevirtual 100, 3) := by decide +kernel
theorem dX5_merge_64 : decode cX5_merge 64 = .ok (.ifCond .eq 19, 3) := by decide +kernel
theorem dX5_merge_67 : decode cX5_merge 67 = .ok (.aload_n 0, 1) := by decide +kernel
theorem dX5_merge_68 : decode cX5_merge 68 = .ok (.aload_n 0, 1) := by decide +kernel
theorem dX5_merge_69 : decode cX5_merge 69 = .ok (.getfield 91, 3) := by decide +kernel
theorem dX5_merge_72 : decode cX5_merge 72 = .ok (.aload_n 0, 1) := by decide +kernel
theorem dX5_merge_73 : decode cX5_merge 73 = .ok (.getfield 94, 3) := by decide +kernel
theorem dX5_merge_76 : decode cX5_merge 76 = .ok (.invokevirtual 97, 3) := by decide +kernel
theorem dX5_merge_79 : decode cX5_merge 79 = .ok (.istore_n 3, 1) := by decide +kernel
theorem dX5_merge_80 : decode cX5_merge 80 = .ok (.goto (-24), 3) := by decide +kernel
theorem dX5_merge_83 : decode cX5_merge 83 = .ok (.iload_n 3, 1) := by decide +kernel
theorem dX5_merge_84 : decode cX5_merge 84 = .ok (.ifCond .ne 5, 3) := by decide +kernel
theorem dX5_merge_87 : decode cX5_merge 87 = .ok (.iconst 0, 1) := by decide +kernel
theorem dX5_merge_88 : decode cX5_merge 88 = .ok (.ireturn, 1) := by decide +kernel
theorem dX5_merge_89 : decode cX5_merge 89 = .ok (.iconst 0, 1) := by decide +kernel
theorem dX5_merge_90 : decode cX5_merge 90 = .ok (.istore 4, 2) := by decide +kernel
theorem dX5_merge_92 : decode cX5_merge 92 = .ok (.iload 4, 2) := by decide +kernel
theorem dX5_merge_94 : decode cX5_merge 94 = .ok (.sipush 511, 3) := by decide +kernel
theorem dX5_merge_97 : decode cX5_merge 97 = .ok (.if_icmp .ge 37, 3) := by decide +kernel
theorem dX5_merge_100 : decode cX5_merge 100 = .ok (.aload_n 0, 1) := by decide +kernel
theorem dX5_merge_101 : decode cX5_merge 101 = .ok (.getfield 17, 3) := by decide +kernel
theorem dX5_merge_104 : decode cX5_merge 104 = .ok (.iload 4, 2) := by decide +kernel
theorem dX5_merge_106 : decode cX5_merge 106 = .ok (.aload_n 0, 1) := by decide +kernel
theorem dX5_merge_107 : decode cX5_merge 107 = .ok (.getfield 23, 3) := by decide +kernel
theorem dX5_merge_110 : decode cX5_merge 110 = .ok (.iload 4, 2) := by decide +kernel
theorem dX5_merge_112 : decode cX5_merge 112 = .ok (.iaload, 1) := by decide +kernel
theorem dX5_merge_113 : decode cX5_merge 113 = .ok (.iastore, 1) := by decide +kernel
theorem dX5_merge_114 : decode cX5_merge 114 = .ok (.aload_n 0, 1) := by decide +kernel
theorem dX5_merge_115 : decode cX5_merge 115 = .ok (.getfield 20, 3) := by decide +kernel
theorem dX5_merge_118 : decode cX5_merge 118 = .ok (.iload 4, 2) := by decide +kernel
theorem dX5_merge_120 : decode cX5_merge 120 = .ok (.aload_n 0, 1) := by decide +kernel
theorem dX5_merge_121 : decode cX5_merge 121 = .ok (.getfield 26, 3) := by decide +kernel
theorem dX5_merge_124 : decode cX5_merge 124 = .ok (.iload 4, 2) := by decide +kernel
theorem dX5_merge_126 : decode cX5_merge 126 = .ok (.iaload, 1) := by decide +kernel
theorem dX5_merge_127 : decode cX5_merge 127 = .ok (.iastore, 1) := by decide +kernel
theorem dX5_merge_128 : decode cX5_merge 128 = .ok (.iinc 4 1, 3) := by decide +kernel
theorem dX5_merge_131 : decode cX5_merge 131 = .ok (.goto (-39), 3) := by decide +kernel
theorem dX5_merge_134 : decode cX5_merge 134 = .ok (.iconst 1, 1) := by decide +kernel
theorem dX5_merge_135 : decode cX5_merge 135 = .ok (.ireturn, 1) := by decide +kernel
theorem dX5_redOf_0 : decode cX5_redOf 0 = .ok (.iconst (-1), 1) := by decide +kernel
theorem dX5_redOf_1 : decode cX5_redOf 1 = .ok (.istore_n 2, 1) := by decide +kernel
theorem dX5_redOf_2 : decode cX5_redOf 2 = .ok (.iconst 0, 1) := by decide +kernel
theorem dX5_redOf_3 : decode cX5_redOf 3 = .ok (.istore_n 3, 1) := by decide +kernel
theorem dX5_redOf_4 : decode cX5_redOf 4 = .ok (.iload_n 3, 1) := by decide +kernel
theorem dX5_redOf_5 : decode cX5_redOf 5 = .ok (.aload_n 0, 1) := by decide +kernel
theorem dX5_redOf_6 : decode cX5_redOf 6 = .ok (.getfield 85, 3) := by decide +kernel
theorem dX5_redOf_9 : decode cX5_redOf 9 = .ok (.if_icmp .ge 35, 3) := by decide +kernel
theorem dX5_redOf_12 : decode cX5_redOf 12 = .ok (.aload_n 0, 1) := by decide +kernel
theorem dX5_redOf_13 : decode cX5_redOf 13 = .ok (.getfield 17, 3) := by decide +kernel
theorem dX5_redOf_16 : decode cX5_redOf 16 = .ok (.aload_n 0, 1) := by decide +kernel
theorem dX5_redOf_17 : decode cX5_redOf 17 = .ok (.getfield 32, 3) := by decide +kernel
theorem dX5_redOf_20 : decode cX5_redOf 20 = .ok (.iload_n 3, 1) := by decide +kernel
theorem dX5_redOf_21 : decode cX5_redOf 21 = .ok (.iaload, 1) := by decide +kernel
theorem dX5_redOf_22 : decode cX5_redOf 22 = .ok (.iaload, 1) := by decide +kernel
theorem dX5_redOf_23 : decode cX5_redOf 23 = .ok (.aload_n 0, 1) := by decide +kernel
theorem dX5_redOf_24 : decode cX5_redOf 24 = .ok (.getfield 17, 3) := by decide +kernel
theorem dX5_redOf_27 : decode cX5_redOf 27 = .ok (.iload_n 1, 1) := by decide +kernel
theorem dX5_redOf_28 : decode cX5_redOf 28 = .ok (.iaload, 1) := by decide +kernel
theorem dX5_redOf_29 : decode cX5_redOf 29 = .ok (.if_icmp .ne 7, 3) := by decide +kernel
theorem dX5_redOf_32 : decode cX5_redOf 32 = .ok (.iload_n 3, 1) := by decide +kernel
theorem dX5_redOf_33 : decode cX5_redOf 33 = .ok (.goto 4, 3) := by decide +kernel
theorem dX5_redOf_36 : decode cX5_redOf 36 = .ok (.iload_n 2, 1) := by decide +kernel
theorem dX5_redOf_37 : decode cX5_redOf 37 = .ok (.istore_n 2, 1) := by decide +kernel
theorem dX5_redOf_38 : decode cX5_redOf 38 = .ok (.iinc 3 1, 3) := by decide +kernel
theorem dX5_redOf_41 : decode cX5_redOf 41 = .ok (.goto (-37), 3) := by decide +kernel
theorem dX5_redOf_44 : decode cX5_redOf 44 = .ok (.iload_n 2, 1) := by decide +kernel
theorem dX5_redOf_45 : decode cX5_redOf 45 = .ok (.ireturn, 1) := by decide +kernel
theorem dX5_findBlue_0 : decode cX5_findBlue 0 = .ok (.aload_n 0, 1) := by decide +kernel
theorem dX5_findBlue_1 : decode cX5_findBlue 1 = .ok (.sipush 2000, 3) := by decide +kernel
theorem dX5_findBlue_4 : decode cX5_findBlue 4 = .ok (.putfield 104, 3) := by decide +kernel
theorem dX5_findBlue_7 : decode cX5_findBlue 7 = .ok (.iconst 1, 1) := by decide +kernel
theorem dX5_findBlue_8 : decode cX5_findBlue 8 = .ok (.istore_n 1, 1) := by decide +kernel
theorem dX5_findBlue_9 : decode cX5_findBlue 9 = .ok (.iload_n 1, 1) := by decide +kernel
theorem dX5_findBlue_10 : decode cX5_findBlue 10 = .ok (.sipush 511, 3) := by decide +kernel
theorem dX5_findBlue_13 : decode cX5_findBlue 13 = .ok (.if_icmp .ge 105, 3) := by decide +kernel
theorem dX5_findBlue_16 : decode cX5_findBlue 16 = .ok (.iload_n 1, 1) := by decide +kernel
theorem dX5_findBlue_17 : decode cX5_findBlue 17 = .ok (.iconst 1, 1) := by decide +kernel
theorem dX5_findBlue_18 : decode cX5_findBlue 18 = .ok (.isub, 1) := by decide +kernel
theorem dX5_findBlue_19 : decode cX5_findBlue 19 = .ok (.iconst 2, 1) := by decide +kernel
theorem dX5_findBlue_20 : decode cX5_findBlue 20 = .ok (.idiv, 1) := by decide +kernel
theorem dX5_findBlue_21 : decode cX5_findBlue 21 = .ok (.istore_n 2, 1) := by decide +kernel
theorem dX5_findBlue_22 : decode cX5_findBlue 22 = .ok (.aload_n 0, 1) := by decide +kernel
theorem dX5_findBlue_23 : decode cX5_findBlue 23 = .ok (.getfield 13, 3) := by decide +kernel
theorem dX5_findBlue_26 : decode cX5_findBlue 26 = .ok (.iload_n 1, 1) := by decide +kernel
theorem dX5_findBlue_27 : decode cX5_findBlue 27 = .ok (.baload, 1) := by decide +kernel
theorem dX5_findBlue_28 : decode cX5_findBlue 28 = .ok (.ifCond .eq 19, 3) := by decide +kernel
theorem dX5_findBlue_31 : decode cX5_findBlue 31 = .ok (.aload_n 0, 1) := by decide +kernel
theorem dX5_findBlue_32 : decode cX5_findBlue 32 = .ok (.iload_n 1, 1) := by decide +kernel
theorem dX5_findBlue_33 : decode cX5_findBlue 33 = .ok (.invokevirtual 107, 3) := by decide +kernel
theorem dX5_findBlue_36 : decode cX5_findBlue 36 = .ok (.ifCond .ge 11, 3) := by decide +kernel
theorem dX5_findBlue_39 : decode cX5_findBlue 39 = .ok (.aload_n 0, 1) := by decide +kernel
theorem dX5_findBlue_40 : decode cX5_findBlue 40 = .ok (.iload_n 2, 1) := by decide +kernel
theorem dX5_findBlue_41 : decode cX5_findBlue 41 = .ok (.invokevirtual 107, 3) := by decide +kernel
theorem dX5_findBlue_44 : decode cX5_findBlue 44 = .ok (.goto 4, 3) := by decide +kernel
theorem dX5_findBlue_47 : decode cX5_findBlue 47 = .ok (.iconst (-1), 1) := by decide +kernel
theorem dX5_findBlue_48 : decode cX5_findBlue 48 = .ok (.istore_n 3, 1) := by decide +kernel
theorem dX5_findBlue_49 : decode cX5_findBlue 49 = .ok (.iload_n 3, 1) := by decide +kernel
theorem dX5_findBlue_50 : decode cX5_findBlue 50 = .ok (.ifCond .lt 62, 3) := by decide +kernel
theorem dX5_findBlue_53 : decode cX5_findBlue 53 = .ok (.aload_n 0, 1) := by decide +kernel
theorem dX5_findBlue_54 : decode cX5_findBlue 54 = .ok (.getfield 35, 3) := by decide +kernel
theorem dX5_findBlue_57 : decode cX5_findBlue 57 = .ok (.iload_n 3, 1) := by decide +kernel
theorem dX5_findBlue_58 : decode cX5_findBlue 58 = .ok (.iaload, 1) := by decide +kernel
theorem dX5_findBlue_59 : decode cX5_findBlue 59 = .ok (.iload_n 1, 1) := by decide +kernel
theorem dX5_findBlue_60 : decode cX5_findBlue 60 = .ok (.iconst 1, 1) := by decide +kernel
theorem dX5_findBlue_61 : decode cX5_findBlue 61 = .ok (.isub, 1) := by decide +kernel
theorem dX5_findBlue_62 : decode cX5_findBlue 62 = .ok (.iconst 2, 1) := by decide +kernel
theorem dX5_findBlue_63 : decode cX5_findBlue 63 = .ok (.irem, 1) := by decide +kernel
theorem dX5_findBlue_64 : decode cX5_findBlue 64 = .ok (.invokestatic 88, 3) := by decide +kernel
theorem dX5_findBlue_67 : decode cX5_findBlue 67 = .ok (.istore 4, 2) := by decide +kernel
theorem dX5_findBlue_69 : decode cX5_findBlue 69 = .ok (.aload_n 0, 1) := by decide +kernel
theorem dX5_findBlue_70 : decode cX5_findBlue 70 = .ok (.iload 4, 2) := by decide +kernel
theorem dX5_findBlue_72 : decode cX5_findBlue 72 = .ok (.aload_n 0, 1) := by decide +kernel
theorem dX5_findBlue_73 : decode cX5_findBlue 73 = .ok (.getfield 104, 3) := by decide +kernel
theorem dX5_findBlue_76 : decode cX5_findBlue 76 = .ok (.if_icmp .ge 7, 3) := by decide +kernel
theorem dX5_findBlue_79 : decode cX5_findBlue 79 = .ok (.iload_n 1, 1) := by decide +kernel
theorem dX5_findBlue_80 : decode cX5_findBlue 80 = .ok (.goto 7, 3) := by decide +kernel
theorem dX5_findBlue_83 : decode cX5_findBlue 83 = .ok (.aload_n 0, 1) := by decide +kernel
theorem dX5_findBlue_84 : decode cX5_findBlue 84 = .ok (.getfield 110, 3) := by decide +kernel
theorem dX5_findBlue_87 : decode cX5_findBlue 87 = .ok (.putfield 110, 3) := by decide +kernel
theorem dX5_findBlue_90 : decode cX5_findBlue 90 = .ok (.aload_n 0, 1) := by decide +kernel
theorem dX5_findBlue_91 : decode cX5_findBlue 91 = .ok (.iload 4, 2) := by decide +kernel
theorem dX5_findBlue_93 : decode cX5_findBlue 93 = .ok (.aload_n 0, 1) := by decide +kernel
theorem dX5_findBlue_94 : decode cX5_findBlue 94 = .ok (.getfield 104, 3) := by decide +kernel
theorem dX5_findBlue_97 : decode cX5_findBlue 97 = .ok (.if_icmp .ge 8, 3) := by decide +kernel
theorem dX5_findBlue_100 : decode cX5_findBlue 100 = .ok (.iload 4, 2) := by decide +kernel
theorem dX5_findBlue_102 : decode cX5_findBlue 102 = .ok (.goto 7, 3) := by decide +kernel
theorem dX5_findBlue_105 : decode cX5_findBlue 105 = .ok (.aload_n 0, 1) := by decide +kernel
theorem dX5_findBlue_106 : decode cX5_findBlue 106 = .ok (.getfield 104, 3) := by decide +kernel
theorem dX5_findBlue_109 : decode cX5_findBlue 109 = .ok (.putfield 104, 3) := by decide +kernel
theorem dX5_findBlue_112 : decode cX5_findBlue 112 = .ok (.iinc 1 1, 3) := by decide +kernel
theorem dX5_findBlue_115 : decode cX5_findBlue 115 = .ok (.goto (-106), 3) := by decide +kernel
theorem dX5_findBlue_118 : decode cX5_findBlue 118 = .ok (.aload_n 0, 1) := by decide +kernel
theorem dX5_findBlue_119 : decode cX5_findBlue 119 = .ok (.getfield 104, 3) := by decide +kernel
theorem dX5_findBlue_122 : decode cX5_findBlue 122 = .ok (.sipush 2000, 3) := by decide +kernel
theorem dX5_findBlue_125 : decode cX5_findBlue 125 = .ok (.if_icmp .ge 7, 3) := by decide +kernel
theorem dX5_findBlue_128 : decode cX5_findBlue 128 = .ok (.iconst 1, 1) := by decide +kernel
theorem dX5_findBlue_129 : decode cX5_findBlue 129 = .ok (.goto 4, 3) := by decide +kernel
theorem dX5_findBlue_132 : decode cX5_findBlue 132 = .ok (.iconst 0, 1) := by decide +kernel
theorem dX5_findBlue_133 : decode cX5_findBlue 133 = .ok (.ireturn, 1) := by decide +kernel
theorem dX5_learn_0 : decode cX5_learn 0 = .ok (.aload_n 0, 1) := by decide +kernel
theorem dX5_learn_1 : decode cX5_learn 1 = .ok (.iconst 0, 1) := by decide +kernel
theorem dX5_learn_2 : decode cX5_learn 2 = .ok (.putfield 59, 3) := by decide +kernel
theorem dX5_learn_5 : decode cX5_learn 5 = .ok (.aload_n 0, 1) := by decide +kernel
theorem dX5_learn_6 : decode cX5_learn 6 = .ok (.invokevirtual 113, 3) := by decide +kernel
theorem dX5_learn_9 : decode cX5_learn 9 = .ok (.aload_n 0, 1) := by decide +kernel
theorem dX5_learn_10 : decode cX5_learn 10 = .ok (.invokevirtual 116, 3) := by decide +kernel
theorem dX5_learn_13 : decode cX5_learn 13 = .ok (.ifCond .eq 87, 3) := by decide +kernel
theorem dX5_learn_16 : decode cX5_learn 16 = .ok (.aload_n 0, 1) := by decide +kernel
theorem dX5_learn_17 : decode cX5_learn 17 = .ok (.getfield 110, 3) := by decide +kernel
theorem dX5_learn_20 : decode cX5_learn 20 = .ok (.istore_n 1, 1) := by decide +kernel
theorem dX5_learn_21 : decode cX5_learn 21 = .ok (.aload_n 0, 1) := by decide +kernel
theorem dX5_learn_22 : decode cX5_learn 22 = .ok (.getfield 104, 3) := by decide +kernel
theorem dX5_learn_25 : decode cX5_learn 25 = .ok (.istore_n 2, 1) := by decide +kernel
theorem dX5_learn_26 : decode cX5_learn 26 = .ok (.iconst 0, 1) := by decide +kernel
theorem dX5_learn_27 : decode cX5_learn 27 = .ok (.istore_n 3, 1) := by decide +kernel
theorem dX5_learn_28 : decode cX5_learn 28 = .ok (.iconst 0, 1) := by decide +kernel
theorem dX5_learn_29 : decode cX5_learn 29 = .ok (.istore 4, 2) := by decide +kernel
theorem dX5_learn_31 : decode cX5_learn 31 = .ok (.iload 4, 2) := by decide +kernel
theorem dX5_learn_33 : decode cX5_learn 33 = .ok (.aload_n 0, 1) := by decide +kernel
theorem dX5_learn_34 : decode cX5_learn 34 = .ok (.getfield 85, 3) := by decide +kernel
theorem dX5_learn_37 : decode cX5_learn 37 = .ok (.if_icmp .ge 26, 3) := by decide +kernel
theorem dX5_learn_40 : decode cX5_learn 40 = .ok (.iload_n 3, 1) := by decide +kernel
theorem dX5_learn_41 : decode cX5_learn 41 = .ok (.ifCond .ne 22, 3) := by decide +kernel
theorem dX5_learn_44 : decode cX5_learn 44 = .ok (.aload_n 0, 1) := by decide +kernel
theorem dX5_learn_45 : decode cX5_learn 45 = .ok (.aload_n 0, 1) := by decide +kernel
theorem dX5_learn_46 : decode cX5_learn 46 = .ok (.getfield 32, 3) := by decide +kernel
theorem dX5_learn_49 : decode cX5_learn 49 = .ok (.iload 4, 2) := by decide +kernel
theorem dX5_learn_51 : decode cX5_learn 51 = .ok (.iaload, 1) := by decide +kernel
theorem dX5_learn_52 : decode cX5_learn 52 = .ok (.iload_n 1, 1) := by decide +kernel
theorem dX5_learn_53 : decode cX5_learn 53 = .ok (.invokevirtual 119, 3) := by decide +kernel
theorem dX5_learn_56 : decode cX5_learn 56 = .ok (.istore_n 3, 1) := by decide +kernel
theorem dX5_learn_57 : decode cX5_learn 57 = .ok (.iinc 4 1, 3) := by decide +kernel
theorem dX5_learn_60 : decode cX5_learn 60 = .ok (.goto (-29), 3) := by decide +kernel
theorem dX5_learn_63 : decode cX5_learn 63 = .ok (.iload_n 3, 1) := by decide +kernel
theorem dX5_learn_64 : decode cX5_learn 64 = .ok (.ifCond .ne 33, 3) := by decide +kernel
theorem dX5_learn_67 : decode cX5_learn 67 = .ok (.aload_n 0, 1) := by decide +kernel
theorem dX5_learn_68 : decode cX5_learn 68 = .ok (.getfield 32, 3) := by decide +kernel
theorem dX5_learn_71 : decode cX5_learn 71 = .ok (.aload_n 0, 1) := by decide +kernel
theorem dX5_learn_72 : decode cX5_learn 72 = .ok (.getfield 85, 3) := by decide +kernel
theorem dX5_learn_75 : decode cX5_learn 75 = .ok (.iload_n 1, 1) := by decide +kernel
theorem dX5_learn_76 : decode cX5_learn 76 = .ok (.iastore, 1) := by decide +kernel
theorem dX5_learn_77 : decode cX5_learn 77 = .ok (.aload_n 0, 1) := by decide +kernel
theorem dX5_learn_78 : decode cX5_learn 78 = .ok (.getfield 35, 3) := by decide +kernel
theorem dX5_learn_81 : decode cX5_learn 81 = .ok (.aload_n 0, 1) := by decide +kernel
theorem dX5_learn_82 : decode cX5_learn 82 = .ok (.getfield 85, 3) := by decide +kernel
theorem dX5_learn_85 : decode cX5_learn 85 = .ok (.iload_n 2, 1) := by decide +kernel
theorem dX5_learn_86 : decode cX5_learn 86 = .ok (.iastore, 1) := by decide +kernel
theorem dX5_learn_87 : decode cX5_learn 87 = .ok (.aload_n 0, 1) := by decide +kernel
theorem dX5_learn_88 : decode cX5_learn 88 = .ok (.dup, 1) := by decide +kernel
theorem dX5_learn_89 : decode cX5_learn 89 = .ok (.getfield 85, 3) := by decide +kernel
theorem dX5_learn_92 : decode cX5_learn 92 = .ok (.iconst 1, 1) := by decide +kernel
theorem dX5_learn_93 : decode cX5_learn 93 = .ok (.iadd, 1) := by decide +kernel
theorem dX5_learn_94 : decode cX5_learn 94 = .ok (.putfield 85, 3) := by decide +kernel
theorem dX5_learn_97 : decode cX5_learn 97 = .ok (.goto (-88), 3) := by decide +kernel
theorem dX5_learn_100 : decode cX5_learn 100 = .ok (.aload_n 0, 1) := by decide +kernel
theorem dX5_learn_101 : decode cX5_learn 101 = .ok (.aload_n 0, 1) := by decide +kernel
theorem dX5_learn_102 : decode cX5_learn 102 = .ok (.getfield 85, 3) := by decide +kernel
theorem dX5_learn_105 : decode cX5_learn 105 = .ok (.putfield 122, 3) := by decide +kernel
theorem dX5_learn_108 : decode cX5_learn 108 = .ok (.iconst 0, 1) := by decide +kernel
theorem dX5_learn_109 : decode cX5_learn 109 = .ok (.istore_n 1, 1) := by decide +kernel
theorem dX5_learn_110 : decode cX5_learn 110 = .ok (.iload_n 1, 1) := by decide +kernel
theorem dX5_learn_111 : decode cX5_learn 111 = .ok (.aload_n 0, 1) := by decide +kernel
theorem dX5_learn_112 : decode cX5_learn 112 = .ok (.getfield 85, 3) := by decide +kernel
theorem dX5_learn_115 : decode cX5_learn 115 = .ok (.if_icmp .ge 51, 3) := by decide +kernel
theorem dX5_learn_118 : decode cX5_learn 118 = .ok (.aload_n 0, 1) := by decide +kernel
theorem dX5_learn_119 : decode cX5_learn 119 = .ok (.getfield 41, 3) := by decide +kernel
theorem dX5_learn_122 : decode cX5_learn 122 = .ok (.iload_n 1, 1) := by decide +kernel
theorem dX5_learn_123 : decode cX5_learn 123 = .ok (.aload_n 0, 1) := by decide +kernel
theorem dX5_learn_124 : decode cX5_learn 124 = .ok (.getfield 20, 3) := by decide +kernel
theorem dX5_learn_127 : decode cX5_learn 127 = .ok (.aload_n 0, 1) := by decide +kernel
theorem dX5_learn_128 : decode cX5_learn 128 = .ok (.getfield 17, 3) := by decide +kernel
theorem dX5_learn_131 : decode cX5_learn 131 = .ok (.aload_n 0, 1) := by decide +kernel
theorem dX5_learn_132 : decode cX5_learn 132 = .ok (.getfield 32, 3) := by decide +kernel
theorem dX5_learn_135 : decode cX5_learn 135 = .ok (.iload_n 1, 1) := by decide +kernel
theorem dX5_learn_136 : decode cX5_learn 136 = .ok (.iaload, 1) := by decide +kernel
theorem dX5_learn_137 : decode cX5_learn 137 = .ok (.iaload, 1) := by decide +kernel
theorem dX5_learn_138 : decode cX5_learn 138 = .ok (.iaload, 1) := by decide +kernel
theorem dX5_learn_139 : decode cX5_learn 139 = .ok (.iastore, 1) := by decide +kernel
theorem dX5_learn_140 : decode cX5_learn 140 = .ok (.aload_n 0, 1) := by decide +kernel
theorem dX5_learn_141 : decode cX5_learn 141 = .ok (.getfield 38, 3) := by decide +kernel
theorem dX5_learn_144 : decode cX5_learn 144 = .ok (.iconst 2, 1) := by decide +kernel
theorem dX5_learn_145 : decode cX5_learn 145 = .ok (.iload_n 1, 1) := by decide +kernel
theorem dX5_learn_146 : decode cX5_learn 146 = .ok (.imul, 1) := by decide +kernel
theorem dX5_learn_147 : decode cX5_learn 147 = .ok (.iconst (-1), 1) := by decide +kernel
theorem dX5_learn_148 : decode cX5_learn 148 = .ok (.iastore, 1) := by decide +kernel
theorem dX5_learn_149 : decode cX5_learn 149 = .ok (.aload_n 0, 1) := by decide +kernel
theorem dX5_learn_150 : decode cX5_learn 150 = .ok (.getfield 38, 3) := by decide +kernel
theorem dX5_learn_153 : decode cX5_learn 153 = .ok (.iconst 2, 1) := by decide +kernel
theorem dX5_learn_154 : decode cX5_learn 154 = .ok (.iload_n 1, 1) := by decide +kernel
theorem dX5_learn_155 : decode cX5_learn 155 = .ok (.imul, 1) := by decide +kernel
theorem dX5_learn_156 : decode cX5_learn 156 = .ok (.iconst 1, 1) := by decide +kernel
theorem dX5_learn_157 : decode cX5_learn 157 = .ok (.iadd, 1) := by decide +kernel
theorem dX5_learn_158 : decode cX5_learn 158 = .ok (.iconst (-1), 1) := by decide +kernel
theorem dX5_learn_159 : decode cX5_learn 159 = .ok (.iastore, 1) := by decide +kernel
theorem dX5_learn_160 : decode cX5_learn 160 = .ok (.iinc 1 1, 3) := by decide +kernel
theorem dX5_learn_163 : decode cX5_learn 163 = .ok (.goto (-53), 3) := by decide +kernel
theorem dX5_learn_166 : decode cX5_learn 166 = .ok (.iconst 1, 1) := by decide +kernel
theorem dX5_learn_167 : decode cX5_learn 167 = .ok (.istore_n 1, 1) := by decide +kernel
theorem dX5_learn_168 : decode cX5_learn 168 = .ok (.iload_n 1, 1) := by decide +kernel
theorem dX5_learn_169 : decode cX5_learn 169 = .ok (.sipush 511, 3) := by decide +kernel
theorem dX5_learn_172 : decode cX5_learn 172 = .ok (.if_icmp .ge 45, 3) := by decide +kernel
theorem dX5_learn_175 : decode cX5_learn 175 = .ok (.aload_n 0, 1) := by decide +kernel
theorem dX5_learn_176 : decode cX5_learn 176 = .ok (.getfield 13, 3) := by decide +kernel
theorem dX5_learn_179 : decode cX5_learn 179 = .ok (.iload_n 1, 1) := by decide +kernel
theorem dX5_learn_180 : decode cX5_learn 180 = .ok (.baload, 1) := by decide +kernel
theorem dX5_learn_181 : decode cX5_learn 181 = .ok (.ifCond .eq 30, 3) := by decide +kernel
theorem dX5_learn_184 : decode cX5_learn 184 = .ok (.aload_n 0, 1) := by decide +kernel
theorem dX5_learn_185 : decode cX5_learn 185 = .ok (.getfield 38, 3) := by decide +kernel
theorem dX5_learn_188 : decode cX5_learn 188 = .ok (.iconst 2, 1) := by decide +kernel
theorem dX5_learn_189 : decode cX5_learn 189 = .ok (.aload_n 0, 1) := by decide +kernel
theorem dX5_learn_190 : decode cX5_learn 190 = .ok (.iload_n 1, 1) := by decide +kernel
theorem dX5_learn_191 : decode cX5_learn 191 = .ok (.iconst 1, 1) := by decide +kernel
theorem dX5_learn_192 : decode cX5_learn 192 = .ok (.isub, 1) := by decide +kernel
theorem dX5_learn_193 : decode cX5_learn 193 = .ok (.iconst 2, 1) := by decide +kernel
theorem dX5_learn_194 : decode cX5_learn 194 = .ok (.idiv, 1) := by decide +kernel
theorem dX5_learn_195 : decode cX5_learn 195 = .ok (.invokevirtual 107, 3) := by decide +kernel
theorem dX5_learn_198 : decode cX5_learn 198 = .ok (.imul, 1) := by decide +kernel
theorem dX5_learn_199 : decode cX5_learn 199 = .ok (.iload_n 1, 1) := by decide +kernel
theorem dX5_learn_200 : decode cX5_learn 200 = .ok (.iconst 1, 1) := by decide +kernel
theorem dX5_learn_201 : decode cX5_learn 201 = .ok (.isub, 1) := by decide +kernel
theorem dX5_learn_202 : decode cX5_learn 202 = .ok (.iconst 2, 1) := by decide +kernel
theorem dX5_learn_203 : decode cX5_learn 203 = .ok (.irem, 1) := by decide +kernel
theorem dX5_learn_204 : decode cX5_learn 204 = .ok (.iadd, 1) := by decide +kernel
theorem dX5_learn_205 : decode cX5_learn 205 = .ok (.aload_n 0, 1) := by decide +kernel
theorem dX5_learn_206 : decode cX5_learn 206 = .ok (.iload_n 1, 1) := by decide +kernel
theorem dX5_learn_207 : decode cX5_learn 207 = .ok (.invokevirtual 107, 3) := by decide +kernel
theorem dX5_learn_210 : decode cX5_learn 210 = .ok (.iastore, 1) := by decide +kernel
theorem dX5_learn_211 : decode cX5_learn 211 = .ok (.iinc 1 1, 3) := by decide +kernel
theorem dX5_learn_214 : decode cX5_learn 214 = .ok (.goto (-46), 3) := by decide +kernel
theorem dX5_learn_217 : decode cX5_learn 217 = .ok (.aload_n 0, 1) := by decide +kernel
theorem dX5_learn_218 : decode cX5_learn 218 = .ok (.getfield 122, 3) := by decide +kernel
theorem dX5_learn_221 : decode cX5_learn 221 = .ok (.ireturn, 1) := by decide +kernel
theorem dX5_states_0 : decode cX5_states 0 = .ok (.aload_n 0, 1) := by decide +kernel
theorem dX5_states_1 : decode cX5_states 1 = .ok (.iconst 0, 1) := by decide +kernel
theorem dX5_states_2 : decode cX5_states 2 = .ok (.putfield 59, 3) := by decide +kernel
theorem dX5_states_5 : decode cX5_states 5 = .ok (.aload_n 0, 1) := by decide +kernel
theorem dX5_states_6 : decode cX5_states 6 = .ok (.getfield 122, 3) := by decide +kernel
theorem dX5_states_9 : decode cX5_states 9 = .ok (.ireturn, 1) := by decide +kernel
theorem dX5_isState_0 : decode cX5_isState 0 = .ok (.iload_n 1, 1) := by decide +kernel
theorem dX5_isState_1 : decode cX5_isState 1 = .ok (.ifCond .lt 15, 3) := by decide +kernel
theorem dX5_isState_4 : decode cX5_isState 4 = .ok (.iload_n 1, 1) := by decide +kernel
theorem dX5_isState_5 : decode cX5_isState 5 = .ok (.aload_n 0, 1) := by decide +kernel
theorem dX5_isState_6 : decode cX5_isState 6 = .ok (.getfield 122, 3) := by decide +kernel
theorem dX5_isState_9 : decode cX5_isState 9 = .ok (.if_icmp .ge 7, 3) := by decide +kernel
theorem dX5_isState_12 : decode cX5_isState 12 = .ok (.iconst 1, 1) := by decide +kernel
theorem dX5_isState_13 : decode cX5_isState 13 = .ok (.goto 4, 3) := by decide +kernel
theorem dX5_isState_16 : decode cX5_isState 16 = .ok (.iconst 0, 1) := by decide +kernel
theorem dX5_isState_17 : decode cX5_isState 17 = .ok (.ireturn, 1) := by decide +kernel
theorem dX5_next_0 : decode cX5_next 0 = .ok (.aload_n 0, 1) := by decide +kernel
theorem dX5_next_1 : decode cX5_next 1 = .ok (.aload_n 0, 1) := by decide +kernel
theorem dX5_next_2 : decode cX5_next 2 = .ok (.iload_n 1, 1) := by decide +kernel
theorem dX5_next_3 : decode cX5_next 3 = .ok (.invokevirtual 125, 3) := by decide +kernel
theorem dX5_next_6 : decode cX5_next 6 = .ok (.ifCond .eq 16, 3) := by decide +kernel
theorem dX5_next_9 : decode cX5_next 9 = .ok (.iload_n 2, 1) := by decide +kernel
theorem dX5_next_10 : decode cX5_next 10 = .ok (.ifCond .lt 12, 3) := by decide +kernel
theorem dX5_next_13 : decode cX5_next 13 = .ok (.iload_n 2, 1) := by decide +kernel
theorem dX5_next_14 : decode cX5_next 14 = .ok (.iconst 1, 1) := by decide +kernel
theorem dX5_next_15 : decode cX5_next 15 = .ok (.if_icmp .gt 7, 3) := by decide +kernel
theorem dX5_next_18 : decode cX5_next 18 = .ok (.iconst 1, 1) := by decide +kernel
theorem dX5_next_19 : decode cX5_next 19 = .ok (.goto 4, 3) := by decide +kernel
theorem dX5_next_22 : decode cX5_next 22 = .ok (.iconst 0, 1) := by decide +kernel
theorem dX5_next_23 : decode cX5_next 23 = .ok (.iconst 1, 1) := by decide +kernel
theorem dX5_next_24 : decode cX5_next 24 = .ok (.invokevirtual 78, 3) := by decide +kernel
theorem dX5_next_27 : decode cX5_next 27 = .ok (.ifCond .eq 16, 3) := by decide +kernel
theorem dX5_next_30 : decode cX5_next 30 = .ok (.aload_n 0, 1) := by decide +kernel
theorem dX5_next_31 : decode cX5_next 31 = .ok (.getfield 38, 3) := by decide +kernel
theorem dX5_next_34 : decode cX5_next 34 = .ok (.iconst 2, 1) := by decide +kernel
theorem dX5_next_35 : decode cX5_next 35 = .ok (.iload_n 1, 1) := by decide +kernel
theorem dX5_next_36 : decode cX5_next 36 = .ok (.imul, 1) := by decide +kernel
theorem dX5_next_37 : decode cX5_next 37 = .ok (.iload_n 2, 1) := by decide +kernel
theorem dX5_next_38 : decode cX5_next 38 = .ok (.iadd, 1) := by decide +kernel
theorem dX5_next_39 : decode cX5_next 39 = .ok (.iaload, 1) := by decide +kernel
theorem dX5_next_40 : decode cX5_next 40 = .ok (.goto 4, 3) := by decide +kernel
theorem dX5_next_43 : decode cX5_next 43 = .ok (.iconst 0, 1) := by decide +kernel
theorem dX5_next_44 : decode cX5_next 44 = .ok (.ireturn, 1) := by decide +kernel
theorem dX5_sign_0 : decode cX5_sign 0 = .ok (.aload_n 0, 1) := by decide +kernel
theorem dX5_sign_1 : decode cX5_sign 1 = .ok (.aload_n 0, 1) := by decide +kernel
theorem dX5_sign_2 : decode cX5_sign 2 = .ok (.iload_n 1, 1) := by decide +kernel
theorem dX5_sign_3 : decode cX5_sign 3 = .ok (.invokevirtual 125, 3) := by decide +kernel
theorem dX5_sign_6 : decode cX5_sign 6 = .ok (.iconst 1, 1) := by decide +kernel
theorem dX5_sign_7 : decode cX5_sign 7 = .ok (.invokevirtual 78, 3) := by decide +kernel
theorem dX5_sign_10 : decode cX5_sign 10 = .ok (.ifCond .eq 12, 3) := by decide +kernel
theorem dX5_sign_13 : decode cX5_sign 13 = .ok (.aload_n 0, 1) := by decide +kernel
theorem dX5_sign_14 : decode cX5_sign 14 = .ok (.getfield 41, 3) := by decide +kernel
theorem dX5_sign_17 : decode cX5_sign 17 = .ok (.iload_n 1, 1) := by decide +kernel
theorem dX5_sign_18 : decode cX5_sign 18 = .ok (.iaload, 1) := by decide +kernel
theorem dX5_sign_19 : decode cX5_sign 19 = .ok (.goto 4, 3) := by decide +kernel
theorem dX5_sign_22 : decode cX5_sign 22 = .ok (.iconst 0, 1) := by decide +kernel
theorem dX5_sign_23 : decode cX5_sign 23 = .ok (.ireturn, 1) := by decide +kernel
theorem dX5_accepts_0 : decode cX5_accepts 0 = .ok (.aload_n 0, 1) := by decide +kernel
theorem dX5_accepts_1 : decode cX5_accepts 1 = .ok (.iload_n 1, 1) := by decide +kernel
theorem dX5_accepts_2 : decode cX5_accepts 2 = .ok (.iload_n 2, 1) := by decide +kernel
theorem dX5_accepts_3 : decode cX5_accepts 3 = .ok (.invokestatic 74, 3) := by decide +kernel
theorem dX5_accepts_6 : decode cX5_accepts 6 = .ok (.iconst 1, 1) := by decide +kernel
theorem dX5_accepts_7 : decode cX5_accepts 7 = .ok (.invokevirtual 78, 3) := by decide +kernel
theorem dX5_accepts_10 : decode cX5_accepts 10 = .ok (.ifCond .eq 23, 3) := by decide +kernel
theorem dX5_accepts_13 : decode cX5_accepts 13 = .ok (.aload_n 0, 1) := by decide +kernel
theorem dX5_accepts_14 : decode cX5_accepts 14 = .ok (.aload_n 0, 1) := by decide +kernel
theorem dX5_accepts_15 : decode cX5_accepts 15 = .ok (.getfield 122, 3) := by decide +kernel
theorem dX5_accepts_18 : decode cX5_accepts 18 = .ok (.ifCond .le 7, 3) := by decide +kernel
theorem dX5_accepts_21 : decode cX5_accepts 21 = .ok (.iconst 1, 1) := by decide +kernel
theorem dX5_accepts_22 : decode cX5_accepts 22 = .ok (.goto 4, 3) := by decide +kernel
theorem dX5_accepts_25 : decode cX5_accepts 25 = .ok (.iconst 0, 1) := by decide +kernel
theorem dX5_accepts_26 : decode cX5_accepts 26 = .ok (.iconst 2, 1) := by decide +kernel
theorem dX5_accepts_27 : decode cX5_accepts 27 = .ok (.invokevirtual 78, 3) := by decide +kernel
theorem dX5_accepts_30 : decode cX5_accepts 30 = .ok (.ifCond .ne 5, 3) := by decide +kernel
theorem dX5_accepts_33 : decode cX5_accepts 33 = .ok (.iconst 0, 1) := by decide +kernel
theorem dX5_accepts_34 : decode cX5_accepts 34 = .ok (.ireturn, 1) := by decide +kernel
theorem dX5_accepts_35 : decode cX5_accepts 35 = .ok (.iconst 0, 1) := by decide +kernel
theorem dX5_accepts_36 : decode cX5_accepts 36 = .ok (.istore_n 3, 1) := by decide +kernel
theorem dX5_accepts_37 : decode cX5_accepts 37 = .ok (.iload_n 1, 1) := by decide +kernel
theorem dX5_accepts_38 : decode cX5_accepts 38 = .ok (.iconst 1, 1) := by decide +kernel
theorem dX5_accepts_39 : decode cX5_accepts 39 = .ok (.isub, 1) := by decide +kernel
theorem dX5_accepts_40 : decode cX5_accepts 40 = .ok (.istore 4, 2) := by decide +kernel
theorem dX5_accepts_42 : decode cX5_accepts 42 = .ok (.iload 4, 2) := by decide +kernel
theorem dX5_accepts_44 : decode cX5_accepts 44 = .ok (.ifCond .lt 29, 3) := by decide +kernel
theorem dX5_accepts_47 : decode cX5_accepts 47 = .ok (.iload_n 3, 1) := by decide +kernel
theorem dX5_accepts_48 : decode cX5_accepts 48 = .ok (.ifCond .lt 25, 3) := by decide +kernel
theorem dX5_accepts_51 : decode cX5_accepts 51 = .ok (.aload_n 0, 1) := by decide +kernel
theorem dX5_accepts_52 : decode cX5_accepts 52 = .ok (.getfield 38, 3) := by decide +kernel
theorem dX5_accepts_55 : decode cX5_accepts 55 = .ok (.iconst 2, 1) := by decide +kernel
theorem dX5_accepts_56 : decode cX5_accepts 56 = .ok (.iload_n 3, 1) := by decide +kernel
theorem dX5_accepts_57 : decode cX5_accepts 57 = .ok (.imul, 1) := by decide +kernel
theorem dX5_accepts_58 : decode cX5_accepts 58 = .ok (.iload_n 2, 1) := by decide +kernel
theorem dX5_accepts_59 : decode cX5_accepts 59 = .ok (.iload 4, 2) := by decide +kernel
theorem dX5_accepts_61 : decode cX5_accepts 61 = .ok (.ishr, 1) := by decide +kernel
theorem dX5_accepts_62 : decode cX5_accepts 62 = .ok (.iconst 1, 1) := by decide +kernel
theorem dX5_accepts_63 : decode cX5_accepts 63 = .ok (.iand, 1) := by decide +kernel
theorem dX5_accepts_64 : decode cX5_accepts 64 = .ok (.iadd, 1) := by decide +kernel
theorem dX5_accepts_65 : decode cX5_accepts 65 = .ok (.iaload, 1) := by decide +kernel
theorem dX5_accepts_66 : decode cX5_accepts 66 = .ok (.istore_n 3, 1) := by decide +kernel
theorem dX5_accepts_67 : decode cX5_accepts 67 = .ok (.iinc 4 (-1), 3) := by decide +kernel
theorem dX5_accepts_70 : decode cX5_accepts 70 = .ok (.goto (-28), 3) := by decide +kernel
theorem dX5_accepts_73 : decode cX5_accepts 73 = .ok (.iload_n 3, 1) := by decide +kernel
theorem dX5_accepts_74 : decode cX5_accepts 74 = .ok (.ifCond .lt 17, 3) := by decide +kernel
theorem dX5_accepts_77 : decode cX5_accepts 77 = .ok (.aload_n 0, 1) := by decide +kernel
theorem dX5_accepts_78 : decode cX5_accepts 78 = .ok (.getfield 41, 3) := by decide +kernel
theorem dX5_accepts_81 : decode cX5_accepts 81 = .ok (.iload_n 3, 1) := by decide +kernel
theorem dX5_accepts_82 : decode cX5_accepts 82 = .ok (.iaload, 1) := by decide +kernel
theorem dX5_accepts_83 : decode cX5_accepts 83 = .ok (.iconst 1, 1) := by decide +kernel
theorem dX5_accepts_84 : decode cX5_accepts 84 = .ok (.if_icmp .ne 7, 3) := by decide +kernel
theorem dX5_accepts_87 : decode cX5_accepts 87 = .ok (.iconst 1, 1) := by decide +kernel
theorem dX5_accepts_88 : decode cX5_accepts 88 = .ok (.goto 4, 3) := by decide +kernel
theorem dX5_accepts_91 : decode cX5_accepts 91 = .ok (.iconst 0, 1) := by decide +kernel
theorem dX5_accepts_92 : decode cX5_accepts 92 = .ok (.ireturn, 1) := by decide +kernel
theorem dX5_draft_0 : decode cX5_draft 0 = .ok (.aload_n 0, 1) := by decide +kernel
theorem dX5_draft_1 : decode cX5_draft 1 = .ok (.iload_n 1, 1) := by decide +kernel
theorem dX5_draft_2 : decode cX5_draft 2 = .ok (.iconst 1, 1) := by decide +kernel
theorem dX5_draft_3 : decode cX5_draft 3 = .ok (.if_icmp .lt 12, 3) := by decide +kernel
theorem dX5_draft_6 : decode cX5_draft 6 = .ok (.iload_n 1, 1) := by decide +kernel
theorem dX5_draft_7 : decode cX5_draft 7 = .ok (.iconst 5, 1) := by decide +kernel
theorem dX5_draft_8 : decode cX5_draft 8 = .ok (.if_icmp .gt 7, 3) := by decide +kernel
theorem dX5_draft_11 : decode cX5_draft 11 = .ok (.iconst 1, 1) := by decide +kernel
theorem dX5_draft_12 : decode cX5_draft 12 = .ok (.goto 4, 3) := by decide +kernel
theorem dX5_draft_15 : decode cX5_draft 15 = .ok (.iconst 0, 1) := by decide +kernel
theorem dX5_draft_16 : decode cX5_draft 16 = .ok (.iconst 1, 1) := by decide +kernel
theorem dX5_draft_17 : decode cX5_draft 17 = .ok (.invokevirtual 78, 3) := by decide +kernel
theorem dX5_draft_20 : decode cX5_draft 20 = .ok (.ifCond .ne 4, 3) := by decide +kernel
theorem dX5_draft_23 : decode cX5_draft 23 = .ok (.return_, 1) := by decide +kernel
theorem dX5_draft_24 : decode cX5_draft 24 = .ok (.aload_n 0, 1) := by decide +kernel
theorem dX5_draft_25 : decode cX5_draft 25 = .ok (.iload_n 1, 1) := by decide +kernel
theorem dX5_draft_26 : decode cX5_draft 26 = .ok (.putfield 129, 3) := by decide +kernel
theorem dX5_draft_29 : decode cX5_draft 29 = .ok (.iconst 0, 1) := by decide +kernel
theorem dX5_draft_30 : decode cX5_draft 30 = .ok (.istore_n 2, 1) := by decide +kernel
theorem dX5_draft_31 : decode cX5_draft 31 = .ok (.iload_n 2, 1) := by decide +kernel
theorem dX5_draft_32 : decode cX5_draft 32 = .ok (.iload_n 1, 1) := by decide +kernel
theorem dX5_draft_33 : decode cX5_draft 33 = .ok (.if_icmp .ge 36, 3) := by decide +kernel
theorem dX5_draft_36 : decode cX5_draft 36 = .ok (.aload_n 0, 1) := by decide +kernel
theorem dX5_draft_37 : decode cX5_draft 37 = .ok (.getfield 44, 3) := by decide +kernel
theorem dX5_draft_40 : decode cX5_draft 40 = .ok (.iload_n 2, 1) := by decide +kernel
theorem dX5_draft_41 : decode cX5_draft 41 = .ok (.iconst 0, 1) := by decide +kernel
theorem dX5_draft_42 : decode cX5_draft 42 = .ok (.bastore, 1) := by decide +kernel
theorem dX5_draft_43 : decode cX5_draft 43 = .ok (.aload_n 0, 1) := by decide +kernel
theorem dX5_draft_44 : decode cX5_draft 44 = .ok (.getfield 47, 3) := by decide +kernel
theorem dX5_draft_47 : decode cX5_draft 47 = .ok (.iconst 2, 1) := by decide +kernel
theorem dX5_draft_48 : decode cX5_draft 48 = .ok (.iload_n 2, 1) := by decide +kernel
theorem dX5_draft_49 : decode cX5_draft 49 = .ok (.imul, 1) := by decide +kernel
theorem dX5_draft_50 : decode cX5_draft 50 = .ok (.iload_n 2, 1) := by decide +kernel
theorem dX5_draft_51 : decode cX5_draft 51 = .ok (.iastore, 1) := by decide +kernel
theorem dX5_draft_52 : decode cX5_draft 52 = .ok (.aload_n 0, 1) := by decide +kernel
theorem dX5_draft_53 : decode cX5_draft 53 = .ok (.getfield 47, 3) := by decide +kernel
theorem dX5_draft_56 : decode cX5_draft 56 = .ok (.iconst 2, 1) := by decide +kernel
theorem dX5_draft_57 : decode cX5_draft 57 = .ok (.iload_n 2, 1) := by decide +kernel
theorem dX5_draft_58 : decode cX5_draft 58 = .ok (.imul, 1) := by decide +kernel
theorem dX5_draft_59 : decode cX5_draft 59 = .ok (.iconst 1, 1) := by decide +kernel
theorem dX5_draft_60 : decode cX5_draft 60 = .ok (.iadd, 1) := by decide +kernel
theorem dX5_draft_61 : decode cX5_draft 61 = .ok (.iload_n 2, 1) := by decide +kernel
theorem dX5_draft_62 : decode cX5_draft 62 = .ok (.iastore, 1) := by decide +kernel
theorem dX5_draft_63 : decode cX5_draft 63 = .ok (.iinc 2 1, 3) := by decide +kernel
theorem dX5_draft_66 : decode cX5_draft 66 = .ok (.goto (-35), 3) := by decide +kernel
theorem dX5_draft_69 : decode cX5_draft 69 = .ok (.return_, 1) := by decide +kernel
theorem dX5_isDrafted_0 : decode cX5_isDrafted 0 = .ok (.iload_n 1, 1) := by decide +kernel
theorem dX5_isDrafted_1 : decode cX5_isDrafted 1 = .ok (.ifCond .lt 15, 3) := by decide +kernel
theorem dX5_isDrafted_4 : decode cX5_isDrafted 4 = .ok (.iload_n 1, 1) := by decide +kernel
theorem dX5_isDrafted_5 : decode cX5_isDrafted 5 = .ok (.aload_n 0, 1) := by decide +kernel
theorem dX5_isDrafted_6 : decode cX5_isDrafted 6 = .ok (.getfield 129, 3) := by decide +kernel
theorem dX5_isDrafted_9 : decode cX5_isDrafted 9 = .ok (.if_icmp .ge 7, 3) := by decide +kernel
theorem dX5_isDrafted_12 : decode cX5_isDrafted 12 = .ok (.iconst 1, 1) := by decide +kernel
theorem dX5_isDrafted_13 : decode cX5_isDrafted 13 = .ok (.goto 4, 3) := by decide +kernel
theorem dX5_isDrafted_16 : decode cX5_isDrafted 16 = .ok (.iconst 0, 1) := by decide +kernel
theorem dX5_isDrafted_17 : decode cX5_isDrafted 17 = .ok (.ireturn, 1) := by decide +kernel
theorem dX5_define_0 : decode cX5_define 0 = .ok (.aload_n 0, 1) := by decide +kernel
theorem dX5_define_1 : decode cX5_define 1 = .ok (.aload_n 0, 1) := by decide +kernel
theorem dX5_define_2 : decode cX5_define 2 = .ok (.getfield 129, 3) := by decide +kernel
theorem dX5_define_5 : decode cX5_define 5 = .ok (.ifCond .le 7, 3) := by decide +kernel
theorem dX5_define_8 : decode cX5_define 8 = .ok (.iconst 1, 1) := by decide +kernel
theorem dX5_define_9 : decode cX5_define 9 = .ok (.goto 4, 3) := by decide +kernel
theorem dX5_define_12 : decode cX5_define 12 = .ok (.iconst 0, 1) := by decide +kernel
theorem dX5_define_13 : decode cX5_define 13 = .ok (.iconst 1, 1) := by decide +kernel
theorem dX5_define_14 : decode cX5_define 14 = .ok (.invokevirtual 78, 3) := by decide +kernel
theorem dX5_define_17 : decode cX5_define 17 = .ok (.ifCond .eq 41, 3) := by decide +kernel
theorem dX5_define_20 : decode cX5_define 20 = .ok (.aload_n 0, 1) := by decide +kernel
theorem dX5_define_21 : decode cX5_define 21 = .ok (.aload_n 0, 1) := by decide +kernel
theorem dX5_define_22 : decode cX5_define 22 = .ok (.iload_n 1, 1) := by decide +kernel
theorem dX5_define_23 : decode cX5_define 23 = .ok (.invokevirtual 132, 3) := by decide +kernel
theorem dX5_define_26 : decode cX5_define 26 = .ok (.ifCond .eq 24, 3) := by decide +kernel
theorem dX5_define_29 : decode cX5_define 29 = .ok (.aload_n 0, 1) := by decide +kernel
theorem dX5_define_30 : decode cX5_define 30 = .ok (.iload_n 3, 1) := by decide +kernel
theorem dX5_define_31 : decode cX5_define 31 = .ok (.invokevirtual 132, 3) := by decide +kernel
theorem dX5_define_34 : decode cX5_define 34 = .ok (.ifCond .eq 16, 3) := by decide +kernel
theorem dX5_define_37 : decode cX5_define 37 = .ok (.aload_n 0, 1) := by decide +kernel
theorem dX5_define_38 : decode cX5_define 38 = .ok (.iload 4, 2) := by decide +kernel
theorem dX5_define_40 : decode cX5_define 40 = .ok (.invokevirtual 132, 3) := by decide +kernel
theorem dX5_define_43 : decode cX5_define 43 = .ok (.ifCond .eq 7, 3) := by decide +kernel
theorem dX5_define_46 : decode cX5_define 46 = .ok (.iconst 1, 1) := by decide +kernel
theorem dX5_define_47 : decode cX5_define 47 = .ok (.goto 4, 3) := by decide +kernel
theorem dX5_define_50 : decode cX5_define 50 = .ok (.iconst 0, 1) := by decide +kernel
theorem dX5_define_51 : decode cX5_define 51 = .ok (.iconst 2, 1) := by decide +kernel
theorem dX5_define_52 : decode cX5_define 52 = .ok (.invokevirtual 78, 3) := by decide +kernel
theorem dX5_define_55 : decode cX5_define 55 = .ok (.ifCond .ne 4, 3) := by decide +kernel
theorem dX5_define_58 : decode cX5_define 58 = .ok (.return_, 1) := by decide +kernel
theorem dX5_define_59 : decode cX5_define 59 = .ok (.aload_n 0, 1) := by decide +kernel
theorem dX5_define_60 : decode cX5_define 60 = .ok (.getfield 44, 3) := by decide +kernel
theorem dX5_define_63 : decode cX5_define 63 = .ok (.iload_n 1, 1) := by decide +kernel
theorem dX5_define_64 : decode cX5_define 64 = .ok (.iload_n 2, 1) := by decide +kernel
theorem dX5_define_65 : decode cX5_define 65 = .ok (.bastore, 1) := by decide +kernel
theorem dX5_define_66 : decode cX5_define 66 = .ok (.aload_n 0, 1) := by decide +kernel
theorem dX5_define_67 : decode cX5_define 67 = .ok (.getfield 47, 3) := by decide +kernel
theorem dX5_define_70 : decode cX5_define 70 = .ok (.iconst 2, 1) := by decide +kernel
theorem dX5_define_71 : decode cX5_define 71 = .ok (.iload_n 1, 1) := by decide +kernel
theorem dX5_define_72 : decode cX5_define 72 = .ok (.imul, 1) := by decide +kernel
theorem dX5_define_73 : decode cX5_define 73 = .ok (.iload_n 3, 1) := by decide +kernel
theorem dX5_define_74 : decode cX5_define 74 = .ok (.iastore, 1) := by decide +kernel
theorem dX5_define_75 : decode cX5_define 75 = .ok (.aload_n 0, 1) := by decide +kernel
theorem dX5_define_76 : decode cX5_define 76 = .ok (.getfield 47, 3) := by decide +kernel
theorem dX5_define_79 : decode cX5_define 79 = .ok (.iconst 2, 1) := by decide +kernel
theorem dX5_define_80 : decode cX5_define 80 = .ok (.iload_n 1, 1) := by decide +kernel
theorem dX5_define_81 : decode cX5_define 81 = .ok (.imul, 1) := by decide +kernel
theorem dX5_define_82 : decode cX5_define 82 = .ok (.iconst 1, 1) := by decide +kernel
theorem dX5_define_83 : decode cX5_define 83 = .ok (.iadd, 1) := by decide +kernel
theorem dX5_define_84 : decode cX5_define 84 = .ok (.iload 4, 2) := by decide +kernel
theorem dX5_define_86 : decode cX5_define 86 = .ok (.iastore, 1) := by decide +kernel
theorem dX5_define_87 : decode cX5_define 87 = .ok (.return_, 1) := by decide +kernel
theorem dX5_lead_0 : decode cX5_lead 0 = .ok (.iload_n 1, 1) := by decide +kernel
theorem dX5_lead_1 : decode cX5_lead 1 = .ok (.istore_n 3, 1) := by decide +kernel
theorem dX5_lead_2 : decode cX5_lead 2 = .ok (.iload_n 2, 1) := by decide +kernel
theorem dX5_lead_3 : decode cX5_lead 3 = .ok (.invokestatic 63, 3) := by decide +kernel
theorem dX5_lead_6 : decode cX5_lead 6 = .ok (.istore 4, 2) := by decide +kernel
theorem dX5_lead_8 : decode cX5_lead 8 = .ok (.iload_n 2, 1) := by decide +kernel
theorem dX5_lead_9 : decode cX5_lead 9 = .ok (.invokestatic 67, 3) := by decide +kernel
theorem dX5_lead_12 : decode cX5_lead 12 = .ok (.istore 5, 2) := by decide +kernel
theorem dX5_lead_14 : decode cX5_lead 14 = .ok (.iload 4, 2) := by decide +kernel
theorem dX5_lead_16 : decode cX5_lead 16 = .ok (.iconst 1, 1) := by decide +kernel
theorem dX5_lead_17 : decode cX5_lead 17 = .ok (.isub, 1) := by decide +kernel
theorem dX5_lead_18 : decode cX5_lead 18 = .ok (.istore 6, 2) := by decide +kernel
theorem dX5_lead_20 : decode cX5_lead 20 = .ok (.iload 6, 2) := by decide +kernel
theorem dX5_lead_22 : decode cX5_lead 22 = .ok (.ifCond .lt 26, 3) := by decide +kernel
theorem dX5_lead_25 : decode cX5_lead 25 = .ok (.aload_n 0, 1) := by decide +kernel
theorem dX5_lead_26 : decode cX5_lead 26 = .ok (.getfield 47, 3) := by decide +kernel
theorem dX5_lead_29 : decode cX5_lead 29 = .ok (.iconst 2, 1) := by decide +kernel
theorem dX5_lead_30 : decode cX5_lead 30 = .ok (.iload_n 3, 1) := by decide +kernel
theorem dX5_lead_31 : decode cX5_lead 31 = .ok (.imul, 1) := by decide +kernel
theorem dX5_lead_32 : decode cX5_lead 32 = .ok (.iload 5, 2) := by decide +kernel
theorem dX5_lead_34 : decode cX5_lead 34 = .ok (.iload 6, 2) := by decide +kernel
theorem dX5_lead_36 : decode cX5_lead 36 = .ok (.ishr, 1) := by decide +kernel
theorem dX5_lead_37 : decode cX5_lead 37 = .ok (.iconst 1, 1) := by decide +kernel
theorem dX5_lead_38 : decode cX5_lead 38 = .ok (.iand, 1) := by decide +kernel
theorem dX5_lead_39 : decode cX5_lead 39 = .ok (.iadd, 1) := by decide +kernel
theorem dX5_lead_40 : decode cX5_lead 40 = .ok (.iaload, 1) := by decide +kernel
theorem dX5_lead_41 : decode cX5_lead 41 = .ok (.istore_n 3, 1) := by decide +kernel
theorem dX5_lead_42 : decode cX5_lead 42 = .ok (.iinc 6 (-1), 3) := by decide +kernel
theorem dX5_lead_45 : decode cX5_lead 45 = .ok (.goto (-25), 3) := by decide +kernel
theorem dX5_lead_48 : decode cX5_lead 48 = .ok (.iload_n 3, 1) := by decide +kernel
theorem dX5_lead_49 : decode cX5_lead 49 = .ok (.ireturn, 1) := by decide +kernel
theorem dX5_setsApart_0 : decode cX5_setsApart 0 = .ok (.iconst 0, 1) := by decide +kernel
theorem dX5_setsApart_1 : decode cX5_setsApart 1 = .ok (.istore_n 3, 1) := by decide +kernel
theorem dX5_setsApart_2 : decode cX5_setsApart 2 = .ok (.iload_n 3, 1) := by decide +kernel
theorem dX5_setsApart_3 : decode cX5_setsApart 3 = .ok (.bipush 15, 2) := by decide +kernel
theorem dX5_setsApart_5 : decode cX5_setsApart 5 = .ok (.if_icmp .ge 36, 3) := by decide +kernel
theorem dX5_setsApart_8 : decode cX5_setsApart 8 = .ok (.aload_n 0, 1) := by decide +kernel
theorem dX5_setsApart_9 : decode cX5_setsApart 9 = .ok (.getfield 44, 3) := by decide +kernel
theorem dX5_setsApart_12 : decode cX5_setsApart 12 = .ok (.aload_n 0, 1) := by decide +kernel
theorem dX5_setsApart_13 : decode cX5_setsApart 13 = .ok (.iload_n 1, 1) := by decide +kernel
theorem dX5_setsApart_14 : decode cX5_setsApart 14 = .ok (.iload_n 3, 1) := by decide +kernel
theorem dX5_setsApart_15 : decode cX5_setsApart 15 = .ok (.invokevirtual 135, 3) := by decide +kernel
theorem dX5_setsApart_18 : decode cX5_setsApart 18 = .ok (.baload, 1) := by decide +kernel
theorem dX5_setsApart_19 : decode cX5_setsApart 19 = .ok (.aload_n 0, 1) := by decide +kernel
theorem dX5_setsApart_20 : decode cX5_setsApart 20 = .ok (.getfield 44, 3) := by decide +kernel
theorem dX5_setsApart_23 : decode cX5_setsApart 23 = .ok (.aload_n 0, 1) := by decide +kernel
theorem dX5_setsApart_24 : decode cX5_setsApart 24 = .ok (.iload_n 2, 1) := by decide +kernel
theorem dX5_setsApart_25 : decode cX5_setsApart 25 = .ok (.iload_n 3, 1) := by decide +kernel
theorem dX5_setsApart_26 : decode cX5_setsApart 26 = .ok (.invokevirtual 135, 3) := by decide +kernel
theorem dX5_setsApart_29 : decode cX5_setsApart 29 = .ok (.baload, 1) := by decide +kernel
theorem dX5_setsApart_30 : decode cX5_setsApart 30 = .ok (.if_icmp .eq 5, 3) := by decide +kernel
theorem dX5_setsApart_33 : decode cX5_setsApart 33 = .ok (.iload_n 3, 1) := by decide +kernel
theorem dX5_setsApart_34 : decode cX5_setsApart 34 = .ok (.ireturn, 1) := by decide +kernel
theorem dX5_setsApart_35 : decode cX5_setsApart 35 = .ok (.iinc 3 1, 3) := by decide +kernel
theorem dX5_setsApart_38 : decode cX5_setsApart 38 = .ok (.goto (-36), 3) := by decide +kernel
theorem dX5_setsApart_41 : decode cX5_setsApart 41 = .ok (.iconst (-1), 1) := by decide +kernel
theorem dX5_setsApart_42 : decode cX5_setsApart 42 = .ok (.ireturn, 1) := by decide +kernel
theorem dX5_classOf_0 : decode cX5_classOf 0 = .ok (.iconst (-1), 1) := by decide +kernel
theorem dX5_classOf_1 : decode cX5_classOf 1 = .ok (.istore_n 2, 1) := by decide +kernel
theorem dX5_classOf_2 : decode cX5_classOf 2 = .ok (.iconst 0, 1) := by decide +kernel
theorem dX5_classOf_3 : decode cX5_classOf 3 = .ok (.istore_n 3, 1) := by decide +kernel
theorem dX5_classOf_4 : decode cX5_classOf 4 = .ok (.iload_n 3, 1) := by decide +kernel
theorem dX5_classOf_5 : decode cX5_classOf 5 = .ok (.aload_n 0, 1) := by decide +kernel
theorem dX5_classOf_6 : decode cX5_classOf 6 = .ok (.getfield 138, 3) := by decide +kernel
theorem dX5_classOf_9 : decode cX5_classOf 9 = .ok (.if_icmp .ge 29, 3) := by decide +kernel
theorem dX5_classOf_12 : decode cX5_classOf 12 = .ok (.aload_n 0, 1) := by decide +kernel
theorem dX5_classOf_13 : decode cX5_classOf 13 = .ok (.aload_n 0, 1) := by decide +kernel
theorem dX5_classOf_14 : decode cX5_classOf 14 = .ok (.getfield 50, 3) := by decide +kernel
theorem dX5_classOf_17 : decode cX5_classOf 17 = .ok (.iload_n 3, 1) := by decide +kernel
theorem dX5_classOf_18 : decode cX5_classOf 18 = .ok (.iaload, 1) := by decide +kernel
theorem dX5_classOf_19 : decode cX5_classOf 19 = .ok (.iload_n 1, 1) := by decide +kernel
theorem dX5_classOf_20 : decode cX5_classOf 20 = .ok (.invokevirtual 141, 3) := by decide +kernel
theorem dX5_classOf_23 : decode cX5_classOf 23 = .ok (.ifCond .ge 7, 3) := by decide +kernel
theorem dX5_classOf_26 : decode cX5_classOf 26 = .ok (.iload_n 3, 1) := by decide +kernel
theorem dX5_classOf_27 : decode cX5_classOf 27 = .ok (.goto 4, 3) := by decide +kernel
theorem dX5_classOf_30 : decode cX5_classOf 30 = .ok (.iload_n 2, 1) := by decide +kernel
theorem dX5_classOf_31 : decode cX5_classOf 31 = .ok (.istore_n 2, 1) := by decide +kernel
theorem dX5_classOf_32 : decode cX5_classOf 32 = .ok (.iinc 3 1, 3) := by decide +kernel
theorem dX5_classOf_35 : decode cX5_classOf 35 = .ok (.goto (-31), 3) := by decide +kernel
theorem dX5_classOf_38 : decode cX5_classOf 38 = .ok (.iload_n 2, 1) := by decide +kernel
theorem dX5_classOf_39 : decode cX5_classOf 39 = .ok (.ireturn, 1) := by decide +kernel
theorem dX5_reduce_0 : decode cX5_reduce 0 = .ok (.aload_n 0, 1) := by decide +kernel
theorem dX5_reduce_1 : decode cX5_reduce 1 = .ok (.iconst 0, 1) := by decide +kernel
theorem dX5_reduce_2 : decode cX5_reduce 2 = .ok (.putfield 138, 3) := by decide +kernel
theorem dX5_reduce_5 : decode cX5_reduce 5 = .ok (.iconst 0, 1) := by decide +kernel
theorem dX5_reduce_6 : decode cX5_reduce 6 = .ok (.istore_n 1, 1) := by decide +kernel
theorem dX5_reduce_7 : decode cX5_reduce 7 = .ok (.iload_n 1, 1) := by decide +kernel
theorem dX5_reduce_8 : decode cX5_reduce 8 = .ok (.bipush 31, 2) := by decide +kernel
theorem dX5_reduce_10 : decode cX5_reduce 10 = .ok (.if_icmp .ge 54, 3) := by decide +kernel
theorem dX5_reduce_13 : decode cX5_reduce 13 = .ok (.aload_n 0, 1) := by decide +kernel
theorem dX5_reduce_14 : decode cX5_reduce 14 = .ok (.iconst 0, 1) := by decide +kernel
theorem dX5_reduce_15 : decode cX5_reduce 15 = .ok (.iload_n 1, 1) := by decide +kernel
theorem dX5_reduce_16 : decode cX5_reduce 16 = .ok (.invokevirtual 135, 3) := by decide +kernel
theorem dX5_reduce_19 : decode cX5_reduce 19 = .ok (.istore_n 2, 1) := by decide +kernel
theorem dX5_reduce_20 : decode cX5_reduce 20 = .ok (.aload_n 0, 1) := by decide +kernel
theorem dX5_reduce_21 : decode cX5_reduce 21 = .ok (.iload_n 2, 1) := by decide +kernel
theorem dX5_reduce_22 : decode cX5_reduce 22 = .ok (.invokevirtual 144, 3) := by decide +kernel
theorem dX5_reduce_25 : decode cX5_reduce 25 = .ok (.ifCond .ge 33, 3) := by decide +kernel
theorem dX5_reduce_28 : decode cX5_reduce 28 = .ok (.aload_n 0, 1) := by decide +kernel
theorem dX5_reduce_29 : decode cX5_reduce 29 = .ok (.getfield 50, 3) := by decide +kernel
theorem dX5_reduce_32 : decode cX5_reduce 32 = .ok (.aload_n 0, 1) := by decide +kernel
theorem dX5_reduce_33 : decode cX5_reduce 33 = .ok (.getfield 138, 3) := by decide +kernel
theorem dX5_reduce_36 : decode cX5_reduce 36 = .ok (.iload_n 2, 1) := by decide +kernel
theorem dX5_reduce_37 : decode cX5_reduce 37 = .ok (.iastore, 1) := by decide +kernel
theorem dX5_reduce_38 : decode cX5_reduce 38 = .ok (.aload_n 0, 1) := by decide +kernel
theorem dX5_reduce_39 : decode cX5_reduce 39 = .ok (.getfield 53, 3) := by decide +kernel
theorem dX5_reduce_42 : decode cX5_reduce 42 = .ok (.aload_n 0, 1) := by decide +kernel
theorem dX5_reduce_43 : decode cX5_reduce 43 = .ok (.getfield 138, 3) := by decide +kernel
theorem dX5_reduce_46 : decode cX5_reduce 46 = .ok (.iload_n 1, 1) := by decide +kernel
theorem dX5_reduce_47 : decode cX5_reduce 47 = .ok (.iastore, 1) := by decide +kernel
theorem dX5_reduce_48 : decode cX5_reduce 48 = .ok (.aload_n 0, 1) := by decide +kernel
theorem dX5_reduce_49 : decode cX5_reduce 49 = .ok (.dup, 1) := by decide +kernel
theorem dX5_reduce_50 : decode cX5_reduce 50 = .ok (.getfield 138, 3) := by decide +kernel
theorem dX5_reduce_53 : decode cX5_reduce 53 = .ok (.iconst 1, 1) := by decide +kernel
theorem dX5_reduce_54 : decode cX5_reduce 54 = .ok (.iadd, 1) := by decide +kernel
theorem dX5_reduce_55 : decode cX5_reduce 55 = .ok (.putfield 138, 3) := by decide +kernel
theorem dX5_reduce_58 : decode cX5_reduce 58 = .ok (.iinc 1 1, 3) := by decide +kernel
theorem dX5_reduce_61 : decode cX5_reduce 61 = .ok (.goto (-54), 3) := by decide +kernel
theorem dX5_reduce_64 : decode cX5_reduce 64 = .ok (.return_, 1) := by decide +kernel
theorem dX5_least_0 : decode cX5_least 0 = .ok (.aload_n 0, 1) := by decide +kernel
theorem dX5_least_1 : decode cX5_least 1 = .ok (.aload_n 0, 1) := by decide +kernel
theorem dX5_least_2 : decode cX5_least 2 = .ok (.getfield 129, 3) := by decide +kernel
theorem dX5_least_5 : decode cX5_least 5 = .ok (.ifCond .le 7, 3) := by decide +kernel
theorem dX5_least_8 : decode cX5_least 8 = .ok (.iconst 1, 1) := by decide +kernel
theorem dX5_least_9 : decode cX5_least 9 = .ok (.goto 4, 3) := by decide +kernel
theorem dX5_least_12 : decode cX5_least 12 = .ok (.iconst 0, 1) := by decide +kernel
theorem dX5_least_13 : decode cX5_least 13 = .ok (.iconst 1, 1) := by decide +kernel
theorem dX5_least_14 : decode cX5_least 14 = .ok (.invokevirtual 78, 3) := by decide +kernel
theorem dX5_least_17 : decode cX5_least 17 = .ok (.ifCond .ne 5, 3) := by decide +kernel
theorem dX5_least_20 : decode cX5_least 20 = .ok (.iconst 0, 1) := by decide +kernel
theorem dX5_least_21 : decode cX5_least 21 = .ok (.ireturn, 1) := by decide +kernel
theorem dX5_least_22 : decode cX5_least 22 = .ok (.aload_n 0, 1) := by decide +kernel
theorem dX5_least_23 : decode cX5_least 23 = .ok (.invokevirtual 147, 3) := by decide +kernel
theorem dX5_least_26 : decode cX5_least 26 = .ok (.aload_n 0, 1) := by decide +kernel
theorem dX5_least_27 : decode cX5_least 27 = .ok (.getfield 138, 3) := by decide +kernel
theorem dX5_least_30 : decode cX5_least 30 = .ok (.ireturn, 1) := by decide +kernel
theorem dX5_name_0 : decode cX5_name 0 = .ok (.aload_n 0, 1) := by decide +kernel
theorem dX5_name_1 : decode cX5_name 1 = .ok (.aload_n 0, 1) := by decide +kernel
theorem dX5_name_2 : decode cX5_name 2 = .ok (.getfield 129, 3) := by decide +kernel
theorem dX5_name_5 : decode cX5_name 5 = .ok (.ifCond .le 7, 3) := by decide +kernel
theorem dX5_name_8 : decode cX5_name 8 = .ok (.iconst 1, 1) := by decide +kernel
theorem dX5_name_9 : decode cX5_name 9 = .ok (.goto 4, 3) := by decide +kernel
theorem dX5_name_12 : decode cX5_name 12 = .ok (.iconst 0, 1) := by decide +kernel
theorem dX5_name_13 : decode cX5_name 13 = .ok (.iconst 1, 1) := by decide +kernel
theorem dX5_name_14 : decode cX5_name 14 = .ok (.invokevirtual 78, 3) := by decide +kernel
theorem dX5_name_17 : decode cX5_name 17 = .ok (.ifCond .ne 5, 3) := by decide +kernel
theorem dX5_name_20 : decode cX5_name 20 = .ok (.iconst 0, 1) := by decide +kernel
theorem dX5_name_21 : decode cX5_name 21 = .ok (.ireturn, 1) := by decide +kernel
theorem dX5_name_22 : decode cX5_name 22 = .ok (.aload_n 0, 1) := by decide +kernel
theorem dX5_name_23 : decode cX5_name 23 = .ok (.invokevirtual 147, 3) := by decide +kernel
theorem dX5_name_26 : decode cX5_name 26 = .ok (.aload_n 0, 1) := by decide +kernel
theorem dX5_name_27 : decode cX5_name 27 = .ok (.iload_n 1, 1) := by decide +kernel
theorem dX5_name_28 : decode cX5_name 28 = .ok (.ifCond .lt 15, 3) := by decide +kernel
theorem dX5_name_31 : decode cX5_name 31 = .ok (.iload_n 1, 1) := by decide +kernel
theorem dX5_name_32 : decode cX5_name 32 = .ok (.aload_n 0, 1) := by decide +kernel
theorem dX5_name_33 : decode cX5_name 33 = .ok (.getfield 138, 3) := by decide +kernel
theorem dX5_name_36 : decode cX5_name 36 = .ok (.if_icmp .ge 7, 3) := by decide +kernel
theorem dX5_name_39 : decode cX5_name 39 = .ok (.iconst 1, 1) := by decide +kernel
theorem dX5_name_40 : decode cX5_name 40 = .ok (.goto 4, 3) := by decide +kernel
theorem dX5_name_43 : decode cX5_name 43 = .ok (.iconst 0, 1) := by decide +kernel
theorem dX5_name_44 : decode cX5_name 44 = .ok (.iconst 2, 1) := by decide +kernel
theorem dX5_name_45 : decode cX5_name 45 = .ok (.invokevirtual 78, 3) := by decide +kernel
theorem dX5_name_48 : decode cX5_name 48 = .ok (.ifCond .eq 15, 3) := by decide +kernel
theorem dX5_name_51 : decode cX5_name 51 = .ok (.aload_n 0, 1) := by decide +kernel
theorem dX5_name_52 : decode cX5_name 52 = .ok (.getfield 53, 3) := by decide +kernel
theorem dX5_name_55 : decode cX5_name 55 = .ok (.iload_n 1, 1) := by decide +kernel
theorem dX5_name_56 : decode cX5_name 56 = .ok (.iaload, 1) := by decide +kernel
theorem dX5_name_57 : decode cX5_name 57 = .ok (.invokestatic 150, 3) := by decide +kernel
theorem dX5_name_60 : decode cX5_name 60 = .ok (.goto 4, 3) := by decide +kernel
theorem dX5_name_63 : decode cX5_name 63 = .ok (.iconst 0, 1) := by decide +kernel
theorem dX5_name_64 : decode cX5_name 64 = .ok (.ireturn, 1) := by decide +kernel
theorem dX5_apart_0 : decode cX5_apart 0 = .ok (.aload_n 0, 1) := by decide +kernel
theorem dX5_apart_1 : decode cX5_apart 1 = .ok (.aload_n 0, 1) := by decide +kernel
theorem dX5_apart_2 : decode cX5_apart 2 = .ok (.getfield 129, 3) := by decide +kernel
theorem dX5_apart_5 : decode cX5_apart 5 = .ok (.ifCond .le 7, 3) := by decide +kernel
theorem dX5_apart_8 : decode cX5_apart 8 = .ok (.iconst 1, 1) := by decide +kernel
theorem dX5_apart_9 : decode cX5_apart 9 = .ok (.goto 4, 3) := by decide +kernel
theorem dX5_apart_12 : decode cX5_apart 12 = .ok (.iconst 0, 1) := by decide +kernel
theorem dX5_apart_13 : decode cX5_apart 13 = .ok (.iconst 1, 1) := by decide +kernel
theorem dX5_apart_14 : decode cX5_apart 14 = .ok (.invokevirtual 78, 3) := by decide +kernel
theorem dX5_apart_17 : decode cX5_apart 17 = .ok (.ifCond .ne 5, 3) := by decide +kernel
theorem dX5_apart_20 : decode cX5_apart 20 = .ok (.iconst 0, 1) := by decide +kernel
theorem dX5_apart_21 : decode cX5_apart 21 = .ok (.ireturn, 1) := by decide +kernel
theorem dX5_apart_22 : decode cX5_apart 22 = .ok (.aload_n 0, 1) := by decide +kernel
theorem dX5_apart_23 : decode cX5_apart 23 = .ok (.invokevirtual 147, 3) := by decide +kernel
theorem dX5_apart_26 : decode cX5_apart 26 = .ok (.aload_n 0, 1) := by decide +kernel
theorem dX5_apart_27 : decode cX5_apart 27 = .ok (.iload_n 1, 1) := by decide +kernel
theorem dX5_apart_28 : decode cX5_apart 28 = .ok (.ifCond .lt 27, 3) := by decide +kernel
theorem dX5_apart_31 : decode cX5_apart 31 = .ok (.iload_n 1, 1) := by decide +kernel
theorem dX5_apart_32 : decode cX5_apart 32 = .ok (.aload_n 0, 1) := by decide +kernel
theorem dX5_apart_33 : decode cX5_apart 33 = .ok (.getfield 138, 3) := by decide +kernel
theorem dX5_apart_36 : decode cX5_apart 36 = .ok (.if_icmp .ge 19, 3) := by decide +kernel
theorem dX5_apart_39 : decode cX5_apart 39 = .ok (.iload_n 2, 1) := by decide +kernel
theorem dX5_apart_40 : decode cX5_apart 40 = .ok (.ifCond .lt 15, 3) := by decide +kernel
theorem dX5_apart_43 : decode cX5_apart 43 = .ok (.iload_n 2, 1) := by decide +kernel
theorem dX5_apart_44 : decode cX5_apart 44 = .ok (.aload_n 0, 1) := by decide +kernel
theorem dX5_apart_45 : decode cX5_apart 45 = .ok (.getfield 138, 3) := by decide +kernel
theorem dX5_apart_48 : decode cX5_apart 48 = .ok (.if_icmp .ge 7, 3) := by decide +kernel
theorem dX5_apart_51 : decode cX5_apart 51 = .ok (.iconst 1, 1) := by decide +kernel
theorem dX5_apart_52 : decode cX5_apart 52 = .ok (.goto 4, 3) := by decide +kernel
theorem dX5_apart_55 : decode cX5_apart 55 = .ok (.iconst 0, 1) := by decide +kernel
theorem dX5_apart_56 : decode cX5_apart 56 = .ok (.iconst 2, 1) := by decide +kernel
theorem dX5_apart_57 : decode cX5_apart 57 = .ok (.invokevirtual 78, 3) := by decide +kernel
theorem dX5_apart_60 : decode cX5_apart 60 = .ok (.ifCond .ne 5, 3) := by decide +kernel
theorem dX5_apart_63 : decode cX5_apart 63 = .ok (.iconst 0, 1) := by decide +kernel
theorem dX5_apart_64 : decode cX5_apart 64 = .ok (.ireturn, 1) := by decide +kernel
theorem dX5_apart_65 : decode cX5_apart 65 = .ok (.iload_n 1, 1) := by decide +kernel
theorem dX5_apart_66 : decode cX5_apart 66 = .ok (.iload_n 2, 1) := by decide +kernel
theorem dX5_apart_67 : decode cX5_apart 67 = .ok (.if_icmp .ne 7, 3) := by decide +kernel
theorem dX5_apart_70 : decode cX5_apart 70 = .ok (.iconst (-1), 1) := by decide +kernel
theorem dX5_apart_71 : decode cX5_apart 71 = .ok (.goto 22, 3) := by decide +kernel
theorem dX5_apart_74 : decode cX5_apart 74 = .ok (.aload_n 0, 1) := by decide +kernel
theorem dX5_apart_75 : decode cX5_apart 75 = .ok (.aload_n 0, 1) := by decide +kernel
theorem dX5_apart_76 : decode cX5_apart 76 = .ok (.getfield 50, 3) := by decide +kernel
theorem dX5_apart_79 : decode cX5_apart 79 = .ok (.iload_n 1, 1) := by decide +kernel
theorem dX5_apart_80 : decode cX5_apart 80 = .ok (.iaload, 1) := by decide +kernel
theorem dX5_apart_81 : decode cX5_apart 81 = .ok (.aload_n 0, 1) := by decide +kernel
theorem dX5_apart_82 : decode cX5_apart 82 = .ok (.getfield 50, 3) := by decide +kernel
theorem dX5_apart_85 : decode cX5_apart 85 = .ok (.iload_n 2, 1) := by decide +kernel
theorem dX5_apart_86 : decode cX5_apart 86 = .ok (.iaload, 1) := by decide +kernel
theorem dX5_apart_87 : decode cX5_apart 87 = .ok (.invokevirtual 141, 3) := by decide +kernel
theorem dX5_apart_90 : decode cX5_apart 90 = .ok (.invokestatic 150, 3) := by decide +kernel
theorem dX5_apart_93 : decode cX5_apart 93 = .ok (.ireturn, 1) := by decide +kernel
theorem dX5_want_0 : decode cX5_want 0 = .ok (.aload_n 0, 1) := by decide +kernel
theorem dX5_want_1 : decode cX5_want 1 = .ok (.aload_n 0, 1) := by decide +kernel
theorem dX5_want_2 : decode cX5_want 2 = .ok (.iconst 0, 1) := by decide +kernel
theorem dX5_want_3 : decode cX5_want 3 = .ok (.iload_n 1, 1) := by decide +kernel
theorem dX5_want_4 : decode cX5_want 4 = .ok (.invokevirtual 135, 3) := by decide +kernel
theorem dX5_want_7 : decode cX5_want 7 = .ok (.aload_n 0, 1) := by decide +kernel
theorem dX5_want_8 : decode cX5_want 8 = .ok (.iconst 0, 1) := by decide +kernel
theorem dX5_want_9 : decode cX5_want 9 = .ok (.iload_n 2, 1) := by decide +kernel
theorem dX5_want_10 : decode cX5_want 10 = .ok (.invokevirtual 135, 3) := by decide +kernel
theorem dX5_want_13 : decode cX5_want 13 = .ok (.invokevirtual 141, 3) := by decide +kernel
theorem dX5_want_16 : decode cX5_want 16 = .ok (.istore_n 3, 1) := by decide +kernel
theorem dX5_want_17 : decode cX5_want 17 = .ok (.iload_n 3, 1) := by decide +kernel
theorem dX5_want_18 : decode cX5_want 18 = .ok (.ifCond .lt 25, 3) := by decide +kernel
theorem dX5_want_21 : decode cX5_want 21 = .ok (.aload_n 0, 1) := by decide +kernel
theorem dX5_want_22 : decode cX5_want 22 = .ok (.getfield 56, 3) := by decide +kernel
theorem dX5_want_25 : decode cX5_want 25 = .ok (.iload_n 1, 1) := by decide +kernel
theorem dX5_want_26 : decode cX5_want 26 = .ok (.iload_n 3, 1) := by decide +kernel
theorem dX5_want_27 : decode cX5_want 27 = .ok (.invokestatic 153, 3) := by decide +kernel
theorem dX5_want_30 : decode cX5_want 30 = .ok (.iconst 1, 1) := by decide +kernel
theorem dX5_want_31 : decode cX5_want 31 = .ok (.bastore, 1) := by decide +kernel
theorem dX5_want_32 : decode cX5_want 32 = .ok (.aload_n 0, 1) := by decide +kernel
theorem dX5_want_33 : decode cX5_want 33 = .ok (.getfield 56, 3) := by decide +kernel
theorem dX5_want_36 : decode cX5_want 36 = .ok (.iload_n 2, 1) := by decide +kernel
theorem dX5_want_37 : decode cX5_want 37 = .ok (.iload_n 3, 1) := by decide +kernel
theorem dX5_want_38 : decode cX5_want 38 = .ok (.invokestatic 153, 3) := by decide +kernel
theorem dX5_want_41 : decode cX5_want 41 = .ok (.iconst 1, 1) := by decide +kernel
theorem dX5_want_42 : decode cX5_want 42 = .ok (.bastore, 1) := by decide +kernel
theorem dX5_want_43 : decode cX5_want 43 = .ok (.return_, 1) := by decide +kernel
theorem dX5_characteristic_0 : decode cX5_characteristic 0 = .ok (.aload_n 0, 1) := by decide +kernel
theorem dX5_characteristic_1 : decode cX5_characteristic 1 = .ok (.invokevirtual 147, 3) := by decide +kernel
theorem dX5_characteristic_4 : decode cX5_characteristic 4 = .ok (.iconst 0, 1) := by decide +kernel
theorem dX5_characteristic_5 : decode cX5_characteristic 5 = .ok (.istore_n 1, 1) := by decide +kernel
theorem dX5_characteristic_6 : decode cX5_characteristic 6 = .ok (.iload_n 1, 1) := by decide +kernel
theorem dX5_characteristic_7 : decode cX5_characteristic 7 = .ok (.sipush 511, 3) := by decide +kernel
theorem dX5_characteristic_10 : decode cX5_characteristic 10 = .ok (.if_icmp .ge 24, 3) := by decide +kernel
theorem dX5_characteristic_13 : decode cX5_characteristic 13 = .ok (.aload_n 0, 1) := by decide +kernel
theorem dX5_characteristic_14 : decode cX5_characteristic 14 = .ok (.getfield 56, 3) := by decide +kernel
theorem dX5_characteristic_17 : decode cX5_characteristic 17 = .ok (.iload_n 1, 1) := by decide +kernel
theorem dX5_characteristic_18 : decode cX5_characteristic 18 = .ok (.iload_n 1, 1) := by decide +kernel
theorem dX5_characteristic_19 : decode cX5_characteristic 19 = .ok (.ifCond .ne 7, 3) := by decide +kernel
theorem dX5_characteristic_22 : decode cX5_characteristic 22 = .ok (.iconst 1, 1) := by decide +kernel
theorem dX5_characteristic_23 : decode cX5_characteristic 23 = .ok (.goto 4, 3) := by decide +kernel
theorem dX5_characteristic_26 : decode cX5_characteristic 26 = .ok (.iconst 0, 1) := by decide +kernel
theorem dX5_characteristic_27 : decode cX5_characteristic 27 = .ok (.bastore, 1) := by decide +kernel
theorem dX5_characteristic_28 : decode cX5_characteristic 28 = .ok (.iinc 1 1, 3) := by decide +kernel
theorem dX5_characteristic_31 : decode cX5_characteristic 31 = .ok (.goto (-25), 3) := by decide +kernel
theorem dX5_characteristic_34 : decode cX5_characteristic 34 = .ok (.iconst 0, 1) := by decide +kernel
theorem dX5_characteristic_35 : decode cX5_characteristic 35 = .ok (.istore_n 1, 1) := by decide +kernel
theorem dX5_characteristic_36 : decode cX5_characteristic 36 = .ok (.iload_n 1, 1) := by decide +kernel
theorem dX5_characteristic_37 : decode cX5_characteristic 37 = .ok (.aload_n 0, 1) := by decide +kernel
theorem dX5_characteristic_38 : decode cX5_characteristic 38 = .ok (.getfield 138, 3) := by decide +kernel
theorem dX5_characteristic_41 : decode cX5_characteristic 41 = .ok (.if_icmp .ge 78, 3) := by decide +kernel
theorem dX5_characteristic_44 : decode cX5_characteristic 44 = .ok (.aload_n 0, 1) := by decide +kernel
theorem dX5_characteristic_45 : decode cX5_characteristic 45 = .ok (.getfield 53, 3) := by decide +kernel
theorem dX5_characteristic_48 : decode cX5_characteristic 48 = .ok (.iload_n 1, 1) := by decide +kernel
theorem dX5_characteristic_49 : decode cX5_characteristic 49 = .ok (.iaload, 1) := by decide +kernel
theorem dX5_characteristic_50 : decode cX5_characteristic 50 = .ok (.istore_n 2, 1) := by decide +kernel
theorem dX5_characteristic_51 : decode cX5_characteristic 51 = .ok (.aload_n 0, 1) := by decide +kernel
theorem dX5_characteristic_52 : decode cX5_characteristic 52 = .ok (.getfield 56, 3) := by decide +kernel
theorem dX5_characteristic_55 : decode cX5_characteristic 55 = .ok (.iload_n 2, 1) := by decide +kernel
theorem dX5_characteristic_56 : decode cX5_characteristic 56 = .ok (.iconst 1, 1) := by decide +kernel
theorem dX5_characteristic_57 : decode cX5_characteristic 57 = .ok (.bastore, 1) := by decide +kernel
theorem dX5_characteristic_58 : decode cX5_characteristic 58 = .ok (.aload_n 0, 1) := by decide +kernel
theorem dX5_characteristic_59 : decode cX5_characteristic 59 = .ok (.iload_n 2, 1) := by decide +kernel
theorem dX5_characteristic_60 : decode cX5_characteristic 60 = .ok (.iconst 0, 1) := by decide +kernel
theorem dX5_characteristic_61 : decode cX5_characteristic 61 = .ok (.invokevirtual 156, 3) := by decide +kernel
theorem dX5_characteristic_64 : decode cX5_characteristic 64 = .ok (.iconst 0, 1) := by decide +kernel
theorem dX5_characteristic_65 : decode cX5_characteristic 65 = .ok (.istore_n 3, 1) := by decide +kernel
theorem dX5_characteristic_66 : decode cX5_characteristic 66 = .ok (.iload_n 3, 1) := by decide +kernel
theorem dX5_characteristic_67 : decode cX5_characteristic 67 = .ok (.iconst 2, 1) := by decide +kernel
theorem dX5_characteristic_68 : decode cX5_characteristic 68 = .ok (.aload_n 0, 1) := by decide +kernel
theorem dX5_characteristic_69 : decode cX5_characteristic 69 = .ok (.getfield 138, 3) := by decide +kernel
theorem dX5_characteristic_72 : decode cX5_characteristic 72 = .ok (.imul, 1) := by decide +kernel
theorem dX5_characteristic_73 : decode cX5_characteristic 73 = .ok (.if_icmp .ge 40, 3) := by decide +kernel
theorem dX5_characteristic_76 : decode cX5_characteristic 76 = .ok (.aload_n 0, 1) := by decide +kernel
theorem dX5_characteristic_77 : decode cX5_characteristic 77 = .ok (.getfield 53, 3) := by decide +kernel
theorem dX5_characteristic_80 : decode cX5_characteristic 80 = .ok (.iload_n 3, 1) := by decide +kernel
theorem dX5_characteristic_81 : decode cX5_characteristic 81 = .ok (.iconst 2, 1) := by decide +kernel
theorem dX5_characteristic_82 : decode cX5_characteristic 82 = .ok (.idiv, 1) := by decide +kernel
theorem dX5_characteristic_83 : decode cX5_characteristic 83 = .ok (.iaload, 1) := by decide +kernel
theorem dX5_characteristic_84 : decode cX5_characteristic 84 = .ok (.iload_n 3, 1) := by decide +kernel
theorem dX5_characteristic_85 : decode cX5_characteristic 85 = .ok (.iconst 2, 1) := by decide +kernel
theorem dX5_characteristic_86 : decode cX5_characteristic 86 = .ok (.irem, 1) := by decide +kernel
theorem dX5_characteristic_87 : decode cX5_characteristic 87 = .ok (.invokestatic 88, 3) := by decide +kernel
theorem dX5_characteristic_90 : decode cX5_characteristic 90 = .ok (.istore 4, 2) := by decide +kernel
theorem dX5_characteristic_92 : decode cX5_characteristic 92 = .ok (.aload_n 0, 1) := by decide +kernel
theorem dX5_characteristic_93 : decode cX5_characteristic 93 = .ok (.getfield 56, 3) := by decide +kernel
theorem dX5_characteristic_96 : decode cX5_characteristic 96 = .ok (.iload 4, 2) := by decide +kernel
theorem dX5_characteristic_98 : decode cX5_characteristic 98 = .ok (.iconst 1, 1) := by decide +kernel
theorem dX5_characteristic_99 : decode cX5_characteristic 99 = .ok (.bastore, 1) := by decide +kernel
theorem dX5_characteristic_100 : decode cX5_characteristic 100 = .ok (.aload_n 0, 1) := by decide +kernel
theorem dX5_characteristic_101 : decode cX5_characteristic 101 = .ok (.iload_n 2, 1) := by decide +kernel
theorem dX5_characteristic_102 : decode cX5_characteristic 102 = .ok (.iload 4, 2) := by decide +kernel
theorem dX5_characteristic_104 : decode cX5_characteristic 104 = .ok (.invokevirtual 156, 3) := by decide +kernel
theorem dX5_characteristic_107 : decode cX5_characteristic 107 = .ok (.iinc 3 1, 3) := by decide +kernel
theorem dX5_characteristic_110 : decode cX5_characteristic 110 = .ok (.goto (-44), 3) := by decide +kernel
theorem dX5_characteristic_113 : decode cX5_characteristic 113 = .ok (.iinc 1 1, 3) := by decide +kernel
theorem dX5_characteristic_116 : decode cX5_characteristic 116 = .ok (.goto (-80), 3) := by decide +kernel
theorem dX5_characteristic_119 : decode cX5_characteristic 119 = .ok (.return_, 1) := by decide +kernel
theorem dX5_signOf_0 : decode cX5_signOf 0 = .ok (.aload_n 0, 1) := by decide +kernel
theorem dX5_signOf_1 : decode cX5_signOf 1 = .ok (.getfield 44, 3) := by decide +kernel
theorem dX5_signOf_4 : decode cX5_signOf 4 = .ok (.aload_n 0, 1) := by decide +kernel
theorem dX5_signOf_5 : decode cX5_signOf 5 = .ok (.iconst 0, 1) := by decide +kernel
theorem dX5_signOf_6 : decode cX5_signOf 6 = .ok (.iload_n 1, 1) := by decide +kernel
theorem dX5_signOf_7 : decode cX5_signOf 7 = .ok (.invokevirtual 135, 3) := by decide +kernel
theorem dX5_signOf_10 : decode cX5_signOf 10 = .ok (.baload, 1) := by decide +kernel
theorem dX5_signOf_11 : decode cX5_signOf 11 = .ok (.ifCond .eq 7, 3) := by decide +kernel
theorem dX5_signOf_14 : decode cX5_signOf 14 = .ok (.iconst 1, 1) := by decide +kernel
theorem dX5_signOf_15 : decode cX5_signOf 15 = .ok (.goto 4, 3) := by decide +kernel
theorem dX5_signOf_18 : decode cX5_signOf 18 = .ok (.iconst (-1), 1) := by decide +kernel
theorem dX5_signOf_19 : decode cX5_signOf 19 = .ok (.ireturn, 1) := by decide +kernel
theorem dX5_exemplify_0 : decode cX5_exemplify 0 = .ok (.aload_n 0, 1) := by decide +kernel
theorem dX5_exemplify_1 : decode cX5_exemplify 1 = .ok (.aload_n 0, 1) := by decide +kernel
theorem dX5_exemplify_2 : decode cX5_exemplify 2 = .ok (.getfield 129, 3) := by decide +kernel
theorem dX5_exemplify_5 : decode cX5_exemplify 5 = .ok (.ifCond .le 7, 3) := by decide +kernel
theorem dX5_exemplify_8 : decode cX5_exemplify 8 = .ok (.iconst 1, 1) := by decide +kernel
theorem dX5_exemplify_9 : decode cX5_exemplify 9 = .ok (.goto 4, 3) := by decide +kernel
theorem dX5_exemplify_12 : decode cX5_exemplify 12 = .ok (.iconst 0, 1) := by decide +kernel
theorem dX5_exemplify_13 : decode cX5_exemplify 13 = .ok (.iconst 1, 1) := by decide +kernel
theorem dX5_exemplify_14 : decode cX5_exemplify 14 = .ok (.invokevirtual 78, 3) := by decide +kernel
theorem dX5_exemplify_17 : decode cX5_exemplify 17 = .ok (.ifCond .ne 5, 3) := by decide +kernel
theorem dX5_exemplify_20 : decode cX5_exemplify 20 = .ok (.iconst 0, 1) := by decide +kernel
theorem dX5_exemplify_21 : decode cX5_exemplify 21 = .ok (.ireturn, 1) := by decide +kernel
theorem dX5_exemplify_22 : decode cX5_exemplify 22 = .ok (.aload_n 0, 1) := by decide +kernel
theorem dX5_exemplify_23 : decode cX5_exemplify 23 = .ok (.invokevirtual 160, 3) := by decide +kernel
theorem dX5_exemplify_26 : decode cX5_exemplify 26 = .ok (.iconst 1, 1) := by decide +kernel
theorem dX5_exemplify_27 : decode cX5_exemplify 27 = .ok (.istore_n 1, 1) := by decide +kernel
theorem dX5_exemplify_28 : decode cX5_exemplify 28 = .ok (.iconst 0, 1) := by decide +kernel
theorem dX5_exemplify_29 : decode cX5_exemplify 29 = .ok (.istore_n 2, 1) := by decide +kernel
theorem dX5_exemplify_30 : decode cX5_exemplify 30 = .ok (.iload_n 2, 1) := by decide +kernel
theorem dX5_exemplify_31 : decode cX5_exemplify 31 = .ok (.sipush 511, 3) := by decide +kernel
theorem dX5_exemplify_34 : decode cX5_exemplify 34 = .ok (.if_icmp .ge 43, 3) := by decide +kernel
theorem dX5_exemplify_37 : decode cX5_exemplify 37 = .ok (.iload_n 1, 1) := by decide +kernel
theorem dX5_exemplify_38 : decode cX5_exemplify 38 = .ok (.ifCond .eq 31, 3) := by decide +kernel
theorem dX5_exemplify_41 : decode cX5_exemplify 41 = .ok (.aload_n 0, 1) := by decide +kernel
theorem dX5_exemplify_42 : decode cX5_exemplify 42 = .ok (.getfield 56, 3) := by decide +kernel
theorem dX5_exemplify_45 : decode cX5_exemplify 45 = .ok (.iload_n 2, 1) := by decide +kernel
theorem dX5_exemplify_46 : decode cX5_exemplify 46 = .ok (.baload, 1) := by decide +kernel
theorem dX5_exemplify_47 : decode cX5_exemplify 47 = .ok (.ifCond .eq 18, 3) := by decide +kernel
theorem dX5_exemplify_50 : decode cX5_exemplify 50 = .ok (.aload_n 0, 1) := by decide +kernel
theorem dX5_exemplify_51 : decode cX5_exemplify 51 = .ok (.getfield 7, 3) := by decide +kernel
theorem dX5_exemplify_54 : decode cX5_exemplify 54 = .ok (.iload_n 2, 1) := by decide +kernel
theorem dX5_exemplify_55 : decode cX5_exemplify 55 = .ok (.iaload, 1) := by decide +kernel
theorem dX5_exemplify_56 : decode cX5_exemplify 56 = .ok (.aload_n 0, 1) := by decide +kernel
theorem dX5_exemplify_57 : decode cX5_exemplify 57 = .ok (.iload_n 2, 1) := by decide +kernel
theorem dX5_exemplify_58 : decode cX5_exemplify 58 = .ok (.invokevirtual 163, 3) := by decide +kernel
theorem dX5_exemplify_61 : decode cX5_exemplify 61 = .ok (.ineg, 1) := by decide +kernel
theorem dX5_exemplify_62 : decode cX5_exemplify 62 = .ok (.if_icmp .eq 7, 3) := by decide +kernel
theorem dX5_exemplify_65 : decode cX5_exemplify 65 = .ok (.iconst 1, 1) := by decide +kernel
theorem dX5_exemplify_66 : decode cX5_exemplify 66 = .ok (.goto 4, 3) := by decide +kernel
theorem dX5_exemplify_69 : decode cX5_exemplify 69 = .ok (.iconst 0, 1) := by decide +kernel
theorem dX5_exemplify_70 : decode cX5_exemplify 70 = .ok (.istore_n 1, 1) := by decide +kernel
theorem dX5_exemplify_71 : decode cX5_exemplify 71 = .ok (.iinc 2 1, 3) := by decide +kernel
theorem dX5_exemplify_74 : decode cX5_exemplify 74 = .ok (.goto (-44), 3) := by decide +kernel
theorem dX5_exemplify_77 : decode cX5_exemplify 77 = .ok (.aload_n 0, 1) := by decide +kernel
theorem dX5_exemplify_78 : decode cX5_exemplify 78 = .ok (.iload_n 1, 1) := by decide +kernel
theorem dX5_exemplify_79 : decode cX5_exemplify 79 = .ok (.iconst 2, 1) := by decide +kernel
theorem dX5_exemplify_80 : decode cX5_exemplify 80 = .ok (.invokevirtual 78, 3) := by decide +kernel
theorem dX5_exemplify_83 : decode cX5_exemplify 83 = .ok (.ifCond .ne 5, 3) := by decide +kernel
theorem dX5_exemplify_86 : decode cX5_exemplify 86 = .ok (.iconst 0, 1) := by decide +kernel
theorem dX5_exemplify_87 : decode cX5_exemplify 87 = .ok (.ireturn, 1) := by decide +kernel
theorem dX5_exemplify_88 : decode cX5_exemplify 88 = .ok (.iconst 0, 1) := by decide +kernel
theorem dX5_exemplify_89 : decode cX5_exemplify 89 = .ok (.istore_n 2, 1) := by decide +kernel
theorem dX5_exemplify_90 : decode cX5_exemplify 90 = .ok (.iconst 0, 1) := by decide +kernel
theorem dX5_exemplify_91 : decode cX5_exemplify 91 = .ok (.istore_n 3, 1) := by decide +kernel
theorem dX5_exemplify_92 : decode cX5_exemplify 92 = .ok (.iload_n 3, 1) := by decide +kernel
theorem dX5_exemplify_93 : decode cX5_exemplify 93 = .ok (.sipush 511, 3) := by decide +kernel
theorem dX5_exemplify_96 : decode cX5_exemplify 96 = .ok (.if_icmp .ge 41, 3) := by decide +kernel
theorem dX5_exemplify_99 : decode cX5_exemplify 99 = .ok (.aload_n 0, 1) := by decide +kernel
theorem dX5_exemplify_100 : decode cX5_exemplify 100 = .ok (.getfield 56, 3) := by decide +kernel
theorem dX5_exemplify_103 : decode cX5_exemplify 103 = .ok (.iload_n 3, 1) := by decide +kernel
theorem dX5_exemplify_104 : decode cX5_exemplify 104 = .ok (.baload, 1) := by decide +kernel
theorem dX5_exemplify_105 : decode cX5_exemplify 105 = .ok (.ifCond .eq 26, 3) := by decide +kernel
theorem dX5_exemplify_108 : decode cX5_exemplify 108 = .ok (.aload_n 0, 1) := by decide +kernel
theorem dX5_exemplify_109 : decode cX5_exemplify 109 = .ok (.getfield 7, 3) := by decide +kernel
theorem dX5_exemplify_112 : decode cX5_exemplify 112 = .ok (.iload_n 3, 1) := by decide +kernel
theorem dX5_exemplify_113 : decode cX5_exemplify 113 = .ok (.iaload, 1) := by decide +kernel
theorem dX5_exemplify_114 : decode cX5_exemplify 114 = .ok (.ifCond .ne 17, 3) := by decide +kernel
theorem dX5_exemplify_117 : decode cX5_exemplify 117 = .ok (.aload_n 0, 1) := by decide +kernel
theorem dX5_exemplify_118 : decode cX5_exemplify 118 = .ok (.getfield 7, 3) := by decide +kernel
theorem dX5_exemplify_121 : decode cX5_exemplify 121 = .ok (.iload_n 3, 1) := by decide +kernel
theorem dX5_exemplify_122 : decode cX5_exemplify 122 = .ok (.aload_n 0, 1) := by decide +kernel
theorem dX5_exemplify_123 : decode cX5_exemplify 123 = .ok (.iload_n 3, 1) := by decide +kernel
theorem dX5_exemplify_124 : decode cX5_exemplify 124 = .ok (.invokevirtual 163, 3) := by decide +kernel
theorem dX5_exemplify_127 : decode cX5_exemplify 127 = .ok (.iastore, 1) := by decide +kernel
theorem dX5_exemplify_128 : decode cX5_exemplify 128 = .ok (.iinc 2 1, 3) := by decide +kernel
theorem dX5_exemplify_131 : decode cX5_exemplify 131 = .ok (.iinc 3 1, 3) := by decide +kernel
theorem dX5_exemplify_134 : decode cX5_exemplify 134 = .ok (.goto (-42), 3) := by decide +kernel
theorem dX5_exemplify_137 : decode cX5_exemplify 137 = .ok (.aload_n 0, 1) := by decide +kernel
theorem dX5_exemplify_138 : decode cX5_exemplify 138 = .ok (.dup, 1) := by decide +kernel
theorem dX5_exemplify_139 : decode cX5_exemplify 139 = .ok (.getfield 82, 3) := by decide +kernel
theorem dX5_exemplify_142 : decode cX5_exemplify 142 = .ok (.iload_n 2, 1) := by decide +kernel
theorem dX5_exemplify_143 : decode cX5_exemplify 143 = .ok (.iadd, 1) := by decide +kernel
theorem dX5_exemplify_144 : decode cX5_exemplify 144 = .ok (.putfield 82, 3) := by decide +kernel
theorem dX5_exemplify_147 : decode cX5_exemplify 147 = .ok (.iload_n 2, 1) := by decide +kernel
theorem dX5_exemplify_148 : decode cX5_exemplify 148 = .ok (.ireturn, 1) := by decide +kernel
theorem dX5_same_0 : decode cX5_same 0 = .ok (.aload_n 0, 1) := by decide +kernel
theorem dX5_same_1 : decode cX5_same 1 = .ok (.aload_n 0, 1) := by decide +kernel
theorem dX5_same_2 : decode cX5_same 2 = .ok (.getfield 129, 3) := by decide +kernel
theorem dX5_same_5 : decode cX5_same 5 = .ok (.ifCond .le 14, 3) := by decide +kernel
theorem dX5_same_8 : decode cX5_same 8 = .ok (.aload_n 0, 1) := by decide +kernel
theorem dX5_same_9 : decode cX5_same 9 = .ok (.getfield 122, 3) := by decide +kernel
theorem dX5_same_12 : decode cX5_same 12 = .ok (.ifCond .le 7, 3) := by decide +kernel
theorem dX5_same_15 : decode cX5_same 15 = .ok (.iconst 1, 1) := by decide +kernel
theorem dX5_same_16 : decode cX5_same 16 = .ok (.goto 4, 3) := by decide +kernel
theorem dX5_same_19 : decode cX5_same 19 = .ok (.iconst 0, 1) := by decide +kernel
theorem dX5_same_20 : decode cX5_same 20 = .ok (.iconst 1, 1) := by decide +kernel
theorem dX5_same_21 : decode cX5_same 21 = .ok (.invokevirtual 78, 3) := by decide +kernel
theorem dX5_same_24 : decode cX5_same 24 = .ok (.ifCond .ne 5, 3) := by decide +kernel
theorem dX5_same_27 : decode cX5_same 27 = .ok (.iconst 0, 1) := by decide +kernel
theorem dX5_same_28 : decode cX5_same 28 = .ok (.ireturn, 1) := by decide +kernel
theorem dX5_same_29 : decode cX5_same 29 = .ok (.aload_n 0, 1) := by decide +kernel
theorem dX5_same_30 : decode cX5_same 30 = .ok (.invokevirtual 147, 3) := by decide +kernel
theorem dX5_same_33 : decode cX5_same 33 = .ok (.aload_n 0, 1) := by decide +kernel
theorem dX5_same_34 : decode cX5_same 34 = .ok (.getfield 138, 3) := by decide +kernel
theorem dX5_same_37 : decode cX5_same 37 = .ok (.aload_n 0, 1) := by decide +kernel
theorem dX5_same_38 : decode cX5_same 38 = .ok (.getfield 122, 3) := by decide +kernel
theorem dX5_same_41 : decode cX5_same 41 = .ok (.if_icmp .ne 7, 3) := by decide +kernel
theorem dX5_same_44 : decode cX5_same 44 = .ok (.iconst 1, 1) := by decide +kernel
theorem dX5_same_45 : decode cX5_same 45 = .ok (.goto 4, 3) := by decide +kernel
theorem dX5_same_48 : decode cX5_same 48 = .ok (.iconst 0, 1) := by decide +kernel
theorem dX5_same_49 : decode cX5_same 49 = .ok (.istore_n 1, 1) := by decide +kernel
theorem dX5_same_50 : decode cX5_same 50 = .ok (.iconst 0, 1) := by decide +kernel
theorem dX5_same_51 : decode cX5_same 51 = .ok (.istore_n 2, 1) := by decide +kernel
theorem dX5_same_52 : decode cX5_same 52 = .ok (.iload_n 2, 1) := by decide +kernel
theorem dX5_same_53 : decode cX5_same 53 = .ok (.aload_n 0, 1) := by decide +kernel
theorem dX5_same_54 : decode cX5_same 54 = .ok (.getfield 138, 3) := by decide +kernel
theorem dX5_same_57 : decode cX5_same 57 = .ok (.if_icmp .ge 102, 3) := by decide +kernel
theorem dX5_same_60 : decode cX5_same 60 = .ok (.iload_n 1, 1) := by decide +kernel
theorem dX5_same_61 : decode cX5_same 61 = .ok (.ifCond .eq 98, 3) := by decide +kernel
theorem dX5_same_64 : decode cX5_same 64 = .ok (.aload_n 0, 1) := by decide +kernel
theorem dX5_same_65 : decode cX5_same 65 = .ok (.getfield 41, 3) := by decide +kernel
theorem dX5_same_68 : decode cX5_same 68 = .ok (.iload_n 2, 1) := by decide +kernel
theorem dX5_same_69 : decode cX5_same 69 = .ok (.iaload, 1) := by decide +kernel
theorem dX5_same_70 : decode cX5_same 70 = .ok (.aload_n 0, 1) := by decide +kernel
theorem dX5_same_71 : decode cX5_same 71 = .ok (.getfield 44, 3) := by decide +kernel
theorem dX5_same_74 : decode cX5_same 74 = .ok (.aload_n 0, 1) := by decide +kernel
theorem dX5_same_75 : decode cX5_same 75 = .ok (.getfield 50, 3) := by decide +kernel
theorem dX5_same_78 : decode cX5_same 78 = .ok (.iload_n 2, 1) := by decide +kernel
theorem dX5_same_79 : decode cX5_same 79 = .ok (.iaload, 1) := by decide +kernel
theorem dX5_same_80 : decode cX5_same 80 = .ok (.baload, 1) := by decide +kernel
theorem dX5_same_81 : decode cX5_same 81 = .ok (.ifCond .eq 7, 3) := by decide +kernel
theorem dX5_same_84 : decode cX5_same 84 = .ok (.iconst 1, 1) := by decide +kernel
theorem dX5_same_85 : decode cX5_same 85 = .ok (.goto 4, 3) := by decide +kernel
theorem dX5_same_88 : decode cX5_same 88 = .ok (.iconst (-1), 1) := by decide +kernel
theorem dX5_same_89 : decode cX5_same 89 = .ok (.if_icmp .ne 7, 3) := by decide +kernel
theorem dX5_same_92 : decode cX5_same 92 = .ok (.iconst 1, 1) := by decide +kernel
theorem dX5_same_93 : decode cX5_same 93 = .ok (.goto 4, 3) := by decide +kernel
theorem dX5_same_96 : decode cX5_same 96 = .ok (.iconst 0, 1) := by decide +kernel
theorem dX5_same_97 : decode cX5_same 97 = .ok (.istore_n 1, 1) := by decide +kernel
theorem dX5_same_98 : decode cX5_same 98 = .ok (.iconst 0, 1) := by decide +kernel
theorem dX5_same_99 : decode cX5_same 99 = .ok (.istore_n 3, 1) := by decide +kernel
theorem dX5_same_100 : decode cX5_same 100 = .ok (.iload_n 3, 1) := by decide +kernel
theorem dX5_same_101 : decode cX5_same 101 = .ok (.iconst 2, 1) := by decide +kernel
theorem dX5_same_102 : decode cX5_same 102 = .ok (.if_icmp .ge 51, 3) := by decide +kernel
theorem dX5_same_105 : decode cX5_same 105 = .ok (.iload_n 1, 1) := by decide +kernel
theorem dX5_same_106 : decode cX5_same 106 = .ok (.ifCond .eq 39, 3) := by decide +kernel
theorem dX5_same_109 : decode cX5_same 109 = .ok (.aload_n 0, 1) := by decide +kernel
theorem dX5_same_110 : decode cX5_same 110 = .ok (.getfield 38, 3) := by decide +kernel
theorem dX5_same_113 : decode cX5_same 113 = .ok (.iconst 2, 1) := by decide +kernel
theorem dX5_same_114 : decode cX5_same 114 = .ok (.iload_n 2, 1) := by decide +kernel
theorem dX5_same_115 : decode cX5_same 115 = .ok (.imul, 1) := by decide +kernel
theorem dX5_same_116 : decode cX5_same 116 = .ok (.iload_n 3, 1) := by decide +kernel
theorem dX5_same_117 : decode cX5_same 117 = .ok (.iadd, 1) := by decide +kernel
theorem dX5_same_118 : decode cX5_same 118 = .ok (.iaload, 1) := by decide +kernel
theorem dX5_same_119 : decode cX5_same 119 = .ok (.aload_n 0, 1) := by decide +kernel
theorem dX5_same_120 : decode cX5_same 120 = .ok (.aload_n 0, 1) := by decide +kernel
theorem dX5_same_121 : decode cX5_same 121 = .ok (.getfield 47, 3) := by decide +kernel
theorem dX5_same_124 : decode cX5_same 124 = .ok (.iconst 2, 1) := by decide +kernel
theorem dX5_same_125 : decode cX5_same 125 = .ok (.aload_n 0, 1) := by decide +kernel
theorem dX5_same_126 : decode cX5_same 126 = .ok (.getfield 50, 3) := by decide +kernel
theorem dX5_same_129 : decode cX5_same 129 = .ok (.iload_n 2, 1) := by decide +kernel
theorem dX5_same_130 : decode cX5_same 130 = .ok (.iaload, 1) := by decide +kernel
theorem dX5_same_131 : decode cX5_same 131 = .ok (.imul, 1) := by decide +kernel
theorem dX5_same_132 : decode cX5_same 132 = .ok (.iload_n 3, 1) := by decide +kernel
theorem dX5_same_133 : decode cX5_same 133 = .ok (.iadd, 1) := by decide +kernel
theorem dX5_same_134 : decode cX5_same 134 = .ok (.iaload, 1) := by decide +kernel
theorem dX5_same_135 : decode cX5_same 135 = .ok (.invokevirtual 144, 3) := by decide +kernel
theorem dX5_same_138 : decode cX5_same 138 = .ok (.if_icmp .ne 7, 3) := by decide +kernel
theorem dX5_same_141 : decode cX5_same 141 = .ok (.iconst 1, 1) := by decide +kernel
theorem dX5_same_142 : decode cX5_same 142 = .ok (.goto 4, 3) := by decide +kernel
theorem dX5_same_145 : decode cX5_same 145 = .ok (.iconst 0, 1) := by decide +kernel
theorem dX5_same_146 : decode cX5_same 146 = .ok (.istore_n 1, 1) := by decide +kernel
theorem dX5_same_147 : decode cX5_same 147 = .ok (.iinc 3 1, 3) := by decide +kernel
theorem dX5_same_150 : decode cX5_same 150 = .ok (.goto (-50), 3) := by decide +kernel
theorem dX5_same_153 : decode cX5_same 153 = .ok (.iinc 2 1, 3) := by decide +kernel
theorem dX5_same_156 : decode cX5_same 156 = .ok (.goto (-104), 3) := by decide +kernel
theorem dX5_same_159 : decode cX5_same 159 = .ok (.iload_n 1, 1) := by decide +kernel
theorem dX5_same_160 : decode cX5_same 160 = .ok (.ireturn, 1) := by decide +kernel
theorem dJ7_fill_53178_0 : decode cJ7_fill_53178 0 = .ok (.iconst 0, 1) := by decide +kernel
theorem dJ7_fill_53178_1 : decode cJ7_fill_53178 1 = .ok (.istore_n 2, 1) := by decide +kernel
theorem dJ7_fill_53178_2 : decode cJ7_fill_53178 2 = .ok (.aload_n 0, 1) := by decide +kernel
theorem dJ7_fill_53178_3 : decode cJ7_fill_53178 3 = .ok (.arraylength, 1) := by decide +kernel
theorem dJ7_fill_53178_4 : decode cJ7_fill_53178 4 = .ok (.istore_n 3, 1) := by decide +kernel
theorem dJ7_fill_53178_5 : decode cJ7_fill_53178 5 = .ok (.iload_n 2, 1) := by decide +kernel
theorem dJ7_fill_53178_6 : decode cJ7_fill_53178 6 = .ok (.iload_n 3, 1) := by decide +kernel
theorem dJ7_fill_53178_7 : decode cJ7_fill_53178 7 = .ok (.if_icmp .ge 13, 3) := by decide +kernel
theorem dJ7_fill_53178_10 : decode cJ7_fill_53178 10 = .ok (.aload_n 0, 1) := by decide +kernel
theorem dJ7_fill_53178_11 : decode cJ7_fill_53178 11 = .ok (.iload_n 2, 1) := by decide +kernel
theorem dJ7_fill_53178_12 : decode cJ7_fill_53178 12 = .ok (.iload_n 1, 1) := by decide +kernel
theorem dJ7_fill_53178_13 : decode cJ7_fill_53178 13 = .ok (.iastore, 1) := by decide +kernel
theorem dJ7_fill_53178_14 : decode cJ7_fill_53178 14 = .ok (.iinc 2 1, 3) := by decide +kernel
theorem dJ7_fill_53178_17 : decode cJ7_fill_53178 17 = .ok (.goto (-12), 3) := by decide +kernel
theorem dJ7_fill_53178_20 : decode cJ7_fill_53178 20 = .ok (.return_, 1) := by decide +kernel
theorem dL_teach_0 : decode cL_teach 0 = .ok (.aload 4, 2) := by decide +kernel
theorem dL_teach_2 : decode cL_teach 2 = .ok (.iconst 0, 1) := by decide +kernel
theorem dL_teach_3 : decode cL_teach 3 = .ok (.aload_n 0, 1) := by decide +kernel
theorem dL_teach_4 : decode cL_teach 4 = .ok (.iload_n 1, 1) := by decide +kernel
theorem dL_teach_5 : decode cL_teach 5 = .ok (.iload_n 2, 1) := by decide +kernel
theorem dL_teach_6 : decode cL_teach 6 = .ok (.iload_n 3, 1) := by decide +kernel
theorem dL_teach_7 : decode cL_teach 7 = .ok (.invokevirtual 7, 3) := by decide +kernel
theorem dL_teach_10 : decode cL_teach 10 = .ok (.ifCond .eq 7, 3) := by decide +kernel
theorem dL_teach_13 : decode cL_teach 13 = .ok (.lconst 1, 1) := by decide +kernel
theorem dL_teach_14 : decode cL_teach 14 = .ok (.goto 4, 3) := by decide +kernel
theorem dL_teach_17 : decode cL_teach 17 = .ok (.lconst 0, 1) := by decide +kernel
theorem dL_teach_18 : decode cL_teach 18 = .ok (.lastore, 1) := by decide +kernel
theorem dL_teach_19 : decode cL_teach 19 = .ok (.goto 11, 3) := by decide +kernel
theorem dL_teach_22 : decode cL_teach 22 = .ok (.astore 5, 2) := by decide +kernel
theorem dL_teach_24 : decode cL_teach 24 = .ok (.iconst 1, 1) := by decide +kernel
theorem dL_teach_25 : decode cL_teach 25 = .ok (.ireturn, 1) := by decide +kernel
theorem dL_teach_26 : decode cL_teach 26 = .ok (.astore 5, 2) := by decide +kernel
theorem dL_teach_28 : decode cL_teach 28 = .ok (.iconst 2, 1) := by decide +kernel
theorem dL_teach_29 : decode cL_teach 29 = .ok (.ireturn, 1) := by decide +kernel
theorem dL_teach_30 : decode cL_teach 30 = .ok (.iconst 0, 1) := by decide +kernel
theorem dL_teach_31 : decode cL_teach 31 = .ok (.ireturn, 1) := by decide +kernel
theorem dL_told_0 : decode cL_told 0 = .ok (.aload_n 3, 1) := by decide +kernel
theorem dL_told_1 : decode cL_told 1 = .ok (.iconst 0, 1) := by decide +kernel
theorem dL_told_2 : decode cL_told 2 = .ok (.aload_n 0, 1) := by decide +kernel
theorem dL_told_3 : decode cL_told 3 = .ok (.iload_n 1, 1) := by decide +kernel
theorem dL_told_4 : decode cL_told 4 = .ok (.iload_n 2, 1) := by decide +kernel
theorem dL_told_5 : decode cL_told 5 = .ok (.invokevirtual 17, 3) := by decide +kernel
theorem dL_told_8 : decode cL_told 8 = .ok (.i2l, 1) := by decide +kernel
theorem dL_told_9 : decode cL_told 9 = .ok (.lastore, 1) := by decide +kernel
theorem dL_told_10 : decode cL_told 10 = .ok (.goto 7, 3) := by decide +kernel
theorem dL_told_13 : decode cL_told 13 = .ok (.astore 4, 2) := by decide +kernel
theorem dL_told_15 : decode cL_told 15 = .ok (.iconst 1, 1) := by decide +kernel
theorem dL_told_16 : decode cL_told 16 = .ok (.ireturn, 1) := by decide +kernel
theorem dL_told_17 : decode cL_told 17 = .ok (.iconst 0, 1) := by decide +kernel
theorem dL_told_18 : decode cL_told 18 = .ok (.ireturn, 1) := by decide +kernel
theorem dL_next_0 : decode cL_next 0 = .ok (.aload_n 3, 1) := by decide +kernel
theorem dL_next_1 : decode cL_next 1 = .ok (.iconst 0, 1) := by decide +kernel
theorem dL_next_2 : decode cL_next 2 = .ok (.aload_n 0, 1) := by decide +kernel
theorem dL_next_3 : decode cL_next 3 = .ok (.iload_n 1, 1) := by decide +kernel
theorem dL_next_4 : decode cL_next 4 = .ok (.iload_n 2, 1) := by decide +kernel
theorem dL_next_5 : decode cL_next 5 = .ok (.invokevirtual 21, 3) := by decide +kernel
theorem dL_next_8 : decode cL_next 8 = .ok (.i2l, 1) := by decide +kernel
theorem dL_next_9 : decode cL_next 9 = .ok (.lastore, 1) := by decide +kernel
theorem dL_next_10 : decode cL_next 10 = .ok (.goto 7, 3) := by decide +kernel
theorem dL_next_13 : decode cL_next 13 = .ok (.astore 4, 2) := by decide +kernel
theorem dL_next_15 : decode cL_next 15 = .ok (.iconst 1, 1) := by decide +kernel
theorem dL_next_16 : decode cL_next 16 = .ok (.ireturn, 1) := by decide +kernel
theorem dL_next_17 : decode cL_next 17 = .ok (.iconst 0, 1) := by decide +kernel
theorem dL_next_18 : decode cL_next 18 = .ok (.ireturn, 1) := by decide +kernel
theorem dL_sign_0 : decode cL_sign 0 = .ok (.aload_n 2, 1) := by decide +kernel
theorem dL_sign_1 : decode cL_sign 1 = .ok (.iconst 0, 1) := by decide +kernel
theorem dL_sign_2 : decode cL_sign 2 = .ok (.aload_n 0, 1) := by decide +kernel
theorem dL_sign_3 : decode cL_sign 3 = .ok (.iload_n 1, 1) := by decide +kernel
theorem dL_sign_4 : decode cL_sign 4 = .ok (.invokevirtual 24, 3) := by decide +kernel
theorem dL_sign_7 : decode cL_sign 7 = .ok (.i2l, 1) := by decide +kernel
theorem dL_sign_8 : decode cL_sign 8 = .ok (.lastore, 1) := by decide +kernel
theorem dL_sign_9 : decode cL_sign 9 = .ok (.goto 6, 3) := by decide +kernel
theorem dL_sign_12 : decode cL_sign 12 = .ok (.astore_n 3, 1) := by decide +kernel
theorem dL_sign_13 : decode cL_sign 13 = .ok (.iconst 1, 1) := by decide +kernel
theorem dL_sign_14 : decode cL_sign 14 = .ok (.ireturn, 1) := by decide +kernel
theorem dL_sign_15 : decode cL_sign 15 = .ok (.iconst 0, 1) := by decide +kernel
theorem dL_sign_16 : decode cL_sign 16 = .ok (.ireturn, 1) := by decide +kernel
theorem dL_accepts_0 : decode cL_accepts 0 = .ok (.aload_n 3, 1) := by decide +kernel
theorem dL_accepts_1 : decode cL_accepts 1 = .ok (.iconst 0, 1) := by decide +kernel
theorem dL_accepts_2 : decode cL_accepts 2 = .ok (.aload_n 0, 1) := by decide +kernel
theorem dL_accepts_3 : decode cL_accepts 3 = .ok (.iload_n 1, 1) := by decide +kernel
theorem dL_accepts_4 : decode cL_accepts 4 = .ok (.iload_n 2, 1) := by decide +kernel
theorem dL_accepts_5 : decode cL_accepts 5 = .ok (.invokevirtual 28, 3) := by decide +kernel
theorem dL_accepts_8 : decode cL_accepts 8 = .ok (.ifCond .eq 7, 3) := by decide +kernel
theorem dL_accepts_11 : decode cL_accepts 11 = .ok (.lconst 1, 1) := by decide +kernel
theorem dL_accepts_12 : decode cL_accepts 12 = .ok (.goto 4, 3) := by decide +kernel
theorem dL_accepts_15 : decode cL_accepts 15 = .ok (.lconst 0, 1) := by decide +kernel
theorem dL_accepts_16 : decode cL_accepts 16 = .ok (.lastore, 1) := by decide +kernel
theorem dL_accepts_17 : decode cL_accepts 17 = .ok (.goto 11, 3) := by decide +kernel
theorem dL_accepts_20 : decode cL_accepts 20 = .ok (.astore 4, 2) := by decide +kernel
theorem dL_accepts_22 : decode cL_accepts 22 = .ok (.iconst 1, 1) := by decide +kernel
theorem dL_accepts_23 : decode cL_accepts 23 = .ok (.ireturn, 1) := by decide +kernel
theorem dL_accepts_24 : decode cL_accepts 24 = .ok (.astore 4, 2) := by decide +kernel
theorem dL_accepts_26 : decode cL_accepts 26 = .ok (.iconst 2, 1) := by decide +kernel
theorem dL_accepts_27 : decode cL_accepts 27 = .ok (.ireturn, 1) := by decide +kernel
theorem dL_accepts_28 : decode cL_accepts 28 = .ok (.iconst 0, 1) := by decide +kernel
theorem dL_accepts_29 : decode cL_accepts 29 = .ok (.ireturn, 1) := by decide +kernel
theorem dL_draft_0 : decode cL_draft 0 = .ok (.aload_n 0, 1) := by decide +kernel
theorem dL_draft_1 : decode cL_draft 1 = .ok (.iload_n 1, 1) := by decide +kernel
theorem dL_draft_2 : decode cL_draft 2 = .ok (.invokevirtual 32, 3) := by decide +kernel
theorem dL_draft_5 : decode cL_draft 5 = .ok (.goto 6, 3) := by decide +kernel
theorem dL_draft_8 : decode cL_draft 8 = .ok (.astore_n 2, 1) := by decide +kernel
theorem dL_draft_9 : decode cL_draft 9 = .ok (.iconst 1, 1) := by decide +kernel
theorem dL_draft_10 : decode cL_draft 10 = .ok (.ireturn, 1) := by decide +kernel
theorem dL_draft_11 : decode cL_draft 11 = .ok (.iconst 0, 1) := by decide +kernel
theorem dL_draft_12 : decode cL_draft 12 = .ok (.ireturn, 1) := by decide +kernel
theorem dL_define_0 : decode cL_define 0 = .ok (.aload_n 0, 1) := by decide +kernel
theorem dL_define_1 : decode cL_define 1 = .ok (.iload_n 1, 1) := by decide +kernel
theorem dL_define_2 : decode cL_define 2 = .ok (.iload_n 2, 1) := by decide +kernel
theorem dL_define_3 : decode cL_define 3 = .ok (.iload_n 3, 1) := by decide +kernel
theorem dL_define_4 : decode cL_define 4 = .ok (.iload 4, 2) := by decide +kernel
theorem dL_define_6 : decode cL_define 6 = .ok (.invokevirtual 38, 3) := by decide +kernel
theorem dL_define_9 : decode cL_define 9 = .ok (.goto 11, 3) := by decide +kernel
theorem dL_define_12 : decode cL_define 12 = .ok (.astore 5, 2) := by decide +kernel
theorem dL_define_14 : decode cL_define 14 = .ok (.iconst 1, 1) := by decide +kernel
theorem dL_define_15 : decode cL_define 15 = .ok (.ireturn, 1) := by decide +kernel
theorem dL_define_16 : decode cL_define 16 = .ok (.astore 5, 2) := by decide +kernel
theorem dL_define_18 : decode cL_define 18 = .ok (.iconst 2, 1) := by decide +kernel
theorem dL_define_19 : decode cL_define 19 = .ok (.ireturn, 1) := by decide +kernel
theorem dL_define_20 : decode cL_define 20 = .ok (.iconst 0, 1) := by decide +kernel
theorem dL_define_21 : decode cL_define 21 = .ok (.ireturn, 1) := by decide +kernel
theorem dL_least_0 : decode cL_least 0 = .ok (.aload_n 1, 1) := by decide +kernel
theorem dL_least_1 : decode cL_least 1 = .ok (.iconst 0, 1) := by decide +kernel
theorem dL_least_2 : decode cL_least 2 = .ok (.aload_n 0, 1) := by decide +kernel
theorem dL_least_3 : decode cL_least 3 = .ok (.invokevirtual 42, 3) := by decide +kernel
theorem dL_least_6 : decode cL_least 6 = .ok (.i2l, 1) := by decide +kernel
theorem dL_least_7 : decode cL_least 7 = .ok (.lastore, 1) := by decide +kernel
theorem dL_least_8 : decode cL_least 8 = .ok (.goto 6, 3) := by decide +kernel
theorem dL_least_11 : decode cL_least 11 = .ok (.astore_n 2, 1) := by decide +kernel
theorem dL_least_12 : decode cL_least 12 = .ok (.iconst 1, 1) := by decide +kernel
theorem dL_least_13 : decode cL_least 13 = .ok (.ireturn, 1) := by decide +kernel
theorem dL_least_14 : decode cL_least 14 = .ok (.iconst 0, 1) := by decide +kernel
theorem dL_least_15 : decode cL_least 15 = .ok (.ireturn, 1) := by decide +kernel
theorem dL_name_0 : decode cL_name 0 = .ok (.aload_n 2, 1) := by decide +kernel
theorem dL_name_1 : decode cL_name 1 = .ok (.iconst 0, 1) := by decide +kernel
theorem dL_name_2 : decode cL_name 2 = .ok (.aload_n 0, 1) := by decide +kernel
theorem dL_name_3 : decode cL_name 3 = .ok (.iload_n 1, 1) := by decide +kernel
theorem dL_name_4 : decode cL_name 4 = .ok (.invokevirtual 46, 3) := by decide +kernel
theorem dL_name_7 : decode cL_name 7 = .ok (.i2l, 1) := by decide +kernel
theorem dL_name_8 : decode cL_name 8 = .ok (.lastore, 1) := by decide +kernel
theorem dL_name_9 : decode cL_name 9 = .ok (.goto 9, 3) := by decide +kernel
theorem dL_name_12 : decode cL_name 12 = .ok (.astore_n 3, 1) := by decide +kernel
theorem dL_name_13 : decode cL_name 13 = .ok (.iconst 1, 1) := by decide +kernel
theorem dL_name_14 : decode cL_name 14 = .ok (.ireturn, 1) := by decide +kernel
theorem dL_name_15 : decode cL_name 15 = .ok (.astore_n 3, 1) := by decide +kernel
theorem dL_name_16 : decode cL_name 16 = .ok (.iconst 2, 1) := by decide +kernel
theorem dL_name_17 : decode cL_name 17 = .ok (.ireturn, 1) := by decide +kernel
theorem dL_name_18 : decode cL_name 18 = .ok (.iconst 0, 1) := by decide +kernel
theorem dL_name_19 : decode cL_name 19 = .ok (.ireturn, 1) := by decide +kernel
theorem dL_apart_0 : decode cL_apart 0 = .ok (.aload_n 3, 1) := by decide +kernel
theorem dL_apart_1 : decode cL_apart 1 = .ok (.iconst 0, 1) := by decide +kernel
theorem dL_apart_2 : decode cL_apart 2 = .ok (.aload_n 0, 1) := by decide +kernel
theorem dL_apart_3 : decode cL_apart 3 = .ok (.iload_n 1, 1) := by decide +kernel
theorem dL_apart_4 : decode cL_apart 4 = .ok (.iload_n 2, 1) := by decide +kernel
theorem dL_apart_5 : decode cL_apart 5 = .ok (.invokevirtual 49, 3) := by decide +kernel
theorem dL_apart_8 : decode cL_apart 8 = .ok (.i2l, 1) := by decide +kernel
theorem dL_apart_9 : decode cL_apart 9 = .ok (.lastore, 1) := by decide +kernel
theorem dL_apart_10 : decode cL_apart 10 = .ok (.goto 11, 3) := by decide +kernel
theorem dL_apart_13 : decode cL_apart 13 = .ok (.astore 4, 2) := by decide +kernel
theorem dL_apart_15 : decode cL_apart 15 = .ok (.iconst 1, 1) := by decide +kernel
theorem dL_apart_16 : decode cL_apart 16 = .ok (.ireturn, 1) := by decide +kernel
theorem dL_apart_17 : decode cL_apart 17 = .ok (.astore 4, 2) := by decide +kernel
theorem dL_apart_19 : decode cL_apart 19 = .ok (.iconst 2, 1) := by decide +kernel
theorem dL_apart_20 : decode cL_apart 20 = .ok (.ireturn, 1) := by decide +kernel
theorem dL_apart_21 : decode cL_apart 21 = .ok (.iconst 0, 1) := by decide +kernel
theorem dL_apart_22 : decode cL_apart 22 = .ok (.ireturn, 1) := by decide +kernel
theorem dL_exemplify_0 : decode cL_exemplify 0 = .ok (.aload_n 1, 1) := by decide +kernel
theorem dL_exemplify_1 : decode cL_exemplify 1 = .ok (.iconst 0, 1) := by decide +kernel
theorem dL_exemplify_2 : decode cL_exemplify 2 = .ok (.aload_n 0, 1) := by decide +kernel
theorem dL_exemplify_3 : decode cL_exemplify 3 = .ok (.invokevirtual 52, 3) := by decide +kernel
theorem dL_exemplify_6 : decode cL_exemplify 6 = .ok (.i2l, 1) := by decide +kernel
theorem dL_exemplify_7 : decode cL_exemplify 7 = .ok (.lastore, 1) := by decide +kernel
theorem dL_exemplify_8 : decode cL_exemplify 8 = .ok (.goto 9, 3) := by decide +kernel
theorem dL_exemplify_11 : decode cL_exemplify 11 = .ok (.astore_n 2, 1) := by decide +kernel
theorem dL_exemplify_12 : decode cL_exemplify 12 = .ok (.iconst 1, 1) := by decide +kernel
theorem dL_exemplify_13 : decode cL_exemplify 13 = .ok (.ireturn, 1) := by decide +kernel
theorem dL_exemplify_14 : decode cL_exemplify 14 = .ok (.astore_n 2, 1) := by decide +kernel
theorem dL_exemplify_15 : decode cL_exemplify 15 = .ok (.iconst 2, 1) := by decide +kernel
theorem dL_exemplify_16 : decode cL_exemplify 16 = .ok (.ireturn, 1) := by decide +kernel
theorem dL_exemplify_17 : decode cL_exemplify 17 = .ok (.iconst 0, 1) := by decide +kernel
theorem dL_exemplify_18 : decode cL_exemplify 18 = .ok (.ireturn, 1) := by decide +kernel
theorem dL_same_0 : decode cL_same 0 = .ok (.aload_n 1, 1) := by decide +kernel
theorem dL_same_1 : decode cL_same 1 = .ok (.iconst 0, 1) := by decide +kernel
theorem dL_same_2 : decode cL_same 2 = .ok (.aload_n 0, 1) := by decide +kernel
theorem dL_same_3 : decode cL_same 3 = .ok (.invokevirtual 55, 3) := by decide +kernel
theorem dL_same_6 : decode cL_same 6 = .ok (.ifCond .eq 7, 3) := by decide +kernel
theorem dL_same_9 : decode cL_same 9 = .ok (.lconst 1, 1) := by decide +kernel
theorem dL_same_10 : decode cL_same 10 = .ok (.goto 4, 3) := by decide +kernel
theorem dL_same_13 : decode cL_same 13 = .ok (.lconst 0, 1) := by decide +kernel
theorem dL_same_14 : decode cL_same 14 = .ok (.lastore, 1) := by decide +kernel
theorem dL_same_15 : decode cL_same 15 = .ok (.goto 6, 3) := by decide +kernel
theorem dL_same_18 : decode cL_same 18 = .ok (.astore_n 2, 1) := by decide +kernel
theorem dL_same_19 : decode cL_same 19 = .ok (.iconst 1, 1) := by decide +kernel
theorem dL_same_20 : decode cL_same 20 = .ok (.ireturn, 1) := by decide +kernel
theorem dL_same_21 : decode cL_same 21 = .ok (.iconst 0, 1) := by decide +kernel
theorem dL_same_22 : decode cL_same 22 = .ok (.ireturn, 1) := by decide +kernel
theorem dL_law_0 : decode cL_law 0 = .ok (.new 8, 3) := by decide +kernel
theorem dL_law_3 : decode cL_law 3 = .ok (.dup, 1) := by decide +kernel
theorem dL_law_4 : decode cL_law 4 = .ok (.invokespecial 59, 3) := by decide +kernel
theorem dL_law_7 : decode cL_law 7 = .ok (.astore_n 1, 1) := by decide +kernel
theorem dL_law_8 : decode cL_law 8 = .ok (.new 60, 3) := by decide +kernel
theorem dL_law_11 : decode cL_law 11 = .ok (.dup, 1) := by decide +kernel
theorem dL_law_12 : decode cL_law 12 = .ok (.invokespecial 62, 3) := by decide +kernel
theorem dL_law_15 : decode cL_law 15 = .ok (.astore_n 2, 1) := by decide +kernel
theorem dL_law_16 : decode cL_law 16 = .ok (.iconst 1, 1) := by decide +kernel
theorem dL_law_17 : decode cL_law 17 = .ok (.newarray .long, 2) := by decide +kernel
theorem dL_law_19 : decode cL_law 19 = .ok (.astore_n 3, 1) := by decide +kernel
theorem dL_law_20 : decode cL_law 20 = .ok (.iconst 0, 1) := by decide +kernel
theorem dL_law_21 : decode cL_law 21 = .ok (.istore 4, 2) := by decide +kernel
theorem dL_law_23 : decode cL_law 23 = .ok (.iload 4, 2) := by decide +kernel
theorem dL_law_25 : decode cL_law 25 = .ok (.aload_n 0, 1) := by decide +kernel
theorem dL_law_26 : decode cL_law 26 = .ok (.arraylength, 1) := by decide +kernel
theorem dL_law_27 : decode cL_law 27 = .ok (.iconst 5, 1) := by decide +kernel
theorem dL_law_28 : decode cL_law 28 = .ok (.isub, 1) := by decide +kernel
theorem dL_law_29 : decode cL_law 29 = .ok (.if_icmp .gt 900, 3) := by decide +kernel
theorem dL_law_32 : decode cL_law 32 = .ok (.aload_n 0, 1) := by decide +kernel
theorem dL_law_33 : decode cL_law 33 = .ok (.iload 4, 2) := by decide +kernel
theorem dL_law_35 : decode cL_law 35 = .ok (.iaload, 1) := by decide +kernel
theorem dL_law_36 : decode cL_law 36 = .ok (.bipush 15, 2) := by decide +kernel
theorem dL_law_38 : decode cL_law 38 = .ok (.iand, 1) := by decide +kernel
theorem dL_law_39 : decode cL_law 39 = .ok (.tableswitch 884 0 15 #[77, 180, 248, 261, 272, 285, 298, 366, 422, 497, 533, 621, 665, 721, 789, 833], 77) := by decide +kernel
theorem dL_law_116 : decode cL_law 116 = .ok (.aload_n 1, 1) := by decide +kernel
theorem dL_law_117 : decode cL_law 117 = .ok (.aload_n 0, 1) := by decide +kernel
theorem dL_law_118 : decode cL_law 118 = .ok (.iload 4, 2) := by decide +kernel
theorem dL_law_120 : decode cL_law 120 = .ok (.iconst 1, 1) := by decide +kernel
theorem dL_law_121 : decode cL_law 121 = .ok (.iadd, 1) := by decide +kernel
theorem dL_law_122 : decode cL_law 122 = .ok (.iaload, 1) := by decide +kernel
theorem dL_law_123 : decode cL_law 123 = .ok (.aload_n 0, 1) := by decide +kernel
theorem dL_law_124 : decode cL_law 124 = .ok (.iload 4, 2) := by decide +kernel
theorem dL_law_126 : decode cL_law 126 = .ok (.iconst 2, 1) := by decide +kernel
theorem dL_law_127 : decode cL_law 127 = .ok (.iadd, 1) := by decide +kernel
theorem dL_law_128 : decode cL_law 128 = .ok (.iaload, 1) := by decide +kernel
theorem dL_law_129 : decode cL_law 129 = .ok (.aload_n 0, 1) := by decide +kernel
theorem dL_law_130 : decode cL_law 130 = .ok (.iload 4, 2) := by decide +kernel
theorem dL_law_132 : decode cL_law 132 = .ok (.iconst 3, 1) := by decide +kernel
theorem dL_law_133 : decode cL_law 133 = .ok (.iadd, 1) := by decide +kernel
theorem dL_law_134 : decode cL_law 134 = .ok (.iaload, 1) := by decide +kernel
theorem dL_law_135 : decode cL_law 135 = .ok (.ifCond .eq 7, 3) := by decide +kernel
theorem dL_law_138 : decode cL_law 138 = .ok (.iconst 1, 1) := by decide +kernel
theorem dL_law_139 : decode cL_law 139 = .ok (.goto 4, 3) := by decide +kernel
theorem dL_law_142 : decode cL_law 142 = .ok (.iconst 0, 1) := by decide +kernel
theorem dL_law_143 : decode cL_law 143 = .ok (.aload_n 3, 1) := by decide +kernel
theorem dL_law_144 : decode cL_law 144 = .ok (.invokestatic 63, 3) := by decide +kernel
theorem dL_law_147 : decode cL_law 147 = .ok (.istore 5, 2) := by decide +kernel
theorem dL_law_149 : decode cL_law 149 = .ok (.aload_n 2, 1) := by decide +kernel
theorem dL_law_150 : decode cL_law 150 = .ok (.aload_n 0, 1) := by decide +kernel
theorem dL_law_151 : decode cL_law 151 = .ok (.iload 4, 2) := by decide +kernel
theorem dL_law_153 : decode cL_law 153 = .ok (.iconst 1, 1) := by decide +kernel
theorem dL_law_154 : decode cL_law 154 = .ok (.iadd, 1) := by decide +kernel
theorem dL_law_155 : decode cL_law 155 = .ok (.iaload, 1) := by decide +kernel
theorem dL_law_156 : decode cL_law 156 = .ok (.aload_n 0, 1) := by decide +kernel
theorem dL_law_157 : decode cL_law 157 = .ok (.iload 4, 2) := by decide +kernel
theorem dL_law_159 : decode cL_law 159 = .ok (.iconst 2, 1) := by decide +kernel
theorem dL_law_160 : decode cL_law 160 = .ok (.iadd, 1) := by decide +kernel
theorem dL_law_161 : decode cL_law 161 = .ok (.iaload, 1) := by decide +kernel
theorem dL_law_162 : decode cL_law 162 = .ok (.aload_n 0, 1) := by decide +kernel
theorem dL_law_163 : decode cL_law 163 = .ok (.iload 4, 2) := by decide +kernel
theorem dL_law_165 : decode cL_law 165 = .ok (.iconst 3, 1) := by decide +kernel
theorem dL_law_166 : decode cL_law 166 = .ok (.iadd, 1) := by decide +kernel
theorem dL_law_167 : decode cL_law 167 = .ok (.iaload, 1) := by decide +kernel
theorem dL_law_168 : decode cL_law 168 = .ok (.ifCond .eq 7, 3) := by decide +kernel
theorem dL_law_171 : decode cL_law 171 = .ok (.iconst 1, 1) := by decide +kernel
theorem dL_law_172 : decode cL_law 172 = .ok (.goto 4, 3) := by decide +kernel
theorem dL_law_175 : decode cL_law 175 = .ok (.iconst 0, 1) := by decide +kernel
theorem dL_law_176 : decode cL_law 176 = .ok (.invokevirtual 68, 3) := by decide +kernel
theorem dL_law_179 : decode cL_law 179 = .ok (.istore 6, 2) := by decide +kernel
theorem dL_law_181 : decode cL_law 181 = .ok (.aload_n 2, 1) := by decide +kernel
theorem dL_law_182 : decode cL_law 182 = .ok (.invokevirtual 69, 3) := by decide +kernel
theorem dL_law_185 : decode cL_law 185 = .ok (.iload 5, 2) := by decide +kernel
theorem dL_law_187 : decode cL_law 187 = .ok (.if_icmp .eq 5, 3) := by decide +kernel
theorem dL_law_190 : decode cL_law 190 = .ok (.iconst 0, 1) := by decide +kernel
theorem dL_law_191 : decode cL_law 191 = .ok (.ireturn, 1) := by decide +kernel
theorem dL_law_192 : decode cL_law 192 = .ok (.iload 5, 2) := by decide +kernel
theorem dL_law_194 : decode cL_law 194 = .ok (.ifCond .ne 22, 3) := by decide +kernel
theorem dL_law_197 : decode cL_law 197 = .ok (.aload_n 3, 1) := by decide +kernel
theorem dL_law_198 : decode cL_law 198 = .ok (.iconst 0, 1) := by decide +kernel
theorem dL_law_199 : decode cL_law 199 = .ok (.laload, 1) := by decide +kernel
theorem dL_law_200 : decode cL_law 200 = .ok (.iload 6, 2) := by decide +kernel
theorem dL_law_202 : decode cL_law 202 = .ok (.ifCond .eq 7, 3) := by decide +kernel
theorem dL_law_205 : decode cL_law 205 = .ok (.lconst 1, 1) := by decide +kernel
theorem dL_law_206 : decode cL_law 206 = .ok (.goto 4, 3) := by decide +kernel
theorem dL_law_209 : decode cL_law 209 = .ok (.lconst 0, 1) := by decide +kernel
theorem dL_law_210 : decode cL_law 210 = .ok (.lcmp, 1) := by decide +kernel
theorem dL_law_211 : decode cL_law 211 = .ok (.ifCond .eq 5, 3) := by decide +kernel
theorem dL_law_214 : decode cL_law 214 = .ok (.iconst 0, 1) := by decide +kernel
theorem dL_law_215 : decode cL_law 215 = .ok (.ireturn, 1) := by decide +kernel
theorem dL_law_216 : decode cL_law 216 = .ok (.goto 707, 3) := by decide +kernel
theorem dL_law_219 : decode cL_law 219 = .ok (.aload_n 1, 1) := by decide +kernel
theorem dL_law_220 : decode cL_law 220 = .ok (.aload_n 0, 1) := by decide +kernel
theorem dL_law_221 : decode cL_law 221 = .ok (.iload 4, 2) := by decide +kernel
theorem dL_law_223 : decode cL_law 223 = .ok (.iconst 1, 1) := by decide +kernel
theorem dL_law_224 : decode cL_law 224 = .ok (.iadd, 1) := by decide +kernel
theorem dL_law_225 : decode cL_law 225 = .ok (.iaload, 1) := by decide +kernel
theorem dL_law_226 : decode cL_law 226 = .ok (.aload_n 0, 1) := by decide +kernel
theorem dL_law_227 : decode cL_law 227 = .ok (.iload 4, 2) := by decide +kernel
theorem dL_law_229 : decode cL_law 229 = .ok (.iconst 2, 1) := by decide +kernel
theorem dL_law_230 : decode cL_law 230 = .ok (.iadd, 1) := by decide +kernel
theorem dL_law_231 : decode cL_law 231 = .ok (.iaload, 1) := by decide +kernel
theorem dL_law_232 : decode cL_law 232 = .ok (.aload_n 3, 1) := by decide +kernel
theorem dL_law_233 : decode cL_law 233 = .ok (.invokestatic 72, 3) := by decide +kernel
theorem dL_law_236 : decode cL_law 236 = .ok (.istore 5, 2) := by decide +kernel
theorem dL_law_238 : decode cL_law 238 = .ok (.aload_n 2, 1) := by decide +kernel
theorem dL_law_239 : decode cL_law 239 = .ok (.aload_n 0, 1) := by decide +kernel
theorem dL_law_240 : decode cL_law 240 = .ok (.iload 4, 2) := by decide +kernel
theorem dL_law_242 : decode cL_law 242 = .ok (.iconst 1, 1) := by decide +kernel
theorem dL_law_243 : decode cL_law 243 = .ok (.iadd, 1) := by decide +kernel
theorem dL_law_244 : decode cL_law 244 = .ok (.iaload, 1) := by decide +kernel
theorem dL_law_245 : decode cL_law 245 = .ok (.aload_n 0, 1) := by decide +kernel
theorem dL_law_246 : decode cL_law 246 = .ok (.iload 4, 2) := by decide +kernel
theorem dL_law_248 : decode cL_law 248 = .ok (.iconst 2, 1) := by decide +kernel
theorem dL_law_249 : decode cL_law 249 = .ok (.iadd, 1) := by decide +kernel
theorem dL_law_250 : decode cL_law 250 = .ok (.iaload, 1) := by decide +kernel
theorem dL_law_251 : decode cL_law 251 = .ok (.invokevirtual 75, 3) := by decide +kernel
theorem dL_law_254 : decode cL_law 254 = .ok (.istore 6, 2) := by decide +kernel
theorem dL_law_256 : decode cL_law 256 = .ok (.aload_n 2, 1) := by decide +kernel
theorem dL_law_257 : decode cL_law 257 = .ok (.invokevirtual 69, 3) := by decide +kernel
theorem dL_law_260 : decode cL_law 260 = .ok (.iload 5, 2) := by decide +kernel
theorem dL_law_262 : decode cL_law 262 = .ok (.if_icmp .eq 5, 3) := by decide +kernel
theorem dL_law_265 : decode cL_law 265 = .ok (.iconst 0, 1) := by decide +kernel
theorem dL_law_266 : decode cL_law 266 = .ok (.ireturn, 1) := by decide +kernel
theorem dL_law_267 : decode cL_law 267 = .ok (.iload 5, 2) := by decide +kernel
theorem dL_law_269 : decode cL_law 269 = .ok (.ifCond .ne 15, 3) := by decide +kernel
theorem dL_law_272 : decode cL_law 272 = .ok (.aload_n 3, 1) := by decide +kernel
theorem dL_law_273 : decode cL_law 273 = .ok (.iconst 0, 1) := by decide +kernel
theorem dL_law_274 : decode cL_law 274 = .ok (.laload, 1) := by decide +kernel
theorem dL_law_275 : decode cL_law 275 = .ok (.iload 6, 2) := by decide +kernel
theorem dL_law_277 : decode cL_law 277 = .ok (.i2l, 1) := by decide +kernel
theorem dL_law_278 : decode cL_law 278 = .ok (.lcmp, 1) := by decide +kernel
theorem dL_law_279 : decode cL_law 279 = .ok (.ifCond .eq 5, 3) := by decide +kernel
theorem dL_law_282 : decode cL_law 282 = .ok (.iconst 0, 1) := by decide +kernel
theorem dL_law_283 : decode cL_law 283 = .ok (.ireturn, 1) := by decide +kernel
theorem dL_law_284 : decode cL_law 284 = .ok (.goto 639, 3) := by decide +kernel
theorem dL_law_287 : decode cL_law 287 = .ok (.aload_n 1, 1) := by decide +kernel
theorem dL_law_288 : decode cL_law 288 = .ok (.invokevirtual 76, 3) := by decide +kernel
theorem dL_law_291 : decode cL_law 291 = .ok (.aload_n 2, 1) := by decide +kernel
theorem dL_law_292 : decode cL_law 292 = .ok (.invokevirtual 79, 3) := by decide +kernel
theorem dL_law_295 : decode cL_law 295 = .ok (.if_icmp .eq 628, 3) := by decide +kernel
theorem dL_law_298 : decode cL_law 298 = .ok (.iconst 0, 1) := by decide +kernel
theorem dL_law_299 : decode cL_law 299 = .ok (.ireturn, 1) := by decide +kernel
theorem dL_law_300 : decode cL_law 300 = .ok (.aload_n 1, 1) := by decide +kernel
theorem dL_law_301 : decode cL_law 301 = .ok (.invokevirtual 80, 3) := by decide +kernel
theorem dL_law_304 : decode cL_law 304 = .ok (.aload_n 2, 1) := by decide +kernel
theorem dL_law_305 : decode cL_law 305 = .ok (.invokevirtual 83, 3) := by decide +kernel
theorem dL_law_308 : decode cL_law 308 = .ok (.goto 615, 3) := by decide +kernel
theorem dL_law_311 : decode cL_law 311 = .ok (.aload_n 1, 1) := by decide +kernel
theorem dL_law_312 : decode cL_law 312 = .ok (.invokevirtual 84, 3) := by decide +kernel
theorem dL_law_315 : decode cL_law 315 = .ok (.aload_n 2, 1) := by decide +kernel
theorem dL_law_316 : decode cL_law 316 = .ok (.invokevirtual 87, 3) := by decide +kernel
theorem dL_law_319 : decode cL_law 319 = .ok (.if_icmp .eq 604, 3) := by decide +kernel
theorem dL_law_322 : decode cL_law 322 = .ok (.iconst 0, 1) := by decide +kernel
theorem dL_law_323 : decode cL_law 323 = .ok (.ireturn, 1) := by decide +kernel
theorem dL_law_324 : decode cL_law 324 = .ok (.aload_n 1, 1) := by decide +kernel
theorem dL_law_325 : decode cL_law 325 = .ok (.invokevirtual 88, 3) := by decide +kernel
theorem dL_law_328 : decode cL_law 328 = .ok (.aload_n 2, 1) := by decide +kernel
theorem dL_law_329 : decode cL_law 329 = .ok (.invokevirtual 91, 3) := by decide +kernel
theorem dL_law_332 : decode cL_law 332 = .ok (.if_icmp .eq 591, 3) := by decide +kernel
theorem dL_law_335 : decode cL_law 335 = .ok (.iconst 0, 1) := by decide +kernel
theorem dL_law_336 : decode cL_law 336 = .ok (.ireturn, 1) := by decide +kernel
theorem dL_law_337 : decode cL_law 337 = .ok (.aload_n 1, 1) := by decide +kernel
theorem dL_law_338 : decode cL_law 338 = .ok (.aload_n 0, 1) := by decide +kernel
theorem dL_law_339 : decode cL_law 339 = .ok (.iload 4, 2) := by decide +kernel
theorem dL_law_341 : decode cL_law 341 = .ok (.iconst 1, 1) := by decide +kernel
theorem dL_law_342 : decode cL_law 342 = .ok (.iadd, 1) := by decide +kernel
theorem dL_law_343 : decode cL_law 343 = .ok (.iaload, 1) := by decide +kernel
theorem dL_law_344 : decode cL_law 344 = .ok (.aload_n 0, 1) := by decide +kernel
theorem dL_law_345 : decode cL_law 345 = .ok (.iload 4, 2) := by decide +kernel
theorem dL_law_347 : decode cL_law 347 = .ok (.iconst 2, 1) := by decide +kernel
theorem dL_law_348 : decode cL_law 348 = .ok (.iadd, 1) := by decide +kernel
theorem dL_law_349 : decode cL_law 349 = .ok (.iaload, 1) := by decide +kernel
theorem dL_law_350 : decode cL_law 350 = .ok (.aload_n 3, 1) := by decide +kernel
theorem dL_law_351 : decode cL_law 351 = .ok (.invokestatic 92, 3) := by decide +kernel
theorem dL_law_354 : decode cL_law 354 = .ok (.istore 5, 2) := by decide +kernel
theorem dL_law_356 : decode cL_law 356 = .ok (.aload_n 2, 1) := by decide +kernel
theorem dL_law_357 : decode cL_law 357 = .ok (.aload_n 0, 1) := by decide +kernel
theorem dL_law_358 : decode cL_law 358 = .ok (.iload 4, 2) := by decide +kernel
theorem dL_law_360 : decode cL_law 360 = .ok (.iconst 1, 1) := by decide +kernel
theorem dL_law_361 : decode cL_law 361 = .ok (.iadd, 1) := by decide +kernel
theorem dL_law_362 : decode cL_law 362 = .ok (.iaload, 1) := by decide +kernel
theorem dL_law_363 : decode cL_law 363 = .ok (.aload_n 0, 1) := by decide +kernel
theorem dL_law_364 : decode cL_law 364 = .ok (.iload 4, 2) := by decide +kernel
theorem dL_law_366 : decode cL_law 366 = .ok (.iconst 2, 1) := by decide +kernel
theorem dL_law_367 : decode cL_law 367 = .ok (.iadd, 1) := by decide +kernel
theorem dL_law_368 : decode cL_law 368 = .ok (.iaload, 1) := by decide +kernel
theorem dL_law_369 : decode cL_law 369 = .ok (.invokevirtual 94, 3) := by decide +kernel
theorem dL_law_372 : decode cL_law 372 = .ok (.istore 6, 2) := by decide +kernel
theorem dL_law_374 : decode cL_law 374 = .ok (.aload_n 2, 1) := by decide +kernel
theorem dL_law_375 : decode cL_law 375 = .ok (.invokevirtual 69, 3) := by decide +kernel
theorem dL_law_378 : decode cL_law 378 = .ok (.iload 5, 2) := by decide +kernel
theorem dL_law_380 : decode cL_law 380 = .ok (.if_icmp .eq 5, 3) := by decide +kernel
theorem dL_law_383 : decode cL_law 383 = .ok (.iconst 0, 1) := by decide +kernel
theorem dL_law_384 : decode cL_law 384 = .ok (.ireturn, 1) := by decide +kernel
theorem dL_law_385 : decode cL_law 385 = .ok (.iload 5, 2) := by decide +kernel
theorem dL_law_387 : decode cL_law 387 = .ok (.ifCond .ne 15, 3) := by decide +kernel
theorem dL_law_390 : decode cL_law 390 = .ok (.aload_n 3, 1) := by decide +kernel
theorem dL_law_391 : decode cL_law 391 = .ok (.iconst 0, 1) := by decide +kernel
theorem dL_law_392 : decode cL_law 392 = .ok (.laload, 1) := by decide +kernel
theorem dL_law_393 : decode cL_law 393 = .ok (.iload 6, 2) := by decide +kernel
theorem dL_law_395 : decode cL_law 395 = .ok (.i2l, 1) := by decide +kernel
theorem dL_law_396 : decode cL_law 396 = .ok (.lcmp, 1) := by decide +kernel
theorem dL_law_397 : decode cL_law 397 = .ok (.ifCond .eq 5, 3) := by decide +kernel
theorem dL_law_400 : decode cL_law 400 = .ok (.iconst 0, 1) := by decide +kernel
theorem dL_law_401 : decode cL_law 401 = .ok (.ireturn, 1) := by decide +kernel
theorem dL_law_402 : decode cL_law 402 = .ok (.goto 521, 3) := by decide +kernel
theorem dL_law_405 : decode cL_law 405 = .ok (.aload_n 1, 1) := by decide +kernel
theorem dL_law_406 : decode cL_law 406 = .ok (.aload_n 0, 1) := by decide +kernel
theorem dL_law_407 : decode cL_law 407 = .ok (.iload 4, 2) := by decide +kernel
theorem dL_law_409 : decode cL_law 409 = .ok (.iconst 1, 1) := by decide +kernel
theorem dL_law_410 : decode cL_law 410 = .ok (.iadd, 1) := by decide +kernel
theorem dL_law_411 : decode cL_law 411 = .ok (.iaload, 1) := by decide +kernel
theorem dL_law_412 : decode cL_law 412 = .ok (.aload_n 3, 1) := by decide +kernel
theorem dL_law_413 : decode cL_law 413 = .ok (.invokestatic 95, 3) := by decide +kernel
theorem dL_law_416 : decode cL_law 416 = .ok (.istore 5, 2) := by decide +kernel
theorem dL_law_418 : decode cL_law 418 = .ok (.aload_n 2, 1) := by decide +kernel
theorem dL_law_419 : decode cL_law 419 = .ok (.aload_n 0, 1) := by decide +kernel
theorem dL_law_420 : decode cL_law 420 = .ok (.iload 4, 2) := by decide +kernel
theorem dL_law_422 : decode cL_law 422 = .ok (.iconst 1, 1) := by decide +kernel
theorem dL_law_423 : decode cL_law 423 = .ok (.iadd, 1) := by decide +kernel
theorem dL_law_424 : decode cL_law 424 = .ok (.iaload, 1) := by decide +kernel
theorem dL_law_425 : decode cL_law 425 = .ok (.invokevirtual 98, 3) := by decide +kernel
theorem dL_law_428 : decode cL_law 428 = .ok (.istore 6, 2) := by decide +kernel
theorem dL_law_430 : decode cL_law 430 = .ok (.aload_n 2, 1) := by decide +kernel
theorem dL_law_431 : decode cL_law 431 = .ok (.invokevirtual 69, 3) := by decide +kernel
theorem dL_law_434 : decode cL_law 434 = .ok (.iload 5, 2) := by decide +kernel
theorem dL_law_436 : decode cL_law 436 = .ok (.if_icmp .eq 5, 3) := by decide +kernel
theorem dL_law_439 : decode cL_law 439 = .ok (.iconst 0, 1) := by decide +kernel
theorem dL_law_440 : decode cL_law 440 = .ok (.ireturn, 1) := by decide +kernel
theorem dL_law_441 : decode cL_law 441 = .ok (.iload 5, 2) := by decide +kernel
theorem dL_law_443 : decode cL_law 443 = .ok (.ifCond .ne 15, 3) := by decide +kernel
theorem dL_law_446 : decode cL_law 446 = .ok (.aload_n 3, 1) := by decide +kernel
theorem dL_law_447 : decode cL_law 447 = .ok (.iconst 0, 1) := by decide +kernel
theorem dL_law_448 : decode cL_law 448 = .ok (.laload, 1) := by decide +kernel
theorem dL_law_449 : decode cL_law 449 = .ok (.iload 6, 2) := by decide +kernel
theorem dL_law_451 : decode cL_law 451 = .ok (.i2l, 1) := by decide +kernel
theorem dL_law_452 : decode cL_law 452 = .ok (.lcmp, 1) := by decide +kernel
theorem dL_law_453 : decode cL_law 453 = .ok (.ifCond .eq 5, 3) := by decide +kernel
theorem dL_law_456 : decode cL_law 456 = .ok (.iconst 0, 1) := by decide +kernel
theorem dL_law_457 : decode cL_law 457 = .ok (.ireturn, 1) := by decide +kernel
theorem dL_law_458 : decode cL_law 458 = .ok (.goto 465, 3) := by decide +kernel
theorem dL_law_461 : decode cL_law 461 = .ok (.aload_n 1, 1) := by decide +kernel
theorem dL_law_462 : decode cL_law 462 = .ok (.aload_n 0, 1) := by decide +kernel
theorem dL_law_463 : decode cL_law 463 = .ok (.iload 4, 2) := by decide +kernel
theorem dL_law_465 : decode cL_law 465 = .ok (.iconst 1, 1) := by decide +kernel
theorem dL_law_466 : decode cL_law 466 = .ok (.iadd, 1) := by decide +kernel
theorem dL_law_467 : decode cL_law 467 = .ok (.iaload, 1) := by decide +kernel
theorem dL_law_468 : decode cL_law 468 = .ok (.aload_n 0, 1) := by decide +kernel
theorem dL_law_469 : decode cL_law 469 = .ok (.iload 4, 2) := by decide +kernel
theorem dL_law_471 : decode cL_law 471 = .ok (.iconst 2, 1) := by decide +kernel
theorem dL_law_472 : decode cL_law 472 = .ok (.iadd, 1) := by decide +kernel
theorem dL_law_473 : decode cL_law 473 = .ok (.iaload, 1) := by decide +kernel
theorem dL_law_474 : decode cL_law 474 = .ok (.aload_n 3, 1) := by decide +kernel
theorem dL_law_475 : decode cL_law 475 = .ok (.invokestatic 99, 3) := by decide +kernel
theorem dL_law_478 : decode cL_law 478 = .ok (.istore 5, 2) := by decide +kernel
theorem dL_law_480 : decode cL_law 480 = .ok (.aload_n 2, 1) := by decide +kernel
theorem dL_law_481 : decode cL_law 481 = .ok (.aload_n 0, 1) := by decide +kernel
theorem dL_law_482 : decode cL_law 482 = .ok (.iload 4, 2) := by decide +kernel
theorem dL_law_484 : decode cL_law 484 = .ok (.iconst 1, 1) := by decide +kernel
theorem dL_law_485 : decode cL_law 485 = .ok (.iadd, 1) := by decide +kernel
theorem dL_law_486 : decode cL_law 486 = .ok (.iaload, 1) := by decide +kernel
theorem dL_law_487 : decode cL_law 487 = .ok (.aload_n 0, 1) := by decide +kernel
theorem dL_law_488 : decode cL_law 488 = .ok (.iload 4, 2) := by decide +kernel
theorem dL_law_490 : decode cL_law 490 = .ok (.iconst 2, 1) := by decide +kernel
theorem dL_law_491 : decode cL_law 491 = .ok (.iadd, 1) := by decide +kernel
theorem dL_law_492 : decode cL_law 492 = .ok (.iaload, 1) := by decide +kernel
theorem dL_law_493 : decode cL_law 493 = .ok (.invokevirtual 101, 3) := by decide +kernel
theorem dL_law_496 : decode cL_law 496 = .ok (.istore 6, 2) := by decide +kernel
theorem dL_law_498 : decode cL_law 498 = .ok (.aload_n 2, 1) := by decide +kernel
theorem dL_law_499 : decode cL_law 499 = .ok (.invokevirtual 69, 3) := by decide +kernel
theorem dL_law_502 : decode cL_law 502 = .ok (.iload 5, 2) := by decide +kernel
theorem dL_law_504 : decode cL_law 504 = .ok (.if_icmp .eq 5, 3) := by decide +kernel
theorem dL_law_507 : decode cL_law 507 = .ok (.iconst 0, 1) := by decide +kernel
theorem dL_law_508 : decode cL_law 508 = .ok (.ireturn, 1) := by decide +kernel
theorem dL_law_509 : decode cL_law 509 = .ok (.iload 5, 2) := by decide +kernel
theorem dL_law_511 : decode cL_law 511 = .ok (.ifCond .ne 22, 3) := by decide +kernel
theorem dL_law_514 : decode cL_law 514 = .ok (.aload_n 3, 1) := by decide +kernel
theorem dL_law_515 : decode cL_law 515 = .ok (.iconst 0, 1) := by decide +kernel
theorem dL_law_516 : decode cL_law 516 = .ok (.laload, 1) := by decide +kernel
theorem dL_law_517 : decode cL_law 517 = .ok (.iload 6, 2) := by decide +kernel
theorem dL_law_519 : decode cL_law 519 = .ok (.ifCond .eq 7, 3) := by decide +kernel
theorem dL_law_522 : decode cL_law 522 = .ok (.lconst 1, 1) := by decide +kernel
theorem dL_law_523 : decode cL_law 523 = .ok (.goto 4, 3) := by decide +kernel
theorem dL_law_526 : decode cL_law 526 = .ok (.lconst 0, 1) := by decide +kernel
theorem dL_law_527 : decode cL_law 527 = .ok (.lcmp, 1) := by decide +kernel
theorem dL_law_528 : decode cL_law 528 = .ok (.ifCond .eq 5, 3) := by decide +kernel
theorem dL_law_531 : decode cL_law 531 = .ok (.iconst 0, 1) := by decide +kernel
theorem dL_law_532 : decode cL_law 532 = .ok (.ireturn, 1) := by decide +kernel
theorem dL_law_533 : decode cL_law 533 = .ok (.goto 390, 3) := by decide +kernel
theorem dL_law_536 : decode cL_law 536 = .ok (.aload_n 1, 1) := by decide +kernel
theorem dL_law_537 : decode cL_law 537 = .ok (.aload_n 0, 1) := by decide +kernel
theorem dL_law_538 : decode cL_law 538 = .ok (.iload 4, 2) := by decide +kernel
theorem dL_law_540 : decode cL_law 540 = .ok (.iconst 1, 1) := by decide +kernel
theorem dL_law_541 : decode cL_law 541 = .ok (.iadd, 1) := by decide +kernel
theorem dL_law_542 : decode cL_law 542 = .ok (.iaload, 1) := by decide +kernel
theorem dL_law_543 : decode cL_law 543 = .ok (.invokestatic 102, 3) := by decide +kernel
theorem dL_law_546 : decode cL_law 546 = .ok (.istore 5, 2) := by decide +kernel
theorem dL_law_548 : decode cL_law 548 = .ok (.aload_n 2, 1) := by decide +kernel
theorem dL_law_549 : decode cL_law 549 = .ok (.aload_n 0, 1) := by decide +kernel
theorem dL_law_550 : decode cL_law 550 = .ok (.iload 4, 2) := by decide +kernel
theorem dL_law_552 : decode cL_law 552 = .ok (.iconst 1, 1) := by decide +kernel
theorem dL_law_553 : decode cL_law 553 = .ok (.iadd, 1) := by decide +kernel
theorem dL_law_554 : decode cL_law 554 = .ok (.iaload, 1) := by decide +kernel
theorem dL_law_555 : decode cL_law 555 = .ok (.invokevirtual 105, 3) := by decide +kernel
theorem dL_law_558 : decode cL_law 558 = .ok (.aload_n 2, 1) := by decide +kernel
theorem dL_law_559 : decode cL_law 559 = .ok (.invokevirtual 69, 3) := by decide +kernel
theorem dL_law_562 : decode cL_law 562 = .ok (.iload 5, 2) := by decide +kernel
theorem dL_law_564 : decode cL_law 564 = .ok (.if_icmp .eq 5, 3) := by decide +kernel
theorem dL_law_567 : decode cL_law 567 = .ok (.iconst 0, 1) := by decide +kernel
theorem dL_law_568 : decode cL_law 568 = .ok (.ireturn, 1) := by decide +kernel
theorem dL_law_569 : decode cL_law 569 = .ok (.goto 354, 3) := by decide +kernel
theorem dL_law_572 : decode cL_law 572 = .ok (.aload_n 1, 1) := by decide +kernel
theorem dL_law_573 : decode cL_law 573 = .ok (.aload_n 0, 1) := by decide +kernel
theorem dL_law_574 : decode cL_law 574 = .ok (.iload 4, 2) := by decide +kernel
theorem dL_law_576 : decode cL_law 576 = .ok (.iconst 1, 1) := by decide +kernel
theorem dL_law_577 : decode cL_law 577 = .ok (.iadd, 1) := by decide +kernel
theorem dL_law_578 : decode cL_law 578 = .ok (.iaload, 1) := by decide +kernel
theorem dL_law_579 : decode cL_law 579 = .ok (.aload_n 0, 1) := by decide +kernel
theorem dL_law_580 : decode cL_law 580 = .ok (.iload 4, 2) := by decide +kernel
theorem dL_law_582 : decode cL_law 582 = .ok (.iconst 2, 1) := by decide +kernel
theorem dL_law_583 : decode cL_law 583 = .ok (.iadd, 1) := by decide +kernel
theorem dL_law_584 : decode cL_law 584 = .ok (.iaload, 1) := by decide +kernel
theorem dL_law_585 : decode cL_law 585 = .ok (.ifCond .eq 7, 3) := by decide +kernel
theorem dL_law_588 : decode cL_law 588 = .ok (.iconst 1, 1) := by decide +kernel
theorem dL_law_589 : decode cL_law 589 = .ok (.goto 4, 3) := by decide +kernel
theorem dL_law_592 : decode cL_law 592 = .ok (.iconst 0, 1) := by decide +kernel
theorem dL_law_593 : decode cL_law 593 = .ok (.aload_n 0, 1) := by decide +kernel
theorem dL_law_594 : decode cL_law 594 = .ok (.iload 4, 2) := by decide +kernel
theorem dL_law_596 : decode cL_law 596 = .ok (.iconst 3, 1) := by decide +kernel
theorem dL_law_597 : decode cL_law 597 = .ok (.iadd, 1) := by decide +kernel
theorem dL_law_598 : decode cL_law 598 = .ok (.iaload, 1) := by decide +kernel
theorem dL_law_599 : decode cL_law 599 = .ok (.aload_n 0, 1) := by decide +kernel
theorem dL_law_600 : decode cL_law 600 = .ok (.iload 4, 2) := by decide +kernel
theorem dL_law_602 : decode cL_law 602 = .ok (.iconst 4, 1) := by decide +kernel
theorem dL_law_603 : decode cL_law 603 = .ok (.iadd, 1) := by decide +kernel
theorem dL_law_604 : decode cL_law 604 = .ok (.iaload, 1) := by decide +kernel
theorem dL_law_605 : decode cL_law 605 = .ok (.invokestatic 106, 3) := by decide +kernel
theorem dL_law_608 : decode cL_law 608 = .ok (.istore 5, 2) := by decide +kernel
theorem dL_law_610 : decode cL_law 610 = .ok (.aload_n 2, 1) := by decide +kernel
theorem dL_law_611 : decode cL_law 611 = .ok (.aload_n 0, 1) := by decide +kernel
theorem dL_law_612 : decode cL_law 612 = .ok (.iload 4, 2) := by decide +kernel
theorem dL_law_614 : decode cL_law 614 = .ok (.iconst 1, 1) := by decide +kernel
theorem dL_law_615 : decode cL_law 615 = .ok (.iadd, 1) := by decide +kernel
theorem dL_law_616 : decode cL_law 616 = .ok (.iaload, 1) := by decide +kernel
theorem dL_law_617 : decode cL_law 617 = .ok (.aload_n 0, 1) := by decide +kernel
theorem dL_law_618 : decode cL_law 618 = .ok (.iload 4, 2) := by decide +kernel
theorem dL_law_620 : decode cL_law 620 = .ok (.iconst 2, 1) := by decide +kernel
theorem dL_law_621 : decode cL_law 621 = .ok (.iadd, 1) := by decide +kernel
theorem dL_law_622 : decode cL_law 622 = .ok (.iaload, 1) := by decide +kernel
theorem dL_law_623 : decode cL_law 623 = .ok (.ifCond .eq 7, 3) := by decide +kernel
theorem dL_law_626 : decode cL_law 626 = .ok (.iconst 1, 1) := by decide +kernel
theorem dL_law_627 : decode cL_law 627 = .ok (.goto 4, 3) := by decide +kernel
theorem dL_law_630 : decode cL_law 630 = .ok (.iconst 0, 1) := by decide +kernel
theorem dL_law_631 : decode cL_law 631 = .ok (.aload_n 0, 1) := by decide +kernel
theorem dL_law_632 : decode cL_law 632 = .ok (.iload 4, 2) := by decide +kernel
theorem dL_law_634 : decode cL_law 634 = .ok (.iconst 3, 1) := by decide +kernel
theorem dL_law_635 : decode cL_law 635 = .ok (.iadd, 1) := by decide +kernel
theorem dL_law_636 : decode cL_law 636 = .ok (.iaload, 1) := by decide +kernel
theorem dL_law_637 : decode cL_law 637 = .ok (.aload_n 0, 1) := by decide +kernel
theorem dL_law_638 : decode cL_law 638 = .ok (.iload 4, 2) := by decide +kernel
theorem dL_law_640 : decode cL_law 640 = .ok (.iconst 4, 1) := by decide +kernel
theorem dL_law_641 : decode cL_law 641 = .ok (.iadd, 1) := by decide +kernel
theorem dL_law_642 : decode cL_law 642 = .ok (.iaload, 1) := by decide +kernel
theorem dL_law_643 : decode cL_law 643 = .ok (.invokevirtual 109, 3) := by decide +kernel
theorem dL_law_646 : decode cL_law 646 = .ok (.aload_n 2, 1) := by decide +kernel
theorem dL_law_647 : decode cL_law 647 = .ok (.invokevirtual 69, 3) := by decide +kernel
theorem dL_law_650 : decode cL_law 650 = .ok (.iload 5, 2) := by decide +kernel
theorem dL_law_652 : decode cL_law 652 = .ok (.if_icmp .eq 5, 3) := by decide +kernel
theorem dL_law_655 : decode cL_law 655 = .ok (.iconst 0, 1) := by decide +kernel
theorem dL_law_656 : decode cL_law 656 = .ok (.ireturn, 1) := by decide +kernel
theorem dL_law_657 : decode cL_law 657 = .ok (.goto 266, 3) := by decide +kernel
theorem dL_law_660 : decode cL_law 660 = .ok (.aload_n 1, 1) := by decide +kernel
theorem dL_law_661 : decode cL_law 661 = .ok (.aload_n 3, 1) := by decide +kernel
theorem dL_law_662 : decode cL_law 662 = .ok (.invokestatic 110, 3) := by decide +kernel
theorem dL_law_665 : decode cL_law 665 = .ok (.istore 5, 2) := by decide +kernel
theorem dL_law_667 : decode cL_law 667 = .ok (.aload_n 2, 1) := by decide +kernel
theorem dL_law_668 : decode cL_law 668 = .ok (.invokevirtual 113, 3) := by decide +kernel
theorem dL_law_671 : decode cL_law 671 = .ok (.istore 6, 2) := by decide +kernel
theorem dL_law_673 : decode cL_law 673 = .ok (.aload_n 2, 1) := by decide +kernel
theorem dL_law_674 : decode cL_law 674 = .ok (.invokevirtual 69, 3) := by decide +kernel
theorem dL_law_677 : decode cL_law 677 = .ok (.iload 5, 2) := by decide +kernel
theorem dL_law_679 : decode cL_law 679 = .ok (.if_icmp .eq 5, 3) := by decide +kernel
theorem dL_law_682 : decode cL_law 682 = .ok (.iconst 0, 1) := by decide +kernel
theorem dL_law_683 : decode cL_law 683 = .ok (.ireturn, 1) := by decide +kernel
theorem dL_law_684 : decode cL_law 684 = .ok (.iload 5, 2) := by decide +kernel
theorem dL_law_686 : decode cL_law 686 = .ok (.ifCond .ne 15, 3) := by decide +kernel
theorem dL_law_689 : decode cL_law 689 = .ok (.aload_n 3, 1) := by decide +kernel
theorem dL_law_690 : decode cL_law 690 = .ok (.iconst 0, 1) := by decide +kernel
theorem dL_law_691 : decode cL_law 691 = .ok (.laload, 1) := by decide +kernel
theorem dL_law_692 : decode cL_law 692 = .ok (.iload 6, 2) := by decide +kernel
theorem dL_law_694 : decode cL_law 694 = .ok (.i2l, 1) := by decide +kernel
theorem dL_law_695 : decode cL_law 695 = .ok (.lcmp, 1) := by decide +kernel
theorem dL_law_696 : decode cL_law 696 = .ok (.ifCond .eq 5, 3) := by decide +kernel
theorem dL_law_699 : decode cL_law 699 = .ok (.iconst 0, 1) := by decide +kernel
theorem dL_law_700 : decode cL_law 700 = .ok (.ireturn, 1) := by decide +kernel
theorem dL_law_701 : decode cL_law 701 = .ok (.goto 222, 3) := by decide +kernel
theorem dL_law_704 : decode cL_law 704 = .ok (.aload_n 1, 1) := by decide +kernel
theorem dL_law_705 : decode cL_law 705 = .ok (.aload_n 0, 1) := by decide +kernel
theorem dL_law_706 : decode cL_law 706 = .ok (.iload 4, 2) := by decide +kernel
theorem dL_law_708 : decode cL_law 708 = .ok (.iconst 1, 1) := by decide +kernel
theorem dL_law_709 : decode cL_law 709 = .ok (.iadd, 1) := by decide +kernel
theorem dL_law_710 : decode cL_law 710 = .ok (.iaload, 1) := by decide +kernel
theorem dL_law_711 : decode cL_law 711 = .ok (.aload_n 3, 1) := by decide +kernel
theorem dL_law_712 : decode cL_law 712 = .ok (.invokestatic 114, 3) := by decide +kernel
theorem dL_law_715 : decode cL_law 715 = .ok (.istore 5, 2) := by decide +kernel
theorem dL_law_717 : decode cL_law 717 = .ok (.aload_n 2, 1) := by decide +kernel
theorem dL_law_718 : decode cL_law 718 = .ok (.aload_n 0, 1) := by decide +kernel
theorem dL_law_719 : decode cL_law 719 = .ok (.iload 4, 2) := by decide +kernel
theorem dL_law_721 : decode cL_law 721 = .ok (.iconst 1, 1) := by decide +kernel
theorem dL_law_722 : decode cL_law 722 = .ok (.iadd, 1) := by decide +kernel
theorem dL_law_723 : decode cL_law 723 = .ok (.iaload, 1) := by decide +kernel
theorem dL_law_724 : decode cL_law 724 = .ok (.invokevirtual 116, 3) := by decide +kernel
theorem dL_law_727 : decode cL_law 727 = .ok (.istore 6, 2) := by decide +kernel
theorem dL_law_729 : decode cL_law 729 = .ok (.aload_n 2, 1) := by decide +kernel
theorem dL_law_730 : decode cL_law 730 = .ok (.invokevirtual 69, 3) := by decide +kernel
theorem dL_law_733 : decode cL_law 733 = .ok (.iload 5, 2) := by decide +kernel
theorem dL_law_735 : decode cL_law 735 = .ok (.if_icmp .eq 5, 3) := by decide +kernel
theorem dL_law_738 : decode cL_law 738 = .ok (.iconst 0, 1) := by decide +kernel
theorem dL_law_739 : decode cL_law 739 = .ok (.ireturn, 1) := by decide +kernel
theorem dL_law_740 : decode cL_law 740 = .ok (.iload 5, 2) := by decide +kernel
theorem dL_law_742 : decode cL_law 742 = .ok (.ifCond .ne 15, 3) := by decide +kernel
theorem dL_law_745 : decode cL_law 745 = .ok (.aload_n 3, 1) := by decide +kernel
theorem dL_law_746 : decode cL_law 746 = .ok (.iconst 0, 1) := by decide +kernel
theorem dL_law_747 : decode cL_law 747 = .ok (.laload, 1) := by decide +kernel
theorem dL_law_748 : decode cL_law 748 = .ok (.iload 6, 2) := by decide +kernel
theorem dL_law_750 : decode cL_law 750 = .ok (.i2l, 1) := by decide +kernel
theorem dL_law_751 : decode cL_law 751 = .ok (.lcmp, 1) := by decide +kernel
theorem dL_law_752 : decode cL_law 752 = .ok (.ifCond .eq 5, 3) := by decide +kernel
theorem dL_law_755 : decode cL_law 755 = .ok (.iconst 0, 1) := by decide +kernel
theorem dL_law_756 : decode cL_law 756 = .ok (.ireturn, 1) := by decide +kernel
theorem dL_law_757 : decode cL_law 757 = .ok (.goto 166, 3) := by decide +kernel
theorem dL_law_760 : decode cL_law 760 = .ok (.aload_n 1, 1) := by decide +kernel
theorem dL_law_761 : decode cL_law 761 = .ok (.aload_n 0, 1) := by decide +kernel
theorem dL_law_762 : decode cL_law 762 = .ok (.iload 4, 2) := by decide +kernel
theorem dL_law_764 : decode cL_law 764 = .ok (.iconst 1, 1) := by decide +kernel
theorem dL_law_765 : decode cL_law 765 = .ok (.iadd, 1) := by decide +kernel
theorem dL_law_766 : decode cL_law 766 = .ok (.iaload, 1) := by decide +kernel
theorem dL_law_767 : decode cL_law 767 = .ok (.aload_n 0, 1) := by decide +kernel
theorem dL_law_768 : decode cL_law 768 = .ok (.iload 4, 2) := by decide +kernel
theorem dL_law_770 : decode cL_law 770 = .ok (.iconst 2, 1) := by decide +kernel
theorem dL_law_771 : decode cL_law 771 = .ok (.iadd, 1) := by decide +kernel
theorem dL_law_772 : decode cL_law 772 = .ok (.iaload, 1) := by decide +kernel
theorem dL_law_773 : decode cL_law 773 = .ok (.aload_n 3, 1) := by decide +kernel
theorem dL_law_774 : decode cL_law 774 = .ok (.invokestatic 117, 3) := by decide +kernel
theorem dL_law_777 : decode cL_law 777 = .ok (.istore 5, 2) := by decide +kernel
theorem dL_law_779 : decode cL_law 779 = .ok (.aload_n 2, 1) := by decide +kernel
theorem dL_law_780 : decode cL_law 780 = .ok (.aload_n 0, 1) := by decide +kernel
theorem dL_law_781 : decode cL_law 781 = .ok (.iload 4, 2) := by decide +kernel
theorem dL_law_783 : decode cL_law 783 = .ok (.iconst 1, 1) := by decide +kernel
theorem dL_law_784 : decode cL_law 784 = .ok (.iadd, 1) := by decide +kernel
theorem dL_law_785 : decode cL_law 785 = .ok (.iaload, 1) := by decide +kernel
theorem dL_law_786 : decode cL_law 786 = .ok (.aload_n 0, 1) := by decide +kernel
theorem dL_law_787 : decode cL_law 787 = .ok (.iload 4, 2) := by decide +kernel
theorem dL_law_789 : decode cL_law 789 = .ok (.iconst 2, 1) := by decide +kernel
theorem dL_law_790 : decode cL_law 790 = .ok (.iadd, 1) := by decide +kernel
theorem dL_law_791 : decode cL_law 791 = .ok (.iaload, 1) := by decide +kernel
theorem dL_law_792 : decode cL_law 792 = .ok (.invokevirtual 119, 3) := by decide +kernel
theorem dL_law_795 : decode cL_law 795 = .ok (.istore 6, 2) := by decide +kernel
theorem dL_law_797 : decode cL_law 797 = .ok (.aload_n 2, 1) := by decide +kernel
theorem dL_law_798 : decode cL_law 798 = .ok (.invokevirtual 69, 3) := by decide +kernel
theorem dL_law_801 : decode cL_law 801 = .ok (.iload 5, 2) := by decide +kernel
theorem dL_law_803 : decode cL_law 803 = .ok (.if_icmp .eq 5, 3) := by decide +kernel
theorem dL_law_806 : decode cL_law 806 = .ok (.iconst 0, 1) := by decide +kernel
theorem dL_law_807 : decode cL_law 807 = .ok (.ireturn, 1) := by decide +kernel
theorem dL_law_808 : decode cL_law 808 = .ok (.iload 5, 2) := by decide +kernel
theorem dL_law_810 : decode cL_law 810 = .ok (.ifCond .ne 15, 3) := by decide +kernel
theorem dL_law_813 : decode cL_law 813 = .ok (.aload_n 3, 1) := by decide +kernel
theorem dL_law_814 : decode cL_law 814 = .ok (.iconst 0, 1) := by decide +kernel
theorem dL_law_815 : decode cL_law 815 = .ok (.laload, 1) := by decide +kernel
theorem dL_law_816 : decode cL_law 816 = .ok (.iload 6, 2) := by decide +kernel
theorem dL_law_818 : decode cL_law 818 = .ok (.i2l, 1) := by decide +kernel
theorem dL_law_819 : decode cL_law 819 = .ok (.lcmp, 1) := by decide +kernel
theorem dL_law_820 : decode cL_law 820 = .ok (.ifCond .eq 5, 3) := by decide +kernel
theorem dL_law_823 : decode cL_law 823 = .ok (.iconst 0, 1) := by decide +kernel
theorem dL_law_824 : decode cL_law 824 = .ok (.ireturn, 1) := by decide +kernel
theorem dL_law_825 : decode cL_law 825 = .ok (.goto 98, 3) := by decide +kernel
theorem dL_law_828 : decode cL_law 828 = .ok (.aload_n 1, 1) := by decide +kernel
theorem dL_law_829 : decode cL_law 829 = .ok (.aload_n 3, 1) := by decide +kernel
theorem dL_law_830 : decode cL_law 830 = .ok (.invokestatic 120, 3) := by decide +kernel
theorem dL_law_833 : decode cL_law 833 = .ok (.istore 5, 2) := by decide +kernel
theorem dL_law_835 : decode cL_law 835 = .ok (.aload_n 2, 1) := by decide +kernel
theorem dL_law_836 : decode cL_law 836 = .ok (.invokevirtual 122, 3) := by decide +kernel
theorem dL_law_839 : decode cL_law 839 = .ok (.istore 6, 2) := by decide +kernel
theorem dL_law_841 : decode cL_law 841 = .ok (.aload_n 2, 1) := by decide +kernel
theorem dL_law_842 : decode cL_law 842 = .ok (.invokevirtual 69, 3) := by decide +kernel
theorem dL_law_845 : decode cL_law 845 = .ok (.iload 5, 2) := by decide +kernel
theorem dL_law_847 : decode cL_law 847 = .ok (.if_icmp .eq 5, 3) := by decide +kernel
theorem dL_law_850 : decode cL_law 850 = .ok (.iconst 0, 1) := by decide +kernel
theorem dL_law_851 : decode cL_law 851 = .ok (.ireturn, 1) := by decide +kernel
theorem dL_law_852 : decode cL_law 852 = .ok (.iload 5, 2) := by decide +kernel
theorem dL_law_854 : decode cL_law 854 = .ok (.ifCond .ne 15, 3) := by decide +kernel
theorem dL_law_857 : decode cL_law 857 = .ok (.aload_n 3, 1) := by decide +kernel
theorem dL_law_858 : decode cL_law 858 = .ok (.iconst 0, 1) := by decide +kernel
theorem dL_law_859 : decode cL_law 859 = .ok (.laload, 1) := by decide +kernel
theorem dL_law_860 : decode cL_law 860 = .ok (.iload 6, 2) := by decide +kernel
theorem dL_law_862 : decode cL_law 862 = .ok (.i2l, 1) := by decide +kernel
theorem dL_law_863 : decode cL_law 863 = .ok (.lcmp, 1) := by decide +kernel
theorem dL_law_864 : decode cL_law 864 = .ok (.ifCond .eq 5, 3) := by decide +kernel
theorem dL_law_867 : decode cL_law 867 = .ok (.iconst 0, 1) := by decide +kernel
theorem dL_law_868 : decode cL_law 868 = .ok (.ireturn, 1) := by decide +kernel
theorem dL_law_869 : decode cL_law 869 = .ok (.goto 54, 3) := by decide +kernel
theorem dL_law_872 : decode cL_law 872 = .ok (.aload_n 1, 1) := by decide +kernel
theorem dL_law_873 : decode cL_law 873 = .ok (.aload_n 3, 1) := by decide +kernel
theorem dL_law_874 : decode cL_law 874 = .ok (.invokestatic 123, 3) := by decide +kernel
theorem dL_law_877 : decode cL_law 877 = .ok (.istore 5, 2) := by decide +kernel
theorem dL_law_879 : decode cL_law 879 = .ok (.aload_n 2, 1) := by decide +kernel
theorem dL_law_880 : decode cL_law 880 = .ok (.invokevirtual 125, 3) := by decide +kernel
theorem dL_law_883 : decode cL_law 883 = .ok (.istore 6, 2) := by decide +kernel
theorem dL_law_885 : decode cL_law 885 = .ok (.aload_n 2, 1) := by decide +kernel
theorem dL_law_886 : decode cL_law 886 = .ok (.invokevirtual 69, 3) := by decide +kernel
theorem dL_law_889 : decode cL_law 889 = .ok (.iload 5, 2) := by decide +kernel
theorem dL_law_891 : decode cL_law 891 = .ok (.if_icmp .eq 5, 3) := by decide +kernel
theorem dL_law_894 : decode cL_law 894 = .ok (.iconst 0, 1) := by decide +kernel
theorem dL_law_895 : decode cL_law 895 = .ok (.ireturn, 1) := by decide +kernel
theorem dL_law_896 : decode cL_law 896 = .ok (.iload 5, 2) := by decide +kernel
theorem dL_law_898 : decode cL_law 898 = .ok (.ifCond .ne 22, 3) := by decide +kernel
theorem dL_law_901 : decode cL_law 901 = .ok (.aload_n 3, 1) := by decide +kernel
theorem dL_law_902 : decode cL_law 902 = .ok (.iconst 0, 1) := by decide +kernel
theorem dL_law_903 : decode cL_law 903 = .ok (.laload, 1) := by decide +kernel
theorem dL_law_904 : decode cL_law 904 = .ok (.iload 6, 2) := by decide +kernel
theorem dL_law_906 : decode cL_law 906 = .ok (.ifCond .eq 7, 3) := by decide +kernel
theorem dL_law_909 : decode cL_law 909 = .ok (.lconst 1, 1) := by decide +kernel
theorem dL_law_910 : decode cL_law 910 = .ok (.goto 4, 3) := by decide +kernel
theorem dL_law_913 : decode cL_law 913 = .ok (.lconst 0, 1) := by decide +kernel
theorem dL_law_914 : decode cL_law 914 = .ok (.lcmp, 1) := by decide +kernel
theorem dL_law_915 : decode cL_law 915 = .ok (.ifCond .eq 5, 3) := by decide +kernel
theorem dL_law_918 : decode cL_law 918 = .ok (.iconst 0, 1) := by decide +kernel
theorem dL_law_919 : decode cL_law 919 = .ok (.ireturn, 1) := by decide +kernel
theorem dL_law_920 : decode cL_law 920 = .ok (.goto 3, 3) := by decide +kernel
theorem dL_law_923 : decode cL_law 923 = .ok (.iinc 4 5, 3) := by decide +kernel
theorem dL_law_926 : decode cL_law 926 = .ok (.goto (-903), 3) := by decide +kernel
theorem dL_law_929 : decode cL_law 929 = .ok (.iconst 1, 1) := by decide +kernel
theorem dL_law_930 : decode cL_law 930 = .ok (.ireturn, 1) := by decide +kernel
