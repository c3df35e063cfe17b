theorem dX6_inShare_0 : decode cX6_inShare 0 = .ok (.aload_n 0, 1) := by decide +kernel
theorem dX6_inShare_1 : decode cX6_inShare 1 = .ok (.aload_n 0, 1) := by decide +kernel
theorem dX6_inShare_2 : decode cX6_inShare 2 = .ok (.getfield 22, 3) := by decide +kernel
theorem dX6_inShare_5 : decode cX6_inShare 5 = .ok (.ifCond .ne 7, 3) := by decide +kernel
theorem dX6_inShare_8 : decode cX6_inShare 8 = .ok (.iconst 1, 1) := by decide +kernel
theorem dX6_inShare_9 : decode cX6_inShare 9 = .ok (.goto 4, 3) := by decide +kernel
theorem dX6_inShare_12 : decode cX6_inShare 12 = .ok (.iconst 0, 1) := by decide +kernel
theorem dX6_inShare_13 : decode cX6_inShare 13 = .ok (.putfield 37, 3) := by decide +kernel
theorem dX6_inShare_16 : decode cX6_inShare 16 = .ok (.iconst 0, 1) := by decide +kernel
theorem dX6_inShare_17 : decode cX6_inShare 17 = .ok (.istore_n 1, 1) := by decide +kernel
theorem dX6_inShare_18 : decode cX6_inShare 18 = .ok (.iconst 0, 1) := by decide +kernel
theorem dX6_inShare_19 : decode cX6_inShare 19 = .ok (.istore_n 2, 1) := by decide +kernel
theorem dX6_inShare_20 : decode cX6_inShare 20 = .ok (.iload_n 2, 1) := by decide +kernel
theorem dX6_inShare_21 : decode cX6_inShare 21 = .ok (.aload_n 0, 1) := by decide +kernel
theorem dX6_inShare_22 : decode cX6_inShare 22 = .ok (.getfield 22, 3) := by decide +kernel
theorem dX6_inShare_25 : decode cX6_inShare 25 = .ok (.if_icmp .ge 27, 3) := by decide +kernel
theorem dX6_inShare_28 : decode cX6_inShare 28 = .ok (.iload_n 1, 1) := by decide +kernel
theorem dX6_inShare_29 : decode cX6_inShare 29 = .ok (.aload_n 0, 1) := by decide +kernel
theorem dX6_inShare_30 : decode cX6_inShare 30 = .ok (.getfield 81, 3) := by decide +kernel
theorem dX6_inShare_33 : decode cX6_inShare 33 = .ok (.iload_n 2, 1) := by decide +kernel
theorem dX6_inShare_34 : decode cX6_inShare 34 = .ok (.iaload, 1) := by decide +kernel
theorem dX6_inShare_35 : decode cX6_inShare 35 = .ok (.iconst 1, 1) := by decide +kernel
theorem dX6_inShare_36 : decode cX6_inShare 36 = .ok (.if_icmp .ne 7, 3) := by decide +kernel
theorem dX6_inShare_39 : decode cX6_inShare 39 = .ok (.iconst 1, 1) := by decide +kernel
theorem dX6_inShare_40 : decode cX6_inShare 40 = .ok (.goto 4, 3) := by decide +kernel
theorem dX6_inShare_43 : decode cX6_inShare 43 = .ok (.iconst 0, 1) := by decide +kernel
theorem dX6_inShare_44 : decode cX6_inShare 44 = .ok (.iadd, 1) := by decide +kernel
theorem dX6_inShare_45 : decode cX6_inShare 45 = .ok (.istore_n 1, 1) := by decide +kernel
theorem dX6_inShare_46 : decode cX6_inShare 46 = .ok (.iinc 2 1, 3) := by decide +kernel
theorem dX6_inShare_49 : decode cX6_inShare 49 = .ok (.goto (-29), 3) := by decide +kernel
theorem dX6_inShare_52 : decode cX6_inShare 52 = .ok (.aload_n 0, 1) := by decide +kernel
theorem dX6_inShare_53 : decode cX6_inShare 53 = .ok (.getfield 37, 3) := by decide +kernel
theorem dX6_inShare_56 : decode cX6_inShare 56 = .ok (.ifCond .le 7, 3) := by decide +kernel
theorem dX6_inShare_59 : decode cX6_inShare 59 = .ok (.fconst 0, 1) := by decide +kernel
theorem dX6_inShare_60 : decode cX6_inShare 60 = .ok (.goto 11, 3) := by decide +kernel
theorem dX6_inShare_63 : decode cX6_inShare 63 = .ok (.iload_n 1, 1) := by decide +kernel
theorem dX6_inShare_64 : decode cX6_inShare 64 = .ok (.i2f, 1) := by decide +kernel
theorem dX6_inShare_65 : decode cX6_inShare 65 = .ok (.aload_n 0, 1) := by decide +kernel
theorem dX6_inShare_66 : decode cX6_inShare 66 = .ok (.getfield 22, 3) := by decide +kernel
theorem dX6_inShare_69 : decode cX6_inShare 69 = .ok (.i2f, 1) := by decide +kernel
theorem dX6_inShare_70 : decode cX6_inShare 70 = .ok (.fdiv, 1) := by decide +kernel
theorem dX6_inShare_71 : decode cX6_inShare 71 = .ok (.freturn, 1) := by decide +kernel
set_option maxRecDepth 20000 in
theorem ggX6_meanMark_X6_isFrozenOf : GoodIn wsX6_meanMark wsX6_isFrozenOf := goodIn_ca (goodIn_r _ [10, 11, 12, 13, 14, 15, 16, 61, 62, 63, 64, 65, 66, 67, 68, 69, 70, 71, 72, 73, 74, 75, 76, 77, 78, 79, 80, 81, 82, 83, 84, 85, 86, 87, 88, 89, 90, 91, 92, 93, 94, 95] (by decide +kernel) (by decide +kernel)) (goodIn_sub (fun _ h => List.mem_cons_of_mem _ (List.mem_append_right _ h)) (by decide +kernel))
set_option maxRecDepth 20000 in
theorem gX6_meanMark_X6_isFrozenOf : GoodIn wsX6_meanMark (wsV RX6 203 RX6 yX6_isFrozenOf wsX6_isFrozenOf) := goodIn_app (goodIn_of _ (by decide +kernel)) ggX6_meanMark_X6_isFrozenOf
set_option maxRecDepth 20000 in
theorem ggX6_meanMark_X6_markOf : GoodIn wsX6_meanMark wsX6_markOf := goodIn_ca (goodIn_r _ [20, 21, 22, 23, 24, 25, 26, 9, 27, 28, 29, 12, 14, 30, 31, 32, 33, 34, 35, 36, 37, 38, 39, 40, 41, 42, 3, 43, 44, 45, 46, 47, 48, 49, 50, 51, 52, 53, 54, 55, 56, 57, 58, 59, 60, 61, 62, 63, 64, 65, 66, 67, 68, 69, 70, 71, 72, 73, 74, 75, 76, 77, 78, 79, 80, 81, 82, 83, 84, 85, 86, 87, 88, 89, 90, 91, 92, 93, 94, 95] (by decide +kernel) (by decide +kernel)) (goodIn_sub (fun _ h => List.mem_cons_of_mem _ (List.mem_append_right _ h)) (by decide +kernel))
set_option maxRecDepth 20000 in
theorem gX6_meanMark_X6_markOf : GoodIn wsX6_meanMark (wsV RX6 206 RX6 yX6_markOf wsX6_markOf) := goodIn_app (goodIn_of _ (by decide +kernel)) ggX6_meanMark_X6_markOf
theorem dX6_meanMark_0 : decode cX6_meanMark 0 = .ok (.iconst 0, 1) := by decide +kernel
theorem dX6_meanMark_1 : decode cX6_meanMark 1 = .ok (.istore_n 1, 1) := by decide +kernel
theorem dX6_meanMark_2 : decode cX6_meanMark 2 = .ok (.iconst 0, 1) := by decide +kernel
theorem dX6_meanMark_3 : decode cX6_meanMark 3 = .ok (.istore_n 2, 1) := by decide +kernel
theorem dX6_meanMark_4 : decode cX6_meanMark 4 = .ok (.iconst 0, 1) := by decide +kernel
theorem dX6_meanMark_5 : decode cX6_meanMark 5 = .ok (.istore_n 3, 1) := by decide +kernel
theorem dX6_meanMark_6 : decode cX6_meanMark 6 = .ok (.iload_n 3, 1) := by decide +kernel
theorem dX6_meanMark_7 : decode cX6_meanMark 7 = .ok (.aload_n 0, 1) := by decide +kernel
theorem dX6_meanMark_8 : decode cX6_meanMark 8 = .ok (.getfield 16, 3) := by decide +kernel
theorem dX6_meanMark_11 : decode cX6_meanMark 11 = .ok (.if_icmp .ge 66, 3) := by decide +kernel
theorem dX6_meanMark_14 : decode cX6_meanMark 14 = .ok (.iconst 0, 1) := by decide +kernel
theorem dX6_meanMark_15 : decode cX6_meanMark 15 = .ok (.istore 4, 2) := by decide +kernel
theorem dX6_meanMark_17 : decode cX6_meanMark 17 = .ok (.iload 4, 2) := by decide +kernel
theorem dX6_meanMark_19 : decode cX6_meanMark 19 = .ok (.aload_n 0, 1) := by decide +kernel
theorem dX6_meanMark_20 : decode cX6_meanMark 20 = .ok (.getfield 19, 3) := by decide +kernel
theorem dX6_meanMark_23 : decode cX6_meanMark 23 = .ok (.if_icmp .ge 48, 3) := by decide +kernel
theorem dX6_meanMark_26 : decode cX6_meanMark 26 = .ok (.aload_n 0, 1) := by decide +kernel
theorem dX6_meanMark_27 : decode cX6_meanMark 27 = .ok (.getfield 47, 3) := by decide +kernel
theorem dX6_meanMark_30 : decode cX6_meanMark 30 = .ok (.iload 4, 2) := by decide +kernel
theorem dX6_meanMark_32 : decode cX6_meanMark 32 = .ok (.iaload, 1) := by decide +kernel
theorem dX6_meanMark_33 : decode cX6_meanMark 33 = .ok (.aload_n 0, 1) := by decide +kernel
theorem dX6_meanMark_34 : decode cX6_meanMark 34 = .ok (.getfield 44, 3) := by decide +kernel
theorem dX6_meanMark_37 : decode cX6_meanMark 37 = .ok (.iload_n 3, 1) := by decide +kernel
theorem dX6_meanMark_38 : decode cX6_meanMark 38 = .ok (.iaload, 1) := by decide +kernel
theorem dX6_meanMark_39 : decode cX6_meanMark 39 = .ok (.if_icmp .ne 26, 3) := by decide +kernel
theorem dX6_meanMark_42 : decode cX6_meanMark 42 = .ok (.aload_n 0, 1) := by decide +kernel
theorem dX6_meanMark_43 : decode cX6_meanMark 43 = .ok (.iload_n 3, 1) := by decide +kernel
theorem dX6_meanMark_44 : decode cX6_meanMark 44 = .ok (.iload 4, 2) := by decide +kernel
theorem dX6_meanMark_46 : decode cX6_meanMark 46 = .ok (.invokevirtual 203, 3) := by decide +kernel
theorem dX6_meanMark_49 : decode cX6_meanMark 49 = .ok (.ifCond .ne 16, 3) := by decide +kernel
theorem dX6_meanMark_52 : decode cX6_meanMark 52 = .ok (.iload_n 1, 1) := by decide +kernel
theorem dX6_meanMark_53 : decode cX6_meanMark 53 = .ok (.aload_n 0, 1) := by decide +kernel
theorem dX6_meanMark_54 : decode cX6_meanMark 54 = .ok (.iload_n 3, 1) := by decide +kernel
theorem dX6_meanMark_55 : decode cX6_meanMark 55 = .ok (.iload 4, 2) := by decide +kernel
theorem dX6_meanMark_57 : decode cX6_meanMark 57 = .ok (.invokevirtual 206, 3) := by decide +kernel
theorem dX6_meanMark_60 : decode cX6_meanMark 60 = .ok (.iadd, 1) := by decide +kernel
theorem dX6_meanMark_61 : decode cX6_meanMark 61 = .ok (.istore_n 1, 1) := by decide +kernel
theorem dX6_meanMark_62 : decode cX6_meanMark 62 = .ok (.iinc 2 1, 3) := by decide +kernel
theorem dX6_meanMark_65 : decode cX6_meanMark 65 = .ok (.iinc 4 1, 3) := by decide +kernel
theorem dX6_meanMark_68 : decode cX6_meanMark 68 = .ok (.goto (-51), 3) := by decide +kernel
theorem dX6_meanMark_71 : decode cX6_meanMark 71 = .ok (.iinc 3 1, 3) := by decide +kernel
theorem dX6_meanMark_74 : decode cX6_meanMark 74 = .ok (.goto (-68), 3) := by decide +kernel
theorem dX6_meanMark_77 : decode cX6_meanMark 77 = .ok (.aload_n 0, 1) := by decide +kernel
theorem dX6_meanMark_78 : decode cX6_meanMark 78 = .ok (.iload_n 2, 1) := by decide +kernel
theorem dX6_meanMark_79 : decode cX6_meanMark 79 = .ok (.ifCond .ne 7, 3) := by decide +kernel
theorem dX6_meanMark_82 : decode cX6_meanMark 82 = .ok (.iconst 1, 1) := by decide +kernel
theorem dX6_meanMark_83 : decode cX6_meanMark 83 = .ok (.goto 4, 3) := by decide +kernel
theorem dX6_meanMark_86 : decode cX6_meanMark 86 = .ok (.iconst 0, 1) := by decide +kernel
theorem dX6_meanMark_87 : decode cX6_meanMark 87 = .ok (.putfield 37, 3) := by decide +kernel
theorem dX6_meanMark_90 : decode cX6_meanMark 90 = .ok (.aload_n 0, 1) := by decide +kernel
theorem dX6_meanMark_91 : decode cX6_meanMark 91 = .ok (.getfield 37, 3) := by decide +kernel
theorem dX6_meanMark_94 : decode cX6_meanMark 94 = .ok (.ifCond .le 7, 3) := by decide +kernel
theorem dX6_meanMark_97 : decode cX6_meanMark 97 = .ok (.dconst 0, 1) := by decide +kernel
theorem dX6_meanMark_98 : decode cX6_meanMark 98 = .ok (.goto 8, 3) := by decide +kernel
theorem dX6_meanMark_101 : decode cX6_meanMark 101 = .ok (.iload_n 1, 1) := by decide +kernel
theorem dX6_meanMark_102 : decode cX6_meanMark 102 = .ok (.i2d, 1) := by decide +kernel
theorem dX6_meanMark_103 : decode cX6_meanMark 103 = .ok (.iload_n 2, 1) := by decide +kernel
theorem dX6_meanMark_104 : decode cX6_meanMark 104 = .ok (.i2d, 1) := by decide +kernel
theorem dX6_meanMark_105 : decode cX6_meanMark 105 = .ok (.ddiv, 1) := by decide +kernel
theorem dX6_meanMark_106 : decode cX6_meanMark 106 = .ok (.dreturn, 1) := by decide +kernel
theorem dX6_isTrue_0 : decode cX6_isTrue 0 = .ok (.aload_n 0, 1) := by decide +kernel
theorem dX6_isTrue_1 : decode cX6_isTrue 1 = .ok (.iconst 0, 1) := by decide +kernel
theorem dX6_isTrue_2 : decode cX6_isTrue 2 = .ok (.putfield 37, 3) := by decide +kernel
theorem dX6_isTrue_5 : decode cX6_isTrue 5 = .ok (.iconst 1, 1) := by decide +kernel
theorem dX6_isTrue_6 : decode cX6_isTrue 6 = .ok (.ireturn, 1) := by decide +kernel
theorem dJx00060_init_a7421_0 : decode cJx00060_init_a7421 0 = .ok (.aload_n 0, 1) := by decide +kernel
theorem dJx00060_init_a7421_1 : decode cJx00060_init_a7421 1 = .ok (.aload_n 1, 1) := by decide +kernel
theorem dJx00060_init_a7421_2 : decode cJx00060_init_a7421 2 = .ok (.invokespecial 7, 3) := by decide +kernel
theorem dJx00060_init_a7421_5 : decode cJx00060_init_a7421 5 = .ok (.return_, 1) := by decide +kernel
theorem dJ9_max_7cf53_0 : decode cJ9_max_7cf53 0 = .ok (.iload_n 0, 1) := by decide +kernel
theorem dJ9_max_7cf53_1 : decode cJ9_max_7cf53 1 = .ok (.iload_n 1, 1) := by decide +kernel
theorem dJ9_max_7cf53_2 : decode cJ9_max_7cf53 2 = .ok (.if_icmp .lt 7, 3) := by decide +kernel
theorem dJ9_max_7cf53_5 : decode cJ9_max_7cf53 5 = .ok (.iload_n 0, 1) := by decide +kernel
theorem dJ9_max_7cf53_6 : decode cJ9_max_7cf53 6 = .ok (.goto 4, 3) := by decide +kernel
theorem dJ9_max_7cf53_9 : decode cJ9_max_7cf53 9 = .ok (.iload_n 1, 1) := by decide +kernel
theorem dJ9_max_7cf53_10 : decode cJ9_max_7cf53 10 = .ok (.ireturn, 1) := by decide +kernel
theorem dJ9_min_7cf53_0 : decode cJ9_min_7cf53 0 = .ok (.iload_n 0, 1) := by decide +kernel
theorem dJ9_min_7cf53_1 : decode cJ9_min_7cf53 1 = .ok (.iload_n 1, 1) := by decide +kernel
theorem dJ9_min_7cf53_2 : decode cJ9_min_7cf53 2 = .ok (.if_icmp .gt 7, 3) := by decide +kernel
theorem dJ9_min_7cf53_5 : decode cJ9_min_7cf53 5 = .ok (.iload_n 0, 1) := by decide +kernel
theorem dJ9_min_7cf53_6 : decode cJ9_min_7cf53 6 = .ok (.goto 4, 3) := by decide +kernel
theorem dJ9_min_7cf53_9 : decode cJ9_min_7cf53 9 = .ok (.iload_n 1, 1) := by decide +kernel
theorem dJ9_min_7cf53_10 : decode cJ9_min_7cf53 10 = .ok (.ireturn, 1) := by decide +kernel
