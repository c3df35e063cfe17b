theorem dX0_init_0 : decode cX0_init 0 = .ok (.aload_n 0, 1) := by decide +kernel
theorem dX0_init_1 : decode cX0_init 1 = .ok (.invokespecial 1, 3) := by decide +kernel
theorem dX0_init_4 : decode cX0_init 4 = .ok (.aload_n 0, 1) := by decide +kernel
theorem dX0_init_5 : decode cX0_init 5 = .ok (.iconst 0, 1) := by decide +kernel
theorem dX0_init_6 : decode cX0_init 6 = .ok (.iload_n 1, 1) := by decide +kernel
theorem dX0_init_7 : decode cX0_init 7 = .ok (.invokestatic 7, 3) := by decide +kernel
theorem dX0_init_10 : decode cX0_init 10 = .ok (.newarray .int, 2) := by decide +kernel
theorem dX0_init_12 : decode cX0_init 12 = .ok (.putfield 13, 3) := by decide +kernel
theorem dX0_init_15 : decode cX0_init 15 = .ok (.aload_n 0, 1) := by decide +kernel
theorem dX0_init_16 : decode cX0_init 16 = .ok (.iconst 0, 1) := by decide +kernel
theorem dX0_init_17 : decode cX0_init 17 = .ok (.iload_n 1, 1) := by decide +kernel
theorem dX0_init_18 : decode cX0_init 18 = .ok (.invokestatic 7, 3) := by decide +kernel
theorem dX0_init_21 : decode cX0_init 21 = .ok (.newarray .int, 2) := by decide +kernel
theorem dX0_init_23 : decode cX0_init 23 = .ok (.putfield 19, 3) := by decide +kernel
theorem dX0_init_26 : decode cX0_init 26 = .ok (.return_, 1) := by decide +kernel
theorem dX0_countBelow_0 : decode cX0_countBelow 0 = .ok (.iconst 0, 1) := by decide +kernel
theorem dX0_countBelow_1 : decode cX0_countBelow 1 = .ok (.istore_n 2, 1) := by decide +kernel
theorem dX0_countBelow_2 : decode cX0_countBelow 2 = .ok (.sipush 2048, 3) := by decide +kernel
theorem dX0_countBelow_5 : decode cX0_countBelow 5 = .ok (.istore_n 3, 1) := by decide +kernel
theorem dX0_countBelow_6 : decode cX0_countBelow 6 = .ok (.iload_n 3, 1) := by decide +kernel
theorem dX0_countBelow_7 : decode cX0_countBelow 7 = .ok (.ifCond .le 38, 3) := by decide +kernel
theorem dX0_countBelow_10 : decode cX0_countBelow 10 = .ok (.iload_n 2, 1) := by decide +kernel
theorem dX0_countBelow_11 : decode cX0_countBelow 11 = .ok (.iload_n 3, 1) := by decide +kernel
theorem dX0_countBelow_12 : decode cX0_countBelow 12 = .ok (.iadd, 1) := by decide +kernel
theorem dX0_countBelow_13 : decode cX0_countBelow 13 = .ok (.aload_n 0, 1) := by decide +kernel
theorem dX0_countBelow_14 : decode cX0_countBelow 14 = .ok (.getfield 22, 3) := by decide +kernel
theorem dX0_countBelow_17 : decode cX0_countBelow 17 = .ok (.if_icmp .gt 21, 3) := by decide +kernel
theorem dX0_countBelow_20 : decode cX0_countBelow 20 = .ok (.aload_n 0, 1) := by decide +kernel
theorem dX0_countBelow_21 : decode cX0_countBelow 21 = .ok (.getfield 13, 3) := by decide +kernel
theorem dX0_countBelow_24 : decode cX0_countBelow 24 = .ok (.iload_n 2, 1) := by decide +kernel
theorem dX0_countBelow_25 : decode cX0_countBelow 25 = .ok (.iload_n 3, 1) := by decide +kernel
theorem dX0_countBelow_26 : decode cX0_countBelow 26 = .ok (.iadd, 1) := by decide +kernel
theorem dX0_countBelow_27 : decode cX0_countBelow 27 = .ok (.iconst 1, 1) := by decide +kernel
theorem dX0_countBelow_28 : decode cX0_countBelow 28 = .ok (.isub, 1) := by decide +kernel
theorem dX0_countBelow_29 : decode cX0_countBelow 29 = .ok (.iaload, 1) := by decide +kernel
theorem dX0_countBelow_30 : decode cX0_countBelow 30 = .ok (.iload_n 1, 1) := by decide +kernel
theorem dX0_countBelow_31 : decode cX0_countBelow 31 = .ok (.if_icmp .ge 7, 3) := by decide +kernel
theorem dX0_countBelow_34 : decode cX0_countBelow 34 = .ok (.iload_n 2, 1) := by decide +kernel
theorem dX0_countBelow_35 : decode cX0_countBelow 35 = .ok (.iload_n 3, 1) := by decide +kernel
theorem dX0_countBelow_36 : decode cX0_countBelow 36 = .ok (.iadd, 1) := by decide +kernel
theorem dX0_countBelow_37 : decode cX0_countBelow 37 = .ok (.istore_n 2, 1) := by decide +kernel
theorem dX0_countBelow_38 : decode cX0_countBelow 38 = .ok (.iload_n 3, 1) := by decide +kernel
theorem dX0_countBelow_39 : decode cX0_countBelow 39 = .ok (.iconst 1, 1) := by decide +kernel
theorem dX0_countBelow_40 : decode cX0_countBelow 40 = .ok (.ishr, 1) := by decide +kernel
theorem dX0_countBelow_41 : decode cX0_countBelow 41 = .ok (.istore_n 3, 1) := by decide +kernel
theorem dX0_countBelow_42 : decode cX0_countBelow 42 = .ok (.goto (-36), 3) := by decide +kernel
theorem dX0_countBelow_45 : decode cX0_countBelow 45 = .ok (.iload_n 2, 1) := by decide +kernel
theorem dX0_countBelow_46 : decode cX0_countBelow 46 = .ok (.ireturn, 1) := by decide +kernel
set_option maxRecDepth 20000 in
theorem ggX0_countOf_X0_countBelow : GoodIn wsX0_countOf wsX0_countBelow := goodIn_ca (goodIn_r _ [8, 1, 2, 9, 10, 11] (by decide +kernel) (by decide +kernel)) (goodIn_sub (fun _ h => List.mem_cons_of_mem _ (List.mem_append_right _ h)) (by decide +kernel))
set_option maxRecDepth 20000 in
theorem gX0_countOf_X0_countBelow : GoodIn wsX0_countOf (wsV RX0 26 RX0 yX0_countBelow wsX0_countBelow) := goodIn_app (goodIn_of _ (by decide +kernel)) ggX0_countOf_X0_countBelow
theorem dX0_countOf_0 : decode cX0_countOf 0 = .ok (.aload_n 0, 1) := by decide +kernel
theorem dX0_countOf_1 : decode cX0_countOf 1 = .ok (.iload_n 1, 1) := by decide +kernel
theorem dX0_countOf_2 : decode cX0_countOf 2 = .ok (.invokevirtual 26, 3) := by decide +kernel
theorem dX0_countOf_5 : decode cX0_countOf 5 = .ok (.istore_n 2, 1) := by decide +kernel
theorem dX0_countOf_6 : decode cX0_countOf 6 = .ok (.iload_n 2, 1) := by decide +kernel
theorem dX0_countOf_7 : decode cX0_countOf 7 = .ok (.aload_n 0, 1) := by decide +kernel
theorem dX0_countOf_8 : decode cX0_countOf 8 = .ok (.getfield 22, 3) := by decide +kernel
theorem dX0_countOf_11 : decode cX0_countOf 11 = .ok (.if_icmp .ge 22, 3) := by decide +kernel
theorem dX0_countOf_14 : decode cX0_countOf 14 = .ok (.aload_n 0, 1) := by decide +kernel
theorem dX0_countOf_15 : decode cX0_countOf 15 = .ok (.getfield 13, 3) := by decide +kernel
theorem dX0_countOf_18 : decode cX0_countOf 18 = .ok (.iload_n 2, 1) := by decide +kernel
theorem dX0_countOf_19 : decode cX0_countOf 19 = .ok (.iaload, 1) := by decide +kernel
theorem dX0_countOf_20 : decode cX0_countOf 20 = .ok (.iload_n 1, 1) := by decide +kernel
theorem dX0_countOf_21 : decode cX0_countOf 21 = .ok (.if_icmp .ne 12, 3) := by decide +kernel
theorem dX0_countOf_24 : decode cX0_countOf 24 = .ok (.aload_n 0, 1) := by decide +kernel
theorem dX0_countOf_25 : decode cX0_countOf 25 = .ok (.getfield 19, 3) := by decide +kernel
theorem dX0_countOf_28 : decode cX0_countOf 28 = .ok (.iload_n 2, 1) := by decide +kernel
theorem dX0_countOf_29 : decode cX0_countOf 29 = .ok (.iaload, 1) := by decide +kernel
theorem dX0_countOf_30 : decode cX0_countOf 30 = .ok (.goto 4, 3) := by decide +kernel
theorem dX0_countOf_33 : decode cX0_countOf 33 = .ok (.iconst 0, 1) := by decide +kernel
theorem dX0_countOf_34 : decode cX0_countOf 34 = .ok (.ireturn, 1) := by decide +kernel
set_option maxRecDepth 20000 in
theorem ggX0_add_X0_countBelow : GoodIn wsX0_add wsX0_countBelow := goodIn_ca (goodIn_r _ [12, 1, 2, 13, 14, 15] (by decide +kernel) (by decide +kernel)) (goodIn_sub (fun _ h => List.mem_cons_of_mem _ (List.mem_append_right _ h)) (by decide +kernel))
set_option maxRecDepth 20000 in
theorem gX0_add_X0_countBelow : GoodIn wsX0_add (wsV RX0 26 RX0 yX0_countBelow wsX0_countBelow) := goodIn_app (goodIn_of _ (by decide +kernel)) ggX0_add_X0_countBelow
theorem dX0_add_0 : decode cX0_add 0 = .ok (.aload_n 0, 1) := by decide +kernel
theorem dX0_add_1 : decode cX0_add 1 = .ok (.iload_n 1, 1) := by decide +kernel
theorem dX0_add_2 : decode cX0_add 2 = .ok (.invokevirtual 26, 3) := by decide +kernel
theorem dX0_add_5 : decode cX0_add 5 = .ok (.istore_n 2, 1) := by decide +kernel
theorem dX0_add_6 : decode cX0_add 6 = .ok (.iload_n 2, 1) := by decide +kernel
theorem dX0_add_7 : decode cX0_add 7 = .ok (.aload_n 0, 1) := by decide +kernel
theorem dX0_add_8 : decode cX0_add 8 = .ok (.getfield 22, 3) := by decide +kernel
theorem dX0_add_11 : decode cX0_add 11 = .ok (.if_icmp .ge 24, 3) := by decide +kernel
theorem dX0_add_14 : decode cX0_add 14 = .ok (.aload_n 0, 1) := by decide +kernel
theorem dX0_add_15 : decode cX0_add 15 = .ok (.getfield 13, 3) := by decide +kernel
theorem dX0_add_18 : decode cX0_add 18 = .ok (.iload_n 2, 1) := by decide +kernel
theorem dX0_add_19 : decode cX0_add 19 = .ok (.iaload, 1) := by decide +kernel
theorem dX0_add_20 : decode cX0_add 20 = .ok (.iload_n 1, 1) := by decide +kernel
theorem dX0_add_21 : decode cX0_add 21 = .ok (.if_icmp .ne 14, 3) := by decide +kernel
theorem dX0_add_24 : decode cX0_add 24 = .ok (.aload_n 0, 1) := by decide +kernel
theorem dX0_add_25 : decode cX0_add 25 = .ok (.getfield 19, 3) := by decide +kernel
theorem dX0_add_28 : decode cX0_add 28 = .ok (.iload_n 2, 1) := by decide +kernel
theorem dX0_add_29 : decode cX0_add 29 = .ok (.dup2, 1) := by decide +kernel
theorem dX0_add_30 : decode cX0_add 30 = .ok (.iaload, 1) := by decide +kernel
theorem dX0_add_31 : decode cX0_add 31 = .ok (.iconst 1, 1) := by decide +kernel
theorem dX0_add_32 : decode cX0_add 32 = .ok (.iadd, 1) := by decide +kernel
theorem dX0_add_33 : decode cX0_add 33 = .ok (.iastore, 1) := by decide +kernel
theorem dX0_add_34 : decode cX0_add 34 = .ok (.return_, 1) := by decide +kernel
theorem dX0_add_35 : decode cX0_add 35 = .ok (.aload_n 0, 1) := by decide +kernel
theorem dX0_add_36 : decode cX0_add 36 = .ok (.getfield 22, 3) := by decide +kernel
theorem dX0_add_39 : decode cX0_add 39 = .ok (.aload_n 0, 1) := by decide +kernel
theorem dX0_add_40 : decode cX0_add 40 = .ok (.getfield 13, 3) := by decide +kernel
theorem dX0_add_43 : decode cX0_add 43 = .ok (.arraylength, 1) := by decide +kernel
theorem dX0_add_44 : decode cX0_add 44 = .ok (.if_icmp .lt 4, 3) := by decide +kernel
theorem dX0_add_47 : decode cX0_add 47 = .ok (.return_, 1) := by decide +kernel
theorem dX0_add_48 : decode cX0_add 48 = .ok (.aload_n 0, 1) := by decide +kernel
theorem dX0_add_49 : decode cX0_add 49 = .ok (.getfield 13, 3) := by decide +kernel
theorem dX0_add_52 : decode cX0_add 52 = .ok (.iload_n 2, 1) := by decide +kernel
theorem dX0_add_53 : decode cX0_add 53 = .ok (.aload_n 0, 1) := by decide +kernel
theorem dX0_add_54 : decode cX0_add 54 = .ok (.getfield 13, 3) := by decide +kernel
theorem dX0_add_57 : decode cX0_add 57 = .ok (.iload_n 2, 1) := by decide +kernel
theorem dX0_add_58 : decode cX0_add 58 = .ok (.iconst 1, 1) := by decide +kernel
theorem dX0_add_59 : decode cX0_add 59 = .ok (.iadd, 1) := by decide +kernel
theorem dX0_add_60 : decode cX0_add 60 = .ok (.aload_n 0, 1) := by decide +kernel
theorem dX0_add_61 : decode cX0_add 61 = .ok (.getfield 22, 3) := by decide +kernel
theorem dX0_add_64 : decode cX0_add 64 = .ok (.iload_n 2, 1) := by decide +kernel
theorem dX0_add_65 : decode cX0_add 65 = .ok (.isub, 1) := by decide +kernel
theorem dX0_add_66 : decode cX0_add 66 = .ok (.invokestatic 30, 3) := by decide +kernel
theorem dX0_add_69 : decode cX0_add 69 = .ok (.aload_n 0, 1) := by decide +kernel
theorem dX0_add_70 : decode cX0_add 70 = .ok (.getfield 19, 3) := by decide +kernel
theorem dX0_add_73 : decode cX0_add 73 = .ok (.iload_n 2, 1) := by decide +kernel
theorem dX0_add_74 : decode cX0_add 74 = .ok (.aload_n 0, 1) := by decide +kernel
theorem dX0_add_75 : decode cX0_add 75 = .ok (.getfield 19, 3) := by decide +kernel
theorem dX0_add_78 : decode cX0_add 78 = .ok (.iload_n 2, 1) := by decide +kernel
theorem dX0_add_79 : decode cX0_add 79 = .ok (.iconst 1, 1) := by decide +kernel
theorem dX0_add_80 : decode cX0_add 80 = .ok (.iadd, 1) := by decide +kernel
theorem dX0_add_81 : decode cX0_add 81 = .ok (.aload_n 0, 1) := by decide +kernel
theorem dX0_add_82 : decode cX0_add 82 = .ok (.getfield 22, 3) := by decide +kernel
theorem dX0_add_85 : decode cX0_add 85 = .ok (.iload_n 2, 1) := by decide +kernel
theorem dX0_add_86 : decode cX0_add 86 = .ok (.isub, 1) := by decide +kernel
theorem dX0_add_87 : decode cX0_add 87 = .ok (.invokestatic 30, 3) := by decide +kernel
theorem dX0_add_90 : decode cX0_add 90 = .ok (.aload_n 0, 1) := by decide +kernel
theorem dX0_add_91 : decode cX0_add 91 = .ok (.getfield 13, 3) := by decide +kernel
theorem dX0_add_94 : decode cX0_add 94 = .ok (.iload_n 2, 1) := by decide +kernel
theorem dX0_add_95 : decode cX0_add 95 = .ok (.iload_n 1, 1) := by decide +kernel
theorem dX0_add_96 : decode cX0_add 96 = .ok (.iastore, 1) := by decide +kernel
theorem dX0_add_97 : decode cX0_add 97 = .ok (.aload_n 0, 1) := by decide +kernel
theorem dX0_add_98 : decode cX0_add 98 = .ok (.getfield 19, 3) := by decide +kernel
theorem dX0_add_101 : decode cX0_add 101 = .ok (.iload_n 2, 1) := by decide +kernel
theorem dX0_add_102 : decode cX0_add 102 = .ok (.iconst 1, 1) := by decide +kernel
theorem dX0_add_103 : decode cX0_add 103 = .ok (.iastore, 1) := by decide +kernel
theorem dX0_add_104 : decode cX0_add 104 = .ok (.aload_n 0, 1) := by decide +kernel
theorem dX0_add_105 : decode cX0_add 105 = .ok (.dup, 1) := by decide +kernel
theorem dX0_add_106 : decode cX0_add 106 = .ok (.getfield 22, 3) := by decide +kernel
theorem dX0_add_109 : decode cX0_add 109 = .ok (.iconst 1, 1) := by decide +kernel
theorem dX0_add_110 : decode cX0_add 110 = .ok (.iadd, 1) := by decide +kernel
theorem dX0_add_111 : decode cX0_add 111 = .ok (.putfield 22, 3) := by decide +kernel
theorem dX0_add_114 : decode cX0_add 114 = .ok (.return_, 1) := by decide +kernel
set_option maxRecDepth 20000 in
theorem ggX0_drop_X0_countBelow : GoodIn wsX0_drop wsX0_countBelow := goodIn_ca (goodIn_r _ [12, 1, 2, 13, 14, 15] (by decide +kernel) (by decide +kernel)) (goodIn_sub (fun _ h => List.mem_cons_of_mem _ (List.mem_append_right _ h)) (by decide +kernel))
set_option maxRecDepth 20000 in
theorem gX0_drop_X0_countBelow : GoodIn wsX0_drop (wsV RX0 26 RX0 yX0_countBelow wsX0_countBelow) := goodIn_app (goodIn_of _ (by decide +kernel)) ggX0_drop_X0_countBelow
theorem dX0_drop_0 : decode cX0_drop 0 = .ok (.aload_n 0, 1) := by decide +kernel
theorem dX0_drop_1 : decode cX0_drop 1 = .ok (.iload_n 1, 1) := by decide +kernel
theorem dX0_drop_2 : decode cX0_drop 2 = .ok (.invokevirtual 26, 3) := by decide +kernel
theorem dX0_drop_5 : decode cX0_drop 5 = .ok (.istore_n 2, 1) := by decide +kernel
theorem dX0_drop_6 : decode cX0_drop 6 = .ok (.iload_n 2, 1) := by decide +kernel
theorem dX0_drop_7 : decode cX0_drop 7 = .ok (.aload_n 0, 1) := by decide +kernel
theorem dX0_drop_8 : decode cX0_drop 8 = .ok (.getfield 22, 3) := by decide +kernel
theorem dX0_drop_11 : decode cX0_drop 11 = .ok (.if_icmp .ge 13, 3) := by decide +kernel
theorem dX0_drop_14 : decode cX0_drop 14 = .ok (.aload_n 0, 1) := by decide +kernel
theorem dX0_drop_15 : decode cX0_drop 15 = .ok (.getfield 13, 3) := by decide +kernel
theorem dX0_drop_18 : decode cX0_drop 18 = .ok (.iload_n 2, 1) := by decide +kernel
theorem dX0_drop_19 : decode cX0_drop 19 = .ok (.iaload, 1) := by decide +kernel
theorem dX0_drop_20 : decode cX0_drop 20 = .ok (.iload_n 1, 1) := by decide +kernel
theorem dX0_drop_21 : decode cX0_drop 21 = .ok (.if_icmp .eq 4, 3) := by decide +kernel
theorem dX0_drop_24 : decode cX0_drop 24 = .ok (.return_, 1) := by decide +kernel
theorem dX0_drop_25 : decode cX0_drop 25 = .ok (.aload_n 0, 1) := by decide +kernel
theorem dX0_drop_26 : decode cX0_drop 26 = .ok (.getfield 19, 3) := by decide +kernel
theorem dX0_drop_29 : decode cX0_drop 29 = .ok (.iload_n 2, 1) := by decide +kernel
theorem dX0_drop_30 : decode cX0_drop 30 = .ok (.dup2, 1) := by decide +kernel
theorem dX0_drop_31 : decode cX0_drop 31 = .ok (.iaload, 1) := by decide +kernel
theorem dX0_drop_32 : decode cX0_drop 32 = .ok (.iconst 1, 1) := by decide +kernel
theorem dX0_drop_33 : decode cX0_drop 33 = .ok (.isub, 1) := by decide +kernel
theorem dX0_drop_34 : decode cX0_drop 34 = .ok (.iastore, 1) := by decide +kernel
theorem dX0_drop_35 : decode cX0_drop 35 = .ok (.aload_n 0, 1) := by decide +kernel
theorem dX0_drop_36 : decode cX0_drop 36 = .ok (.getfield 19, 3) := by decide +kernel
theorem dX0_drop_39 : decode cX0_drop 39 = .ok (.iload_n 2, 1) := by decide +kernel
theorem dX0_drop_40 : decode cX0_drop 40 = .ok (.iaload, 1) := by decide +kernel
theorem dX0_drop_41 : decode cX0_drop 41 = .ok (.ifCond .ne 55, 3) := by decide +kernel
theorem dX0_drop_44 : decode cX0_drop 44 = .ok (.aload_n 0, 1) := by decide +kernel
theorem dX0_drop_45 : decode cX0_drop 45 = .ok (.dup, 1) := by decide +kernel
theorem dX0_drop_46 : decode cX0_drop 46 = .ok (.getfield 22, 3) := by decide +kernel
theorem dX0_drop_49 : decode cX0_drop 49 = .ok (.iconst 1, 1) := by decide +kernel
theorem dX0_drop_50 : decode cX0_drop 50 = .ok (.isub, 1) := by decide +kernel
theorem dX0_drop_51 : decode cX0_drop 51 = .ok (.putfield 22, 3) := by decide +kernel
theorem dX0_drop_54 : decode cX0_drop 54 = .ok (.aload_n 0, 1) := by decide +kernel
theorem dX0_drop_55 : decode cX0_drop 55 = .ok (.getfield 13, 3) := by decide +kernel
theorem dX0_drop_58 : decode cX0_drop 58 = .ok (.iload_n 2, 1) := by decide +kernel
theorem dX0_drop_59 : decode cX0_drop 59 = .ok (.iconst 1, 1) := by decide +kernel
theorem dX0_drop_60 : decode cX0_drop 60 = .ok (.iadd, 1) := by decide +kernel
theorem dX0_drop_61 : decode cX0_drop 61 = .ok (.aload_n 0, 1) := by decide +kernel
theorem dX0_drop_62 : decode cX0_drop 62 = .ok (.getfield 13, 3) := by decide +kernel
theorem dX0_drop_65 : decode cX0_drop 65 = .ok (.iload_n 2, 1) := by decide +kernel
theorem dX0_drop_66 : decode cX0_drop 66 = .ok (.aload_n 0, 1) := by decide +kernel
theorem dX0_drop_67 : decode cX0_drop 67 = .ok (.getfield 22, 3) := by decide +kernel
theorem dX0_drop_70 : decode cX0_drop 70 = .ok (.iload_n 2, 1) := by decide +kernel
theorem dX0_drop_71 : decode cX0_drop 71 = .ok (.isub, 1) := by decide +kernel
theorem dX0_drop_72 : decode cX0_drop 72 = .ok (.invokestatic 30, 3) := by decide +kernel
theorem dX0_drop_75 : decode cX0_drop 75 = .ok (.aload_n 0, 1) := by decide +kernel
theorem dX0_drop_76 : decode cX0_drop 76 = .ok (.getfield 19, 3) := by decide +kernel
theorem dX0_drop_79 : decode cX0_drop 79 = .ok (.iload_n 2, 1) := by decide +kernel
theorem dX0_drop_80 : decode cX0_drop 80 = .ok (.iconst 1, 1) := by decide +kernel
theorem dX0_drop_81 : decode cX0_drop 81 = .ok (.iadd, 1) := by decide +kernel
theorem dX0_drop_82 : decode cX0_drop 82 = .ok (.aload_n 0, 1) := by decide +kernel
theorem dX0_drop_83 : decode cX0_drop 83 = .ok (.getfield 19, 3) := by decide +kernel
theorem dX0_drop_86 : decode cX0_drop 86 = .ok (.iload_n 2, 1) := by decide +kernel
theorem dX0_drop_87 : decode cX0_drop 87 = .ok (.aload_n 0, 1) := by decide +kernel
theorem dX0_drop_88 : decode cX0_drop 88 = .ok (.getfield 22, 3) := by decide +kernel
theorem dX0_drop_91 : decode cX0_drop 91 = .ok (.iload_n 2, 1) := by decide +kernel
theorem dX0_drop_92 : decode cX0_drop 92 = .ok (.isub, 1) := by decide +kernel
theorem dX0_drop_93 : decode cX0_drop 93 = .ok (.invokestatic 30, 3) := by decide +kernel
theorem dX0_drop_96 : decode cX0_drop 96 = .ok (.return_, 1) := by decide +kernel
set_option maxRecDepth 20000 in
theorem ggX0_addKeysOf_X0_add : GoodIn wsX0_addKeysOf wsX0_add := goodIn_ca (goodIn_r _ [7, 1, 2, 8, 9, 10, 11, 12, 13, 14, 15, 6, 16, 17, 18, 19] (by decide +kernel) (by decide +kernel)) (goodIn_sub (fun _ h => List.mem_cons_of_mem _ (List.mem_append_right _ h)) (by decide +kernel))
set_option maxRecDepth 20000 in
theorem gX0_addKeysOf_X0_add : GoodIn wsX0_addKeysOf (wsV RX0 36 RX0 yX0_add wsX0_add) := goodIn_app (goodIn_of _ (by decide +kernel)) ggX0_addKeysOf_X0_add
theorem dX0_addKeysOf_0 : decode cX0_addKeysOf 0 = .ok (.iconst 0, 1) := by decide +kernel
theorem dX0_addKeysOf_1 : decode cX0_addKeysOf 1 = .ok (.istore_n 2, 1) := by decide +kernel
theorem dX0_addKeysOf_2 : decode cX0_addKeysOf 2 = .ok (.iload_n 2, 1) := by decide +kernel
theorem dX0_addKeysOf_3 : decode cX0_addKeysOf 3 = .ok (.aload_n 1, 1) := by decide +kernel
theorem dX0_addKeysOf_4 : decode cX0_addKeysOf 4 = .ok (.getfield 22, 3) := by decide +kernel
theorem dX0_addKeysOf_7 : decode cX0_addKeysOf 7 = .ok (.if_icmp .ge 19, 3) := by decide +kernel
theorem dX0_addKeysOf_10 : decode cX0_addKeysOf 10 = .ok (.aload_n 0, 1) := by decide +kernel
theorem dX0_addKeysOf_11 : decode cX0_addKeysOf 11 = .ok (.aload_n 1, 1) := by decide +kernel
theorem dX0_addKeysOf_12 : decode cX0_addKeysOf 12 = .ok (.getfield 13, 3) := by decide +kernel
theorem dX0_addKeysOf_15 : decode cX0_addKeysOf 15 = .ok (.iload_n 2, 1) := by decide +kernel
theorem dX0_addKeysOf_16 : decode cX0_addKeysOf 16 = .ok (.iaload, 1) := by decide +kernel
theorem dX0_addKeysOf_17 : decode cX0_addKeysOf 17 = .ok (.invokevirtual 36, 3) := by decide +kernel
theorem dX0_addKeysOf_20 : decode cX0_addKeysOf 20 = .ok (.iinc 2 1, 3) := by decide +kernel
theorem dX0_addKeysOf_23 : decode cX0_addKeysOf 23 = .ok (.goto (-21), 3) := by decide +kernel
theorem dX0_addKeysOf_26 : decode cX0_addKeysOf 26 = .ok (.return_, 1) := by decide +kernel
set_option maxRecDepth 20000 in
theorem ggX0_dropKeysOf_X0_drop : GoodIn wsX0_dropKeysOf wsX0_drop := goodIn_ca (goodIn_r _ [7, 1, 2, 8, 9, 10, 11, 12, 13, 14, 15, 6, 16, 17, 18, 19] (by decide +kernel) (by decide +kernel)) (goodIn_sub (fun _ h => List.mem_cons_of_mem _ (List.mem_append_right _ h)) (by decide +kernel))
set_option maxRecDepth 20000 in
theorem gX0_dropKeysOf_X0_drop : GoodIn wsX0_dropKeysOf (wsV RX0 40 RX0 yX0_drop wsX0_drop) := goodIn_app (goodIn_of _ (by decide +kernel)) ggX0_dropKeysOf_X0_drop
theorem dX0_dropKeysOf_0 : decode cX0_dropKeysOf 0 = .ok (.iconst 0, 1) := by decide +kernel
theorem dX0_dropKeysOf_1 : decode cX0_dropKeysOf 1 = .ok (.istore_n 2, 1) := by decide +kernel
theorem dX0_dropKeysOf_2 : decode cX0_dropKeysOf 2 = .ok (.iload_n 2, 1) := by decide +kernel
theorem dX0_dropKeysOf_3 : decode cX0_dropKeysOf 3 = .ok (.aload_n 1, 1) := by decide +kernel
theorem dX0_dropKeysOf_4 : decode cX0_dropKeysOf 4 = .ok (.getfield 22, 3) := by decide +kernel
theorem dX0_dropKeysOf_7 : decode cX0_dropKeysOf 7 = .ok (.if_icmp .ge 19, 3) := by decide +kernel
theorem dX0_dropKeysOf_10 : decode cX0_dropKeysOf 10 = .ok (.aload_n 0, 1) := by decide +kernel
theorem dX0_dropKeysOf_11 : decode cX0_dropKeysOf 11 = .ok (.aload_n 1, 1) := by decide +kernel
theorem dX0_dropKeysOf_12 : decode cX0_dropKeysOf 12 = .ok (.getfield 13, 3) := by decide +kernel
theorem dX0_dropKeysOf_15 : decode cX0_dropKeysOf 15 = .ok (.iload_n 2, 1) := by decide +kernel
theorem dX0_dropKeysOf_16 : decode cX0_dropKeysOf 16 = .ok (.iaload, 1) := by decide +kernel
theorem dX0_dropKeysOf_17 : decode cX0_dropKeysOf 17 = .ok (.invokevirtual 40, 3) := by decide +kernel
theorem dX0_dropKeysOf_20 : decode cX0_dropKeysOf 20 = .ok (.iinc 2 1, 3) := by decide +kernel
theorem dX0_dropKeysOf_23 : decode cX0_dropKeysOf 23 = .ok (.goto (-21), 3) := by decide +kernel
theorem dX0_dropKeysOf_26 : decode cX0_dropKeysOf 26 = .ok (.return_, 1) := by decide +kernel
theorem dX0_countCommon_0 : decode cX0_countCommon 0 = .ok (.iconst 0, 1) := by decide +kernel
theorem dX0_countCommon_1 : decode cX0_countCommon 1 = .ok (.istore_n 2, 1) := by decide +kernel
theorem dX0_countCommon_2 : decode cX0_countCommon 2 = .ok (.iconst 0, 1) := by decide +kernel
theorem dX0_countCommon_3 : decode cX0_countCommon 3 = .ok (.istore_n 3, 1) := by decide +kernel
theorem dX0_countCommon_4 : decode cX0_countCommon 4 = .ok (.iconst 0, 1) := by decide +kernel
theorem dX0_countCommon_5 : decode cX0_countCommon 5 = .ok (.istore 4, 2) := by decide +kernel
theorem dX0_countCommon_7 : decode cX0_countCommon 7 = .ok (.iload 4, 2) := by decide +kernel
theorem dX0_countCommon_9 : decode cX0_countCommon 9 = .ok (.aload_n 0, 1) := by decide +kernel
theorem dX0_countCommon_10 : decode cX0_countCommon 10 = .ok (.getfield 22, 3) := by decide +kernel
theorem dX0_countCommon_13 : decode cX0_countCommon 13 = .ok (.if_icmp .ge 66, 3) := by decide +kernel
theorem dX0_countCommon_16 : decode cX0_countCommon 16 = .ok (.iload_n 3, 1) := by decide +kernel
theorem dX0_countCommon_17 : decode cX0_countCommon 17 = .ok (.aload_n 1, 1) := by decide +kernel
theorem dX0_countCommon_18 : decode cX0_countCommon 18 = .ok (.getfield 22, 3) := by decide +kernel
theorem dX0_countCommon_21 : decode cX0_countCommon 21 = .ok (.if_icmp .ge 25, 3) := by decide +kernel
theorem dX0_countCommon_24 : decode cX0_countCommon 24 = .ok (.aload_n 1, 1) := by decide +kernel
theorem dX0_countCommon_25 : decode cX0_countCommon 25 = .ok (.getfield 13, 3) := by decide +kernel
theorem dX0_countCommon_28 : decode cX0_countCommon 28 = .ok (.iload_n 3, 1) := by decide +kernel
theorem dX0_countCommon_29 : decode cX0_countCommon 29 = .ok (.iaload, 1) := by decide +kernel
theorem dX0_countCommon_30 : decode cX0_countCommon 30 = .ok (.aload_n 0, 1) := by decide +kernel
theorem dX0_countCommon_31 : decode cX0_countCommon 31 = .ok (.getfield 13, 3) := by decide +kernel
theorem dX0_countCommon_34 : decode cX0_countCommon 34 = .ok (.iload 4, 2) := by decide +kernel
theorem dX0_countCommon_36 : decode cX0_countCommon 36 = .ok (.iaload, 1) := by decide +kernel
theorem dX0_countCommon_37 : decode cX0_countCommon 37 = .ok (.if_icmp .ge 9, 3) := by decide +kernel
theorem dX0_countCommon_40 : decode cX0_countCommon 40 = .ok (.iinc 3 1, 3) := by decide +kernel
theorem dX0_countCommon_43 : decode cX0_countCommon 43 = .ok (.goto (-27), 3) := by decide +kernel
theorem dX0_countCommon_46 : decode cX0_countCommon 46 = .ok (.iload_n 3, 1) := by decide +kernel
theorem dX0_countCommon_47 : decode cX0_countCommon 47 = .ok (.aload_n 1, 1) := by decide +kernel
theorem dX0_countCommon_48 : decode cX0_countCommon 48 = .ok (.getfield 22, 3) := by decide +kernel
theorem dX0_countCommon_51 : decode cX0_countCommon 51 = .ok (.if_icmp .ge 22, 3) := by decide +kernel
theorem dX0_countCommon_54 : decode cX0_countCommon 54 = .ok (.aload_n 1, 1) := by decide +kernel
theorem dX0_countCommon_55 : decode cX0_countCommon 55 = .ok (.getfield 13, 3) := by decide +kernel
theorem dX0_countCommon_58 : decode cX0_countCommon 58 = .ok (.iload_n 3, 1) := by decide +kernel
theorem dX0_countCommon_59 : decode cX0_countCommon 59 = .ok (.iaload, 1) := by decide +kernel
theorem dX0_countCommon_60 : decode cX0_countCommon 60 = .ok (.aload_n 0, 1) := by decide +kernel
theorem dX0_countCommon_61 : decode cX0_countCommon 61 = .ok (.getfield 13, 3) := by decide +kernel
theorem dX0_countCommon_64 : decode cX0_countCommon 64 = .ok (.iload 4, 2) := by decide +kernel
theorem dX0_countCommon_66 : decode cX0_countCommon 66 = .ok (.iaload, 1) := by decide +kernel
theorem dX0_countCommon_67 : decode cX0_countCommon 67 = .ok (.if_icmp .ne 6, 3) := by decide +kernel
theorem dX0_countCommon_70 : decode cX0_countCommon 70 = .ok (.iinc 2 1, 3) := by decide +kernel
theorem dX0_countCommon_73 : decode cX0_countCommon 73 = .ok (.iinc 4 1, 3) := by decide +kernel
theorem dX0_countCommon_76 : decode cX0_countCommon 76 = .ok (.goto (-69), 3) := by decide +kernel
theorem dX0_countCommon_79 : decode cX0_countCommon 79 = .ok (.iload_n 2, 1) := by decide +kernel
theorem dX0_countCommon_80 : decode cX0_countCommon 80 = .ok (.ireturn, 1) := by decide +kernel
theorem dX0_isLike_0 : decode cX0_isLike 0 = .ok (.aload_n 0, 1) := by decide +kernel
theorem dX0_isLike_1 : decode cX0_isLike 1 = .ok (.getfield 22, 3) := by decide +kernel
theorem dX0_isLike_4 : decode cX0_isLike 4 = .ok (.aload_n 1, 1) := by decide +kernel
theorem dX0_isLike_5 : decode cX0_isLike 5 = .ok (.getfield 22, 3) := by decide +kernel
theorem dX0_isLike_8 : decode cX0_isLike 8 = .ok (.if_icmp .eq 5, 3) := by decide +kernel
theorem dX0_isLike_11 : decode cX0_isLike 11 = .ok (.iconst 0, 1) := by decide +kernel
theorem dX0_isLike_12 : decode cX0_isLike 12 = .ok (.ireturn, 1) := by decide +kernel
theorem dX0_isLike_13 : decode cX0_isLike 13 = .ok (.iconst 0, 1) := by decide +kernel
theorem dX0_isLike_14 : decode cX0_isLike 14 = .ok (.istore_n 2, 1) := by decide +kernel
theorem dX0_isLike_15 : decode cX0_isLike 15 = .ok (.iload_n 2, 1) := by decide +kernel
theorem dX0_isLike_16 : decode cX0_isLike 16 = .ok (.aload_n 0, 1) := by decide +kernel
theorem dX0_isLike_17 : decode cX0_isLike 17 = .ok (.getfield 22, 3) := by decide +kernel
theorem dX0_isLike_20 : decode cX0_isLike 20 = .ok (.if_icmp .ge 41, 3) := by decide +kernel
theorem dX0_isLike_23 : decode cX0_isLike 23 = .ok (.aload_n 0, 1) := by decide +kernel
theorem dX0_isLike_24 : decode cX0_isLike 24 = .ok (.getfield 13, 3) := by decide +kernel
theorem dX0_isLike_27 : decode cX0_isLike 27 = .ok (.iload_n 2, 1) := by decide +kernel
theorem dX0_isLike_28 : decode cX0_isLike 28 = .ok (.iaload, 1) := by decide +kernel
theorem dX0_isLike_29 : decode cX0_isLike 29 = .ok (.aload_n 1, 1) := by decide +kernel
theorem dX0_isLike_30 : decode cX0_isLike 30 = .ok (.getfield 13, 3) := by decide +kernel
theorem dX0_isLike_33 : decode cX0_isLike 33 = .ok (.iload_n 2, 1) := by decide +kernel
theorem dX0_isLike_34 : decode cX0_isLike 34 = .ok (.iaload, 1) := by decide +kernel
theorem dX0_isLike_35 : decode cX0_isLike 35 = .ok (.if_icmp .ne 18, 3) := by decide +kernel
theorem dX0_isLike_38 : decode cX0_isLike 38 = .ok (.aload_n 0, 1) := by decide +kernel
theorem dX0_isLike_39 : decode cX0_isLike 39 = .ok (.getfield 19, 3) := by decide +kernel
theorem dX0_isLike_42 : decode cX0_isLike 42 = .ok (.iload_n 2, 1) := by decide +kernel
theorem dX0_isLike_43 : decode cX0_isLike 43 = .ok (.iaload, 1) := by decide +kernel
theorem dX0_isLike_44 : decode cX0_isLike 44 = .ok (.aload_n 1, 1) := by decide +kernel
theorem dX0_isLike_45 : decode cX0_isLike 45 = .ok (.getfield 19, 3) := by decide +kernel
theorem dX0_isLike_48 : decode cX0_isLike 48 = .ok (.iload_n 2, 1) := by decide +kernel
theorem dX0_isLike_49 : decode cX0_isLike 49 = .ok (.iaload, 1) := by decide +kernel
theorem dX0_isLike_50 : decode cX0_isLike 50 = .ok (.if_icmp .eq 5, 3) := by decide +kernel
theorem dX0_isLike_53 : decode cX0_isLike 53 = .ok (.iconst 0, 1) := by decide +kernel
theorem dX0_isLike_54 : decode cX0_isLike 54 = .ok (.ireturn, 1) := by decide +kernel
theorem dX0_isLike_55 : decode cX0_isLike 55 = .ok (.iinc 2 1, 3) := by decide +kernel
theorem dX0_isLike_58 : decode cX0_isLike 58 = .ok (.goto (-43), 3) := by decide +kernel
theorem dX0_isLike_61 : decode cX0_isLike 61 = .ok (.iconst 1, 1) := by decide +kernel
theorem dX0_isLike_62 : decode cX0_isLike 62 = .ok (.ireturn, 1) := by decide +kernel
theorem dX1_init_0 : decode cX1_init 0 = .ok (.aload_n 0, 1) := by decide +kernel
theorem dX1_init_1 : decode cX1_init 1 = .ok (.invokespecial 3, 3) := by decide +kernel
theorem dX1_init_4 : decode cX1_init 4 = .ok (.aload_n 0, 1) := by decide +kernel
theorem dX1_init_5 : decode cX1_init 5 = .ok (.iconst (-1), 1) := by decide +kernel
theorem dX1_init_6 : decode cX1_init 6 = .ok (.putfield 9, 3) := by decide +kernel
theorem dX1_init_9 : decode cX1_init 9 = .ok (.return_, 1) := by decide +kernel
theorem dX1_isOpen_0 : decode cX1_isOpen 0 = .ok (.aload_n 0, 1) := by decide +kernel
theorem dX1_isOpen_1 : decode cX1_isOpen 1 = .ok (.getfield 9, 3) := by decide +kernel
theorem dX1_isOpen_4 : decode cX1_isOpen 4 = .ok (.iconst (-1), 1) := by decide +kernel
theorem dX1_isOpen_5 : decode cX1_isOpen 5 = .ok (.if_icmp .ne 7, 3) := by decide +kernel
theorem dX1_isOpen_8 : decode cX1_isOpen 8 = .ok (.iconst 1, 1) := by decide +kernel
theorem dX1_isOpen_9 : decode cX1_isOpen 9 = .ok (.goto 4, 3) := by decide +kernel
theorem dX1_isOpen_12 : decode cX1_isOpen 12 = .ok (.iconst 0, 1) := by decide +kernel
theorem dX1_isOpen_13 : decode cX1_isOpen 13 = .ok (.ireturn, 1) := by decide +kernel
set_option maxRecDepth 20000 in
theorem ggX1_takesFrom_X1_isOpen : GoodIn wsX1_takesFrom wsX1_isOpen := goodIn_r _ [6, 1, 7, 8, 9, 10] (by decide +kernel) (by decide +kernel)
set_option maxRecDepth 20000 in
theorem gX1_takesFrom_X1_isOpen : GoodIn wsX1_takesFrom (wsV RX1 15 RX1 yX1_isOpen wsX1_isOpen) := goodIn_app (goodIn_of _ (by decide +kernel)) ggX1_takesFrom_X1_isOpen
theorem dX1_takesFrom_0 : decode cX1_takesFrom 0 = .ok (.aload_n 0, 1) := by decide +kernel
theorem dX1_takesFrom_1 : decode cX1_takesFrom 1 = .ok (.invokevirtual 15, 3) := by decide +kernel
theorem dX1_takesFrom_4 : decode cX1_takesFrom 4 = .ok (.ifCond .ne 16, 3) := by decide +kernel
theorem dX1_takesFrom_7 : decode cX1_takesFrom 7 = .ok (.aload_n 0, 1) := by decide +kernel
theorem dX1_takesFrom_8 : decode cX1_takesFrom 8 = .ok (.getfield 9, 3) := by decide +kernel
theorem dX1_takesFrom_11 : decode cX1_takesFrom 11 = .ok (.iload_n 1, 1) := by decide +kernel
theorem dX1_takesFrom_12 : decode cX1_takesFrom 12 = .ok (.iand, 1) := by decide +kernel
theorem dX1_takesFrom_13 : decode cX1_takesFrom 13 = .ok (.ifCond .eq 7, 3) := by decide +kernel
theorem dX1_takesFrom_16 : decode cX1_takesFrom 16 = .ok (.iconst 1, 1) := by decide +kernel
theorem dX1_takesFrom_17 : decode cX1_takesFrom 17 = .ok (.goto 4, 3) := by decide +kernel
theorem dX1_takesFrom_20 : decode cX1_takesFrom 20 = .ok (.iconst 0, 1) := by decide +kernel
theorem dX1_takesFrom_21 : decode cX1_takesFrom 21 = .ok (.ireturn, 1) := by decide +kernel
theorem dX2_init_0 : decode cX2_init 0 = .ok (.aload_n 0, 1) := by decide +kernel
theorem dX2_init_1 : decode cX2_init 1 = .ok (.invokespecial 1, 3) := by decide +kernel
theorem dX2_init_4 : decode cX2_init 4 = .ok (.return_, 1) := by decide +kernel
theorem dX2_pointsOff_0 : decode cX2_pointsOff 0 = .ok (.iload_n 1, 1) := by decide +kernel
theorem dX2_pointsOff_1 : decode cX2_pointsOff 1 = .ok (.ifCond .gt 5, 3) := by decide +kernel
theorem dX2_pointsOff_4 : decode cX2_pointsOff 4 = .ok (.iconst 0, 1) := by decide +kernel
theorem dX2_pointsOff_5 : decode cX2_pointsOff 5 = .ok (.ireturn, 1) := by decide +kernel
theorem dX2_pointsOff_6 : decode cX2_pointsOff 6 = .ok (.aload_n 0, 1) := by decide +kernel
theorem dX2_pointsOff_7 : decode cX2_pointsOff 7 = .ok (.getfield 7, 3) := by decide +kernel
theorem dX2_pointsOff_10 : decode cX2_pointsOff 10 = .ok (.tableswitch 77 100 104 #[47, 77, 77, 62, 34], 34) := by decide +kernel
theorem dX2_pointsOff_44 : decode cX2_pointsOff 44 = .ok (.aload_n 0, 1) := by decide +kernel
theorem dX2_pointsOff_45 : decode cX2_pointsOff 45 = .ok (.getfield 13, 3) := by decide +kernel
theorem dX2_pointsOff_48 : decode cX2_pointsOff 48 = .ok (.iload_n 1, 1) := by decide +kernel
theorem dX2_pointsOff_49 : decode cX2_pointsOff 49 = .ok (.bipush 59, 2) := by decide +kernel
theorem dX2_pointsOff_51 : decode cX2_pointsOff 51 = .ok (.iadd, 1) := by decide +kernel
theorem dX2_pointsOff_52 : decode cX2_pointsOff 52 = .ok (.bipush 60, 2) := by decide +kernel
theorem dX2_pointsOff_54 : decode cX2_pointsOff 54 = .ok (.idiv, 1) := by decide +kernel
theorem dX2_pointsOff_55 : decode cX2_pointsOff 55 = .ok (.imul, 1) := by decide +kernel
theorem dX2_pointsOff_56 : decode cX2_pointsOff 56 = .ok (.ireturn, 1) := by decide +kernel
theorem dX2_pointsOff_57 : decode cX2_pointsOff 57 = .ok (.aload_n 0, 1) := by decide +kernel
theorem dX2_pointsOff_58 : decode cX2_pointsOff 58 = .ok (.getfield 13, 3) := by decide +kernel
theorem dX2_pointsOff_61 : decode cX2_pointsOff 61 = .ok (.iload_n 1, 1) := by decide +kernel
theorem dX2_pointsOff_62 : decode cX2_pointsOff 62 = .ok (.sipush 1439, 3) := by decide +kernel
theorem dX2_pointsOff_65 : decode cX2_pointsOff 65 = .ok (.iadd, 1) := by decide +kernel
theorem dX2_pointsOff_66 : decode cX2_pointsOff 66 = .ok (.sipush 1440, 3) := by decide +kernel
theorem dX2_pointsOff_69 : decode cX2_pointsOff 69 = .ok (.idiv, 1) := by decide +kernel
theorem dX2_pointsOff_70 : decode cX2_pointsOff 70 = .ok (.imul, 1) := by decide +kernel
theorem dX2_pointsOff_71 : decode cX2_pointsOff 71 = .ok (.ireturn, 1) := by decide +kernel
theorem dX2_pointsOff_72 : decode cX2_pointsOff 72 = .ok (.iload_n 1, 1) := by decide +kernel
theorem dX2_pointsOff_73 : decode cX2_pointsOff 73 = .ok (.aload_n 0, 1) := by decide +kernel
theorem dX2_pointsOff_74 : decode cX2_pointsOff 74 = .ok (.getfield 13, 3) := by decide +kernel
theorem dX2_pointsOff_77 : decode cX2_pointsOff 77 = .ok (.if_icmp .le 8, 3) := by decide +kernel
theorem dX2_pointsOff_80 : decode cX2_pointsOff 80 = .ok (.bipush 10, 2) := by decide +kernel
theorem dX2_pointsOff_82 : decode cX2_pointsOff 82 = .ok (.goto 4, 3) := by decide +kernel
theorem dX2_pointsOff_85 : decode cX2_pointsOff 85 = .ok (.iconst 0, 1) := by decide +kernel
theorem dX2_pointsOff_86 : decode cX2_pointsOff 86 = .ok (.ireturn, 1) := by decide +kernel
theorem dX2_pointsOff_87 : decode cX2_pointsOff 87 = .ok (.aload_n 0, 1) := by decide +kernel
theorem dX2_pointsOff_88 : decode cX2_pointsOff 88 = .ok (.getfield 13, 3) := by decide +kernel
theorem dX2_pointsOff_91 : decode cX2_pointsOff 91 = .ok (.iconst 1, 1) := by decide +kernel
theorem dX2_pointsOff_92 : decode cX2_pointsOff 92 = .ok (.bipush 6, 2) := by decide +kernel
theorem dX2_pointsOff_94 : decode cX2_pointsOff 94 = .ok (.iload_n 1, 1) := by decide +kernel
theorem dX2_pointsOff_95 : decode cX2_pointsOff 95 = .ok (.bipush 60, 2) := by decide +kernel
theorem dX2_pointsOff_97 : decode cX2_pointsOff 97 = .ok (.idiv, 1) := by decide +kernel
theorem dX2_pointsOff_98 : decode cX2_pointsOff 98 = .ok (.invokestatic 17, 3) := by decide +kernel
theorem dX2_pointsOff_101 : decode cX2_pointsOff 101 = .ok (.ishl, 1) := by decide +kernel
theorem dX2_pointsOff_102 : decode cX2_pointsOff 102 = .ok (.imul, 1) := by decide +kernel
theorem dX2_pointsOff_103 : decode cX2_pointsOff 103 = .ok (.ireturn, 1) := by decide +kernel
theorem dX3_init_0 : decode cX3_init 0 = .ok (.aload_n 0, 1) := by decide +kernel
theorem dX3_init_1 : decode cX3_init 1 = .ok (.invokespecial 3, 3) := by decide +kernel
theorem dX3_init_4 : decode cX3_init 4 = .ok (.aload_n 0, 1) := by decide +kernel
theorem dX3_init_5 : decode cX3_init 5 = .ok (.bipush 40, 2) := by decide +kernel
theorem dX3_init_7 : decode cX3_init 7 = .ok (.newarray .int, 2) := by decide +kernel
theorem dX3_init_9 : decode cX3_init 9 = .ok (.putfield 9, 3) := by decide +kernel
theorem dX3_init_12 : decode cX3_init 12 = .ok (.return_, 1) := by decide +kernel
theorem dX3_put_0 : decode cX3_put 0 = .ok (.iload_n 1, 1) := by decide +kernel
theorem dX3_put_1 : decode cX3_put 1 = .ok (.ifCond .lt 23, 3) := by decide +kernel
theorem dX3_put_4 : decode cX3_put 4 = .ok (.iload_n 1, 1) := by decide +kernel
theorem dX3_put_5 : decode cX3_put 5 = .ok (.aload_n 0, 1) := by decide +kernel
theorem dX3_put_6 : decode cX3_put 6 = .ok (.getfield 15, 3) := by decide +kernel
theorem dX3_put_9 : decode cX3_put 9 = .ok (.if_icmp .gt 15, 3) := by decide +kernel
theorem dX3_put_12 : decode cX3_put 12 = .ok (.aload_n 0, 1) := by decide +kernel
theorem dX3_put_13 : decode cX3_put 13 = .ok (.getfield 15, 3) := by decide +kernel
theorem dX3_put_16 : decode cX3_put 16 = .ok (.aload_n 0, 1) := by decide +kernel
theorem dX3_put_17 : decode cX3_put 17 = .ok (.getfield 9, 3) := by decide +kernel
theorem dX3_put_20 : decode cX3_put 20 = .ok (.arraylength, 1) := by decide +kernel
theorem dX3_put_21 : decode cX3_put 21 = .ok (.if_icmp .lt 4, 3) := by decide +kernel
theorem dX3_put_24 : decode cX3_put 24 = .ok (.return_, 1) := by decide +kernel
theorem dX3_put_25 : decode cX3_put 25 = .ok (.aload_n 0, 1) := by decide +kernel
theorem dX3_put_26 : decode cX3_put 26 = .ok (.getfield 9, 3) := by decide +kernel
theorem dX3_put_29 : decode cX3_put 29 = .ok (.iload_n 1, 1) := by decide +kernel
theorem dX3_put_30 : decode cX3_put 30 = .ok (.aload_n 0, 1) := by decide +kernel
theorem dX3_put_31 : decode cX3_put 31 = .ok (.getfield 9, 3) := by decide +kernel
theorem dX3_put_34 : decode cX3_put 34 = .ok (.iload_n 1, 1) := by decide +kernel
theorem dX3_put_35 : decode cX3_put 35 = .ok (.iconst 1, 1) := by decide +kernel
theorem dX3_put_36 : decode cX3_put 36 = .ok (.iadd, 1) := by decide +kernel
theorem dX3_put_37 : decode cX3_put 37 = .ok (.aload_n 0, 1) := by decide +kernel
theorem dX3_put_38 : decode cX3_put 38 = .ok (.getfield 15, 3) := by decide +kernel
theorem dX3_put_41 : decode cX3_put 41 = .ok (.iload_n 1, 1) := by decide +kernel
theorem dX3_put_42 : decode cX3_put 42 = .ok (.isub, 1) := by decide +kernel
theorem dX3_put_43 : decode cX3_put 43 = .ok (.invokestatic 19, 3) := by decide +kernel
theorem dX3_put_46 : decode cX3_put 46 = .ok (.aload_n 0, 1) := by decide +kernel
theorem dX3_put_47 : decode cX3_put 47 = .ok (.getfield 9, 3) := by decide +kernel
theorem dX3_put_50 : decode cX3_put 50 = .ok (.iload_n 1, 1) := by decide +kernel
theorem dX3_put_51 : decode cX3_put 51 = .ok (.iload_n 2, 1) := by decide +kernel
theorem dX3_put_52 : decode cX3_put 52 = .ok (.iastore, 1) := by decide +kernel
theorem dX3_put_53 : decode cX3_put 53 = .ok (.aload_n 0, 1) := by decide +kernel
theorem dX3_put_54 : decode cX3_put 54 = .ok (.dup, 1) := by decide +kernel
theorem dX3_put_55 : decode cX3_put 55 = .ok (.getfield 15, 3) := by decide +kernel
theorem dX3_put_58 : decode cX3_put 58 = .ok (.iconst 1, 1) := by decide +kernel
theorem dX3_put_59 : decode cX3_put 59 = .ok (.iadd, 1) := by decide +kernel
theorem dX3_put_60 : decode cX3_put 60 = .ok (.putfield 15, 3) := by decide +kernel
theorem dX3_put_63 : decode cX3_put 63 = .ok (.return_, 1) := by decide +kernel
theorem dX3_copyFrom_0 : decode cX3_copyFrom 0 = .ok (.aload_n 1, 1) := by decide +kernel
theorem dX3_copyFrom_1 : decode cX3_copyFrom 1 = .ok (.getfield 9, 3) := by decide +kernel
theorem dX3_copyFrom_4 : decode cX3_copyFrom 4 = .ok (.iconst 0, 1) := by decide +kernel
theorem dX3_copyFrom_5 : decode cX3_copyFrom 5 = .ok (.aload_n 0, 1) := by decide +kernel
theorem dX3_copyFrom_6 : decode cX3_copyFrom 6 = .ok (.getfield 9, 3) := by decide +kernel
theorem dX3_copyFrom_9 : decode cX3_copyFrom 9 = .ok (.iconst 0, 1) := by decide +kernel
theorem dX3_copyFrom_10 : decode cX3_copyFrom 10 = .ok (.aload_n 0, 1) := by decide +kernel
theorem dX3_copyFrom_11 : decode cX3_copyFrom 11 = .ok (.getfield 9, 3) := by decide +kernel
theorem dX3_copyFrom_14 : decode cX3_copyFrom 14 = .ok (.arraylength, 1) := by decide +kernel
theorem dX3_copyFrom_15 : decode cX3_copyFrom 15 = .ok (.invokestatic 19, 3) := by decide +kernel
theorem dX3_copyFrom_18 : decode cX3_copyFrom 18 = .ok (.aload_n 0, 1) := by decide +kernel
theorem dX3_copyFrom_19 : decode cX3_copyFrom 19 = .ok (.aload_n 1, 1) := by decide +kernel
theorem dX3_copyFrom_20 : decode cX3_copyFrom 20 = .ok (.getfield 15, 3) := by decide +kernel
theorem dX3_copyFrom_23 : decode cX3_copyFrom 23 = .ok (.putfield 15, 3) := by decide +kernel
theorem dX3_copyFrom_26 : decode cX3_copyFrom 26 = .ok (.return_, 1) := by decide +kernel
theorem dX3_turn_0 : decode cX3_turn 0 = .ok (.iconst 0, 1) := by decide +kernel
theorem dX3_turn_1 : decode cX3_turn 1 = .ok (.istore_n 1, 1) := by decide +kernel
theorem dX3_turn_2 : decode cX3_turn 2 = .ok (.aload_n 0, 1) := by decide +kernel
theorem dX3_turn_3 : decode cX3_turn 3 = .ok (.getfield 15, 3) := by decide +kernel
theorem dX3_turn_6 : decode cX3_turn 6 = .ok (.iconst 1, 1) := by decide +kernel
theorem dX3_turn_7 : decode cX3_turn 7 = .ok (.isub, 1) := by decide +kernel
theorem dX3_turn_8 : decode cX3_turn 8 = .ok (.istore_n 2, 1) := by decide +kernel
theorem dX3_turn_9 : decode cX3_turn 9 = .ok (.iload_n 1, 1) := by decide +kernel
theorem dX3_turn_10 : decode cX3_turn 10 = .ok (.iload_n 2, 1) := by decide +kernel
theorem dX3_turn_11 : decode cX3_turn 11 = .ok (.if_icmp .ge 38, 3) := by decide +kernel
theorem dX3_turn_14 : decode cX3_turn 14 = .ok (.aload_n 0, 1) := by decide +kernel
theorem dX3_turn_15 : decode cX3_turn 15 = .ok (.getfield 9, 3) := by decide +kernel
theorem dX3_turn_18 : decode cX3_turn 18 = .ok (.iload_n 1, 1) := by decide +kernel
theorem dX3_turn_19 : decode cX3_turn 19 = .ok (.iaload, 1) := by decide +kernel
theorem dX3_turn_20 : decode cX3_turn 20 = .ok (.istore_n 3, 1) := by decide +kernel
theorem dX3_turn_21 : decode cX3_turn 21 = .ok (.aload_n 0, 1) := by decide +kernel
theorem dX3_turn_22 : decode cX3_turn 22 = .ok (.getfield 9, 3) := by decide +kernel
theorem dX3_turn_25 : decode cX3_turn 25 = .ok (.iload_n 1, 1) := by decide +kernel
theorem dX3_turn_26 : decode cX3_turn 26 = .ok (.aload_n 0, 1) := by decide +kernel
theorem dX3_turn_27 : decode cX3_turn 27 = .ok (.getfield 9, 3) := by decide +kernel
theorem dX3_turn_30 : decode cX3_turn 30 = .ok (.iload_n 2, 1) := by decide +kernel
theorem dX3_turn_31 : decode cX3_turn 31 = .ok (.iaload, 1) := by decide +kernel
theorem dX3_turn_32 : decode cX3_turn 32 = .ok (.iastore, 1) := by decide +kernel
theorem dX3_turn_33 : decode cX3_turn 33 = .ok (.aload_n 0, 1) := by decide +kernel
theorem dX3_turn_34 : decode cX3_turn 34 = .ok (.getfield 9, 3) := by decide +kernel
theorem dX3_turn_37 : decode cX3_turn 37 = .ok (.iload_n 2, 1) := by decide +kernel
theorem dX3_turn_38 : decode cX3_turn 38 = .ok (.iload_n 3, 1) := by decide +kernel
theorem dX3_turn_39 : decode cX3_turn 39 = .ok (.iastore, 1) := by decide +kernel
theorem dX3_turn_40 : decode cX3_turn 40 = .ok (.iinc 1 1, 3) := by decide +kernel
theorem dX3_turn_43 : decode cX3_turn 43 = .ok (.iinc 2 (-1), 3) := by decide +kernel
theorem dX3_turn_46 : decode cX3_turn 46 = .ok (.goto (-37), 3) := by decide +kernel
theorem dX3_turn_49 : decode cX3_turn 49 = .ok (.return_, 1) := by decide +kernel
theorem dX3_width_0 : decode cX3_width 0 = .ok (.iload_n 0, 1) := by decide +kernel
theorem dX3_width_1 : decode cX3_width 1 = .ok (.ldc 25, 2) := by decide +kernel
theorem dX3_width_3 : decode cX3_width 3 = .ok (.if_icmp .le 7, 3) := by decide +kernel
theorem dX3_width_6 : decode cX3_width 6 = .ok (.iconst 2, 1) := by decide +kernel
theorem dX3_width_7 : decode cX3_width 7 = .ok (.goto 4, 3) := by decide +kernel
theorem dX3_width_10 : decode cX3_width 10 = .ok (.iconst 1, 1) := by decide +kernel
theorem dX3_width_11 : decode cX3_width 11 = .ok (.ireturn, 1) := by decide +kernel
theorem dX3_part_0 : decode cX3_part 0 = .ok (.iload_n 0, 1) := by decide +kernel
theorem dX3_part_1 : decode cX3_part 1 = .ok (.ldc 25, 2) := by decide +kernel
theorem dX3_part_3 : decode cX3_part 3 = .ok (.if_icmp .gt 6, 3) := by decide +kernel
theorem dX3_part_6 : decode cX3_part 6 = .ok (.iload_n 0, 1) := by decide +kernel
theorem dX3_part_7 : decode cX3_part 7 = .ok (.i2c, 1) := by decide +kernel
theorem dX3_part_8 : decode cX3_part 8 = .ok (.ireturn, 1) := by decide +kernel
theorem dX3_part_9 : decode cX3_part 9 = .ok (.iload_n 0, 1) := by decide +kernel
theorem dX3_part_10 : decode cX3_part 10 = .ok (.ldc 26, 2) := by decide +kernel
theorem dX3_part_12 : decode cX3_part 12 = .ok (.isub, 1) := by decide +kernel
theorem dX3_part_13 : decode cX3_part 13 = .ok (.istore_n 2, 1) := by decide +kernel
theorem dX3_part_14 : decode cX3_part 14 = .ok (.iload_n 1, 1) := by decide +kernel
theorem dX3_part_15 : decode cX3_part 15 = .ok (.ifCond .ne 13, 3) := by decide +kernel
theorem dX3_part_18 : decode cX3_part 18 = .ok (.ldc 27, 2) := by decide +kernel
theorem dX3_part_20 : decode cX3_part 20 = .ok (.iload_n 2, 1) := by decide +kernel
theorem dX3_part_21 : decode cX3_part 21 = .ok (.bipush 10, 2) := by decide +kernel
theorem dX3_part_23 : decode cX3_part 23 = .ok (.ishr, 1) := by decide +kernel
theorem dX3_part_24 : decode cX3_part 24 = .ok (.iadd, 1) := by decide +kernel
theorem dX3_part_25 : decode cX3_part 25 = .ok (.goto 11, 3) := by decide +kernel
theorem dX3_part_28 : decode cX3_part 28 = .ok (.ldc 28, 2) := by decide +kernel
theorem dX3_part_30 : decode cX3_part 30 = .ok (.iload_n 2, 1) := by decide +kernel
theorem dX3_part_31 : decode cX3_part 31 = .ok (.sipush 1023, 3) := by decide +kernel
theorem dX3_part_34 : decode cX3_part 34 = .ok (.iand, 1) := by decide +kernel
theorem dX3_part_35 : decode cX3_part 35 = .ok (.iadd, 1) := by decide +kernel
theorem dX3_part_36 : decode cX3_part 36 = .ok (.i2c, 1) := by decide +kernel
theorem dX3_part_37 : decode cX3_part 37 = .ok (.ireturn, 1) := by decide +kernel
set_option maxRecDepth 20000 in
theorem ggX3_countChars_X3_width : GoodIn wsX3_countChars wsX3_width := goodIn_r _ [6, 7] (by decide +kernel) (by decide +kernel)
set_option maxRecDepth 20000 in
theorem gX3_countChars_X3_width : GoodIn wsX3_countChars (va_wsS RX3 29 yX3_width wsX3_width) := goodIn_app (goodIn_of _ (by decide +kernel)) ggX3_countChars_X3_width
theorem dX3_countChars_0 : decode cX3_countChars 0 = .ok (.iconst 0, 1) := by decide +kernel
theorem dX3_countChars_1 : decode cX3_countChars 1 = .ok (.istore_n 1, 1) := by decide +kernel
theorem dX3_countChars_2 : decode cX3_countChars 2 = .ok (.iconst 0, 1) := by decide +kernel
theorem dX3_countChars_3 : decode cX3_countChars 3 = .ok (.istore_n 2, 1) := by decide +kernel
theorem dX3_countChars_4 : decode cX3_countChars 4 = .ok (.iload_n 2, 1) := by decide +kernel
theorem dX3_countChars_5 : decode cX3_countChars 5 = .ok (.aload_n 0, 1) := by decide +kernel
theorem dX3_countChars_6 : decode cX3_countChars 6 = .ok (.getfield 15, 3) := by decide +kernel
theorem dX3_countChars_9 : decode cX3_countChars 9 = .ok (.if_icmp .ge 21, 3) := by decide +kernel
theorem dX3_countChars_12 : decode cX3_countChars 12 = .ok (.iload_n 1, 1) := by decide +kernel
theorem dX3_countChars_13 : decode cX3_countChars 13 = .ok (.aload_n 0, 1) := by decide +kernel
theorem dX3_countChars_14 : decode cX3_countChars 14 = .ok (.getfield 9, 3) := by decide +kernel
theorem dX3_countChars_17 : decode cX3_countChars 17 = .ok (.iload_n 2, 1) := by decide +kernel
theorem dX3_countChars_18 : decode cX3_countChars 18 = .ok (.iaload, 1) := by decide +kernel
theorem dX3_countChars_19 : decode cX3_countChars 19 = .ok (.invokestatic 29, 3) := by decide +kernel
theorem dX3_countChars_22 : decode cX3_countChars 22 = .ok (.iadd, 1) := by decide +kernel
theorem dX3_countChars_23 : decode cX3_countChars 23 = .ok (.istore_n 1, 1) := by decide +kernel
theorem dX3_countChars_24 : decode cX3_countChars 24 = .ok (.iinc 2 1, 3) := by decide +kernel
theorem dX3_countChars_27 : decode cX3_countChars 27 = .ok (.goto (-23), 3) := by decide +kernel
theorem dX3_countChars_30 : decode cX3_countChars 30 = .ok (.iload_n 1, 1) := by decide +kernel
theorem dX3_countChars_31 : decode cX3_countChars 31 = .ok (.ireturn, 1) := by decide +kernel
set_option maxRecDepth 20000 in
theorem ggX3_charIn_X3_width : GoodIn wsX3_charIn wsX3_width := goodIn_r _ [6, 7] (by decide +kernel) (by decide +kernel)
set_option maxRecDepth 20000 in
theorem gX3_charIn_X3_width : GoodIn wsX3_charIn (va_wsS RX3 29 yX3_width wsX3_width) := goodIn_app (goodIn_of _ (by decide +kernel)) ggX3_charIn_X3_width
set_option maxRecDepth 20000 in
theorem ggX3_charIn_X3_part : GoodIn wsX3_charIn wsX3_part := goodIn_r _ [10, 7, 11, 12, 13] (by decide +kernel) (by decide +kernel)
set_option maxRecDepth 20000 in
theorem gX3_charIn_X3_part : GoodIn wsX3_charIn (va_wsS RX3 33 yX3_part wsX3_part) := goodIn_app (goodIn_of _ (by decide +kernel)) ggX3_charIn_X3_part
theorem dX3_charIn_0 : decode cX3_charIn 0 = .ok (.iload_n 1, 1) := by decide +kernel
theorem dX3_charIn_1 : decode cX3_charIn 1 = .ok (.istore_n 2, 1) := by decide +kernel
theorem dX3_charIn_2 : decode cX3_charIn 2 = .ok (.iconst 0, 1) := by decide +kernel
theorem dX3_charIn_3 : decode cX3_charIn 3 = .ok (.istore_n 3, 1) := by decide +kernel
theorem dX3_charIn_4 : decode cX3_charIn 4 = .ok (.iload_n 3, 1) := by decide +kernel
theorem dX3_charIn_5 : decode cX3_charIn 5 = .ok (.aload_n 0, 1) := by decide +kernel
theorem dX3_charIn_6 : decode cX3_charIn 6 = .ok (.getfield 15, 3) := by decide +kernel
theorem dX3_charIn_9 : decode cX3_charIn 9 = .ok (.if_icmp .ge 45, 3) := by decide +kernel
theorem dX3_charIn_12 : decode cX3_charIn 12 = .ok (.iload_n 2, 1) := by decide +kernel
theorem dX3_charIn_13 : decode cX3_charIn 13 = .ok (.aload_n 0, 1) := by decide +kernel
theorem dX3_charIn_14 : decode cX3_charIn 14 = .ok (.getfield 9, 3) := by decide +kernel
theorem dX3_charIn_17 : decode cX3_charIn 17 = .ok (.iload_n 3, 1) := by decide +kernel
theorem dX3_charIn_18 : decode cX3_charIn 18 = .ok (.iaload, 1) := by decide +kernel
theorem dX3_charIn_19 : decode cX3_charIn 19 = .ok (.invokestatic 29, 3) := by decide +kernel
theorem dX3_charIn_22 : decode cX3_charIn 22 = .ok (.if_icmp .ge 14, 3) := by decide +kernel
theorem dX3_charIn_25 : decode cX3_charIn 25 = .ok (.aload_n 0, 1) := by decide +kernel
theorem dX3_charIn_26 : decode cX3_charIn 26 = .ok (.getfield 9, 3) := by decide +kernel
theorem dX3_charIn_29 : decode cX3_charIn 29 = .ok (.iload_n 3, 1) := by decide +kernel
theorem dX3_charIn_30 : decode cX3_charIn 30 = .ok (.iaload, 1) := by decide +kernel
theorem dX3_charIn_31 : decode cX3_charIn 31 = .ok (.iload_n 2, 1) := by decide +kernel
theorem dX3_charIn_32 : decode cX3_charIn 32 = .ok (.invokestatic 33, 3) := by decide +kernel
theorem dX3_charIn_35 : decode cX3_charIn 35 = .ok (.ireturn, 1) := by decide +kernel
theorem dX3_charIn_36 : decode cX3_charIn 36 = .ok (.iload_n 2, 1) := by decide +kernel
theorem dX3_charIn_37 : decode cX3_charIn 37 = .ok (.aload_n 0, 1) := by decide +kernel
theorem dX3_charIn_38 : decode cX3_charIn 38 = .ok (.getfield 9, 3) := by decide +kernel
theorem dX3_charIn_41 : decode cX3_charIn 41 = .ok (.iload_n 3, 1) := by decide +kernel
theorem dX3_charIn_42 : decode cX3_charIn 42 = .ok (.iaload, 1) := by decide +kernel
theorem dX3_charIn_43 : decode cX3_charIn 43 = .ok (.invokestatic 29, 3) := by decide +kernel
theorem dX3_charIn_46 : decode cX3_charIn 46 = .ok (.isub, 1) := by decide +kernel
theorem dX3_charIn_47 : decode cX3_charIn 47 = .ok (.istore_n 2, 1) := by decide +kernel
theorem dX3_charIn_48 : decode cX3_charIn 48 = .ok (.iinc 3 1, 3) := by decide +kernel
theorem dX3_charIn_51 : decode cX3_charIn 51 = .ok (.goto (-47), 3) := by decide +kernel
theorem dX3_charIn_54 : decode cX3_charIn 54 = .ok (.iconst 0, 1) := by decide +kernel
theorem dX3_charIn_55 : decode cX3_charIn 55 = .ok (.ireturn, 1) := by decide +kernel
set_option maxRecDepth 20000 in
theorem ggX3_sumBytes_X3_width : GoodIn wsX3_sumBytes wsX3_width := goodIn_r _ [6, 7] (by decide +kernel) (by decide +kernel)
set_option maxRecDepth 20000 in
theorem gX3_sumBytes_X3_width : GoodIn wsX3_sumBytes (va_wsS RX3 29 yX3_width wsX3_width) := goodIn_app (goodIn_of _ (by decide +kernel)) ggX3_sumBytes_X3_width
set_option maxRecDepth 20000 in
theorem ggX3_sumBytes_X3_part : GoodIn wsX3_sumBytes wsX3_part := goodIn_r _ [10, 7, 11, 12, 13] (by decide +kernel) (by decide +kernel)
set_option maxRecDepth 20000 in
theorem gX3_sumBytes_X3_part : GoodIn wsX3_sumBytes (va_wsS RX3 33 yX3_part wsX3_part) := goodIn_app (goodIn_of _ (by decide +kernel)) ggX3_sumBytes_X3_part
theorem dX3_sumBytes_0 : decode cX3_sumBytes 0 = .ok (.iconst 0, 1) := by decide +kernel
theorem dX3_sumBytes_1 : decode cX3_sumBytes 1 = .ok (.istore_n 1, 1) := by decide +kernel
theorem dX3_sumBytes_2 : decode cX3_sumBytes 2 = .ok (.iconst 0, 1) := by decide +kernel
theorem dX3_sumBytes_3 : decode cX3_sumBytes 3 = .ok (.istore_n 2, 1) := by decide +kernel
theorem dX3_sumBytes_4 : decode cX3_sumBytes 4 = .ok (.iload_n 2, 1) := by decide +kernel
theorem dX3_sumBytes_5 : decode cX3_sumBytes 5 = .ok (.aload_n 0, 1) := by decide +kernel
theorem dX3_sumBytes_6 : decode cX3_sumBytes 6 = .ok (.getfield 15, 3) := by decide +kernel
theorem dX3_sumBytes_9 : decode cX3_sumBytes 9 = .ok (.if_icmp .ge 44, 3) := by decide +kernel
theorem dX3_sumBytes_12 : decode cX3_sumBytes 12 = .ok (.iconst 0, 1) := by decide +kernel
theorem dX3_sumBytes_13 : decode cX3_sumBytes 13 = .ok (.istore_n 3, 1) := by decide +kernel
theorem dX3_sumBytes_14 : decode cX3_sumBytes 14 = .ok (.iload_n 3, 1) := by decide +kernel
theorem dX3_sumBytes_15 : decode cX3_sumBytes 15 = .ok (.aload_n 0, 1) := by decide +kernel
theorem dX3_sumBytes_16 : decode cX3_sumBytes 16 = .ok (.getfield 9, 3) := by decide +kernel
theorem dX3_sumBytes_19 : decode cX3_sumBytes 19 = .ok (.iload_n 2, 1) := by decide +kernel
theorem dX3_sumBytes_20 : decode cX3_sumBytes 20 = .ok (.iaload, 1) := by decide +kernel
theorem dX3_sumBytes_21 : decode cX3_sumBytes 21 = .ok (.invokestatic 29, 3) := by decide +kernel
theorem dX3_sumBytes_24 : decode cX3_sumBytes 24 = .ok (.if_icmp .ge 23, 3) := by decide +kernel
theorem dX3_sumBytes_27 : decode cX3_sumBytes 27 = .ok (.iload_n 1, 1) := by decide +kernel
theorem dX3_sumBytes_28 : decode cX3_sumBytes 28 = .ok (.aload_n 0, 1) := by decide +kernel
theorem dX3_sumBytes_29 : decode cX3_sumBytes 29 = .ok (.getfield 9, 3) := by decide +kernel
theorem dX3_sumBytes_32 : decode cX3_sumBytes 32 = .ok (.iload_n 2, 1) := by decide +kernel
theorem dX3_sumBytes_33 : decode cX3_sumBytes 33 = .ok (.iaload, 1) := by decide +kernel
theorem dX3_sumBytes_34 : decode cX3_sumBytes 34 = .ok (.iload_n 3, 1) := by decide +kernel
theorem dX3_sumBytes_35 : decode cX3_sumBytes 35 = .ok (.invokestatic 33, 3) := by decide +kernel
theorem dX3_sumBytes_38 : decode cX3_sumBytes 38 = .ok (.iadd, 1) := by decide +kernel
theorem dX3_sumBytes_39 : decode cX3_sumBytes 39 = .ok (.i2b, 1) := by decide +kernel
theorem dX3_sumBytes_40 : decode cX3_sumBytes 40 = .ok (.istore_n 1, 1) := by decide +kernel
theorem dX3_sumBytes_41 : decode cX3_sumBytes 41 = .ok (.iinc 3 1, 3) := by decide +kernel
theorem dX3_sumBytes_44 : decode cX3_sumBytes 44 = .ok (.goto (-30), 3) := by decide +kernel
theorem dX3_sumBytes_47 : decode cX3_sumBytes 47 = .ok (.iinc 2 1, 3) := by decide +kernel
theorem dX3_sumBytes_50 : decode cX3_sumBytes 50 = .ok (.goto (-46), 3) := by decide +kernel
theorem dX3_sumBytes_53 : decode cX3_sumBytes 53 = .ok (.iload_n 1, 1) := by decide +kernel
theorem dX3_sumBytes_54 : decode cX3_sumBytes 54 = .ok (.ireturn, 1) := by decide +kernel
set_option maxRecDepth 20000 in
theorem ggX3_sumShorts_X3_width : GoodIn wsX3_sumShorts wsX3_width := goodIn_r _ [6, 7] (by decide +kernel) (by decide +kernel)
set_option maxRecDepth 20000 in
theorem gX3_sumShorts_X3_width : GoodIn wsX3_sumShorts (va_wsS RX3 29 yX3_width wsX3_width) := goodIn_app (goodIn_of _ (by decide +kernel)) ggX3_sumShorts_X3_width
set_option maxRecDepth 20000 in
theorem ggX3_sumShorts_X3_part : GoodIn wsX3_sumShorts wsX3_part := goodIn_r _ [10, 7, 11, 12, 13] (by decide +kernel) (by decide +kernel)
set_option maxRecDepth 20000 in
theorem gX3_sumShorts_X3_part : GoodIn wsX3_sumShorts (va_wsS RX3 33 yX3_part wsX3_part) := goodIn_app (goodIn_of _ (by decide +kernel)) ggX3_sumShorts_X3_part
theorem dX3_sumShorts_0 : decode cX3_sumShorts 0 = .ok (.iconst 0, 1) := by decide +kernel
theorem dX3_sumShorts_1 : decode cX3_sumShorts 1 = .ok (.istore_n 1, 1) := by decide +kernel
theorem dX3_sumShorts_2 : decode cX3_sumShorts 2 = .ok (.iconst 0, 1) := by decide +kernel
theorem dX3_sumShorts_3 : decode cX3_sumShorts 3 = .ok (.istore_n 2, 1) := by decide +kernel
theorem dX3_sumShorts_4 : decode cX3_sumShorts 4 = .ok (.iload_n 2, 1) := by decide +kernel
theorem dX3_sumShorts_5 : decode cX3_sumShorts 5 = .ok (.aload_n 0, 1) := by decide +kernel
theorem dX3_sumShorts_6 : decode cX3_sumShorts 6 = .ok (.getfield 15, 3) := by decide +kernel
theorem dX3_sumShorts_9 : decode cX3_sumShorts 9 = .ok (.if_icmp .ge 47, 3) := by decide +kernel
theorem dX3_sumShorts_12 : decode cX3_sumShorts 12 = .ok (.iconst 0, 1) := by decide +kernel
theorem dX3_sumShorts_13 : decode cX3_sumShorts 13 = .ok (.istore_n 3, 1) := by decide +kernel
theorem dX3_sumShorts_14 : decode cX3_sumShorts 14 = .ok (.iload_n 3, 1) := by decide +kernel
theorem dX3_sumShorts_15 : decode cX3_sumShorts 15 = .ok (.aload_n 0, 1) := by decide +kernel
theorem dX3_sumShorts_16 : decode cX3_sumShorts 16 = .ok (.getfield 9, 3) := by decide +kernel
theorem dX3_sumShorts_19 : decode cX3_sumShorts 19 = .ok (.iload_n 2, 1) := by decide +kernel
theorem dX3_sumShorts_20 : decode cX3_sumShorts 20 = .ok (.iaload, 1) := by decide +kernel
theorem dX3_sumShorts_21 : decode cX3_sumShorts 21 = .ok (.invokestatic 29, 3) := by decide +kernel
theorem dX3_sumShorts_24 : decode cX3_sumShorts 24 = .ok (.if_icmp .ge 26, 3) := by decide +kernel
theorem dX3_sumShorts_27 : decode cX3_sumShorts 27 = .ok (.iload_n 1, 1) := by decide +kernel
theorem dX3_sumShorts_28 : decode cX3_sumShorts 28 = .ok (.bipush 31, 2) := by decide +kernel
theorem dX3_sumShorts_30 : decode cX3_sumShorts 30 = .ok (.imul, 1) := by decide +kernel
theorem dX3_sumShorts_31 : decode cX3_sumShorts 31 = .ok (.aload_n 0, 1) := by decide +kernel
theorem dX3_sumShorts_32 : decode cX3_sumShorts 32 = .ok (.getfield 9, 3) := by decide +kernel
theorem dX3_sumShorts_35 : decode cX3_sumShorts 35 = .ok (.iload_n 2, 1) := by decide +kernel
theorem dX3_sumShorts_36 : decode cX3_sumShorts 36 = .ok (.iaload, 1) := by decide +kernel
theorem dX3_sumShorts_37 : decode cX3_sumShorts 37 = .ok (.iload_n 3, 1) := by decide +kernel
theorem dX3_sumShorts_38 : decode cX3_sumShorts 38 = .ok (.invokestatic 33, 3) := by decide +kernel
theorem dX3_sumShorts_41 : decode cX3_sumShorts 41 = .ok (.iadd, 1) := by decide +kernel
theorem dX3_sumShorts_42 : decode cX3_sumShorts 42 = .ok (.i2s, 1) := by decide +kernel
theorem dX3_sumShorts_43 : decode cX3_sumShorts 43 = .ok (.istore_n 1, 1) := by decide +kernel
theorem dX3_sumShorts_44 : decode cX3_sumShorts 44 = .ok (.iinc 3 1, 3) := by decide +kernel
theorem dX3_sumShorts_47 : decode cX3_sumShorts 47 = .ok (.goto (-33), 3) := by decide +kernel
theorem dX3_sumShorts_50 : decode cX3_sumShorts 50 = .ok (.iinc 2 1, 3) := by decide +kernel
theorem dX3_sumShorts_53 : decode cX3_sumShorts 53 = .ok (.goto (-49), 3) := by decide +kernel
theorem dX3_sumShorts_56 : decode cX3_sumShorts 56 = .ok (.iload_n 1, 1) := by decide +kernel
theorem dX3_sumShorts_57 : decode cX3_sumShorts 57 = .ok (.ireturn, 1) := by decide +kernel
set_option maxRecDepth 20000 in
theorem ggX3_cutInto_X0_add : GoodIn wsX3_cutInto wsX0_add := goodIn_ca (goodIn_r _ [9, 10, 11, 12, 13, 14, 15, 16, 17, 18, 19, 8, 20, 21, 22, 23] (by decide +kernel) (by decide +kernel)) (goodIn_sub (fun _ h => List.mem_cons_of_mem _ (List.mem_append_right _ h)) (by decide +kernel))
set_option maxRecDepth 20000 in
theorem gX3_cutInto_X0_add : GoodIn wsX3_cutInto (wsV RX3 43 RX0 yX0_add wsX0_add) := goodIn_app (goodIn_of _ (by decide +kernel)) ggX3_cutInto_X0_add
theorem dX3_cutInto_0 : decode cX3_cutInto 0 = .ok (.aload_n 1, 1) := by decide +kernel
theorem dX3_cutInto_1 : decode cX3_cutInto 1 = .ok (.iconst 0, 1) := by decide +kernel
theorem dX3_cutInto_2 : decode cX3_cutInto 2 = .ok (.putfield 37, 3) := by decide +kernel
theorem dX3_cutInto_5 : decode cX3_cutInto 5 = .ok (.iconst 0, 1) := by decide +kernel
theorem dX3_cutInto_6 : decode cX3_cutInto 6 = .ok (.istore_n 2, 1) := by decide +kernel
theorem dX3_cutInto_7 : decode cX3_cutInto 7 = .ok (.iload_n 2, 1) := by decide +kernel
theorem dX3_cutInto_8 : decode cX3_cutInto 8 = .ok (.iconst 4, 1) := by decide +kernel
theorem dX3_cutInto_9 : decode cX3_cutInto 9 = .ok (.iadd, 1) := by decide +kernel
theorem dX3_cutInto_10 : decode cX3_cutInto 10 = .ok (.aload_n 0, 1) := by decide +kernel
theorem dX3_cutInto_11 : decode cX3_cutInto 11 = .ok (.getfield 15, 3) := by decide +kernel
theorem dX3_cutInto_14 : decode cX3_cutInto 14 = .ok (.if_icmp .gt 53, 3) := by decide +kernel
theorem dX3_cutInto_17 : decode cX3_cutInto 17 = .ok (.iconst 0, 1) := by decide +kernel
theorem dX3_cutInto_18 : decode cX3_cutInto 18 = .ok (.istore_n 3, 1) := by decide +kernel
theorem dX3_cutInto_19 : decode cX3_cutInto 19 = .ok (.iload_n 2, 1) := by decide +kernel
theorem dX3_cutInto_20 : decode cX3_cutInto 20 = .ok (.istore 4, 2) := by decide +kernel
theorem dX3_cutInto_22 : decode cX3_cutInto 22 = .ok (.iload 4, 2) := by decide +kernel
theorem dX3_cutInto_24 : decode cX3_cutInto 24 = .ok (.iload_n 2, 1) := by decide +kernel
theorem dX3_cutInto_25 : decode cX3_cutInto 25 = .ok (.iconst 4, 1) := by decide +kernel
theorem dX3_cutInto_26 : decode cX3_cutInto 26 = .ok (.iadd, 1) := by decide +kernel
theorem dX3_cutInto_27 : decode cX3_cutInto 27 = .ok (.if_icmp .ge 26, 3) := by decide +kernel
theorem dX3_cutInto_30 : decode cX3_cutInto 30 = .ok (.iload_n 3, 1) := by decide +kernel
theorem dX3_cutInto_31 : decode cX3_cutInto 31 = .ok (.iconst 5, 1) := by decide +kernel
theorem dX3_cutInto_32 : decode cX3_cutInto 32 = .ok (.ishl, 1) := by decide +kernel
theorem dX3_cutInto_33 : decode cX3_cutInto 33 = .ok (.iload_n 3, 1) := by decide +kernel
theorem dX3_cutInto_34 : decode cX3_cutInto 34 = .ok (.bipush 27, 2) := by decide +kernel
theorem dX3_cutInto_36 : decode cX3_cutInto 36 = .ok (.iushr, 1) := by decide +kernel
theorem dX3_cutInto_37 : decode cX3_cutInto 37 = .ok (.ior, 1) := by decide +kernel
theorem dX3_cutInto_38 : decode cX3_cutInto 38 = .ok (.aload_n 0, 1) := by decide +kernel
theorem dX3_cutInto_39 : decode cX3_cutInto 39 = .ok (.getfield 9, 3) := by decide +kernel
theorem dX3_cutInto_42 : decode cX3_cutInto 42 = .ok (.iload 4, 2) := by decide +kernel
theorem dX3_cutInto_44 : decode cX3_cutInto 44 = .ok (.iaload, 1) := by decide +kernel
theorem dX3_cutInto_45 : decode cX3_cutInto 45 = .ok (.ixor, 1) := by decide +kernel
theorem dX3_cutInto_46 : decode cX3_cutInto 46 = .ok (.istore_n 3, 1) := by decide +kernel
theorem dX3_cutInto_47 : decode cX3_cutInto 47 = .ok (.iinc 4 1, 3) := by decide +kernel
theorem dX3_cutInto_50 : decode cX3_cutInto 50 = .ok (.goto (-28), 3) := by decide +kernel
theorem dX3_cutInto_53 : decode cX3_cutInto 53 = .ok (.aload_n 1, 1) := by decide +kernel
theorem dX3_cutInto_54 : decode cX3_cutInto 54 = .ok (.iload_n 3, 1) := by decide +kernel
theorem dX3_cutInto_55 : decode cX3_cutInto 55 = .ok (.ldc 42, 2) := by decide +kernel
theorem dX3_cutInto_57 : decode cX3_cutInto 57 = .ok (.iand, 1) := by decide +kernel
theorem dX3_cutInto_58 : decode cX3_cutInto 58 = .ok (.invokevirtual 43, 3) := by decide +kernel
theorem dX3_cutInto_61 : decode cX3_cutInto 61 = .ok (.iinc 2 1, 3) := by decide +kernel
theorem dX3_cutInto_64 : decode cX3_cutInto 64 = .ok (.goto (-57), 3) := by decide +kernel
theorem dX3_cutInto_67 : decode cX3_cutInto 67 = .ok (.return_, 1) := by decide +kernel
set_option maxRecDepth 20000 in
theorem ggX4_init_X3_init : GoodIn wsX4_init wsX3_init := goodIn_r _ [16, 17, 2, 3, 18, 19, 40, 41] (by decide +kernel) (by decide +kernel)
set_option maxRecDepth 20000 in
theorem gX4_init_X3_init_n23 : GoodIn wsX4_init (wsX3_init) := ggX4_init_X3_init
set_option maxRecDepth 20000 in
theorem ggX4_init_X0_init : GoodIn wsX4_init wsX0_init := goodIn_r _ [22, 23, 2, 3, 24, 25, 26, 27, 18, 28, 29, 42, 43, 44] (by decide +kernel) (by decide +kernel)
set_option maxRecDepth 20000 in
theorem gX4_init_X0_init : GoodIn wsX4_init (wsX0_init) := ggX4_init_X0_init
theorem dX4_init_0 : decode cX4_init 0 = .ok (.aload_n 0, 1) := by decide +kernel
theorem dX4_init_1 : decode cX4_init 1 = .ok (.invokespecial 3, 3) := by decide +kernel
theorem dX4_init_4 : decode cX4_init 4 = .ok (.aload_n 0, 1) := by decide +kernel
theorem dX4_init_5 : decode cX4_init 5 = .ok (.iconst (-1), 1) := by decide +kernel
theorem dX4_init_6 : decode cX4_init 6 = .ok (.putfield 9, 3) := by decide +kernel
theorem dX4_init_9 : decode cX4_init 9 = .ok (.aload_n 0, 1) := by decide +kernel
theorem dX4_init_10 : decode cX4_init 10 = .ok (.iconst (-1), 1) := by decide +kernel
theorem dX4_init_11 : decode cX4_init 11 = .ok (.putfield 15, 3) := by decide +kernel
theorem dX4_init_14 : decode cX4_init 14 = .ok (.aload_n 0, 1) := by decide +kernel
theorem dX4_init_15 : decode cX4_init 15 = .ok (.iconst (-1), 1) := by decide +kernel
theorem dX4_init_16 : decode cX4_init 16 = .ok (.putfield 18, 3) := by decide +kernel
theorem dX4_init_19 : decode cX4_init 19 = .ok (.aload_n 0, 1) := by decide +kernel
theorem dX4_init_20 : decode cX4_init 20 = .ok (.new 21, 3) := by decide +kernel
theorem dX4_init_23 : decode cX4_init 23 = .ok (.dup, 1) := by decide +kernel
theorem dX4_init_24 : decode cX4_init 24 = .ok (.invokespecial 23, 3) := by decide +kernel
theorem dX4_init_27 : decode cX4_init 27 = .ok (.putfield 24, 3) := by decide +kernel
theorem dX4_init_30 : decode cX4_init 30 = .ok (.aload_n 0, 1) := by decide +kernel
theorem dX4_init_31 : decode cX4_init 31 = .ok (.new 28, 3) := by decide +kernel
theorem dX4_init_34 : decode cX4_init 34 = .ok (.dup, 1) := by decide +kernel
theorem dX4_init_35 : decode cX4_init 35 = .ok (.bipush 37, 2) := by decide +kernel
theorem dX4_init_37 : decode cX4_init 37 = .ok (.invokespecial 30, 3) := by decide +kernel
theorem dX4_init_40 : decode cX4_init 40 = .ok (.putfield 33, 3) := by decide +kernel
theorem dX4_init_43 : decode cX4_init 43 = .ok (.return_, 1) := by decide +kernel
set_option maxRecDepth 20000 in
theorem ggX4_keep_X3_copyFrom : GoodIn wsX4_keep wsX3_copyFrom := goodIn_r _ [7, 8, 9, 10, 11, 12, 13, 43, 44] (by decide +kernel) (by decide +kernel)
set_option maxRecDepth 20000 in
theorem gX4_keep_X3_copyFrom : GoodIn wsX4_keep (wsV RX4 37 RX3 yX3_copyFrom wsX3_copyFrom) := goodIn_app (goodIn_of _ (by decide +kernel)) ggX4_keep_X3_copyFrom
set_option maxRecDepth 20000 in
theorem ggX4_keep_X3_cutInto : GoodIn wsX4_keep wsX3_cutInto := goodIn_ca (goodIn_r _ [17, 18, 13, 8, 19, 20, 21, 22, 23, 24, 25, 26, 27, 28, 10, 11, 12, 29, 30, 31, 32, 45, 46, 47, 43, 44] (by decide +kernel) (by decide +kernel)) (goodIn_sub (fun _ h => List.mem_cons_of_mem _ (List.mem_append_right _ h)) (by decide +kernel))
set_option maxRecDepth 20000 in
theorem gX4_keep_X3_cutInto : GoodIn wsX4_keep (wsV RX4 41 RX3 yX3_cutInto wsX3_cutInto) := goodIn_app (goodIn_of _ (by decide +kernel)) ggX4_keep_X3_cutInto
theorem dX4_keep_0 : decode cX4_keep 0 = .ok (.aload_n 0, 1) := by decide +kernel
theorem dX4_keep_1 : decode cX4_keep 1 = .ok (.getfield 24, 3) := by decide +kernel
theorem dX4_keep_4 : decode cX4_keep 4 = .ok (.aload_n 1, 1) := by decide +kernel
theorem dX4_keep_5 : decode cX4_keep 5 = .ok (.invokevirtual 37, 3) := by decide +kernel
theorem dX4_keep_8 : decode cX4_keep 8 = .ok (.aload_n 0, 1) := by decide +kernel
theorem dX4_keep_9 : decode cX4_keep 9 = .ok (.getfield 24, 3) := by decide +kernel
theorem dX4_keep_12 : decode cX4_keep 12 = .ok (.aload_n 0, 1) := by decide +kernel
theorem dX4_keep_13 : decode cX4_keep 13 = .ok (.getfield 33, 3) := by decide +kernel
theorem dX4_keep_16 : decode cX4_keep 16 = .ok (.invokevirtual 41, 3) := by decide +kernel
theorem dX4_keep_19 : decode cX4_keep 19 = .ok (.return_, 1) := by decide +kernel
theorem dX4_isOf_0 : decode cX4_isOf 0 = .ok (.aload_n 0, 1) := by decide +kernel
theorem dX4_isOf_1 : decode cX4_isOf 1 = .ok (.getfield 45, 3) := by decide +kernel
theorem dX4_isOf_4 : decode cX4_isOf 4 = .ok (.iload_n 1, 1) := by decide +kernel
theorem dX4_isOf_5 : decode cX4_isOf 5 = .ok (.if_icmp .ne 15, 3) := by decide +kernel
theorem dX4_isOf_8 : decode cX4_isOf 8 = .ok (.aload_n 0, 1) := by decide +kernel
theorem dX4_isOf_9 : decode cX4_isOf 9 = .ok (.getfield 48, 3) := by decide +kernel
theorem dX4_isOf_12 : decode cX4_isOf 12 = .ok (.iload_n 2, 1) := by decide +kernel
theorem dX4_isOf_13 : decode cX4_isOf 13 = .ok (.if_icmp .ne 7, 3) := by decide +kernel
theorem dX4_isOf_16 : decode cX4_isOf 16 = .ok (.iconst 1, 1) := by decide +kernel
theorem dX4_isOf_17 : decode cX4_isOf 17 = .ok (.goto 4, 3) := by decide +kernel
theorem dX4_isOf_20 : decode cX4_isOf 20 = .ok (.iconst 0, 1) := by decide +kernel
theorem dX4_isOf_21 : decode cX4_isOf 21 = .ok (.ireturn, 1) := by decide +kernel
set_option maxRecDepth 20000 in
theorem ggX4_canPrecede_X4_isOf : GoodIn wsX4_canPrecede wsX4_isOf := goodIn_r _ [6, 7, 8, 9, 10, 11, 12, 13, 14, 15, 16, 17, 18] (by decide +kernel) (by decide +kernel)
set_option maxRecDepth 20000 in
theorem gX4_canPrecede_X4_isOf : GoodIn wsX4_canPrecede (wsV RX4 51 RX4 yX4_isOf wsX4_isOf) := goodIn_app (goodIn_of _ (by decide +kernel)) ggX4_canPrecede_X4_isOf
theorem dX4_canPrecede_0 : decode cX4_canPrecede 0 = .ok (.aload_n 0, 1) := by decide +kernel
theorem dX4_canPrecede_1 : decode cX4_canPrecede 1 = .ok (.iload_n 1, 1) := by decide +kernel
theorem dX4_canPrecede_2 : decode cX4_canPrecede 2 = .ok (.iload_n 2, 1) := by decide +kernel
theorem dX4_canPrecede_3 : decode cX4_canPrecede 3 = .ok (.invokevirtual 51, 3) := by decide +kernel
theorem dX4_canPrecede_6 : decode cX4_canPrecede 6 = .ok (.ifCond .eq 15, 3) := by decide +kernel
theorem dX4_canPrecede_9 : decode cX4_canPrecede 9 = .ok (.aload_n 0, 1) := by decide +kernel
theorem dX4_canPrecede_10 : decode cX4_canPrecede 10 = .ok (.getfield 55, 3) := by decide +kernel
theorem dX4_canPrecede_13 : decode cX4_canPrecede 13 = .ok (.iload_n 3, 1) := by decide +kernel
theorem dX4_canPrecede_14 : decode cX4_canPrecede 14 = .ok (.if_icmp .gt 7, 3) := by decide +kernel
theorem dX4_canPrecede_17 : decode cX4_canPrecede 17 = .ok (.iconst 1, 1) := by decide +kernel
theorem dX4_canPrecede_18 : decode cX4_canPrecede 18 = .ok (.goto 4, 3) := by decide +kernel
theorem dX4_canPrecede_21 : decode cX4_canPrecede 21 = .ok (.iconst 0, 1) := by decide +kernel
theorem dX4_canPrecede_22 : decode cX4_canPrecede 22 = .ok (.ireturn, 1) := by decide +kernel
theorem dX4_isThere_0 : decode cX4_isThere 0 = .ok (.aload_n 0, 1) := by decide +kernel
theorem dX4_isThere_1 : decode cX4_isThere 1 = .ok (.getfield 15, 3) := by decide +kernel
theorem dX4_isThere_4 : decode cX4_isThere 4 = .ok (.iconst (-1), 1) := by decide +kernel
theorem dX4_isThere_5 : decode cX4_isThere 5 = .ok (.if_icmp .eq 14, 3) := by decide +kernel
theorem dX4_isThere_8 : decode cX4_isThere 8 = .ok (.aload_n 0, 1) := by decide +kernel
theorem dX4_isThere_9 : decode cX4_isThere 9 = .ok (.getfield 58, 3) := by decide +kernel
theorem dX4_isThere_12 : decode cX4_isThere 12 = .ok (.ifCond .ne 7, 3) := by decide +kernel
theorem dX4_isThere_15 : decode cX4_isThere 15 = .ok (.iconst 1, 1) := by decide +kernel
theorem dX4_isThere_16 : decode cX4_isThere 16 = .ok (.goto 4, 3) := by decide +kernel
theorem dX4_isThere_19 : decode cX4_isThere 19 = .ok (.iconst 0, 1) := by decide +kernel
theorem dX4_isThere_20 : decode cX4_isThere 20 = .ok (.ireturn, 1) := by decide +kernel
set_option maxRecDepth 20000 in
theorem ggX5_init_X3_init : GoodIn wsX5_init wsX3_init := goodIn_r _ [31, 32, 2, 3, 4, 33, 79, 80] (by decide +kernel) (by decide +kernel)
set_option maxRecDepth 20000 in
theorem gX5_init_X3_init_n24 : GoodIn wsX5_init (wsX3_init) := ggX5_init_X3_init
set_option maxRecDepth 20000 in
theorem ggX5_init_X0_init : GoodIn wsX5_init wsX0_init := goodIn_r _ [36, 37, 2, 3, 38, 39, 40, 41, 4, 42, 43, 81, 82, 83] (by decide +kernel) (by decide +kernel)
set_option maxRecDepth 20000 in
theorem gX5_init_X0_init : GoodIn wsX5_init (wsX0_init) := ggX5_init_X0_init
set_option maxRecDepth 20000 in
theorem ggX5_init_X2_init : GoodIn wsX5_init wsX2_init := goodIn_r _ [45, 46, 2, 3] (by decide +kernel) (by decide +kernel)
set_option maxRecDepth 20000 in
theorem gX5_init_X2_init_n60 : GoodIn wsX5_init (wsX2_init) := ggX5_init_X2_init
set_option maxRecDepth 20000 in
theorem ggX5_init_X4_init : GoodIn wsX5_init wsX4_init := goodIn_r _ [48, 49, 2, 3, 50, 51, 52, 53, 10, 11, 54, 55, 16, 17, 56, 30, 31, 32, 4, 33, 57, 35, 36, 37, 38, 39, 40, 41, 42, 43, 89, 90, 91, 92, 93, 94, 95, 96, 97, 98, 79, 80, 81, 82, 83] (by decide +kernel) (by decide +kernel)
set_option maxRecDepth 20000 in
theorem gX5_init_X4_init_n61 : GoodIn wsX5_init (wsX4_init) := ggX5_init_X4_init
set_option maxRecDepth 20000 in
theorem ggX5_init_X1_init : GoodIn wsX5_init wsX1_init := goodIn_r _ [59, 60, 2, 3, 61, 99, 100, 101, 102] (by decide +kernel) (by decide +kernel)
set_option maxRecDepth 20000 in
theorem gX5_init_X1_init_n62 : GoodIn wsX5_init (wsX1_init) := ggX5_init_X1_init
theorem dX5_init_0 : decode cX5_init 0 = .ok (.aload_n 0, 1) := by decide +kernel
theorem dX5_init_1 : decode cX5_init 1 = .ok (.invokespecial 3, 3) := by decide +kernel
theorem dX5_init_4 : decode cX5_init 4 = .ok (.aload_n 0, 1) := by decide +kernel
theorem dX5_init_5 : decode cX5_init 5 = .ok (.iconst 4, 1) := by decide +kernel
theorem dX5_init_6 : decode cX5_init 6 = .ok (.newarray .int, 2) := by decide +kernel
theorem dX5_init_8 : decode cX5_init 8 = .ok (.putfield 9, 3) := by decide +kernel
theorem dX5_init_11 : decode cX5_init 11 = .ok (.aload_n 0, 1) := by decide +kernel
theorem dX5_init_12 : decode cX5_init 12 = .ok (.bipush 12, 2) := by decide +kernel
theorem dX5_init_14 : decode cX5_init 14 = .ok (.newarray .int, 2) := by decide +kernel
theorem dX5_init_16 : decode cX5_init 16 = .ok (.putfield 13, 3) := by decide +kernel
theorem dX5_init_19 : decode cX5_init 19 = .ok (.aload_n 0, 1) := by decide +kernel
theorem dX5_init_20 : decode cX5_init 20 = .ok (.bipush 10, 2) := by decide +kernel
theorem dX5_init_22 : decode cX5_init 22 = .ok (.anewarray 16, 3) := by decide +kernel
theorem dX5_init_25 : decode cX5_init 25 = .ok (.putfield 18, 3) := by decide +kernel
theorem dX5_init_28 : decode cX5_init 28 = .ok (.aload_n 0, 1) := by decide +kernel
theorem dX5_init_29 : decode cX5_init 29 = .ok (.new 22, 3) := by decide +kernel
theorem dX5_init_32 : decode cX5_init 32 = .ok (.dup, 1) := by decide +kernel
theorem dX5_init_33 : decode cX5_init 33 = .ok (.invokespecial 24, 3) := by decide +kernel
theorem dX5_init_36 : decode cX5_init 36 = .ok (.putfield 25, 3) := by decide +kernel
theorem dX5_init_39 : decode cX5_init 39 = .ok (.aload_n 0, 1) := by decide +kernel
theorem dX5_init_40 : decode cX5_init 40 = .ok (.bipush 60, 2) := by decide +kernel
theorem dX5_init_42 : decode cX5_init 42 = .ok (.anewarray 29, 3) := by decide +kernel
theorem dX5_init_45 : decode cX5_init 45 = .ok (.putfield 31, 3) := by decide +kernel
theorem dX5_init_48 : decode cX5_init 48 = .ok (.aload_n 0, 1) := by decide +kernel
theorem dX5_init_49 : decode cX5_init 49 = .ok (.new 35, 3) := by decide +kernel
theorem dX5_init_52 : decode cX5_init 52 = .ok (.dup, 1) := by decide +kernel
theorem dX5_init_53 : decode cX5_init 53 = .ok (.sipush 2220, 3) := by decide +kernel
theorem dX5_init_56 : decode cX5_init 56 = .ok (.invokespecial 37, 3) := by decide +kernel
theorem dX5_init_59 : decode cX5_init 59 = .ok (.putfield 40, 3) := by decide +kernel
theorem dX5_init_62 : decode cX5_init 62 = .ok (.aload_n 0, 1) := by decide +kernel
theorem dX5_init_63 : decode cX5_init 63 = .ok (.new 35, 3) := by decide +kernel
theorem dX5_init_66 : decode cX5_init 66 = .ok (.dup, 1) := by decide +kernel
theorem dX5_init_67 : decode cX5_init 67 = .ok (.sipush 2220, 3) := by decide +kernel
theorem dX5_init_70 : decode cX5_init 70 = .ok (.invokespecial 37, 3) := by decide +kernel
theorem dX5_init_73 : decode cX5_init 73 = .ok (.putfield 44, 3) := by decide +kernel
theorem dX5_init_76 : decode cX5_init 76 = .ok (.aload_n 0, 1) := by decide +kernel
theorem dX5_init_77 : decode cX5_init 77 = .ok (.new 35, 3) := by decide +kernel
theorem dX5_init_80 : decode cX5_init 80 = .ok (.dup, 1) := by decide +kernel
theorem dX5_init_81 : decode cX5_init 81 = .ok (.bipush 37, 2) := by decide +kernel
theorem dX5_init_83 : decode cX5_init 83 = .ok (.invokespecial 37, 3) := by decide +kernel
theorem dX5_init_86 : decode cX5_init 86 = .ok (.putfield 47, 3) := by decide +kernel
theorem dX5_init_89 : decode cX5_init 89 = .ok (.aload_n 0, 1) := by decide +kernel
theorem dX5_init_90 : decode cX5_init 90 = .ok (.bipush 40, 2) := by decide +kernel
theorem dX5_init_92 : decode cX5_init 92 = .ok (.anewarray 50, 3) := by decide +kernel
theorem dX5_init_95 : decode cX5_init 95 = .ok (.putfield 52, 3) := by decide +kernel
theorem dX5_init_98 : decode cX5_init 98 = .ok (.aload_n 0, 1) := by decide +kernel
theorem dX5_init_99 : decode cX5_init 99 = .ok (.iconst 3, 1) := by decide +kernel
theorem dX5_init_100 : decode cX5_init 100 = .ok (.putfield 56, 3) := by decide +kernel
theorem dX5_init_103 : decode cX5_init 103 = .ok (.iconst 0, 1) := by decide +kernel
theorem dX5_init_104 : decode cX5_init 104 = .ok (.istore_n 1, 1) := by decide +kernel
theorem dX5_init_105 : decode cX5_init 105 = .ok (.iload_n 1, 1) := by decide +kernel
theorem dX5_init_106 : decode cX5_init 106 = .ok (.bipush 10, 2) := by decide +kernel
theorem dX5_init_108 : decode cX5_init 108 = .ok (.if_icmp .ge 22, 3) := by decide +kernel
theorem dX5_init_111 : decode cX5_init 111 = .ok (.aload_n 0, 1) := by decide +kernel
theorem dX5_init_112 : decode cX5_init 112 = .ok (.getfield 18, 3) := by decide +kernel
theorem dX5_init_115 : decode cX5_init 115 = .ok (.iload_n 1, 1) := by decide +kernel
theorem dX5_init_116 : decode cX5_init 116 = .ok (.new 16, 3) := by decide +kernel
theorem dX5_init_119 : decode cX5_init 119 = .ok (.dup, 1) := by decide +kernel
theorem dX5_init_120 : decode cX5_init 120 = .ok (.invokespecial 60, 3) := by decide +kernel
theorem dX5_init_123 : decode cX5_init 123 = .ok (.aastore, 1) := by decide +kernel
theorem dX5_init_124 : decode cX5_init 124 = .ok (.iinc 1 1, 3) := by decide +kernel
theorem dX5_init_127 : decode cX5_init 127 = .ok (.goto (-22), 3) := by decide +kernel
theorem dX5_init_130 : decode cX5_init 130 = .ok (.iconst 0, 1) := by decide +kernel
theorem dX5_init_131 : decode cX5_init 131 = .ok (.istore_n 1, 1) := by decide +kernel
theorem dX5_init_132 : decode cX5_init 132 = .ok (.iload_n 1, 1) := by decide +kernel
theorem dX5_init_133 : decode cX5_init 133 = .ok (.bipush 60, 2) := by decide +kernel
theorem dX5_init_135 : decode cX5_init 135 = .ok (.if_icmp .ge 22, 3) := by decide +kernel
theorem dX5_init_138 : decode cX5_init 138 = .ok (.aload_n 0, 1) := by decide +kernel
theorem dX5_init_139 : decode cX5_init 139 = .ok (.getfield 31, 3) := by decide +kernel
theorem dX5_init_142 : decode cX5_init 142 = .ok (.iload_n 1, 1) := by decide +kernel
theorem dX5_init_143 : decode cX5_init 143 = .ok (.new 29, 3) := by decide +kernel
theorem dX5_init_146 : decode cX5_init 146 = .ok (.dup, 1) := by decide +kernel
theorem dX5_init_147 : decode cX5_init 147 = .ok (.invokespecial 61, 3) := by decide +kernel
theorem dX5_init_150 : decode cX5_init 150 = .ok (.aastore, 1) := by decide +kernel
theorem dX5_init_151 : decode cX5_init 151 = .ok (.iinc 1 1, 3) := by decide +kernel
theorem dX5_init_154 : decode cX5_init 154 = .ok (.goto (-22), 3) := by decide +kernel
theorem dX5_init_157 : decode cX5_init 157 = .ok (.iconst 0, 1) := by decide +kernel
theorem dX5_init_158 : decode cX5_init 158 = .ok (.istore_n 1, 1) := by decide +kernel
theorem dX5_init_159 : decode cX5_init 159 = .ok (.iload_n 1, 1) := by decide +kernel
theorem dX5_init_160 : decode cX5_init 160 = .ok (.bipush 40, 2) := by decide +kernel
theorem dX5_init_162 : decode cX5_init 162 = .ok (.if_icmp .ge 22, 3) := by decide +kernel
theorem dX5_init_165 : decode cX5_init 165 = .ok (.aload_n 0, 1) := by decide +kernel
theorem dX5_init_166 : decode cX5_init 166 = .ok (.getfield 52, 3) := by decide +kernel
theorem dX5_init_169 : decode cX5_init 169 = .ok (.iload_n 1, 1) := by decide +kernel
theorem dX5_init_170 : decode cX5_init 170 = .ok (.new 50, 3) := by decide +kernel
theorem dX5_init_173 : decode cX5_init 173 = .ok (.dup, 1) := by decide +kernel
theorem dX5_init_174 : decode cX5_init 174 = .ok (.invokespecial 62, 3) := by decide +kernel
theorem dX5_init_177 : decode cX5_init 177 = .ok (.aastore, 1) := by decide +kernel
theorem dX5_init_178 : decode cX5_init 178 = .ok (.iinc 1 1, 3) := by decide +kernel
theorem dX5_init_181 : decode cX5_init 181 = .ok (.goto (-22), 3) := by decide +kernel
theorem dX5_init_184 : decode cX5_init 184 = .ok (.return_, 1) := by decide +kernel
set_option maxRecDepth 20000 in
theorem ggX5_classroom_X5_needRange : GoodIn wsX5_classroom wsX5_needRange := goodIn_ca (goodIn_r _ [8, 9, 10] (by decide +kernel) (by decide +kernel)) (goodIn_sub (fun _ h => List.mem_cons_of_mem _ (List.mem_append_right _ h)) (by decide +kernel))
set_option maxRecDepth 20000 in
theorem gX5_classroom_X5_needRange : GoodIn wsX5_classroom (va_wsS RX5 63 yX5_needRange wsX5_needRange) := goodIn_app (goodIn_of _ (by decide +kernel)) ggX5_classroom_X5_needRange
theorem dX5_classroom_0 : decode cX5_classroom 0 = .ok (.iload_n 1, 1) := by decide +kernel
theorem dX5_classroom_1 : decode cX5_classroom 1 = .ok (.sipush (-720), 3) := by decide +kernel
theorem dX5_classroom_4 : decode cX5_classroom 4 = .ok (.sipush 720, 3) := by decide +kernel
theorem dX5_classroom_7 : decode cX5_classroom 7 = .ok (.invokestatic 63, 3) := by decide +kernel
theorem dX5_classroom_10 : decode cX5_classroom 10 = .ok (.aload_n 0, 1) := by decide +kernel
theorem dX5_classroom_11 : decode cX5_classroom 11 = .ok (.getfield 67, 3) := by decide +kernel
theorem dX5_classroom_14 : decode cX5_classroom 14 = .ok (.iconst 4, 1) := by decide +kernel
theorem dX5_classroom_15 : decode cX5_classroom 15 = .ok (.if_icmp .lt 13, 3) := by decide +kernel
theorem dX5_classroom_18 : decode cX5_classroom 18 = .ok (.new 70, 3) := by decide +kernel
theorem dX5_classroom_21 : decode cX5_classroom 21 = .ok (.dup, 1) := by decide +kernel
theorem dX5_classroom_22 : decode cX5_classroom 22 = .ok (.ldc 72, 2) := by decide +kernel
theorem dX5_classroom_24 : decode cX5_classroom 24 = .ok (.invokespecial 74, 3) := by decide +kernel
theorem dX5_classroom_27 : decode cX5_classroom 27 = .ok (.athrow, 1) := by decide +kernel
theorem dX5_classroom_28 : decode cX5_classroom 28 = .ok (.aload_n 0, 1) := by decide +kernel
theorem dX5_classroom_29 : decode cX5_classroom 29 = .ok (.getfield 9, 3) := by decide +kernel
theorem dX5_classroom_32 : decode cX5_classroom 32 = .ok (.aload_n 0, 1) := by decide +kernel
theorem dX5_classroom_33 : decode cX5_classroom 33 = .ok (.getfield 67, 3) := by decide +kernel
theorem dX5_classroom_36 : decode cX5_classroom 36 = .ok (.iload_n 1, 1) := by decide +kernel
theorem dX5_classroom_37 : decode cX5_classroom 37 = .ok (.iastore, 1) := by decide +kernel
theorem dX5_classroom_38 : decode cX5_classroom 38 = .ok (.aload_n 0, 1) := by decide +kernel
theorem dX5_classroom_39 : decode cX5_classroom 39 = .ok (.dup, 1) := by decide +kernel
theorem dX5_classroom_40 : decode cX5_classroom 40 = .ok (.getfield 67, 3) := by decide +kernel
theorem dX5_classroom_43 : decode cX5_classroom 43 = .ok (.iconst 1, 1) := by decide +kernel
theorem dX5_classroom_44 : decode cX5_classroom 44 = .ok (.iadd, 1) := by decide +kernel
theorem dX5_classroom_45 : decode cX5_classroom 45 = .ok (.putfield 67, 3) := by decide +kernel
theorem dX5_classroom_48 : decode cX5_classroom 48 = .ok (.aload_n 0, 1) := by decide +kernel
theorem dX5_classroom_49 : decode cX5_classroom 49 = .ok (.getfield 67, 3) := by decide +kernel
theorem dX5_classroom_52 : decode cX5_classroom 52 = .ok (.iconst 1, 1) := by decide +kernel
theorem dX5_classroom_53 : decode cX5_classroom 53 = .ok (.isub, 1) := by decide +kernel
theorem dX5_classroom_54 : decode cX5_classroom 54 = .ok (.ireturn, 1) := by decide +kernel
set_option maxRecDepth 20000 in
theorem ggX5_pupil_X5_needClass : GoodIn wsX5_pupil wsX5_needClass := goodIn_ca (goodIn_r _ [9, 10, 11, 12, 13, 14, 15, 16, 17, 18, 19, 20, 21, 22, 23, 24, 25, 26, 27, 28, 29] (by decide +kernel) (by decide +kernel)) (goodIn_sub (fun _ h => List.mem_cons_of_mem _ (List.mem_append_right _ h)) (by decide +kernel))
set_option maxRecDepth 20000 in
theorem gX5_pupil_X5_needClass : GoodIn wsX5_pupil (wsV RX5 77 RX5 yX5_needClass wsX5_needClass) := goodIn_app (goodIn_of _ (by decide +kernel)) ggX5_pupil_X5_needClass
theorem dX5_pupil_0 : decode cX5_pupil 0 = .ok (.aload_n 0, 1) := by decide +kernel
theorem dX5_pupil_1 : decode cX5_pupil 1 = .ok (.iload_n 1, 1) := by decide +kernel
theorem dX5_pupil_2 : decode cX5_pupil 2 = .ok (.invokevirtual 77, 3) := by decide +kernel
theorem dX5_pupil_5 : decode cX5_pupil 5 = .ok (.aload_n 0, 1) := by decide +kernel
theorem dX5_pupil_6 : decode cX5_pupil 6 = .ok (.getfield 80, 3) := by decide +kernel
theorem dX5_pupil_9 : decode cX5_pupil 9 = .ok (.bipush 12, 2) := by decide +kernel
theorem dX5_pupil_11 : decode cX5_pupil 11 = .ok (.if_icmp .lt 13, 3) := by decide +kernel
theorem dX5_pupil_14 : decode cX5_pupil 14 = .ok (.new 70, 3) := by decide +kernel
theorem dX5_pupil_17 : decode cX5_pupil 17 = .ok (.dup, 1) := by decide +kernel
theorem dX5_pupil_18 : decode cX5_pupil 18 = .ok (.ldc 83, 2) := by decide +kernel
theorem dX5_pupil_20 : decode cX5_pupil 20 = .ok (.invokespecial 74, 3) := by decide +kernel
theorem dX5_pupil_23 : decode cX5_pupil 23 = .ok (.athrow, 1) := by decide +kernel
theorem dX5_pupil_24 : decode cX5_pupil 24 = .ok (.aload_n 0, 1) := by decide +kernel
theorem dX5_pupil_25 : decode cX5_pupil 25 = .ok (.getfield 13, 3) := by decide +kernel
theorem dX5_pupil_28 : decode cX5_pupil 28 = .ok (.aload_n 0, 1) := by decide +kernel
theorem dX5_pupil_29 : decode cX5_pupil 29 = .ok (.getfield 80, 3) := by decide +kernel
theorem dX5_pupil_32 : decode cX5_pupil 32 = .ok (.iload_n 1, 1) := by decide +kernel
theorem dX5_pupil_33 : decode cX5_pupil 33 = .ok (.iastore, 1) := by decide +kernel
theorem dX5_pupil_34 : decode cX5_pupil 34 = .ok (.aload_n 0, 1) := by decide +kernel
theorem dX5_pupil_35 : decode cX5_pupil 35 = .ok (.dup, 1) := by decide +kernel
theorem dX5_pupil_36 : decode cX5_pupil 36 = .ok (.getfield 80, 3) := by decide +kernel
theorem dX5_pupil_39 : decode cX5_pupil 39 = .ok (.iconst 1, 1) := by decide +kernel
theorem dX5_pupil_40 : decode cX5_pupil 40 = .ok (.iadd, 1) := by decide +kernel
theorem dX5_pupil_41 : decode cX5_pupil 41 = .ok (.putfield 80, 3) := by decide +kernel
theorem dX5_pupil_44 : decode cX5_pupil 44 = .ok (.aload_n 0, 1) := by decide +kernel
theorem dX5_pupil_45 : decode cX5_pupil 45 = .ok (.getfield 80, 3) := by decide +kernel
theorem dX5_pupil_48 : decode cX5_pupil 48 = .ok (.iconst 1, 1) := by decide +kernel
theorem dX5_pupil_49 : decode cX5_pupil 49 = .ok (.isub, 1) := by decide +kernel
theorem dX5_pupil_50 : decode cX5_pupil 50 = .ok (.ireturn, 1) := by decide +kernel
set_option maxRecDepth 20000 in
theorem ggX5_task_X5_needClass : GoodIn wsX5_task wsX5_needClass := goodIn_ca (goodIn_r _ [15, 16, 17, 18, 27, 28, 29, 30, 31, 32, 33, 34, 35, 36, 37, 38, 39, 40, 41, 42, 43] (by decide +kernel) (by decide +kernel)) (goodIn_sub (fun _ h => List.mem_cons_of_mem _ (List.mem_append_left _ (List.mem_append_right _ h))) (by decide +kernel))
set_option maxRecDepth 20000 in
theorem gX5_task_X5_needClass : GoodIn wsX5_task (wsV RX5 77 RX5 yX5_needClass wsX5_needClass) := goodIn_app (goodIn_of _ (by decide +kernel)) ggX5_task_X5_needClass
set_option maxRecDepth 20000 in
theorem ggX5_task_X5_needRange : GoodIn wsX5_task wsX5_needRange := goodIn_ca (goodIn_r _ [21, 22, 23] (by decide +kernel) (by decide +kernel)) (goodIn_sub (fun _ h => List.mem_cons_of_mem _ (List.mem_append_right _ h)) (by decide +kernel))
set_option maxRecDepth 20000 in
theorem gX5_task_X5_needRange : GoodIn wsX5_task (va_wsS RX5 63 yX5_needRange wsX5_needRange) := goodIn_app (goodIn_of _ (by decide +kernel)) ggX5_task_X5_needRange
set_option maxRecDepth 20000 in
theorem ggX5_task_X5_needRule : GoodIn wsX5_task wsX5_needRule := goodIn_ca (goodIn_r _ [26, 22, 23] (by decide +kernel) (by decide +kernel)) (goodIn_sub (fun _ h => List.mem_cons_of_mem _ (List.mem_append_right _ h)) (by decide +kernel))
set_option maxRecDepth 20000 in
theorem gX5_task_X5_needRule : GoodIn wsX5_task (va_wsS RX5 86 yX5_needRule wsX5_needRule) := goodIn_app (goodIn_of _ (by decide +kernel)) ggX5_task_X5_needRule
theorem dX5_task_0 : decode cX5_task 0 = .ok (.aload_n 0, 1) := by decide +kernel
theorem dX5_task_1 : decode cX5_task 1 = .ok (.iload_n 1, 1) := by decide +kernel
theorem dX5_task_2 : decode cX5_task 2 = .ok (.invokevirtual 77, 3) := by decide +kernel
theorem dX5_task_5 : decode cX5_task 5 = .ok (.iload_n 2, 1) := by decide +kernel
theorem dX5_task_6 : decode cX5_task 6 = .ok (.iconst 0, 1) := by decide +kernel
theorem dX5_task_7 : decode cX5_task 7 = .ok (.ldc 85, 2) := by decide +kernel
theorem dX5_task_9 : decode cX5_task 9 = .ok (.invokestatic 63, 3) := by decide +kernel
theorem dX5_task_12 : decode cX5_task 12 = .ok (.iload_n 3, 1) := by decide +kernel
theorem dX5_task_13 : decode cX5_task 13 = .ok (.iconst 1, 1) := by decide +kernel
theorem dX5_task_14 : decode cX5_task 14 = .ok (.bipush 100, 2) := by decide +kernel
theorem dX5_task_16 : decode cX5_task 16 = .ok (.invokestatic 63, 3) := by decide +kernel
theorem dX5_task_19 : decode cX5_task 19 = .ok (.iload 5, 2) := by decide +kernel
theorem dX5_task_21 : decode cX5_task 21 = .ok (.iconst 0, 1) := by decide +kernel
theorem dX5_task_22 : decode cX5_task 22 = .ok (.bipush 100, 2) := by decide +kernel
theorem dX5_task_24 : decode cX5_task 24 = .ok (.invokestatic 63, 3) := by decide +kernel
theorem dX5_task_27 : decode cX5_task 27 = .ok (.iload 4, 2) := by decide +kernel
theorem dX5_task_29 : decode cX5_task 29 = .ok (.invokestatic 86, 3) := by decide +kernel
theorem dX5_task_32 : decode cX5_task 32 = .ok (.aload_n 0, 1) := by decide +kernel
theorem dX5_task_33 : decode cX5_task 33 = .ok (.getfield 90, 3) := by decide +kernel
theorem dX5_task_36 : decode cX5_task 36 = .ok (.bipush 10, 2) := by decide +kernel
theorem dX5_task_38 : decode cX5_task 38 = .ok (.if_icmp .lt 13, 3) := by decide +kernel
theorem dX5_task_41 : decode cX5_task 41 = .ok (.new 70, 3) := by decide +kernel
theorem dX5_task_44 : decode cX5_task 44 = .ok (.dup, 1) := by decide +kernel
theorem dX5_task_45 : decode cX5_task 45 = .ok (.ldc 93, 2) := by decide +kernel
theorem dX5_task_47 : decode cX5_task 47 = .ok (.invokespecial 74, 3) := by decide +kernel
theorem dX5_task_50 : decode cX5_task 50 = .ok (.athrow, 1) := by decide +kernel
theorem dX5_task_51 : decode cX5_task 51 = .ok (.aload_n 0, 1) := by decide +kernel
theorem dX5_task_52 : decode cX5_task 52 = .ok (.getfield 18, 3) := by decide +kernel
theorem dX5_task_55 : decode cX5_task 55 = .ok (.aload_n 0, 1) := by decide +kernel
theorem dX5_task_56 : decode cX5_task 56 = .ok (.getfield 90, 3) := by decide +kernel
theorem dX5_task_59 : decode cX5_task 59 = .ok (.aaload, 1) := by decide +kernel
theorem dX5_task_60 : decode cX5_task 60 = .ok (.astore 6, 2) := by decide +kernel
theorem dX5_task_62 : decode cX5_task 62 = .ok (.aload 6, 2) := by decide +kernel
theorem dX5_task_64 : decode cX5_task 64 = .ok (.iload_n 1, 1) := by decide +kernel
theorem dX5_task_65 : decode cX5_task 65 = .ok (.putfield 95, 3) := by decide +kernel
theorem dX5_task_68 : decode cX5_task 68 = .ok (.aload 6, 2) := by decide +kernel
theorem dX5_task_70 : decode cX5_task 70 = .ok (.iload_n 2, 1) := by decide +kernel
theorem dX5_task_71 : decode cX5_task 71 = .ok (.putfield 98, 3) := by decide +kernel
theorem dX5_task_74 : decode cX5_task 74 = .ok (.aload 6, 2) := by decide +kernel
theorem dX5_task_76 : decode cX5_task 76 = .ok (.iload_n 3, 1) := by decide +kernel
theorem dX5_task_77 : decode cX5_task 77 = .ok (.putfield 101, 3) := by decide +kernel
theorem dX5_task_80 : decode cX5_task 80 = .ok (.aload 6, 2) := by decide +kernel
theorem dX5_task_82 : decode cX5_task 82 = .ok (.iload 4, 2) := by decide +kernel
theorem dX5_task_84 : decode cX5_task 84 = .ok (.putfield 104, 3) := by decide +kernel
theorem dX5_task_87 : decode cX5_task 87 = .ok (.aload 6, 2) := by decide +kernel
theorem dX5_task_89 : decode cX5_task 89 = .ok (.iload 5, 2) := by decide +kernel
theorem dX5_task_91 : decode cX5_task 91 = .ok (.putfield 108, 3) := by decide +kernel
theorem dX5_task_94 : decode cX5_task 94 = .ok (.aload_n 0, 1) := by decide +kernel
theorem dX5_task_95 : decode cX5_task 95 = .ok (.dup, 1) := by decide +kernel
theorem dX5_task_96 : decode cX5_task 96 = .ok (.getfield 90, 3) := by decide +kernel
theorem dX5_task_99 : decode cX5_task 99 = .ok (.iconst 1, 1) := by decide +kernel
theorem dX5_task_100 : decode cX5_task 100 = .ok (.iadd, 1) := by decide +kernel
theorem dX5_task_101 : decode cX5_task 101 = .ok (.putfield 90, 3) := by decide +kernel
theorem dX5_task_104 : decode cX5_task 104 = .ok (.aload_n 0, 1) := by decide +kernel
theorem dX5_task_105 : decode cX5_task 105 = .ok (.getfield 90, 3) := by decide +kernel
theorem dX5_task_108 : decode cX5_task 108 = .ok (.iconst 1, 1) := by decide +kernel
theorem dX5_task_109 : decode cX5_task 109 = .ok (.isub, 1) := by decide +kernel
theorem dX5_task_110 : decode cX5_task 110 = .ok (.ireturn, 1) := by decide +kernel
set_option maxRecDepth 20000 in
theorem ggX5_pass_X5_needRange : GoodIn wsX5_pass wsX5_needRange := goodIn_ca (goodIn_r _ [9, 10, 11] (by decide +kernel) (by decide +kernel)) (goodIn_sub (fun _ h => List.mem_cons_of_mem _ (List.mem_append_right _ h)) (by decide +kernel))
set_option maxRecDepth 20000 in
theorem gX5_pass_X5_needRange : GoodIn wsX5_pass (va_wsS RX5 63 yX5_needRange wsX5_needRange) := goodIn_app (goodIn_of _ (by decide +kernel)) ggX5_pass_X5_needRange
theorem dX5_pass_0 : decode cX5_pass 0 = .ok (.iload_n 1, 1) := by decide +kernel
theorem dX5_pass_1 : decode cX5_pass 1 = .ok (.iconst 1, 1) := by decide +kernel
theorem dX5_pass_2 : decode cX5_pass 2 = .ok (.ldc 111, 2) := by decide +kernel
theorem dX5_pass_4 : decode cX5_pass 4 = .ok (.invokestatic 63, 3) := by decide +kernel
theorem dX5_pass_7 : decode cX5_pass 7 = .ok (.aload_n 0, 1) := by decide +kernel
theorem dX5_pass_8 : decode cX5_pass 8 = .ok (.getfield 112, 3) := by decide +kernel
theorem dX5_pass_11 : decode cX5_pass 11 = .ok (.iload_n 1, 1) := by decide +kernel
theorem dX5_pass_12 : decode cX5_pass 12 = .ok (.iadd, 1) := by decide +kernel
theorem dX5_pass_13 : decode cX5_pass 13 = .ok (.ldc 85, 2) := by decide +kernel
theorem dX5_pass_15 : decode cX5_pass 15 = .ok (.if_icmp .le 13, 3) := by decide +kernel
theorem dX5_pass_18 : decode cX5_pass 18 = .ok (.new 70, 3) := by decide +kernel
theorem dX5_pass_21 : decode cX5_pass 21 = .ok (.dup, 1) := by decide +kernel
theorem dX5_pass_22 : decode cX5_pass 22 = .ok (.ldc 115, 2) := by decide +kernel
theorem dX5_pass_24 : decode cX5_pass 24 = .ok (.invokespecial 74, 3) := by decide +kernel
theorem dX5_pass_27 : decode cX5_pass 27 = .ok (.athrow, 1) := by decide +kernel
theorem dX5_pass_28 : decode cX5_pass 28 = .ok (.aload_n 0, 1) := by decide +kernel
theorem dX5_pass_29 : decode cX5_pass 29 = .ok (.dup, 1) := by decide +kernel
theorem dX5_pass_30 : decode cX5_pass 30 = .ok (.getfield 112, 3) := by decide +kernel
theorem dX5_pass_33 : decode cX5_pass 33 = .ok (.iload_n 1, 1) := by decide +kernel
theorem dX5_pass_34 : decode cX5_pass 34 = .ok (.iadd, 1) := by decide +kernel
theorem dX5_pass_35 : decode cX5_pass 35 = .ok (.putfield 112, 3) := by decide +kernel
theorem dX5_pass_38 : decode cX5_pass 38 = .ok (.aload_n 0, 1) := by decide +kernel
theorem dX5_pass_39 : decode cX5_pass 39 = .ok (.getfield 112, 3) := by decide +kernel
theorem dX5_pass_42 : decode cX5_pass 42 = .ok (.ireturn, 1) := by decide +kernel
set_option maxRecDepth 20000 in
theorem ggX5_clock_X5_needClass : GoodIn wsX5_clock wsX5_needClass := goodIn_ca (goodIn_r _ [7, 8, 9, 10, 11, 12, 13, 14, 15, 16, 17, 18, 19, 20, 21, 22, 23, 24, 25, 26, 27] (by decide +kernel) (by decide +kernel)) (goodIn_sub (fun _ h => List.mem_cons_of_mem _ (List.mem_append_right _ h)) (by decide +kernel))
set_option maxRecDepth 20000 in
theorem gX5_clock_X5_needClass : GoodIn wsX5_clock (wsV RX5 77 RX5 yX5_needClass wsX5_needClass) := goodIn_app (goodIn_of _ (by decide +kernel)) ggX5_clock_X5_needClass
theorem dX5_clock_0 : decode cX5_clock 0 = .ok (.aload_n 0, 1) := by decide +kernel
theorem dX5_clock_1 : decode cX5_clock 1 = .ok (.iload_n 1, 1) := by decide +kernel
theorem dX5_clock_2 : decode cX5_clock 2 = .ok (.invokevirtual 77, 3) := by decide +kernel
theorem dX5_clock_5 : decode cX5_clock 5 = .ok (.aload_n 0, 1) := by decide +kernel
theorem dX5_clock_6 : decode cX5_clock 6 = .ok (.getfield 112, 3) := by decide +kernel
theorem dX5_clock_9 : decode cX5_clock 9 = .ok (.aload_n 0, 1) := by decide +kernel
theorem dX5_clock_10 : decode cX5_clock 10 = .ok (.getfield 9, 3) := by decide +kernel
theorem dX5_clock_13 : decode cX5_clock 13 = .ok (.iload_n 1, 1) := by decide +kernel
theorem dX5_clock_14 : decode cX5_clock 14 = .ok (.iaload, 1) := by decide +kernel
theorem dX5_clock_15 : decode cX5_clock 15 = .ok (.iadd, 1) := by decide +kernel
theorem dX5_clock_16 : decode cX5_clock 16 = .ok (.ireturn, 1) := by decide +kernel
set_option maxRecDepth 20000 in
theorem ggX5_type_X5_needSign : GoodIn wsX5_type wsX5_needSign := goodIn_ca (goodIn_r _ [6, 7, 8, 9, 10] (by decide +kernel) (by decide +kernel)) (goodIn_sub (fun _ h => List.mem_cons_of_mem _ (List.mem_append_left _ (List.mem_append_left _ (List.mem_append_right _ h)))) (by decide +kernel))
set_option maxRecDepth 20000 in
theorem gX5_type_X5_needSign : GoodIn wsX5_type (va_wsS RX5 117 yX5_needSign wsX5_needSign) := goodIn_app (goodIn_of _ (by decide +kernel)) ggX5_type_X5_needSign
set_option maxRecDepth 20000 in
theorem ggX5_type_X5_needRoomForSign : GoodIn wsX5_type wsX5_needRoomForSign := goodIn_ca (goodIn_r _ [14, 15, 16, 1, 2, 28, 29, 30, 31, 32, 33, 34, 35, 36, 37, 38, 39, 40, 41, 42, 43, 44, 45, 46] (by decide +kernel) (by decide +kernel)) (goodIn_sub (fun _ h => List.mem_cons_of_mem _ (List.mem_append_left _ (List.mem_append_right _ h))) (by decide +kernel))
set_option maxRecDepth 20000 in
theorem gX5_type_X5_needRoomForSign : GoodIn wsX5_type (wsV RX5 120 RX5 yX5_needRoomForSign wsX5_needRoomForSign) := goodIn_app (goodIn_of _ (by decide +kernel)) ggX5_type_X5_needRoomForSign
set_option maxRecDepth 20000 in
theorem ggX5_type_X3_put : GoodIn wsX5_type wsX3_put := goodIn_ca (goodIn_r _ [21, 22, 23, 24, 25, 26, 27, 45, 46] (by decide +kernel) (by decide +kernel)) (goodIn_sub (fun _ h => List.mem_cons_of_mem _ (List.mem_append_right _ h)) (by decide +kernel))
set_option maxRecDepth 20000 in
theorem gX5_type_X3_put : GoodIn wsX5_type (wsV RX5 126 RX3 yX3_put wsX3_put) := goodIn_app (goodIn_of _ (by decide +kernel)) ggX5_type_X3_put
theorem dX5_type_0 : decode cX5_type 0 = .ok (.iload_n 1, 1) := by decide +kernel
theorem dX5_type_1 : decode cX5_type 1 = .ok (.invokestatic 117, 3) := by decide +kernel
theorem dX5_type_4 : decode cX5_type 4 = .ok (.aload_n 0, 1) := by decide +kernel
theorem dX5_type_5 : decode cX5_type 5 = .ok (.invokevirtual 120, 3) := by decide +kernel
theorem dX5_type_8 : decode cX5_type 8 = .ok (.aload_n 0, 1) := by decide +kernel
theorem dX5_type_9 : decode cX5_type 9 = .ok (.getfield 25, 3) := by decide +kernel
theorem dX5_type_12 : decode cX5_type 12 = .ok (.aload_n 0, 1) := by decide +kernel
theorem dX5_type_13 : decode cX5_type 13 = .ok (.getfield 25, 3) := by decide +kernel
theorem dX5_type_16 : decode cX5_type 16 = .ok (.getfield 123, 3) := by decide +kernel
theorem dX5_type_19 : decode cX5_type 19 = .ok (.iload_n 1, 1) := by decide +kernel
theorem dX5_type_20 : decode cX5_type 20 = .ok (.invokevirtual 126, 3) := by decide +kernel
theorem dX5_type_23 : decode cX5_type 23 = .ok (.aload_n 0, 1) := by decide +kernel
theorem dX5_type_24 : decode cX5_type 24 = .ok (.getfield 25, 3) := by decide +kernel
theorem dX5_type_27 : decode cX5_type 27 = .ok (.getfield 123, 3) := by decide +kernel
theorem dX5_type_30 : decode cX5_type 30 = .ok (.ireturn, 1) := by decide +kernel
set_option maxRecDepth 20000 in
theorem ggX5_insert_X5_needSign : GoodIn wsX5_insert wsX5_needSign := goodIn_ca (goodIn_r _ [8, 9, 10, 11, 12] (by decide +kernel) (by decide +kernel)) (goodIn_sub (fun _ h => List.mem_cons_of_mem _ (List.mem_append_left _ (List.mem_append_left _ (List.mem_append_right _ h)))) (by decide +kernel))
set_option maxRecDepth 20000 in
theorem gX5_insert_X5_needSign : GoodIn wsX5_insert (va_wsS RX5 117 yX5_needSign wsX5_needSign) := goodIn_app (goodIn_of _ (by decide +kernel)) ggX5_insert_X5_needSign
set_option maxRecDepth 20000 in
theorem ggX5_insert_X5_needRoomForSign : GoodIn wsX5_insert wsX5_needRoomForSign := goodIn_ca (goodIn_r _ [16, 17, 18, 3, 4, 38, 39, 40, 41, 42, 43, 44, 45, 46, 47, 48, 49, 50, 51, 52, 53, 54, 55, 56] (by decide +kernel) (by decide +kernel)) (goodIn_sub (fun _ h => List.mem_cons_of_mem _ (List.mem_append_left _ (List.mem_append_right _ h))) (by decide +kernel))
set_option maxRecDepth 20000 in
theorem gX5_insert_X5_needRoomForSign : GoodIn wsX5_insert (wsV RX5 120 RX5 yX5_needRoomForSign wsX5_needRoomForSign) := goodIn_app (goodIn_of _ (by decide +kernel)) ggX5_insert_X5_needRoomForSign
set_option maxRecDepth 20000 in
theorem ggX5_insert_X3_put : GoodIn wsX5_insert wsX3_put := goodIn_ca (goodIn_r _ [23, 24, 25, 26, 27, 28, 29, 55, 56] (by decide +kernel) (by decide +kernel)) (goodIn_sub (fun _ h => List.mem_cons_of_mem _ (List.mem_append_right _ h)) (by decide +kernel))
set_option maxRecDepth 20000 in
theorem gX5_insert_X3_put : GoodIn wsX5_insert (wsV RX5 126 RX3 yX3_put wsX3_put) := goodIn_app (goodIn_of _ (by decide +kernel)) ggX5_insert_X3_put
set_option maxRecDepth 20000 in
theorem ggX5_insert_X3_countChars : GoodIn wsX5_insert wsX3_countChars := goodIn_ca (goodIn_r _ [33, 24, 25, 34, 35, 22, 36, 37, 55, 56] (by decide +kernel) (by decide +kernel)) (goodIn_sub (fun _ h => List.mem_cons_of_mem _ (List.mem_append_right _ h)) (by decide +kernel))
set_option maxRecDepth 20000 in
theorem gX5_insert_X3_countChars : GoodIn wsX5_insert (wsV RX5 135 RX3 yX3_countChars wsX3_countChars) := goodIn_app (goodIn_of _ (by decide +kernel)) ggX5_insert_X3_countChars
theorem dX5_insert_0 : decode cX5_insert 0 = .ok (.iload_n 1, 1) := by decide +kernel
theorem dX5_insert_1 : decode cX5_insert 1 = .ok (.ifCond .lt 14, 3) := by decide +kernel
theorem dX5_insert_4 : decode cX5_insert 4 = .ok (.iload_n 1, 1) := by decide +kernel
theorem dX5_insert_5 : decode cX5_insert 5 = .ok (.aload_n 0, 1) := by decide +kernel
theorem dX5_insert_6 : decode cX5_insert 6 = .ok (.getfield 25, 3) := by decide +kernel
theorem dX5_insert_9 : decode cX5_insert 9 = .ok (.getfield 123, 3) := by decide +kernel
theorem dX5_insert_12 : decode cX5_insert 12 = .ok (.if_icmp .le 13, 3) := by decide +kernel
theorem dX5_insert_15 : decode cX5_insert 15 = .ok (.new 130, 3) := by decide +kernel
theorem dX5_insert_18 : decode cX5_insert 18 = .ok (.dup, 1) := by decide +kernel
theorem dX5_insert_19 : decode cX5_insert 19 = .ok (.ldc 132, 2) := by decide +kernel
theorem dX5_insert_21 : decode cX5_insert 21 = .ok (.invokespecial 134, 3) := by decide +kernel
theorem dX5_insert_24 : decode cX5_insert 24 = .ok (.athrow, 1) := by decide +kernel
theorem dX5_insert_25 : decode cX5_insert 25 = .ok (.iload_n 2, 1) := by decide +kernel
theorem dX5_insert_26 : decode cX5_insert 26 = .ok (.invokestatic 117, 3) := by decide +kernel
theorem dX5_insert_29 : decode cX5_insert 29 = .ok (.aload_n 0, 1) := by decide +kernel
theorem dX5_insert_30 : decode cX5_insert 30 = .ok (.invokevirtual 120, 3) := by decide +kernel
theorem dX5_insert_33 : decode cX5_insert 33 = .ok (.aload_n 0, 1) := by decide +kernel
theorem dX5_insert_34 : decode cX5_insert 34 = .ok (.getfield 25, 3) := by decide +kernel
theorem dX5_insert_37 : decode cX5_insert 37 = .ok (.iload_n 1, 1) := by decide +kernel
theorem dX5_insert_38 : decode cX5_insert 38 = .ok (.iload_n 2, 1) := by decide +kernel
theorem dX5_insert_39 : decode cX5_insert 39 = .ok (.invokevirtual 126, 3) := by decide +kernel
theorem dX5_insert_42 : decode cX5_insert 42 = .ok (.aload_n 0, 1) := by decide +kernel
theorem dX5_insert_43 : decode cX5_insert 43 = .ok (.getfield 25, 3) := by decide +kernel
theorem dX5_insert_46 : decode cX5_insert 46 = .ok (.invokevirtual 135, 3) := by decide +kernel
theorem dX5_insert_49 : decode cX5_insert 49 = .ok (.ireturn, 1) := by decide +kernel
set_option maxRecDepth 20000 in
theorem ggX5_reverse_X3_turn : GoodIn wsX5_reverse wsX3_turn := goodIn_ca (goodIn_r _ [8, 9, 10, 28, 29] (by decide +kernel) (by decide +kernel)) (goodIn_sub (fun _ h => List.mem_cons_of_mem _ (List.mem_append_right _ h)) (by decide +kernel))
set_option maxRecDepth 20000 in
theorem gX5_reverse_X3_turn : GoodIn wsX5_reverse (wsV RX5 139 RX3 yX3_turn wsX3_turn) := goodIn_app (goodIn_of _ (by decide +kernel)) ggX5_reverse_X3_turn
theorem dX5_reverse_0 : decode cX5_reverse 0 = .ok (.aload_n 0, 1) := by decide +kernel
theorem dX5_reverse_1 : decode cX5_reverse 1 = .ok (.getfield 25, 3) := by decide +kernel
theorem dX5_reverse_4 : decode cX5_reverse 4 = .ok (.invokevirtual 139, 3) := by decide +kernel
theorem dX5_reverse_7 : decode cX5_reverse 7 = .ok (.aload_n 0, 1) := by decide +kernel
theorem dX5_reverse_8 : decode cX5_reverse 8 = .ok (.getfield 25, 3) := by decide +kernel
theorem dX5_reverse_11 : decode cX5_reverse 11 = .ok (.getfield 123, 3) := by decide +kernel
theorem dX5_reverse_14 : decode cX5_reverse 14 = .ok (.ifCond .le 15, 3) := by decide +kernel
theorem dX5_reverse_17 : decode cX5_reverse 17 = .ok (.aload_n 0, 1) := by decide +kernel
theorem dX5_reverse_18 : decode cX5_reverse 18 = .ok (.getfield 25, 3) := by decide +kernel
theorem dX5_reverse_21 : decode cX5_reverse 21 = .ok (.getfield 142, 3) := by decide +kernel
theorem dX5_reverse_24 : decode cX5_reverse 24 = .ok (.iconst 0, 1) := by decide +kernel
theorem dX5_reverse_25 : decode cX5_reverse 25 = .ok (.iaload, 1) := by decide +kernel
theorem dX5_reverse_26 : decode cX5_reverse 26 = .ok (.goto 4, 3) := by decide +kernel
theorem dX5_reverse_29 : decode cX5_reverse 29 = .ok (.iconst 0, 1) := by decide +kernel
theorem dX5_reverse_30 : decode cX5_reverse 30 = .ok (.ireturn, 1) := by decide +kernel
theorem dX5_wipe_0 : decode cX5_wipe 0 = .ok (.aload_n 0, 1) := by decide +kernel
theorem dX5_wipe_1 : decode cX5_wipe 1 = .ok (.getfield 25, 3) := by decide +kernel
theorem dX5_wipe_4 : decode cX5_wipe 4 = .ok (.getfield 123, 3) := by decide +kernel
theorem dX5_wipe_7 : decode cX5_wipe 7 = .ok (.istore_n 1, 1) := by decide +kernel
theorem dX5_wipe_8 : decode cX5_wipe 8 = .ok (.aload_n 0, 1) := by decide +kernel
theorem dX5_wipe_9 : decode cX5_wipe 9 = .ok (.getfield 25, 3) := by decide +kernel
theorem dX5_wipe_12 : decode cX5_wipe 12 = .ok (.iconst 0, 1) := by decide +kernel
theorem dX5_wipe_13 : decode cX5_wipe 13 = .ok (.putfield 123, 3) := by decide +kernel
theorem dX5_wipe_16 : decode cX5_wipe 16 = .ok (.iload_n 1, 1) := by decide +kernel
theorem dX5_wipe_17 : decode cX5_wipe 17 = .ok (.ireturn, 1) := by decide +kernel
set_option maxRecDepth 20000 in
theorem ggX5_charAt_X3_countChars : GoodIn wsX5_charAt wsX3_countChars := goodIn_ca (goodIn_r _ [8, 9, 10, 11, 12, 7, 13, 14, 42, 43] (by decide +kernel) (by decide +kernel)) (goodIn_sub (fun _ h => List.mem_cons_of_mem _ (List.mem_append_right _ h)) (by decide +kernel))
set_option maxRecDepth 20000 in
theorem gX5_charAt_X3_countChars : GoodIn wsX5_charAt (wsV RX5 135 RX3 yX3_countChars wsX3_countChars) := goodIn_app (goodIn_of _ (by decide +kernel)) ggX5_charAt_X3_countChars
set_option maxRecDepth 20000 in
theorem ggX5_charAt_X3_charIn : GoodIn wsX5_charAt wsX3_charIn := goodIn_ca (goodIn_r _ [18, 9, 10, 11, 12, 7, 13, 14, 19, 20, 21, 22, 23, 24, 42, 43] (by decide +kernel) (by decide +kernel)) (goodIn_sub (fun _ h => List.mem_cons_of_mem _ (List.mem_append_right _ h)) (by decide +kernel))
set_option maxRecDepth 20000 in
theorem gX5_charAt_X3_charIn : GoodIn wsX5_charAt (wsV RX5 150 RX3 yX3_charIn wsX3_charIn) := goodIn_app (goodIn_of _ (by decide +kernel)) ggX5_charAt_X3_charIn
theorem dX5_charAt_0 : decode cX5_charAt 0 = .ok (.iload_n 1, 1) := by decide +kernel
theorem dX5_charAt_1 : decode cX5_charAt 1 = .ok (.ifCond .lt 14, 3) := by decide +kernel
theorem dX5_charAt_4 : decode cX5_charAt 4 = .ok (.iload_n 1, 1) := by decide +kernel
theorem dX5_charAt_5 : decode cX5_charAt 5 = .ok (.aload_n 0, 1) := by decide +kernel
theorem dX5_charAt_6 : decode cX5_charAt 6 = .ok (.getfield 25, 3) := by decide +kernel
theorem dX5_charAt_9 : decode cX5_charAt 9 = .ok (.invokevirtual 135, 3) := by decide +kernel
theorem dX5_charAt_12 : decode cX5_charAt 12 = .ok (.if_icmp .lt 13, 3) := by decide +kernel
theorem dX5_charAt_15 : decode cX5_charAt 15 = .ok (.new 145, 3) := by decide +kernel
theorem dX5_charAt_18 : decode cX5_charAt 18 = .ok (.dup, 1) := by decide +kernel
theorem dX5_charAt_19 : decode cX5_charAt 19 = .ok (.ldc 147, 2) := by decide +kernel
theorem dX5_charAt_21 : decode cX5_charAt 21 = .ok (.invokespecial 149, 3) := by decide +kernel
theorem dX5_charAt_24 : decode cX5_charAt 24 = .ok (.athrow, 1) := by decide +kernel
theorem dX5_charAt_25 : decode cX5_charAt 25 = .ok (.aload_n 0, 1) := by decide +kernel
theorem dX5_charAt_26 : decode cX5_charAt 26 = .ok (.getfield 25, 3) := by decide +kernel
theorem dX5_charAt_29 : decode cX5_charAt 29 = .ok (.iload_n 1, 1) := by decide +kernel
theorem dX5_charAt_30 : decode cX5_charAt 30 = .ok (.invokevirtual 150, 3) := by decide +kernel
theorem dX5_charAt_33 : decode cX5_charAt 33 = .ok (.ireturn, 1) := by decide +kernel
set_option maxRecDepth 20000 in
theorem ggX5_save_X5_needPupil : GoodIn wsX5_save wsX5_needPupil := goodIn_ca (goodIn_r _ [21, 22, 23, 24, 87, 88, 89, 90, 91, 92, 93, 94, 95, 96, 97, 98, 99, 100, 101, 102, 103] (by decide +kernel) (by decide +kernel)) (goodIn_sub (fun _ h => List.mem_cons_of_mem _ (List.mem_append_left _ (List.mem_append_right _ h))) (by decide +kernel))
set_option maxRecDepth 20000 in
theorem gX5_save_X5_needPupil : GoodIn wsX5_save (wsV RX5 154 RX5 yX5_needPupil wsX5_needPupil) := goodIn_app (goodIn_of _ (by decide +kernel)) ggX5_save_X5_needPupil
set_option maxRecDepth 20000 in
theorem ggX5_save_X5_needTask : GoodIn wsX5_save wsX5_needTask := goodIn_ca (goodIn_r _ [28, 22, 23, 29, 87, 88, 89, 90, 91, 92, 93, 94, 95, 96, 97, 98, 99, 100, 101, 102, 103] (by decide +kernel) (by decide +kernel)) (goodIn_sub (fun _ h => List.mem_cons_of_mem _ (List.mem_append_left _ (List.mem_append_right _ h))) (by decide +kernel))
set_option maxRecDepth 20000 in
theorem gX5_save_X5_needTask : GoodIn wsX5_save (wsV RX5 157 RX5 yX5_needTask wsX5_needTask) := goodIn_app (goodIn_of _ (by decide +kernel)) ggX5_save_X5_needTask
set_option maxRecDepth 20000 in
theorem ggX5_save_X5_needVersion : GoodIn wsX5_save wsX5_needVersion := goodIn_ca (goodIn_r _ [33, 22, 23, 10, 87, 88, 89, 90, 91, 92, 93, 94, 95, 96, 97, 98, 99, 100, 101, 102, 103] (by decide +kernel) (by decide +kernel)) (goodIn_sub (fun _ h => List.mem_cons_of_mem _ (List.mem_append_left _ (List.mem_append_right _ h))) (by decide +kernel))
set_option maxRecDepth 20000 in
theorem gX5_save_X5_needVersion : GoodIn wsX5_save (wsV RX5 160 RX5 yX5_needVersion wsX5_needVersion) := goodIn_app (goodIn_of _ (by decide +kernel)) ggX5_save_X5_needVersion
set_option maxRecDepth 20000 in
theorem ggX5_save_X5_needRange : GoodIn wsX5_save wsX5_needRange := goodIn_ca (goodIn_r _ [36, 37, 38] (by decide +kernel) (by decide +kernel)) (goodIn_sub (fun _ h => List.mem_cons_of_mem _ (List.mem_append_right _ h)) (by decide +kernel))
set_option maxRecDepth 20000 in
theorem gX5_save_X5_needRange : GoodIn wsX5_save (va_wsS RX5 63 yX5_needRange wsX5_needRange) := goodIn_app (goodIn_of _ (by decide +kernel)) ggX5_save_X5_needRange
set_option maxRecDepth 20000 in
theorem ggX5_save_X4_canPrecede : GoodIn wsX5_save wsX4_canPrecede := goodIn_r _ [43, 44, 45, 46, 47, 42, 48, 49, 50, 109, 110, 111, 112, 113, 114, 115, 116, 117, 118] (by decide +kernel) (by decide +kernel)
set_option maxRecDepth 20000 in
theorem gX5_save_X4_canPrecede : GoodIn wsX5_save (wsV RX5 168 RX4 yX4_canPrecede wsX4_canPrecede) := goodIn_app (goodIn_of _ (by decide +kernel)) ggX5_save_X4_canPrecede
set_option maxRecDepth 20000 in
theorem ggX5_save_X4_keep : GoodIn wsX5_save wsX4_keep := goodIn_ca (goodIn_r _ [54, 55, 56, 57, 58, 59, 60, 61, 62, 63, 64, 65, 66, 67, 68, 69, 70, 71, 72, 73, 74, 75, 76, 77, 78, 79, 80, 81, 82, 83, 84, 85, 86, 109, 110, 111, 112, 113, 114, 115, 116, 117, 118, 119, 120, 121, 122, 123] (by decide +kernel) (by decide +kernel)) (goodIn_sub (fun _ h => List.mem_cons_of_mem _ (List.mem_append_left _ (List.mem_append_left _ (List.mem_append_left _ (List.mem_append_left _ (List.mem_append_right _ h)))))) (by decide +kernel))
set_option maxRecDepth 20000 in
theorem gX5_save_X4_keep : GoodIn wsX5_save (wsV RX5 191 RX4 yX4_keep wsX4_keep) := goodIn_app (goodIn_of _ (by decide +kernel)) ggX5_save_X4_keep
theorem dX5_save_0 : decode cX5_save 0 = .ok (.aload_n 0, 1) := by decide +kernel
theorem dX5_save_1 : decode cX5_save 1 = .ok (.iload_n 1, 1) := by decide +kernel
theorem dX5_save_2 : decode cX5_save 2 = .ok (.invokevirtual 154, 3) := by decide +kernel
theorem dX5_save_5 : decode cX5_save 5 = .ok (.aload_n 0, 1) := by decide +kernel
theorem dX5_save_6 : decode cX5_save 6 = .ok (.iload_n 2, 1) := by decide +kernel
theorem dX5_save_7 : decode cX5_save 7 = .ok (.invokevirtual 157, 3) := by decide +kernel
theorem dX5_save_10 : decode cX5_save 10 = .ok (.iload_n 3, 1) := by decide +kernel
theorem dX5_save_11 : decode cX5_save 11 = .ok (.iconst (-1), 1) := by decide +kernel
theorem dX5_save_12 : decode cX5_save 12 = .ok (.if_icmp .eq 8, 3) := by decide +kernel
theorem dX5_save_15 : decode cX5_save 15 = .ok (.aload_n 0, 1) := by decide +kernel
theorem dX5_save_16 : decode cX5_save 16 = .ok (.iload_n 3, 1) := by decide +kernel
theorem dX5_save_17 : decode cX5_save 17 = .ok (.invokevirtual 160, 3) := by decide +kernel
theorem dX5_save_20 : decode cX5_save 20 = .ok (.iload 4, 2) := by decide +kernel
theorem dX5_save_22 : decode cX5_save 22 = .ok (.iconst 0, 1) := by decide +kernel
theorem dX5_save_23 : decode cX5_save 23 = .ok (.aload_n 0, 1) := by decide +kernel
theorem dX5_save_24 : decode cX5_save 24 = .ok (.getfield 112, 3) := by decide +kernel
theorem dX5_save_27 : decode cX5_save 27 = .ok (.invokestatic 63, 3) := by decide +kernel
theorem dX5_save_30 : decode cX5_save 30 = .ok (.aload_n 0, 1) := by decide +kernel
theorem dX5_save_31 : decode cX5_save 31 = .ok (.getfield 18, 3) := by decide +kernel
theorem dX5_save_34 : decode cX5_save 34 = .ok (.iload_n 2, 1) := by decide +kernel
theorem dX5_save_35 : decode cX5_save 35 = .ok (.aaload, 1) := by decide +kernel
theorem dX5_save_36 : decode cX5_save 36 = .ok (.getfield 95, 3) := by decide +kernel
theorem dX5_save_39 : decode cX5_save 39 = .ok (.aload_n 0, 1) := by decide +kernel
theorem dX5_save_40 : decode cX5_save 40 = .ok (.getfield 13, 3) := by decide +kernel
theorem dX5_save_43 : decode cX5_save 43 = .ok (.iload_n 1, 1) := by decide +kernel
theorem dX5_save_44 : decode cX5_save 44 = .ok (.iaload, 1) := by decide +kernel
theorem dX5_save_45 : decode cX5_save 45 = .ok (.if_icmp .eq 13, 3) := by decide +kernel
theorem dX5_save_48 : decode cX5_save 48 = .ok (.new 163, 3) := by decide +kernel
theorem dX5_save_51 : decode cX5_save 51 = .ok (.dup, 1) := by decide +kernel
theorem dX5_save_52 : decode cX5_save 52 = .ok (.ldc 165, 2) := by decide +kernel
theorem dX5_save_54 : decode cX5_save 54 = .ok (.invokespecial 167, 3) := by decide +kernel
theorem dX5_save_57 : decode cX5_save 57 = .ok (.athrow, 1) := by decide +kernel
theorem dX5_save_58 : decode cX5_save 58 = .ok (.iload_n 3, 1) := by decide +kernel
theorem dX5_save_59 : decode cX5_save 59 = .ok (.iconst (-1), 1) := by decide +kernel
theorem dX5_save_60 : decode cX5_save 60 = .ok (.if_icmp .eq 34, 3) := by decide +kernel
theorem dX5_save_63 : decode cX5_save 63 = .ok (.aload_n 0, 1) := by decide +kernel
theorem dX5_save_64 : decode cX5_save 64 = .ok (.getfield 31, 3) := by decide +kernel
theorem dX5_save_67 : decode cX5_save 67 = .ok (.iload_n 3, 1) := by decide +kernel
theorem dX5_save_68 : decode cX5_save 68 = .ok (.aaload, 1) := by decide +kernel
theorem dX5_save_69 : decode cX5_save 69 = .ok (.iload_n 1, 1) := by decide +kernel
theorem dX5_save_70 : decode cX5_save 70 = .ok (.iload_n 2, 1) := by decide +kernel
theorem dX5_save_71 : decode cX5_save 71 = .ok (.aload_n 0, 1) := by decide +kernel
theorem dX5_save_72 : decode cX5_save 72 = .ok (.getfield 112, 3) := by decide +kernel
theorem dX5_save_75 : decode cX5_save 75 = .ok (.iload 4, 2) := by decide +kernel
theorem dX5_save_77 : decode cX5_save 77 = .ok (.isub, 1) := by decide +kernel
theorem dX5_save_78 : decode cX5_save 78 = .ok (.invokevirtual 168, 3) := by decide +kernel
theorem dX5_save_81 : decode cX5_save 81 = .ok (.ifCond .ne 13, 3) := by decide +kernel
theorem dX5_save_84 : decode cX5_save 84 = .ok (.new 163, 3) := by decide +kernel
theorem dX5_save_87 : decode cX5_save 87 = .ok (.dup, 1) := by decide +kernel
theorem dX5_save_88 : decode cX5_save 88 = .ok (.ldc 172, 2) := by decide +kernel
theorem dX5_save_90 : decode cX5_save 90 = .ok (.invokespecial 167, 3) := by decide +kernel
theorem dX5_save_93 : decode cX5_save 93 = .ok (.athrow, 1) := by decide +kernel
theorem dX5_save_94 : decode cX5_save 94 = .ok (.aload_n 0, 1) := by decide +kernel
theorem dX5_save_95 : decode cX5_save 95 = .ok (.getfield 174, 3) := by decide +kernel
theorem dX5_save_98 : decode cX5_save 98 = .ok (.bipush 60, 2) := by decide +kernel
theorem dX5_save_100 : decode cX5_save 100 = .ok (.if_icmp .lt 13, 3) := by decide +kernel
theorem dX5_save_103 : decode cX5_save 103 = .ok (.new 70, 3) := by decide +kernel
theorem dX5_save_106 : decode cX5_save 106 = .ok (.dup, 1) := by decide +kernel
theorem dX5_save_107 : decode cX5_save 107 = .ok (.ldc 177, 2) := by decide +kernel
theorem dX5_save_109 : decode cX5_save 109 = .ok (.invokespecial 74, 3) := by decide +kernel
theorem dX5_save_112 : decode cX5_save 112 = .ok (.athrow, 1) := by decide +kernel
theorem dX5_save_113 : decode cX5_save 113 = .ok (.aload_n 0, 1) := by decide +kernel
theorem dX5_save_114 : decode cX5_save 114 = .ok (.getfield 31, 3) := by decide +kernel
theorem dX5_save_117 : decode cX5_save 117 = .ok (.aload_n 0, 1) := by decide +kernel
theorem dX5_save_118 : decode cX5_save 118 = .ok (.getfield 174, 3) := by decide +kernel
theorem dX5_save_121 : decode cX5_save 121 = .ok (.aaload, 1) := by decide +kernel
theorem dX5_save_122 : decode cX5_save 122 = .ok (.astore 5, 2) := by decide +kernel
theorem dX5_save_124 : decode cX5_save 124 = .ok (.aload 5, 2) := by decide +kernel
theorem dX5_save_126 : decode cX5_save 126 = .ok (.iload_n 1, 1) := by decide +kernel
theorem dX5_save_127 : decode cX5_save 127 = .ok (.putfield 179, 3) := by decide +kernel
theorem dX5_save_130 : decode cX5_save 130 = .ok (.aload 5, 2) := by decide +kernel
theorem dX5_save_132 : decode cX5_save 132 = .ok (.iload_n 2, 1) := by decide +kernel
theorem dX5_save_133 : decode cX5_save 133 = .ok (.putfield 182, 3) := by decide +kernel
theorem dX5_save_136 : decode cX5_save 136 = .ok (.aload 5, 2) := by decide +kernel
theorem dX5_save_138 : decode cX5_save 138 = .ok (.iload_n 3, 1) := by decide +kernel
theorem dX5_save_139 : decode cX5_save 139 = .ok (.putfield 185, 3) := by decide +kernel
theorem dX5_save_142 : decode cX5_save 142 = .ok (.aload 5, 2) := by decide +kernel
theorem dX5_save_144 : decode cX5_save 144 = .ok (.aload_n 0, 1) := by decide +kernel
theorem dX5_save_145 : decode cX5_save 145 = .ok (.getfield 112, 3) := by decide +kernel
theorem dX5_save_148 : decode cX5_save 148 = .ok (.iload 4, 2) := by decide +kernel
theorem dX5_save_150 : decode cX5_save 150 = .ok (.isub, 1) := by decide +kernel
theorem dX5_save_151 : decode cX5_save 151 = .ok (.putfield 188, 3) := by decide +kernel
theorem dX5_save_154 : decode cX5_save 154 = .ok (.aload 5, 2) := by decide +kernel
theorem dX5_save_156 : decode cX5_save 156 = .ok (.aload_n 0, 1) := by decide +kernel
theorem dX5_save_157 : decode cX5_save 157 = .ok (.getfield 25, 3) := by decide +kernel
theorem dX5_save_160 : decode cX5_save 160 = .ok (.invokevirtual 191, 3) := by decide +kernel
theorem dX5_save_163 : decode cX5_save 163 = .ok (.aload_n 0, 1) := by decide +kernel
theorem dX5_save_164 : decode cX5_save 164 = .ok (.getfield 25, 3) := by decide +kernel
theorem dX5_save_167 : decode cX5_save 167 = .ok (.iconst 0, 1) := by decide +kernel
theorem dX5_save_168 : decode cX5_save 168 = .ok (.putfield 123, 3) := by decide +kernel
theorem dX5_save_171 : decode cX5_save 171 = .ok (.aload_n 0, 1) := by decide +kernel
theorem dX5_save_172 : decode cX5_save 172 = .ok (.dup, 1) := by decide +kernel
theorem dX5_save_173 : decode cX5_save 173 = .ok (.getfield 174, 3) := by decide +kernel
theorem dX5_save_176 : decode cX5_save 176 = .ok (.iconst 1, 1) := by decide +kernel
theorem dX5_save_177 : decode cX5_save 177 = .ok (.iadd, 1) := by decide +kernel
theorem dX5_save_178 : decode cX5_save 178 = .ok (.putfield 174, 3) := by decide +kernel
theorem dX5_save_181 : decode cX5_save 181 = .ok (.aload_n 0, 1) := by decide +kernel
theorem dX5_save_182 : decode cX5_save 182 = .ok (.getfield 174, 3) := by decide +kernel
theorem dX5_save_185 : decode cX5_save 185 = .ok (.iconst 1, 1) := by decide +kernel
theorem dX5_save_186 : decode cX5_save 186 = .ok (.isub, 1) := by decide +kernel
theorem dX5_save_187 : decode cX5_save 187 = .ok (.ireturn, 1) := by decide +kernel
set_option maxRecDepth 20000 in
theorem ggX5_of_X5_needVersion : GoodIn wsX5_of wsX5_needVersion := goodIn_ca (goodIn_r _ [16, 17, 18, 19, 31, 32, 33, 34, 35, 36, 37, 38, 39, 40, 41, 42, 43, 44, 45, 46, 47] (by decide +kernel) (by decide +kernel)) (goodIn_sub (fun _ h => List.mem_cons_of_mem _ (List.mem_append_left _ (List.mem_append_right _ h))) (by decide +kernel))
set_option maxRecDepth 20000 in
theorem gX5_of_X5_needVersion : GoodIn wsX5_of (wsV RX5 160 RX5 yX5_needVersion wsX5_needVersion) := goodIn_app (goodIn_of _ (by decide +kernel)) ggX5_of_X5_needVersion
set_option maxRecDepth 20000 in
theorem ggX5_of_X3_countChars : GoodIn wsX5_of wsX3_countChars := goodIn_ca (goodIn_r _ [24, 25, 26, 27, 28, 23, 29, 30, 58, 59] (by decide +kernel) (by decide +kernel)) (goodIn_sub (fun _ h => List.mem_cons_of_mem _ (List.mem_append_right _ h)) (by decide +kernel))
set_option maxRecDepth 20000 in
theorem gX5_of_X3_countChars : GoodIn wsX5_of (wsV RX5 135 RX3 yX3_countChars wsX3_countChars) := goodIn_app (goodIn_of _ (by decide +kernel)) ggX5_of_X3_countChars
theorem dX5_of_0 : decode cX5_of 0 = .ok (.aload_n 0, 1) := by decide +kernel
theorem dX5_of_1 : decode cX5_of 1 = .ok (.iload_n 1, 1) := by decide +kernel
theorem dX5_of_2 : decode cX5_of 2 = .ok (.invokevirtual 160, 3) := by decide +kernel
theorem dX5_of_5 : decode cX5_of 5 = .ok (.aload_n 0, 1) := by decide +kernel
theorem dX5_of_6 : decode cX5_of 6 = .ok (.getfield 31, 3) := by decide +kernel
theorem dX5_of_9 : decode cX5_of 9 = .ok (.iload_n 1, 1) := by decide +kernel
theorem dX5_of_10 : decode cX5_of 10 = .ok (.aaload, 1) := by decide +kernel
theorem dX5_of_11 : decode cX5_of 11 = .ok (.astore_n 3, 1) := by decide +kernel
theorem dX5_of_12 : decode cX5_of 12 = .ok (.iload_n 2, 1) := by decide +kernel
theorem dX5_of_13 : decode cX5_of 13 = .ok (.tableswitch 135 99 117 #[114, 135, 135, 135, 130, 101, 135, 135, 135, 135, 135, 106, 135, 91, 135, 135, 96, 135, 122], 91) := by decide +kernel
theorem dX5_of_104 : decode cX5_of 104 = .ok (.aload_n 3, 1) := by decide +kernel
theorem dX5_of_105 : decode cX5_of 105 = .ok (.getfield 185, 3) := by decide +kernel
theorem dX5_of_108 : decode cX5_of 108 = .ok (.ireturn, 1) := by decide +kernel
theorem dX5_of_109 : decode cX5_of 109 = .ok (.aload_n 3, 1) := by decide +kernel
theorem dX5_of_110 : decode cX5_of 110 = .ok (.getfield 188, 3) := by decide +kernel
theorem dX5_of_113 : decode cX5_of 113 = .ok (.ireturn, 1) := by decide +kernel
theorem dX5_of_114 : decode cX5_of 114 = .ok (.aload_n 3, 1) := by decide +kernel
theorem dX5_of_115 : decode cX5_of 115 = .ok (.getfield 195, 3) := by decide +kernel
theorem dX5_of_118 : decode cX5_of 118 = .ok (.ireturn, 1) := by decide +kernel
theorem dX5_of_119 : decode cX5_of 119 = .ok (.aload_n 3, 1) := by decide +kernel
theorem dX5_of_120 : decode cX5_of 120 = .ok (.getfield 198, 3) := by decide +kernel
theorem dX5_of_123 : decode cX5_of 123 = .ok (.getfield 123, 3) := by decide +kernel
theorem dX5_of_126 : decode cX5_of 126 = .ok (.ireturn, 1) := by decide +kernel
theorem dX5_of_127 : decode cX5_of 127 = .ok (.aload_n 3, 1) := by decide +kernel
theorem dX5_of_128 : decode cX5_of 128 = .ok (.getfield 198, 3) := by decide +kernel
theorem dX5_of_131 : decode cX5_of 131 = .ok (.invokevirtual 135, 3) := by decide +kernel
theorem dX5_of_134 : decode cX5_of 134 = .ok (.ireturn, 1) := by decide +kernel
theorem dX5_of_135 : decode cX5_of 135 = .ok (.aload_n 3, 1) := by decide +kernel
theorem dX5_of_136 : decode cX5_of 136 = .ok (.getfield 201, 3) := by decide +kernel
theorem dX5_of_139 : decode cX5_of 139 = .ok (.getfield 204, 3) := by decide +kernel
theorem dX5_of_142 : decode cX5_of 142 = .ok (.ireturn, 1) := by decide +kernel
theorem dX5_of_143 : decode cX5_of 143 = .ok (.aload_n 3, 1) := by decide +kernel
theorem dX5_of_144 : decode cX5_of 144 = .ok (.getfield 207, 3) := by decide +kernel
theorem dX5_of_147 : decode cX5_of 147 = .ok (.ireturn, 1) := by decide +kernel
theorem dX5_of_148 : decode cX5_of 148 = .ok (.new 210, 3) := by decide +kernel
theorem dX5_of_151 : decode cX5_of 151 = .ok (.dup, 1) := by decide +kernel
theorem dX5_of_152 : decode cX5_of 152 = .ok (.ldc 212, 2) := by decide +kernel
theorem dX5_of_154 : decode cX5_of 154 = .ok (.invokespecial 214, 3) := by decide +kernel
theorem dX5_of_157 : decode cX5_of 157 = .ok (.athrow, 1) := by decide +kernel
set_option maxRecDepth 20000 in
theorem ggX5_forks_X5_needVersion : GoodIn wsX5_forks wsX5_needVersion := goodIn_ca (goodIn_r _ [10, 11, 12, 2, 20, 21, 22, 23, 24, 25, 26, 27, 28, 29, 30, 31, 32, 33, 34, 35, 36] (by decide +kernel) (by decide +kernel)) (goodIn_sub (fun _ h => List.mem_cons_of_mem _ (List.mem_append_right _ h)) (by decide +kernel))
set_option maxRecDepth 20000 in
theorem gX5_forks_X5_needVersion : GoodIn wsX5_forks (wsV RX5 160 RX5 yX5_needVersion wsX5_needVersion) := goodIn_app (goodIn_of _ (by decide +kernel)) ggX5_forks_X5_needVersion
set_option maxRecDepth 20000 in
theorem ggX5_forks_X4_isOf : GoodIn wsX5_forks wsX4_isOf := goodIn_r _ [17, 18, 19, 37, 38, 39, 40, 41, 42, 43, 44, 45, 46] (by decide +kernel) (by decide +kernel)
set_option maxRecDepth 20000 in
theorem gX5_forks_X4_isOf : GoodIn wsX5_forks (wsV RX5 215 RX4 yX4_isOf wsX4_isOf) := goodIn_app (goodIn_of _ (by decide +kernel)) ggX5_forks_X4_isOf
theorem dX5_forks_0 : decode cX5_forks 0 = .ok (.aload_n 0, 1) := by decide +kernel
theorem dX5_forks_1 : decode cX5_forks 1 = .ok (.iload_n 1, 1) := by decide +kernel
theorem dX5_forks_2 : decode cX5_forks 2 = .ok (.invokevirtual 160, 3) := by decide +kernel
theorem dX5_forks_5 : decode cX5_forks 5 = .ok (.aload_n 0, 1) := by decide +kernel
theorem dX5_forks_6 : decode cX5_forks 6 = .ok (.getfield 31, 3) := by decide +kernel
theorem dX5_forks_9 : decode cX5_forks 9 = .ok (.iload_n 1, 1) := by decide +kernel
theorem dX5_forks_10 : decode cX5_forks 10 = .ok (.aaload, 1) := by decide +kernel
theorem dX5_forks_11 : decode cX5_forks 11 = .ok (.astore_n 2, 1) := by decide +kernel
theorem dX5_forks_12 : decode cX5_forks 12 = .ok (.iconst 0, 1) := by decide +kernel
theorem dX5_forks_13 : decode cX5_forks 13 = .ok (.istore_n 3, 1) := by decide +kernel
theorem dX5_forks_14 : decode cX5_forks 14 = .ok (.iconst 0, 1) := by decide +kernel
theorem dX5_forks_15 : decode cX5_forks 15 = .ok (.istore 4, 2) := by decide +kernel
theorem dX5_forks_17 : decode cX5_forks 17 = .ok (.iload 4, 2) := by decide +kernel
theorem dX5_forks_19 : decode cX5_forks 19 = .ok (.aload_n 0, 1) := by decide +kernel
theorem dX5_forks_20 : decode cX5_forks 20 = .ok (.getfield 174, 3) := by decide +kernel
theorem dX5_forks_23 : decode cX5_forks 23 = .ok (.if_icmp .ge 55, 3) := by decide +kernel
theorem dX5_forks_26 : decode cX5_forks 26 = .ok (.aload_n 0, 1) := by decide +kernel
theorem dX5_forks_27 : decode cX5_forks 27 = .ok (.getfield 31, 3) := by decide +kernel
theorem dX5_forks_30 : decode cX5_forks 30 = .ok (.iload 4, 2) := by decide +kernel
theorem dX5_forks_32 : decode cX5_forks 32 = .ok (.aaload, 1) := by decide +kernel
theorem dX5_forks_33 : decode cX5_forks 33 = .ok (.astore 5, 2) := by decide +kernel
theorem dX5_forks_35 : decode cX5_forks 35 = .ok (.iload 4, 2) := by decide +kernel
theorem dX5_forks_37 : decode cX5_forks 37 = .ok (.iload_n 1, 1) := by decide +kernel
theorem dX5_forks_38 : decode cX5_forks 38 = .ok (.if_icmp .eq 34, 3) := by decide +kernel
theorem dX5_forks_41 : decode cX5_forks 41 = .ok (.aload 5, 2) := by decide +kernel
theorem dX5_forks_43 : decode cX5_forks 43 = .ok (.aload_n 2, 1) := by decide +kernel
theorem dX5_forks_44 : decode cX5_forks 44 = .ok (.getfield 179, 3) := by decide +kernel
theorem dX5_forks_47 : decode cX5_forks 47 = .ok (.aload_n 2, 1) := by decide +kernel
theorem dX5_forks_48 : decode cX5_forks 48 = .ok (.getfield 182, 3) := by decide +kernel
theorem dX5_forks_51 : decode cX5_forks 51 = .ok (.invokevirtual 215, 3) := by decide +kernel
theorem dX5_forks_54 : decode cX5_forks 54 = .ok (.ifCond .eq 18, 3) := by decide +kernel
theorem dX5_forks_57 : decode cX5_forks 57 = .ok (.aload 5, 2) := by decide +kernel
theorem dX5_forks_59 : decode cX5_forks 59 = .ok (.getfield 185, 3) := by decide +kernel
theorem dX5_forks_62 : decode cX5_forks 62 = .ok (.aload_n 2, 1) := by decide +kernel
theorem dX5_forks_63 : decode cX5_forks 63 = .ok (.getfield 185, 3) := by decide +kernel
theorem dX5_forks_66 : decode cX5_forks 66 = .ok (.if_icmp .ne 6, 3) := by decide +kernel
theorem dX5_forks_69 : decode cX5_forks 69 = .ok (.iinc 3 1, 3) := by decide +kernel
theorem dX5_forks_72 : decode cX5_forks 72 = .ok (.iinc 4 1, 3) := by decide +kernel
theorem dX5_forks_75 : decode cX5_forks 75 = .ok (.goto (-58), 3) := by decide +kernel
theorem dX5_forks_78 : decode cX5_forks 78 = .ok (.iload_n 3, 1) := by decide +kernel
theorem dX5_forks_79 : decode cX5_forks 79 = .ok (.ireturn, 1) := by decide +kernel
set_option maxRecDepth 20000 in
theorem ggX5_heads_X5_needPupil : GoodIn wsX5_heads wsX5_needPupil := goodIn_ca (goodIn_r _ [7, 8, 9, 10, 28, 29, 30, 31, 32, 33, 34, 35, 36, 37, 38, 39, 40, 41, 42, 43, 44] (by decide +kernel) (by decide +kernel)) (goodIn_sub (fun _ h => List.mem_cons_of_mem _ (List.mem_append_right _ h)) (by decide +kernel))
set_option maxRecDepth 20000 in
theorem gX5_heads_X5_needPupil : GoodIn wsX5_heads (wsV RX5 154 RX5 yX5_needPupil wsX5_needPupil) := goodIn_app (goodIn_of _ (by decide +kernel)) ggX5_heads_X5_needPupil
set_option maxRecDepth 20000 in
theorem ggX5_heads_X5_needTask : GoodIn wsX5_heads wsX5_needTask := goodIn_ca (goodIn_r _ [14, 8, 9, 15, 28, 29, 30, 31, 32, 33, 34, 35, 36, 37, 38, 39, 40, 41, 42, 43, 44] (by decide +kernel) (by decide +kernel)) (goodIn_sub (fun _ h => List.mem_cons_of_mem _ (List.mem_append_right _ h)) (by decide +kernel))
set_option maxRecDepth 20000 in
theorem gX5_heads_X5_needTask : GoodIn wsX5_heads (wsV RX5 157 RX5 yX5_needTask wsX5_needTask) := goodIn_app (goodIn_of _ (by decide +kernel)) ggX5_heads_X5_needTask
set_option maxRecDepth 20000 in
theorem ggX5_heads_X4_isOf : GoodIn wsX5_heads wsX4_isOf := goodIn_r _ [20, 21, 22, 45, 46, 47, 48, 49, 50, 51, 52, 53, 54] (by decide +kernel) (by decide +kernel)
set_option maxRecDepth 20000 in
theorem gX5_heads_X4_isOf : GoodIn wsX5_heads (wsV RX5 215 RX4 yX4_isOf wsX4_isOf) := goodIn_app (goodIn_of _ (by decide +kernel)) ggX5_heads_X4_isOf
set_option maxRecDepth 20000 in
theorem ggX5_heads_X5_isParent : GoodIn wsX5_heads wsX5_isParent := goodIn_r _ [26, 1, 2, 27, 28, 29, 30, 31, 32, 33, 34, 35, 36, 37, 38, 39, 40, 41, 42, 43, 44, 45, 46, 47, 48, 49, 50, 51, 52, 53, 54] (by decide +kernel) (by decide +kernel)
set_option maxRecDepth 20000 in
theorem gX5_heads_X5_isParent : GoodIn wsX5_heads (wsV RX5 219 RX5 yX5_isParent wsX5_isParent) := goodIn_app (goodIn_of _ (by decide +kernel)) ggX5_heads_X5_isParent
theorem dX5_heads_0 : decode cX5_heads 0 = .ok (.aload_n 0, 1) := by decide +kernel
theorem dX5_heads_1 : decode cX5_heads 1 = .ok (.iload_n 1, 1) := by decide +kernel
theorem dX5_heads_2 : decode cX5_heads 2 = .ok (.invokevirtual 154, 3) := by decide +kernel
theorem dX5_heads_5 : decode cX5_heads 5 = .ok (.aload_n 0, 1) := by decide +kernel
theorem dX5_heads_6 : decode cX5_heads 6 = .ok (.iload_n 2, 1) := by decide +kernel
theorem dX5_heads_7 : decode cX5_heads 7 = .ok (.invokevirtual 157, 3) := by decide +kernel
theorem dX5_heads_10 : decode cX5_heads 10 = .ok (.iconst 0, 1) := by decide +kernel
theorem dX5_heads_11 : decode cX5_heads 11 = .ok (.istore_n 3, 1) := by decide +kernel
theorem dX5_heads_12 : decode cX5_heads 12 = .ok (.iconst 0, 1) := by decide +kernel
theorem dX5_heads_13 : decode cX5_heads 13 = .ok (.istore 4, 2) := by decide +kernel
theorem dX5_heads_15 : decode cX5_heads 15 = .ok (.iload 4, 2) := by decide +kernel
theorem dX5_heads_17 : decode cX5_heads 17 = .ok (.aload_n 0, 1) := by decide +kernel
theorem dX5_heads_18 : decode cX5_heads 18 = .ok (.getfield 174, 3) := by decide +kernel
theorem dX5_heads_21 : decode cX5_heads 21 = .ok (.if_icmp .ge 36, 3) := by decide +kernel
theorem dX5_heads_24 : decode cX5_heads 24 = .ok (.aload_n 0, 1) := by decide +kernel
theorem dX5_heads_25 : decode cX5_heads 25 = .ok (.getfield 31, 3) := by decide +kernel
theorem dX5_heads_28 : decode cX5_heads 28 = .ok (.iload 4, 2) := by decide +kernel
theorem dX5_heads_30 : decode cX5_heads 30 = .ok (.aaload, 1) := by decide +kernel
theorem dX5_heads_31 : decode cX5_heads 31 = .ok (.iload_n 1, 1) := by decide +kernel
theorem dX5_heads_32 : decode cX5_heads 32 = .ok (.iload_n 2, 1) := by decide +kernel
theorem dX5_heads_33 : decode cX5_heads 33 = .ok (.invokevirtual 215, 3) := by decide +kernel
theorem dX5_heads_36 : decode cX5_heads 36 = .ok (.ifCond .eq 15, 3) := by decide +kernel
theorem dX5_heads_39 : decode cX5_heads 39 = .ok (.aload_n 0, 1) := by decide +kernel
theorem dX5_heads_40 : decode cX5_heads 40 = .ok (.iload 4, 2) := by decide +kernel
theorem dX5_heads_42 : decode cX5_heads 42 = .ok (.invokevirtual 219, 3) := by decide +kernel
theorem dX5_heads_45 : decode cX5_heads 45 = .ok (.ifCond .ne 6, 3) := by decide +kernel
theorem dX5_heads_48 : decode cX5_heads 48 = .ok (.iinc 3 1, 3) := by decide +kernel
theorem dX5_heads_51 : decode cX5_heads 51 = .ok (.iinc 4 1, 3) := by decide +kernel
theorem dX5_heads_54 : decode cX5_heads 54 = .ok (.goto (-39), 3) := by decide +kernel
theorem dX5_heads_57 : decode cX5_heads 57 = .ok (.iload_n 3, 1) := by decide +kernel
theorem dX5_heads_58 : decode cX5_heads 58 = .ok (.ireturn, 1) := by decide +kernel
set_option maxRecDepth 20000 in
theorem ggX5_hand_X5_needVersion : GoodIn wsX5_hand wsX5_needVersion := goodIn_ca (goodIn_r _ [17, 18, 19, 20, 70, 71, 72, 73, 74, 75, 76, 77, 78, 79, 80, 81, 82, 83, 84, 85, 86] (by decide +kernel) (by decide +kernel)) (goodIn_sub (fun _ h => List.mem_cons_of_mem _ (List.mem_append_left _ (List.mem_append_right _ h))) (by decide +kernel))
set_option maxRecDepth 20000 in
theorem gX5_hand_X5_needVersion : GoodIn wsX5_hand (wsV RX5 160 RX5 yX5_needVersion wsX5_needVersion) := goodIn_app (goodIn_of _ (by decide +kernel)) ggX5_hand_X5_needVersion
set_option maxRecDepth 20000 in
theorem ggX5_hand_X5_countMatches : GoodIn wsX5_hand wsX5_countMatches := goodIn_ca (goodIn_r _ [24, 20, 5, 25, 26, 27, 16, 28, 29, 12, 30, 31, 32, 33, 34, 35, 36, 37, 38, 39, 40, 41, 42, 43, 44, 70, 71, 72, 73, 74, 75, 76, 77, 78, 79, 80, 81, 82, 83, 84, 85, 86, 87, 88, 89, 90, 91, 92, 93, 94, 95, 96, 97, 98, 99] (by decide +kernel) (by decide +kernel)) (goodIn_sub (fun _ h => List.mem_cons_of_mem _ (List.mem_append_right _ h)) (by decide +kernel))
set_option maxRecDepth 20000 in
theorem gX5_hand_X5_countMatches : GoodIn wsX5_hand (wsV RX5 225 RX5 yX5_countMatches wsX5_countMatches) := goodIn_app (goodIn_of _ (by decide +kernel)) ggX5_hand_X5_countMatches
set_option maxRecDepth 20000 in
theorem ggX5_hand_X5_addHits : GoodIn wsX5_hand wsX5_addHits := goodIn_ca (goodIn_r _ [48, 5, 20, 7, 49, 50, 51, 12, 52, 25, 26, 27, 16, 28, 29, 30, 31, 32, 33, 34, 35, 36, 37, 38, 39, 40, 41, 42, 43, 44, 70, 71, 72, 73, 74, 75, 76, 77, 78, 79, 80, 81, 82, 83, 84, 85, 86, 100, 101, 102, 103, 87, 88, 89, 90, 91, 92, 93, 94, 95, 96, 97, 98, 99] (by decide +kernel) (by decide +kernel)) (goodIn_sub (fun _ h => List.mem_cons_of_mem _ (List.mem_append_right _ h)) (by decide +kernel))
set_option maxRecDepth 20000 in
theorem gX5_hand_X5_addHits : GoodIn wsX5_hand (wsV RX5 234 RX5 yX5_addHits wsX5_addHits) := goodIn_app (goodIn_of _ (by decide +kernel)) ggX5_hand_X5_addHits
set_option maxRecDepth 20000 in
theorem ggX5_hand_X0_addKeysOf : GoodIn wsX5_hand wsX0_addKeysOf := goodIn_ca (goodIn_r _ [56, 43, 44, 57, 58, 59, 41, 60, 61, 62, 63, 64, 65, 66, 67, 68, 69, 97, 98, 99] (by decide +kernel) (by decide +kernel)) (goodIn_sub (fun _ h => List.mem_cons_of_mem _ (List.mem_append_right _ h)) (by decide +kernel))
set_option maxRecDepth 20000 in
theorem gX5_hand_X0_addKeysOf : GoodIn wsX5_hand (wsV RX5 242 RX0 yX0_addKeysOf wsX0_addKeysOf) := goodIn_app (goodIn_of _ (by decide +kernel)) ggX5_hand_X0_addKeysOf
theorem dX5_hand_0 : decode cX5_hand 0 = .ok (.aload_n 0, 1) := by decide +kernel
theorem dX5_hand_1 : decode cX5_hand 1 = .ok (.iload_n 1, 1) := by decide +kernel
theorem dX5_hand_2 : decode cX5_hand 2 = .ok (.invokevirtual 160, 3) := by decide +kernel
theorem dX5_hand_5 : decode cX5_hand 5 = .ok (.aload_n 0, 1) := by decide +kernel
theorem dX5_hand_6 : decode cX5_hand 6 = .ok (.getfield 31, 3) := by decide +kernel
theorem dX5_hand_9 : decode cX5_hand 9 = .ok (.iload_n 1, 1) := by decide +kernel
theorem dX5_hand_10 : decode cX5_hand 10 = .ok (.aaload, 1) := by decide +kernel
theorem dX5_hand_11 : decode cX5_hand 11 = .ok (.astore_n 2, 1) := by decide +kernel
theorem dX5_hand_12 : decode cX5_hand 12 = .ok (.aload_n 2, 1) := by decide +kernel
theorem dX5_hand_13 : decode cX5_hand 13 = .ok (.getfield 195, 3) := by decide +kernel
theorem dX5_hand_16 : decode cX5_hand 16 = .ok (.iconst (-1), 1) := by decide +kernel
theorem dX5_hand_17 : decode cX5_hand 17 = .ok (.if_icmp .eq 13, 3) := by decide +kernel
theorem dX5_hand_20 : decode cX5_hand 20 = .ok (.new 163, 3) := by decide +kernel
theorem dX5_hand_23 : decode cX5_hand 23 = .ok (.dup, 1) := by decide +kernel
theorem dX5_hand_24 : decode cX5_hand 24 = .ok (.ldc 223, 2) := by decide +kernel
theorem dX5_hand_26 : decode cX5_hand 26 = .ok (.invokespecial 167, 3) := by decide +kernel
theorem dX5_hand_29 : decode cX5_hand 29 = .ok (.athrow, 1) := by decide +kernel
theorem dX5_hand_30 : decode cX5_hand 30 = .ok (.aload_n 0, 1) := by decide +kernel
theorem dX5_hand_31 : decode cX5_hand 31 = .ok (.aload_n 2, 1) := by decide +kernel
theorem dX5_hand_32 : decode cX5_hand 32 = .ok (.invokevirtual 225, 3) := by decide +kernel
theorem dX5_hand_35 : decode cX5_hand 35 = .ok (.istore_n 3, 1) := by decide +kernel
theorem dX5_hand_36 : decode cX5_hand 36 = .ok (.aload_n 0, 1) := by decide +kernel
theorem dX5_hand_37 : decode cX5_hand 37 = .ok (.getfield 229, 3) := by decide +kernel
theorem dX5_hand_40 : decode cX5_hand 40 = .ok (.iload_n 3, 1) := by decide +kernel
theorem dX5_hand_41 : decode cX5_hand 41 = .ok (.iadd, 1) := by decide +kernel
theorem dX5_hand_42 : decode cX5_hand 42 = .ok (.bipush 40, 2) := by decide +kernel
theorem dX5_hand_44 : decode cX5_hand 44 = .ok (.if_icmp .le 13, 3) := by decide +kernel
theorem dX5_hand_47 : decode cX5_hand 47 = .ok (.new 70, 3) := by decide +kernel
theorem dX5_hand_50 : decode cX5_hand 50 = .ok (.dup, 1) := by decide +kernel
theorem dX5_hand_51 : decode cX5_hand 51 = .ok (.ldc 232, 2) := by decide +kernel
theorem dX5_hand_53 : decode cX5_hand 53 = .ok (.invokespecial 74, 3) := by decide +kernel
theorem dX5_hand_56 : decode cX5_hand 56 = .ok (.athrow, 1) := by decide +kernel
theorem dX5_hand_57 : decode cX5_hand 57 = .ok (.aload_n 0, 1) := by decide +kernel
theorem dX5_hand_58 : decode cX5_hand 58 = .ok (.iload_n 1, 1) := by decide +kernel
theorem dX5_hand_59 : decode cX5_hand 59 = .ok (.invokevirtual 234, 3) := by decide +kernel
theorem dX5_hand_62 : decode cX5_hand 62 = .ok (.aload_n 2, 1) := by decide +kernel
theorem dX5_hand_63 : decode cX5_hand 63 = .ok (.aload_n 0, 1) := by decide +kernel
theorem dX5_hand_64 : decode cX5_hand 64 = .ok (.getfield 112, 3) := by decide +kernel
theorem dX5_hand_67 : decode cX5_hand 67 = .ok (.putfield 195, 3) := by decide +kernel
theorem dX5_hand_70 : decode cX5_hand 70 = .ok (.aload_n 2, 1) := by decide +kernel
theorem dX5_hand_71 : decode cX5_hand 71 = .ok (.aload_n 0, 1) := by decide +kernel
theorem dX5_hand_72 : decode cX5_hand 72 = .ok (.getfield 237, 3) := by decide +kernel
theorem dX5_hand_75 : decode cX5_hand 75 = .ok (.putfield 240, 3) := by decide +kernel
theorem dX5_hand_78 : decode cX5_hand 78 = .ok (.aload_n 0, 1) := by decide +kernel
theorem dX5_hand_79 : decode cX5_hand 79 = .ok (.dup, 1) := by decide +kernel
theorem dX5_hand_80 : decode cX5_hand 80 = .ok (.getfield 237, 3) := by decide +kernel
theorem dX5_hand_83 : decode cX5_hand 83 = .ok (.iconst 1, 1) := by decide +kernel
theorem dX5_hand_84 : decode cX5_hand 84 = .ok (.iadd, 1) := by decide +kernel
theorem dX5_hand_85 : decode cX5_hand 85 = .ok (.putfield 237, 3) := by decide +kernel
theorem dX5_hand_88 : decode cX5_hand 88 = .ok (.aload_n 0, 1) := by decide +kernel
theorem dX5_hand_89 : decode cX5_hand 89 = .ok (.getfield 40, 3) := by decide +kernel
theorem dX5_hand_92 : decode cX5_hand 92 = .ok (.aload_n 2, 1) := by decide +kernel
theorem dX5_hand_93 : decode cX5_hand 93 = .ok (.getfield 201, 3) := by decide +kernel
theorem dX5_hand_96 : decode cX5_hand 96 = .ok (.invokevirtual 242, 3) := by decide +kernel
theorem dX5_hand_99 : decode cX5_hand 99 = .ok (.iload_n 3, 1) := by decide +kernel
theorem dX5_hand_100 : decode cX5_hand 100 = .ok (.ireturn, 1) := by decide +kernel
set_option maxRecDepth 20000 in
theorem ggX5_withdraw_X5_needVersion : GoodIn wsX5_withdraw wsX5_needVersion := goodIn_ca (goodIn_r _ [14, 15, 16, 17, 68, 69, 70, 71, 72, 73, 74, 75, 76, 77, 78, 79, 80, 81, 82, 83, 84] (by decide +kernel) (by decide +kernel)) (goodIn_sub (fun _ h => List.mem_cons_of_mem _ (List.mem_append_left _ (List.mem_append_right _ h))) (by decide +kernel))
set_option maxRecDepth 20000 in
theorem gX5_withdraw_X5_needVersion : GoodIn wsX5_withdraw (wsV RX5 160 RX5 yX5_needVersion wsX5_needVersion) := goodIn_app (goodIn_of _ (by decide +kernel)) ggX5_withdraw_X5_needVersion
set_option maxRecDepth 20000 in
theorem ggX5_withdraw_X4_isThere : GoodIn wsX5_withdraw wsX4_isThere := goodIn_r _ [22, 23, 24, 85, 86, 87, 88, 89, 90, 91, 92, 93, 94] (by decide +kernel) (by decide +kernel)
set_option maxRecDepth 20000 in
theorem gX5_withdraw_X4_isThere : GoodIn wsX5_withdraw (wsV RX5 246 RX4 yX4_isThere wsX4_isThere) := goodIn_app (goodIn_of _ (by decide +kernel)) ggX5_withdraw_X4_isThere
set_option maxRecDepth 20000 in
theorem ggX5_withdraw_X5_minutesBehindDue : GoodIn wsX5_withdraw wsX5_minutesBehindDue := goodIn_ca (goodIn_r _ [28, 29, 30, 31, 32, 33, 34, 35, 36, 68, 69, 70, 71, 72, 73, 74, 75, 76, 77, 78, 79, 80, 81, 82, 83, 84, 95, 96, 97, 98, 99] (by decide +kernel) (by decide +kernel)) (goodIn_sub (fun _ h => List.mem_cons_of_mem _ (List.mem_append_right _ h)) (by decide +kernel))
set_option maxRecDepth 20000 in
theorem gX5_withdraw_X5_minutesBehindDue : GoodIn wsX5_withdraw (wsV RX5 252 RX5 yX5_minutesBehindDue wsX5_minutesBehindDue) := goodIn_app (goodIn_of _ (by decide +kernel)) ggX5_withdraw_X5_minutesBehindDue
set_option maxRecDepth 20000 in
theorem ggX5_withdraw_X0_dropKeysOf : GoodIn wsX5_withdraw wsX0_dropKeysOf := goodIn_ca (goodIn_r _ [41, 42, 43, 44, 45, 46, 40, 47, 48, 49, 50, 51, 52, 53, 54, 55, 56, 100, 101, 102] (by decide +kernel) (by decide +kernel)) (goodIn_sub (fun _ h => List.mem_cons_of_mem _ (List.mem_append_right _ h)) (by decide +kernel))
set_option maxRecDepth 20000 in
theorem gX5_withdraw_X0_dropKeysOf : GoodIn wsX5_withdraw (wsV RX5 262 RX0 yX0_dropKeysOf wsX0_dropKeysOf) := goodIn_app (goodIn_of _ (by decide +kernel)) ggX5_withdraw_X0_dropKeysOf
set_option maxRecDepth 20000 in
theorem ggX5_withdraw_X5_findCounting : GoodIn wsX5_withdraw wsX5_findCounting := goodIn_r _ [60, 17, 3, 61, 62, 63, 64, 21, 65, 66, 67, 18, 19, 20, 22, 23, 24, 68, 69, 70, 71, 72, 73, 74, 75, 76, 77, 78, 79, 80, 81, 82, 83, 84, 85, 86, 87, 88, 89, 90, 91, 92, 93, 94] (by decide +kernel) (by decide +kernel)
set_option maxRecDepth 20000 in
theorem gX5_withdraw_X5_findCounting : GoodIn wsX5_withdraw (wsV RX5 265 RX5 yX5_findCounting wsX5_findCounting) := goodIn_app (goodIn_of _ (by decide +kernel)) ggX5_withdraw_X5_findCounting
theorem dX5_withdraw_0 : decode cX5_withdraw 0 = .ok (.aload_n 0, 1) := by decide +kernel
theorem dX5_withdraw_1 : decode cX5_withdraw 1 = .ok (.iload_n 1, 1) := by decide +kernel
theorem dX5_withdraw_2 : decode cX5_withdraw 2 = .ok (.invokevirtual 160, 3) := by decide +kernel
theorem dX5_withdraw_5 : decode cX5_withdraw 5 = .ok (.aload_n 0, 1) := by decide +kernel
theorem dX5_withdraw_6 : decode cX5_withdraw 6 = .ok (.getfield 31, 3) := by decide +kernel
theorem dX5_withdraw_9 : decode cX5_withdraw 9 = .ok (.iload_n 1, 1) := by decide +kernel
theorem dX5_withdraw_10 : decode cX5_withdraw 10 = .ok (.aaload, 1) := by decide +kernel
theorem dX5_withdraw_11 : decode cX5_withdraw 11 = .ok (.astore_n 2, 1) := by decide +kernel
theorem dX5_withdraw_12 : decode cX5_withdraw 12 = .ok (.aload_n 2, 1) := by decide +kernel
theorem dX5_withdraw_13 : decode cX5_withdraw 13 = .ok (.invokevirtual 246, 3) := by decide +kernel
theorem dX5_withdraw_16 : decode cX5_withdraw 16 = .ok (.ifCond .ne 13, 3) := by decide +kernel
theorem dX5_withdraw_19 : decode cX5_withdraw 19 = .ok (.new 163, 3) := by decide +kernel
theorem dX5_withdraw_22 : decode cX5_withdraw 22 = .ok (.dup, 1) := by decide +kernel
theorem dX5_withdraw_23 : decode cX5_withdraw 23 = .ok (.ldc 250, 2) := by decide +kernel
theorem dX5_withdraw_25 : decode cX5_withdraw 25 = .ok (.invokespecial 167, 3) := by decide +kernel
theorem dX5_withdraw_28 : decode cX5_withdraw 28 = .ok (.athrow, 1) := by decide +kernel
theorem dX5_withdraw_29 : decode cX5_withdraw 29 = .ok (.aload_n 0, 1) := by decide +kernel
theorem dX5_withdraw_30 : decode cX5_withdraw 30 = .ok (.aload_n 2, 1) := by decide +kernel
theorem dX5_withdraw_31 : decode cX5_withdraw 31 = .ok (.getfield 182, 3) := by decide +kernel
theorem dX5_withdraw_34 : decode cX5_withdraw 34 = .ok (.aload_n 0, 1) := by decide +kernel
theorem dX5_withdraw_35 : decode cX5_withdraw 35 = .ok (.getfield 112, 3) := by decide +kernel
theorem dX5_withdraw_38 : decode cX5_withdraw 38 = .ok (.invokevirtual 252, 3) := by decide +kernel
theorem dX5_withdraw_41 : decode cX5_withdraw 41 = .ok (.ifCond .le 14, 3) := by decide +kernel
theorem dX5_withdraw_44 : decode cX5_withdraw 44 = .ok (.new 163, 3) := by decide +kernel
theorem dX5_withdraw_47 : decode cX5_withdraw 47 = .ok (.dup, 1) := by decide +kernel
theorem dX5_withdraw_48 : decode cX5_withdraw 48 = .ok (.ldc_w 256, 3) := by decide +kernel
theorem dX5_withdraw_51 : decode cX5_withdraw 51 = .ok (.invokespecial 167, 3) := by decide +kernel
theorem dX5_withdraw_54 : decode cX5_withdraw 54 = .ok (.athrow, 1) := by decide +kernel
theorem dX5_withdraw_55 : decode cX5_withdraw 55 = .ok (.aload_n 2, 1) := by decide +kernel
theorem dX5_withdraw_56 : decode cX5_withdraw 56 = .ok (.iconst 1, 1) := by decide +kernel
theorem dX5_withdraw_57 : decode cX5_withdraw 57 = .ok (.putfield 258, 3) := by decide +kernel
theorem dX5_withdraw_60 : decode cX5_withdraw 60 = .ok (.aload_n 0, 1) := by decide +kernel
theorem dX5_withdraw_61 : decode cX5_withdraw 61 = .ok (.getfield 40, 3) := by decide +kernel
theorem dX5_withdraw_64 : decode cX5_withdraw 64 = .ok (.aload_n 2, 1) := by decide +kernel
theorem dX5_withdraw_65 : decode cX5_withdraw 65 = .ok (.getfield 201, 3) := by decide +kernel
theorem dX5_withdraw_68 : decode cX5_withdraw 68 = .ok (.invokevirtual 262, 3) := by decide +kernel
theorem dX5_withdraw_71 : decode cX5_withdraw 71 = .ok (.aload_n 0, 1) := by decide +kernel
theorem dX5_withdraw_72 : decode cX5_withdraw 72 = .ok (.aload_n 2, 1) := by decide +kernel
theorem dX5_withdraw_73 : decode cX5_withdraw 73 = .ok (.getfield 179, 3) := by decide +kernel
theorem dX5_withdraw_76 : decode cX5_withdraw 76 = .ok (.aload_n 2, 1) := by decide +kernel
theorem dX5_withdraw_77 : decode cX5_withdraw 77 = .ok (.getfield 182, 3) := by decide +kernel
theorem dX5_withdraw_80 : decode cX5_withdraw 80 = .ok (.invokevirtual 265, 3) := by decide +kernel
theorem dX5_withdraw_83 : decode cX5_withdraw 83 = .ok (.iconst (-1), 1) := by decide +kernel
theorem dX5_withdraw_84 : decode cX5_withdraw 84 = .ok (.if_icmp .eq 7, 3) := by decide +kernel
theorem dX5_withdraw_87 : decode cX5_withdraw 87 = .ok (.iconst 1, 1) := by decide +kernel
theorem dX5_withdraw_88 : decode cX5_withdraw 88 = .ok (.goto 4, 3) := by decide +kernel
theorem dX5_withdraw_91 : decode cX5_withdraw 91 = .ok (.iconst 0, 1) := by decide +kernel
theorem dX5_withdraw_92 : decode cX5_withdraw 92 = .ok (.ireturn, 1) := by decide +kernel
set_option maxRecDepth 20000 in
theorem ggX5_isIn_X5_needVersion : GoodIn wsX5_isIn wsX5_needVersion := goodIn_ca (goodIn_r _ [6, 7, 8, 9, 17, 18, 19, 20, 21, 22, 23, 24, 25, 26, 27, 28, 29, 30, 31, 32, 33] (by decide +kernel) (by decide +kernel)) (goodIn_sub (fun _ h => List.mem_cons_of_mem _ (List.mem_append_right _ h)) (by decide +kernel))
set_option maxRecDepth 20000 in
theorem gX5_isIn_X5_needVersion : GoodIn wsX5_isIn (wsV RX5 160 RX5 yX5_needVersion wsX5_needVersion) := goodIn_app (goodIn_of _ (by decide +kernel)) ggX5_isIn_X5_needVersion
set_option maxRecDepth 20000 in
theorem ggX5_isIn_X4_isThere : GoodIn wsX5_isIn wsX4_isThere := goodIn_r _ [14, 15, 16, 34, 35, 36, 37, 38, 39, 40, 41, 42, 43] (by decide +kernel) (by decide +kernel)
set_option maxRecDepth 20000 in
theorem gX5_isIn_X4_isThere : GoodIn wsX5_isIn (wsV RX5 246 RX4 yX4_isThere wsX4_isThere) := goodIn_app (goodIn_of _ (by decide +kernel)) ggX5_isIn_X4_isThere
theorem dX5_isIn_0 : decode cX5_isIn 0 = .ok (.aload_n 0, 1) := by decide +kernel
theorem dX5_isIn_1 : decode cX5_isIn 1 = .ok (.iload_n 1, 1) := by decide +kernel
theorem dX5_isIn_2 : decode cX5_isIn 2 = .ok (.invokevirtual 160, 3) := by decide +kernel
theorem dX5_isIn_5 : decode cX5_isIn 5 = .ok (.aload_n 0, 1) := by decide +kernel
theorem dX5_isIn_6 : decode cX5_isIn 6 = .ok (.getfield 31, 3) := by decide +kernel
theorem dX5_isIn_9 : decode cX5_isIn 9 = .ok (.iload_n 1, 1) := by decide +kernel
theorem dX5_isIn_10 : decode cX5_isIn 10 = .ok (.aaload, 1) := by decide +kernel
theorem dX5_isIn_11 : decode cX5_isIn 11 = .ok (.invokevirtual 246, 3) := by decide +kernel
theorem dX5_isIn_14 : decode cX5_isIn 14 = .ok (.ireturn, 1) := by decide +kernel
set_option maxRecDepth 20000 in
theorem ggX5_late_X5_needVersion : GoodIn wsX5_late wsX5_needVersion := goodIn_ca (goodIn_r _ [8, 9, 10, 11, 50, 51, 52, 53, 54, 55, 56, 57, 58, 59, 60, 61, 62, 63, 64, 65, 66] (by decide +kernel) (by decide +kernel)) (goodIn_sub (fun _ h => List.mem_cons_of_mem _ (List.mem_append_left _ (List.mem_append_right _ h))) (by decide +kernel))
set_option maxRecDepth 20000 in
theorem gX5_late_X5_needVersion : GoodIn wsX5_late (wsV RX5 160 RX5 yX5_needVersion wsX5_needVersion) := goodIn_app (goodIn_of _ (by decide +kernel)) ggX5_late_X5_needVersion
set_option maxRecDepth 20000 in
theorem ggX5_late_X4_isThere : GoodIn wsX5_late wsX4_isThere := goodIn_r _ [16, 17, 18, 67, 68, 69, 70, 71, 72, 73, 74, 75, 76] (by decide +kernel) (by decide +kernel)
set_option maxRecDepth 20000 in
theorem gX5_late_X4_isThere : GoodIn wsX5_late (wsV RX5 246 RX4 yX4_isThere wsX4_isThere) := goodIn_app (goodIn_of _ (by decide +kernel)) ggX5_late_X4_isThere
set_option maxRecDepth 20000 in
theorem ggX5_late_X5_leastLate : GoodIn wsX5_late wsX5_leastLate := goodIn_ca (goodIn_r _ [22, 23, 24, 25, 26, 27, 3, 28, 29, 30, 31, 32, 33, 34, 7, 35, 36, 37, 38, 39, 40, 41, 42, 12, 13, 14, 15, 16, 17, 18, 43, 44, 45, 46, 47, 48, 49, 67, 68, 69, 70, 71, 72, 73, 74, 75, 76, 77, 78, 79, 50, 51, 52, 53, 54, 55, 56, 57, 58, 59, 60, 61, 62, 63, 64, 65, 66, 80, 81, 82, 83, 84] (by decide +kernel) (by decide +kernel)) (goodIn_sub (fun _ h => List.mem_cons_of_mem _ (List.mem_append_right _ h)) (by decide +kernel))
set_option maxRecDepth 20000 in
theorem gX5_late_X5_leastLate : GoodIn wsX5_late (wsV RX5 268 RX5 yX5_leastLate wsX5_leastLate) := goodIn_app (goodIn_of _ (by decide +kernel)) ggX5_late_X5_leastLate
theorem dX5_late_0 : decode cX5_late 0 = .ok (.aload_n 0, 1) := by decide +kernel
theorem dX5_late_1 : decode cX5_late 1 = .ok (.iload_n 1, 1) := by decide +kernel
theorem dX5_late_2 : decode cX5_late 2 = .ok (.invokevirtual 160, 3) := by decide +kernel
theorem dX5_late_5 : decode cX5_late 5 = .ok (.aload_n 0, 1) := by decide +kernel
theorem dX5_late_6 : decode cX5_late 6 = .ok (.getfield 31, 3) := by decide +kernel
theorem dX5_late_9 : decode cX5_late 9 = .ok (.iload_n 1, 1) := by decide +kernel
theorem dX5_late_10 : decode cX5_late 10 = .ok (.aaload, 1) := by decide +kernel
theorem dX5_late_11 : decode cX5_late 11 = .ok (.invokevirtual 246, 3) := by decide +kernel
theorem dX5_late_14 : decode cX5_late 14 = .ok (.ifCond .ne 13, 3) := by decide +kernel
theorem dX5_late_17 : decode cX5_late 17 = .ok (.new 163, 3) := by decide +kernel
theorem dX5_late_20 : decode cX5_late 20 = .ok (.dup, 1) := by decide +kernel
theorem dX5_late_21 : decode cX5_late 21 = .ok (.ldc 250, 2) := by decide +kernel
theorem dX5_late_23 : decode cX5_late 23 = .ok (.invokespecial 167, 3) := by decide +kernel
theorem dX5_late_26 : decode cX5_late 26 = .ok (.athrow, 1) := by decide +kernel
theorem dX5_late_27 : decode cX5_late 27 = .ok (.aload_n 0, 1) := by decide +kernel
theorem dX5_late_28 : decode cX5_late 28 = .ok (.aload_n 0, 1) := by decide +kernel
theorem dX5_late_29 : decode cX5_late 29 = .ok (.getfield 31, 3) := by decide +kernel
theorem dX5_late_32 : decode cX5_late 32 = .ok (.iload_n 1, 1) := by decide +kernel
theorem dX5_late_33 : decode cX5_late 33 = .ok (.aaload, 1) := by decide +kernel
theorem dX5_late_34 : decode cX5_late 34 = .ok (.invokevirtual 268, 3) := by decide +kernel
theorem dX5_late_37 : decode cX5_late 37 = .ok (.ireturn, 1) := by decide +kernel
set_option maxRecDepth 20000 in
theorem ggX5_off_X5_needTask : GoodIn wsX5_off wsX5_needTask := goodIn_ca (goodIn_r _ [7, 8, 9, 10, 27, 28, 29, 30, 31, 32, 33, 34, 35, 36, 37, 38, 39, 40, 41, 42, 43] (by decide +kernel) (by decide +kernel)) (goodIn_sub (fun _ h => List.mem_cons_of_mem _ (List.mem_append_left _ (List.mem_append_right _ h))) (by decide +kernel))
set_option maxRecDepth 20000 in
theorem gX5_off_X5_needTask : GoodIn wsX5_off (wsV RX5 157 RX5 yX5_needTask wsX5_needTask) := goodIn_app (goodIn_of _ (by decide +kernel)) ggX5_off_X5_needTask
set_option maxRecDepth 20000 in
theorem ggX5_off_X5_needRange : GoodIn wsX5_off wsX5_needRange := goodIn_ca (goodIn_r _ [13, 14, 15] (by decide +kernel) (by decide +kernel)) (goodIn_sub (fun _ h => List.mem_cons_of_mem _ (List.mem_append_right _ h)) (by decide +kernel))
set_option maxRecDepth 20000 in
theorem gX5_off_X5_needRange : GoodIn wsX5_off (va_wsS RX5 63 yX5_needRange wsX5_needRange) := goodIn_app (goodIn_of _ (by decide +kernel)) ggX5_off_X5_needRange
set_option maxRecDepth 20000 in
theorem ggX5_off_X2_pointsOff : GoodIn wsX5_off wsX2_pointsOff := goodIn_r _ [20, 21, 22, 23, 24, 25, 26, 44, 45, 46, 47, 48] (by decide +kernel) (by decide +kernel)
set_option maxRecDepth 20000 in
theorem gX5_off_X2_pointsOff : GoodIn wsX5_off (wsV RX5 271 RX2 yX2_pointsOff wsX2_pointsOff) := goodIn_app (goodIn_of _ (by decide +kernel)) ggX5_off_X2_pointsOff
theorem dX5_off_0 : decode cX5_off 0 = .ok (.aload_n 0, 1) := by decide +kernel
theorem dX5_off_1 : decode cX5_off 1 = .ok (.iload_n 1, 1) := by decide +kernel
theorem dX5_off_2 : decode cX5_off 2 = .ok (.invokevirtual 157, 3) := by decide +kernel
theorem dX5_off_5 : decode cX5_off 5 = .ok (.iload_n 2, 1) := by decide +kernel
theorem dX5_off_6 : decode cX5_off 6 = .ok (.iconst 0, 1) := by decide +kernel
theorem dX5_off_7 : decode cX5_off 7 = .ok (.ldc 85, 2) := by decide +kernel
theorem dX5_off_9 : decode cX5_off 9 = .ok (.invokestatic 63, 3) := by decide +kernel
theorem dX5_off_12 : decode cX5_off 12 = .ok (.aload_n 0, 1) := by decide +kernel
theorem dX5_off_13 : decode cX5_off 13 = .ok (.getfield 18, 3) := by decide +kernel
theorem dX5_off_16 : decode cX5_off 16 = .ok (.iload_n 1, 1) := by decide +kernel
theorem dX5_off_17 : decode cX5_off 17 = .ok (.aaload, 1) := by decide +kernel
theorem dX5_off_18 : decode cX5_off 18 = .ok (.iload_n 2, 1) := by decide +kernel
theorem dX5_off_19 : decode cX5_off 19 = .ok (.invokevirtual 271, 3) := by decide +kernel
theorem dX5_off_22 : decode cX5_off 22 = .ok (.ireturn, 1) := by decide +kernel
set_option maxRecDepth 20000 in
theorem ggX5_points_X5_needVersion : GoodIn wsX5_points wsX5_needVersion := goodIn_ca (goodIn_r _ [7, 8, 9, 10, 16, 17, 18, 19, 20, 21, 22, 23, 24, 25, 26, 27, 28, 29, 30, 31, 32] (by decide +kernel) (by decide +kernel)) (goodIn_sub (fun _ h => List.mem_cons_of_mem _ (List.mem_append_left _ (List.mem_append_right _ h))) (by decide +kernel))
set_option maxRecDepth 20000 in
theorem gX5_points_X5_needVersion : GoodIn wsX5_points (wsV RX5 160 RX5 yX5_needVersion wsX5_needVersion) := goodIn_app (goodIn_of _ (by decide +kernel)) ggX5_points_X5_needVersion
set_option maxRecDepth 20000 in
theorem ggX5_points_X5_needRange : GoodIn wsX5_points wsX5_needRange := goodIn_ca (goodIn_r _ [13, 14, 15] (by decide +kernel) (by decide +kernel)) (goodIn_sub (fun _ h => List.mem_cons_of_mem _ (List.mem_append_right _ h)) (by decide +kernel))
set_option maxRecDepth 20000 in
theorem gX5_points_X5_needRange : GoodIn wsX5_points (va_wsS RX5 63 yX5_needRange wsX5_needRange) := goodIn_app (goodIn_of _ (by decide +kernel)) ggX5_points_X5_needRange
theorem dX5_points_0 : decode cX5_points 0 = .ok (.aload_n 0, 1) := by decide +kernel
theorem dX5_points_1 : decode cX5_points 1 = .ok (.iload_n 1, 1) := by decide +kernel
theorem dX5_points_2 : decode cX5_points 2 = .ok (.invokevirtual 160, 3) := by decide +kernel
theorem dX5_points_5 : decode cX5_points 5 = .ok (.iload_n 2, 1) := by decide +kernel
theorem dX5_points_6 : decode cX5_points 6 = .ok (.iconst 0, 1) := by decide +kernel
theorem dX5_points_7 : decode cX5_points 7 = .ok (.bipush 100, 2) := by decide +kernel
theorem dX5_points_9 : decode cX5_points 9 = .ok (.invokestatic 63, 3) := by decide +kernel
theorem dX5_points_12 : decode cX5_points 12 = .ok (.aload_n 0, 1) := by decide +kernel
theorem dX5_points_13 : decode cX5_points 13 = .ok (.getfield 31, 3) := by decide +kernel
theorem dX5_points_16 : decode cX5_points 16 = .ok (.iload_n 1, 1) := by decide +kernel
theorem dX5_points_17 : decode cX5_points 17 = .ok (.aaload, 1) := by decide +kernel
theorem dX5_points_18 : decode cX5_points 18 = .ok (.getfield 207, 3) := by decide +kernel
theorem dX5_points_21 : decode cX5_points 21 = .ok (.istore_n 3, 1) := by decide +kernel
theorem dX5_points_22 : decode cX5_points 22 = .ok (.aload_n 0, 1) := by decide +kernel
theorem dX5_points_23 : decode cX5_points 23 = .ok (.getfield 31, 3) := by decide +kernel
theorem dX5_points_26 : decode cX5_points 26 = .ok (.iload_n 1, 1) := by decide +kernel
theorem dX5_points_27 : decode cX5_points 27 = .ok (.aaload, 1) := by decide +kernel
theorem dX5_points_28 : decode cX5_points 28 = .ok (.iload_n 2, 1) := by decide +kernel
theorem dX5_points_29 : decode cX5_points 29 = .ok (.putfield 207, 3) := by decide +kernel
theorem dX5_points_32 : decode cX5_points 32 = .ok (.iload_n 3, 1) := by decide +kernel
theorem dX5_points_33 : decode cX5_points 33 = .ok (.ireturn, 1) := by decide +kernel
set_option maxRecDepth 20000 in
theorem ggX5_counting_X5_needPupil : GoodIn wsX5_counting wsX5_needPupil := goodIn_ca (goodIn_r _ [7, 8, 9, 10, 36, 37, 38, 39, 40, 41, 42, 43, 44, 45, 46, 47, 48, 49, 50, 51, 52] (by decide +kernel) (by decide +kernel)) (goodIn_sub (fun _ h => List.mem_cons_of_mem _ (List.mem_append_right _ h)) (by decide +kernel))
set_option maxRecDepth 20000 in
theorem gX5_counting_X5_needPupil : GoodIn wsX5_counting (wsV RX5 154 RX5 yX5_needPupil wsX5_needPupil) := goodIn_app (goodIn_of _ (by decide +kernel)) ggX5_counting_X5_needPupil
set_option maxRecDepth 20000 in
theorem ggX5_counting_X5_needTask : GoodIn wsX5_counting wsX5_needTask := goodIn_ca (goodIn_r _ [14, 8, 9, 15, 36, 37, 38, 39, 40, 41, 42, 43, 44, 45, 46, 47, 48, 49, 50, 51, 52] (by decide +kernel) (by decide +kernel)) (goodIn_sub (fun _ h => List.mem_cons_of_mem _ (List.mem_append_right _ h)) (by decide +kernel))
set_option maxRecDepth 20000 in
theorem gX5_counting_X5_needTask : GoodIn wsX5_counting (wsV RX5 157 RX5 yX5_needTask wsX5_needTask) := goodIn_app (goodIn_of _ (by decide +kernel)) ggX5_counting_X5_needTask
set_option maxRecDepth 20000 in
theorem ggX5_counting_X5_findCounting : GoodIn wsX5_counting wsX5_findCounting := goodIn_r _ [19, 20, 21, 22, 23, 24, 25, 26, 27, 28, 29, 30, 31, 32, 33, 34, 35, 36, 37, 38, 39, 40, 41, 42, 43, 44, 45, 46, 47, 48, 49, 50, 51, 52, 53, 54, 55, 56, 57, 58, 59, 60, 61, 62] (by decide +kernel) (by decide +kernel)
set_option maxRecDepth 20000 in
theorem gX5_counting_X5_findCounting : GoodIn wsX5_counting (wsV RX5 265 RX5 yX5_findCounting wsX5_findCounting) := goodIn_app (goodIn_of _ (by decide +kernel)) ggX5_counting_X5_findCounting
theorem dX5_counting_0 : decode cX5_counting 0 = .ok (.aload_n 0, 1) := by decide +kernel
theorem dX5_counting_1 : decode cX5_counting 1 = .ok (.iload_n 1, 1) := by decide +kernel
theorem dX5_counting_2 : decode cX5_counting 2 = .ok (.invokevirtual 154, 3) := by decide +kernel
theorem dX5_counting_5 : decode cX5_counting 5 = .ok (.aload_n 0, 1) := by decide +kernel
theorem dX5_counting_6 : decode cX5_counting 6 = .ok (.iload_n 2, 1) := by decide +kernel
theorem dX5_counting_7 : decode cX5_counting 7 = .ok (.invokevirtual 157, 3) := by decide +kernel
theorem dX5_counting_10 : decode cX5_counting 10 = .ok (.aload_n 0, 1) := by decide +kernel
theorem dX5_counting_11 : decode cX5_counting 11 = .ok (.iload_n 1, 1) := by decide +kernel
theorem dX5_counting_12 : decode cX5_counting 12 = .ok (.iload_n 2, 1) := by decide +kernel
theorem dX5_counting_13 : decode cX5_counting 13 = .ok (.invokevirtual 265, 3) := by decide +kernel
theorem dX5_counting_16 : decode cX5_counting 16 = .ok (.istore_n 3, 1) := by decide +kernel
theorem dX5_counting_17 : decode cX5_counting 17 = .ok (.iload_n 3, 1) := by decide +kernel
theorem dX5_counting_18 : decode cX5_counting 18 = .ok (.iconst (-1), 1) := by decide +kernel
theorem dX5_counting_19 : decode cX5_counting 19 = .ok (.if_icmp .ne 14, 3) := by decide +kernel
theorem dX5_counting_22 : decode cX5_counting 22 = .ok (.new 145, 3) := by decide +kernel
theorem dX5_counting_25 : decode cX5_counting 25 = .ok (.dup, 1) := by decide +kernel
theorem dX5_counting_26 : decode cX5_counting 26 = .ok (.ldc_w 275, 3) := by decide +kernel
theorem dX5_counting_29 : decode cX5_counting 29 = .ok (.invokespecial 149, 3) := by decide +kernel
theorem dX5_counting_32 : decode cX5_counting 32 = .ok (.athrow, 1) := by decide +kernel
theorem dX5_counting_33 : decode cX5_counting 33 = .ok (.iload_n 3, 1) := by decide +kernel
theorem dX5_counting_34 : decode cX5_counting 34 = .ok (.ireturn, 1) := by decide +kernel
set_option maxRecDepth 20000 in
theorem ggX5_mark_X5_needPupil : GoodIn wsX5_mark wsX5_needPupil := goodIn_ca (goodIn_r _ [7, 8, 9, 10, 104, 105, 106, 107, 108, 109, 110, 111, 112, 113, 114, 115, 116, 117, 118, 119, 120] (by decide +kernel) (by decide +kernel)) (goodIn_sub (fun _ h => List.mem_cons_of_mem _ (List.mem_append_left _ (List.mem_append_right _ h))) (by decide +kernel))
set_option maxRecDepth 20000 in
theorem gX5_mark_X5_needPupil : GoodIn wsX5_mark (wsV RX5 154 RX5 yX5_needPupil wsX5_needPupil) := goodIn_app (goodIn_of _ (by decide +kernel)) ggX5_mark_X5_needPupil
set_option maxRecDepth 20000 in
theorem ggX5_mark_X5_needTask : GoodIn wsX5_mark wsX5_needTask := goodIn_ca (goodIn_r _ [14, 8, 9, 15, 104, 105, 106, 107, 108, 109, 110, 111, 112, 113, 114, 115, 116, 117, 118, 119, 120] (by decide +kernel) (by decide +kernel)) (goodIn_sub (fun _ h => List.mem_cons_of_mem _ (List.mem_append_left _ (List.mem_append_right _ h))) (by decide +kernel))
set_option maxRecDepth 20000 in
theorem gX5_mark_X5_needTask : GoodIn wsX5_mark (wsV RX5 157 RX5 yX5_needTask wsX5_needTask) := goodIn_app (goodIn_of _ (by decide +kernel)) ggX5_mark_X5_needTask
set_option maxRecDepth 20000 in
theorem ggX5_mark_X5_hasOpenHit : GoodIn wsX5_mark wsX5_hasOpenHit := goodIn_r _ [19, 20, 21, 22, 23, 24, 25, 26, 27, 28, 29, 30, 31, 32, 33, 34, 35, 36, 37, 104, 105, 106, 107, 108, 109, 110, 111, 112, 113, 114, 115, 116, 117, 118, 119, 120, 121, 122, 123, 124, 125, 126, 127, 128, 129, 130, 131, 132, 133, 134] (by decide +kernel) (by decide +kernel)
set_option maxRecDepth 20000 in
theorem gX5_mark_X5_hasOpenHit : GoodIn wsX5_mark (wsV RX5 277 RX5 yX5_hasOpenHit wsX5_hasOpenHit) := goodIn_app (goodIn_of _ (by decide +kernel)) ggX5_mark_X5_hasOpenHit
set_option maxRecDepth 20000 in
theorem ggX5_mark_X5_makeMark : GoodIn wsX5_mark wsX5_makeMark := goodIn_ca (goodIn_r _ [41, 22, 42, 43, 44, 45, 46, 47, 48, 49, 50, 51, 6, 52, 53, 54, 31, 32, 33, 34, 35, 36, 37, 55, 56, 57, 58, 59, 60, 61, 62, 63, 64, 20, 21, 23, 24, 65, 66, 67, 28, 68, 30, 69, 26, 27, 29, 70, 71, 72, 73, 74, 75, 76, 77, 78, 79, 80, 81, 82, 83, 84, 85, 86, 87, 88, 89, 90, 91, 92, 93, 94, 95, 96, 97, 98, 99, 100, 101, 102, 103, 104, 105, 106, 107, 108, 109, 110, 111, 112, 113, 114, 115, 116, 117, 118, 119, 120, 135, 136, 137, 138, 139, 125, 126, 127, 128, 129, 130, 131, 132, 133, 134, 121, 122, 123, 124, 140, 141, 142] (by decide +kernel) (by decide +kernel)) (goodIn_sub (fun _ h => List.mem_cons_of_mem _ (List.mem_append_right _ h)) (by decide +kernel))
set_option maxRecDepth 20000 in
theorem gX5_mark_X5_makeMark : GoodIn wsX5_mark (wsV RX5 282 RX5 yX5_makeMark wsX5_makeMark) := goodIn_app (goodIn_of _ (by decide +kernel)) ggX5_mark_X5_makeMark
theorem dX5_mark_0 : decode cX5_mark 0 = .ok (.aload_n 0, 1) := by decide +kernel
theorem dX5_mark_1 : decode cX5_mark 1 = .ok (.iload_n 1, 1) := by decide +kernel
theorem dX5_mark_2 : decode cX5_mark 2 = .ok (.invokevirtual 154, 3) := by decide +kernel
theorem dX5_mark_5 : decode cX5_mark 5 = .ok (.aload_n 0, 1) := by decide +kernel
theorem dX5_mark_6 : decode cX5_mark 6 = .ok (.iload_n 2, 1) := by decide +kernel
theorem dX5_mark_7 : decode cX5_mark 7 = .ok (.invokevirtual 157, 3) := by decide +kernel
theorem dX5_mark_10 : decode cX5_mark 10 = .ok (.aload_n 0, 1) := by decide +kernel
theorem dX5_mark_11 : decode cX5_mark 11 = .ok (.iload_n 1, 1) := by decide +kernel
theorem dX5_mark_12 : decode cX5_mark 12 = .ok (.iload_n 2, 1) := by decide +kernel
theorem dX5_mark_13 : decode cX5_mark 13 = .ok (.invokevirtual 277, 3) := by decide +kernel
theorem dX5_mark_16 : decode cX5_mark 16 = .ok (.ifCond .eq 14, 3) := by decide +kernel
theorem dX5_mark_19 : decode cX5_mark 19 = .ok (.new 163, 3) := by decide +kernel
theorem dX5_mark_22 : decode cX5_mark 22 = .ok (.dup, 1) := by decide +kernel
theorem dX5_mark_23 : decode cX5_mark 23 = .ok (.ldc_w 280, 3) := by decide +kernel
theorem dX5_mark_26 : decode cX5_mark 26 = .ok (.invokespecial 167, 3) := by decide +kernel
theorem dX5_mark_29 : decode cX5_mark 29 = .ok (.athrow, 1) := by decide +kernel
theorem dX5_mark_30 : decode cX5_mark 30 = .ok (.aload_n 0, 1) := by decide +kernel
theorem dX5_mark_31 : decode cX5_mark 31 = .ok (.iload_n 1, 1) := by decide +kernel
theorem dX5_mark_32 : decode cX5_mark 32 = .ok (.iload_n 2, 1) := by decide +kernel
theorem dX5_mark_33 : decode cX5_mark 33 = .ok (.invokevirtual 282, 3) := by decide +kernel
theorem dX5_mark_36 : decode cX5_mark 36 = .ok (.ireturn, 1) := by decide +kernel
set_option maxRecDepth 20000 in
theorem ggX5_isFrozen_X5_needPupil : GoodIn wsX5_isFrozen wsX5_needPupil := goodIn_ca (goodIn_r _ [5, 6, 7, 8, 36, 37, 38, 39, 40, 41, 42, 43, 44, 45, 46, 47, 48, 49, 50, 51, 52] (by decide +kernel) (by decide +kernel)) (goodIn_sub (fun _ h => List.mem_cons_of_mem _ (List.mem_append_right _ h)) (by decide +kernel))
set_option maxRecDepth 20000 in
theorem gX5_isFrozen_X5_needPupil : GoodIn wsX5_isFrozen (wsV RX5 154 RX5 yX5_needPupil wsX5_needPupil) := goodIn_app (goodIn_of _ (by decide +kernel)) ggX5_isFrozen_X5_needPupil
set_option maxRecDepth 20000 in
theorem ggX5_isFrozen_X5_needTask : GoodIn wsX5_isFrozen wsX5_needTask := goodIn_ca (goodIn_r _ [12, 6, 7, 13, 36, 37, 38, 39, 40, 41, 42, 43, 44, 45, 46, 47, 48, 49, 50, 51, 52] (by decide +kernel) (by decide +kernel)) (goodIn_sub (fun _ h => List.mem_cons_of_mem _ (List.mem_append_right _ h)) (by decide +kernel))
set_option maxRecDepth 20000 in
theorem gX5_isFrozen_X5_needTask : GoodIn wsX5_isFrozen (wsV RX5 157 RX5 yX5_needTask wsX5_needTask) := goodIn_app (goodIn_of _ (by decide +kernel)) ggX5_isFrozen_X5_needTask
set_option maxRecDepth 20000 in
theorem ggX5_isFrozen_X5_hasOpenHit : GoodIn wsX5_isFrozen wsX5_hasOpenHit := goodIn_r _ [17, 18, 19, 20, 21, 22, 23, 24, 25, 26, 27, 28, 29, 30, 31, 32, 33, 34, 35, 36, 37, 38, 39, 40, 41, 42, 43, 44, 45, 46, 47, 48, 49, 50, 51, 52, 53, 54, 55, 56, 57, 58, 59, 60, 61, 62, 63, 64, 65, 66] (by decide +kernel) (by decide +kernel)
set_option maxRecDepth 20000 in
theorem gX5_isFrozen_X5_hasOpenHit : GoodIn wsX5_isFrozen (wsV RX5 277 RX5 yX5_hasOpenHit wsX5_hasOpenHit) := goodIn_app (goodIn_of _ (by decide +kernel)) ggX5_isFrozen_X5_hasOpenHit
theorem dX5_isFrozen_0 : decode cX5_isFrozen 0 = .ok (.aload_n 0, 1) := by decide +kernel
theorem dX5_isFrozen_1 : decode cX5_isFrozen 1 = .ok (.iload_n 1, 1) := by decide +kernel
theorem dX5_isFrozen_2 : decode cX5_isFrozen 2 = .ok (.invokevirtual 154, 3) := by decide +kernel
theorem dX5_isFrozen_5 : decode cX5_isFrozen 5 = .ok (.aload_n 0, 1) := by decide +kernel
theorem dX5_isFrozen_6 : decode cX5_isFrozen 6 = .ok (.iload_n 2, 1) := by decide +kernel
theorem dX5_isFrozen_7 : decode cX5_isFrozen 7 = .ok (.invokevirtual 157, 3) := by decide +kernel
theorem dX5_isFrozen_10 : decode cX5_isFrozen 10 = .ok (.aload_n 0, 1) := by decide +kernel
theorem dX5_isFrozen_11 : decode cX5_isFrozen 11 = .ok (.iload_n 1, 1) := by decide +kernel
theorem dX5_isFrozen_12 : decode cX5_isFrozen 12 = .ok (.iload_n 2, 1) := by decide +kernel
theorem dX5_isFrozen_13 : decode cX5_isFrozen 13 = .ok (.invokevirtual 277, 3) := by decide +kernel
theorem dX5_isFrozen_16 : decode cX5_isFrozen 16 = .ok (.ireturn, 1) := by decide +kernel
set_option maxRecDepth 20000 in
theorem ggX5_shared_X5_needVersion : GoodIn wsX5_shared wsX5_needVersion := goodIn_ca (goodIn_r _ [7, 8, 9, 10, 18, 19, 20, 21, 22, 23, 24, 25, 26, 27, 28, 29, 30, 31, 32, 33, 34] (by decide +kernel) (by decide +kernel)) (goodIn_sub (fun _ h => List.mem_cons_of_mem _ (List.mem_append_left _ (List.mem_append_right _ h))) (by decide +kernel))
set_option maxRecDepth 20000 in
theorem gX5_shared_X5_needVersion : GoodIn wsX5_shared (wsV RX5 160 RX5 yX5_needVersion wsX5_needVersion) := goodIn_app (goodIn_of _ (by decide +kernel)) ggX5_shared_X5_needVersion
set_option maxRecDepth 20000 in
theorem ggX5_shared_X0_countCommon : GoodIn wsX5_shared wsX0_countCommon := goodIn_ca (goodIn_r _ [15, 16, 17, 45, 46, 47] (by decide +kernel) (by decide +kernel)) (goodIn_sub (fun _ h => List.mem_cons_of_mem _ (List.mem_append_right _ h)) (by decide +kernel))
set_option maxRecDepth 20000 in
theorem gX5_shared_X0_countCommon : GoodIn wsX5_shared (wsV RX5 285 RX0 yX0_countCommon wsX0_countCommon) := goodIn_app (goodIn_of _ (by decide +kernel)) ggX5_shared_X0_countCommon
theorem dX5_shared_0 : decode cX5_shared 0 = .ok (.aload_n 0, 1) := by decide +kernel
theorem dX5_shared_1 : decode cX5_shared 1 = .ok (.iload_n 1, 1) := by decide +kernel
theorem dX5_shared_2 : decode cX5_shared 2 = .ok (.invokevirtual 160, 3) := by decide +kernel
theorem dX5_shared_5 : decode cX5_shared 5 = .ok (.aload_n 0, 1) := by decide +kernel
theorem dX5_shared_6 : decode cX5_shared 6 = .ok (.iload_n 2, 1) := by decide +kernel
theorem dX5_shared_7 : decode cX5_shared 7 = .ok (.invokevirtual 160, 3) := by decide +kernel
theorem dX5_shared_10 : decode cX5_shared 10 = .ok (.aload_n 0, 1) := by decide +kernel
theorem dX5_shared_11 : decode cX5_shared 11 = .ok (.getfield 31, 3) := by decide +kernel
theorem dX5_shared_14 : decode cX5_shared 14 = .ok (.iload_n 1, 1) := by decide +kernel
theorem dX5_shared_15 : decode cX5_shared 15 = .ok (.aaload, 1) := by decide +kernel
theorem dX5_shared_16 : decode cX5_shared 16 = .ok (.getfield 201, 3) := by decide +kernel
theorem dX5_shared_19 : decode cX5_shared 19 = .ok (.aload_n 0, 1) := by decide +kernel
theorem dX5_shared_20 : decode cX5_shared 20 = .ok (.getfield 31, 3) := by decide +kernel
theorem dX5_shared_23 : decode cX5_shared 23 = .ok (.iload_n 2, 1) := by decide +kernel
theorem dX5_shared_24 : decode cX5_shared 24 = .ok (.aaload, 1) := by decide +kernel
theorem dX5_shared_25 : decode cX5_shared 25 = .ok (.getfield 201, 3) := by decide +kernel
theorem dX5_shared_28 : decode cX5_shared 28 = .ok (.invokevirtual 285, 3) := by decide +kernel
theorem dX5_shared_31 : decode cX5_shared 31 = .ok (.ireturn, 1) := by decide +kernel
set_option maxRecDepth 20000 in
theorem ggX5_shingle_X5_needVersion : GoodIn wsX5_shingle wsX5_needVersion := goodIn_ca (goodIn_r _ [11, 12, 13, 14, 15, 16, 17, 18, 19, 20, 21, 22, 23, 24, 25, 26, 27, 28, 29, 30, 31] (by decide +kernel) (by decide +kernel)) (goodIn_sub (fun _ h => List.mem_cons_of_mem _ (List.mem_append_right _ h)) (by decide +kernel))
set_option maxRecDepth 20000 in
theorem gX5_shingle_X5_needVersion : GoodIn wsX5_shingle (wsV RX5 160 RX5 yX5_needVersion wsX5_needVersion) := goodIn_app (goodIn_of _ (by decide +kernel)) ggX5_shingle_X5_needVersion
theorem dX5_shingle_0 : decode cX5_shingle 0 = .ok (.aload_n 0, 1) := by decide +kernel
theorem dX5_shingle_1 : decode cX5_shingle 1 = .ok (.iload_n 1, 1) := by decide +kernel
theorem dX5_shingle_2 : decode cX5_shingle 2 = .ok (.invokevirtual 160, 3) := by decide +kernel
theorem dX5_shingle_5 : decode cX5_shingle 5 = .ok (.aload_n 0, 1) := by decide +kernel
theorem dX5_shingle_6 : decode cX5_shingle 6 = .ok (.getfield 31, 3) := by decide +kernel
theorem dX5_shingle_9 : decode cX5_shingle 9 = .ok (.iload_n 1, 1) := by decide +kernel
theorem dX5_shingle_10 : decode cX5_shingle 10 = .ok (.aaload, 1) := by decide +kernel
theorem dX5_shingle_11 : decode cX5_shingle 11 = .ok (.getfield 201, 3) := by decide +kernel
theorem dX5_shingle_14 : decode cX5_shingle 14 = .ok (.astore_n 3, 1) := by decide +kernel
theorem dX5_shingle_15 : decode cX5_shingle 15 = .ok (.iload_n 2, 1) := by decide +kernel
theorem dX5_shingle_16 : decode cX5_shingle 16 = .ok (.ifCond .lt 11, 3) := by decide +kernel
theorem dX5_shingle_19 : decode cX5_shingle 19 = .ok (.iload_n 2, 1) := by decide +kernel
theorem dX5_shingle_20 : decode cX5_shingle 20 = .ok (.aload_n 3, 1) := by decide +kernel
theorem dX5_shingle_21 : decode cX5_shingle 21 = .ok (.getfield 204, 3) := by decide +kernel
theorem dX5_shingle_24 : decode cX5_shingle 24 = .ok (.if_icmp .lt 14, 3) := by decide +kernel
theorem dX5_shingle_27 : decode cX5_shingle 27 = .ok (.new 145, 3) := by decide +kernel
theorem dX5_shingle_30 : decode cX5_shingle 30 = .ok (.dup, 1) := by decide +kernel
theorem dX5_shingle_31 : decode cX5_shingle 31 = .ok (.ldc_w 289, 3) := by decide +kernel
theorem dX5_shingle_34 : decode cX5_shingle 34 = .ok (.invokespecial 149, 3) := by decide +kernel
theorem dX5_shingle_37 : decode cX5_shingle 37 = .ok (.athrow, 1) := by decide +kernel
theorem dX5_shingle_38 : decode cX5_shingle 38 = .ok (.aload_n 3, 1) := by decide +kernel
theorem dX5_shingle_39 : decode cX5_shingle 39 = .ok (.getfield 291, 3) := by decide +kernel
theorem dX5_shingle_42 : decode cX5_shingle 42 = .ok (.iload_n 2, 1) := by decide +kernel
theorem dX5_shingle_43 : decode cX5_shingle 43 = .ok (.iaload, 1) := by decide +kernel
theorem dX5_shingle_44 : decode cX5_shingle 44 = .ok (.ireturn, 1) := by decide +kernel
theorem dX5_indexed_0 : decode cX5_indexed 0 = .ok (.aload_n 0, 1) := by decide +kernel
theorem dX5_indexed_1 : decode cX5_indexed 1 = .ok (.getfield 40, 3) := by decide +kernel
theorem dX5_indexed_4 : decode cX5_indexed 4 = .ok (.getfield 204, 3) := by decide +kernel
theorem dX5_indexed_7 : decode cX5_indexed 7 = .ok (.ireturn, 1) := by decide +kernel
set_option maxRecDepth 20000 in
theorem ggX5_holders_X0_countOf : GoodIn wsX5_holders wsX0_countOf := goodIn_ca (goodIn_r _ [6, 7, 8, 9, 10, 11, 12, 5, 13, 31, 32, 33] (by decide +kernel) (by decide +kernel)) (goodIn_sub (fun _ h => List.mem_cons_of_mem _ (List.mem_append_right _ h)) (by decide +kernel))
set_option maxRecDepth 20000 in
theorem gX5_holders_X0_countOf : GoodIn wsX5_holders (wsV RX5 294 RX0 yX0_countOf wsX0_countOf) := goodIn_app (goodIn_of _ (by decide +kernel)) ggX5_holders_X0_countOf
theorem dX5_holders_0 : decode cX5_holders 0 = .ok (.aload_n 0, 1) := by decide +kernel
theorem dX5_holders_1 : decode cX5_holders 1 = .ok (.getfield 40, 3) := by decide +kernel
theorem dX5_holders_4 : decode cX5_holders 4 = .ok (.iload_n 1, 1) := by decide +kernel
theorem dX5_holders_5 : decode cX5_holders 5 = .ok (.invokevirtual 294, 3) := by decide +kernel
theorem dX5_holders_8 : decode cX5_holders 8 = .ok (.ireturn, 1) := by decide +kernel
set_option maxRecDepth 20000 in
theorem ggX5_threshold_X5_needRange : GoodIn wsX5_threshold wsX5_needRange := goodIn_ca (goodIn_r _ [5, 6, 7] (by decide +kernel) (by decide +kernel)) (goodIn_sub (fun _ h => List.mem_cons_of_mem _ (List.mem_append_right _ h)) (by decide +kernel))
set_option maxRecDepth 20000 in
theorem gX5_threshold_X5_needRange : GoodIn wsX5_threshold (va_wsS RX5 63 yX5_needRange wsX5_needRange) := goodIn_app (goodIn_of _ (by decide +kernel)) ggX5_threshold_X5_needRange
theorem dX5_threshold_0 : decode cX5_threshold 0 = .ok (.iload_n 1, 1) := by decide +kernel
theorem dX5_threshold_1 : decode cX5_threshold 1 = .ok (.iconst 1, 1) := by decide +kernel
theorem dX5_threshold_2 : decode cX5_threshold 2 = .ok (.bipush 37, 2) := by decide +kernel
theorem dX5_threshold_4 : decode cX5_threshold 4 = .ok (.invokestatic 63, 3) := by decide +kernel
theorem dX5_threshold_7 : decode cX5_threshold 7 = .ok (.aload_n 0, 1) := by decide +kernel
theorem dX5_threshold_8 : decode cX5_threshold 8 = .ok (.getfield 56, 3) := by decide +kernel
theorem dX5_threshold_11 : decode cX5_threshold 11 = .ok (.istore_n 2, 1) := by decide +kernel
theorem dX5_threshold_12 : decode cX5_threshold 12 = .ok (.aload_n 0, 1) := by decide +kernel
theorem dX5_threshold_13 : decode cX5_threshold 13 = .ok (.iload_n 1, 1) := by decide +kernel
theorem dX5_threshold_14 : decode cX5_threshold 14 = .ok (.putfield 56, 3) := by decide +kernel
theorem dX5_threshold_17 : decode cX5_threshold 17 = .ok (.iload_n 2, 1) := by decide +kernel
theorem dX5_threshold_18 : decode cX5_threshold 18 = .ok (.ireturn, 1) := by decide +kernel
theorem dX5_hits_0 : decode cX5_hits 0 = .ok (.aload_n 0, 1) := by decide +kernel
theorem dX5_hits_1 : decode cX5_hits 1 = .ok (.getfield 229, 3) := by decide +kernel
theorem dX5_hits_4 : decode cX5_hits 4 = .ok (.ireturn, 1) := by decide +kernel
set_option maxRecDepth 20000 in
theorem ggX5_hit_X5_needHit : GoodIn wsX5_hit wsX5_needHit := goodIn_ca (goodIn_r _ [12, 13, 14, 15, 16, 17, 18, 19, 20, 21, 22, 23, 24, 25, 26, 27, 28, 29, 30, 31, 32] (by decide +kernel) (by decide +kernel)) (goodIn_sub (fun _ h => List.mem_cons_of_mem _ (List.mem_append_right _ h)) (by decide +kernel))
set_option maxRecDepth 20000 in
theorem gX5_hit_X5_needHit : GoodIn wsX5_hit (wsV RX5 297 RX5 yX5_needHit wsX5_needHit) := goodIn_app (goodIn_of _ (by decide +kernel)) ggX5_hit_X5_needHit
theorem dX5_hit_0 : decode cX5_hit 0 = .ok (.aload_n 0, 1) := by decide +kernel
theorem dX5_hit_1 : decode cX5_hit 1 = .ok (.iload_n 1, 1) := by decide +kernel
theorem dX5_hit_2 : decode cX5_hit 2 = .ok (.invokevirtual 297, 3) := by decide +kernel
theorem dX5_hit_5 : decode cX5_hit 5 = .ok (.aload_n 0, 1) := by decide +kernel
theorem dX5_hit_6 : decode cX5_hit 6 = .ok (.getfield 52, 3) := by decide +kernel
theorem dX5_hit_9 : decode cX5_hit 9 = .ok (.iload_n 1, 1) := by decide +kernel
theorem dX5_hit_10 : decode cX5_hit 10 = .ok (.aaload, 1) := by decide +kernel
theorem dX5_hit_11 : decode cX5_hit 11 = .ok (.astore_n 3, 1) := by decide +kernel
theorem dX5_hit_12 : decode cX5_hit 12 = .ok (.iload_n 2, 1) := by decide +kernel
theorem dX5_hit_13 : decode cX5_hit 13 = .ok (.lookupswitch 63 #[(99, 53), (104, 58), (110, 43), (111, 48)], 43) := by decide +kernel
theorem dX5_hit_56 : decode cX5_hit 56 = .ok (.aload_n 3, 1) := by decide +kernel
theorem dX5_hit_57 : decode cX5_hit 57 = .ok (.getfield 300, 3) := by decide +kernel
theorem dX5_hit_60 : decode cX5_hit 60 = .ok (.ireturn, 1) := by decide +kernel
theorem dX5_hit_61 : decode cX5_hit 61 = .ok (.aload_n 3, 1) := by decide +kernel
theorem dX5_hit_62 : decode cX5_hit 62 = .ok (.getfield 303, 3) := by decide +kernel
theorem dX5_hit_65 : decode cX5_hit 65 = .ok (.ireturn, 1) := by decide +kernel
theorem dX5_hit_66 : decode cX5_hit 66 = .ok (.aload_n 3, 1) := by decide +kernel
theorem dX5_hit_67 : decode cX5_hit 67 = .ok (.getfield 306, 3) := by decide +kernel
theorem dX5_hit_70 : decode cX5_hit 70 = .ok (.ireturn, 1) := by decide +kernel
theorem dX5_hit_71 : decode cX5_hit 71 = .ok (.aload_n 3, 1) := by decide +kernel
theorem dX5_hit_72 : decode cX5_hit 72 = .ok (.getfield 309, 3) := by decide +kernel
theorem dX5_hit_75 : decode cX5_hit 75 = .ok (.ireturn, 1) := by decide +kernel
theorem dX5_hit_76 : decode cX5_hit 76 = .ok (.new 210, 3) := by decide +kernel
theorem dX5_hit_79 : decode cX5_hit 79 = .ok (.dup, 1) := by decide +kernel
theorem dX5_hit_80 : decode cX5_hit 80 = .ok (.ldc 212, 2) := by decide +kernel
theorem dX5_hit_82 : decode cX5_hit 82 = .ok (.invokespecial 214, 3) := by decide +kernel
theorem dX5_hit_85 : decode cX5_hit 85 = .ok (.athrow, 1) := by decide +kernel
set_option maxRecDepth 20000 in
theorem ggX5_hear_X5_needHit : GoodIn wsX5_hear wsX5_needHit := goodIn_ca (goodIn_r _ [9, 10, 11, 12, 28, 29, 30, 31, 32, 33, 34, 35, 36, 37, 38, 39, 40, 41, 42, 43, 44] (by decide +kernel) (by decide +kernel)) (goodIn_sub (fun _ h => List.mem_cons_of_mem _ (List.mem_append_left _ (List.mem_append_right _ h))) (by decide +kernel))
set_option maxRecDepth 20000 in
theorem gX5_hear_X5_needHit : GoodIn wsX5_hear (wsV RX5 297 RX5 yX5_needHit wsX5_needHit) := goodIn_app (goodIn_of _ (by decide +kernel)) ggX5_hear_X5_needHit
set_option maxRecDepth 20000 in
theorem ggX5_hear_X5_needRange : GoodIn wsX5_hear wsX5_needRange := goodIn_ca (goodIn_r _ [15, 16, 17] (by decide +kernel) (by decide +kernel)) (goodIn_sub (fun _ h => List.mem_cons_of_mem _ (List.mem_append_right _ h)) (by decide +kernel))
set_option maxRecDepth 20000 in
theorem gX5_hear_X5_needRange : GoodIn wsX5_hear (va_wsS RX5 63 yX5_needRange wsX5_needRange) := goodIn_app (goodIn_of _ (by decide +kernel)) ggX5_hear_X5_needRange
set_option maxRecDepth 20000 in
theorem ggX5_hear_X1_isOpen : GoodIn wsX5_hear wsX1_isOpen := goodIn_r _ [22, 23, 45, 46, 47, 48] (by decide +kernel) (by decide +kernel)
set_option maxRecDepth 20000 in
theorem gX5_hear_X1_isOpen : GoodIn wsX5_hear (wsV RX5 312 RX1 yX1_isOpen wsX1_isOpen) := goodIn_app (goodIn_of _ (by decide +kernel)) ggX5_hear_X1_isOpen
set_option maxRecDepth 20000 in
theorem ggX5_hear_X5_countOpenHits : GoodIn wsX5_hear wsX5_countOpenHits := goodIn_r _ [27, 12, 3, 18, 19, 20, 21, 22, 23, 28, 29, 30, 31, 32, 33, 34, 35, 36, 37, 38, 39, 40, 41, 42, 43, 44, 45, 46, 47, 48] (by decide +kernel) (by decide +kernel)
set_option maxRecDepth 20000 in
theorem gX5_hear_X5_countOpenHits : GoodIn wsX5_hear (wsV RX5 317 RX5 yX5_countOpenHits wsX5_countOpenHits) := goodIn_app (goodIn_of _ (by decide +kernel)) ggX5_hear_X5_countOpenHits
theorem dX5_hear_0 : decode cX5_hear 0 = .ok (.aload_n 0, 1) := by decide +kernel
theorem dX5_hear_1 : decode cX5_hear 1 = .ok (.iload_n 1, 1) := by decide +kernel
theorem dX5_hear_2 : decode cX5_hear 2 = .ok (.invokevirtual 297, 3) := by decide +kernel
theorem dX5_hear_5 : decode cX5_hear 5 = .ok (.iload_n 2, 1) := by decide +kernel
theorem dX5_hear_6 : decode cX5_hear 6 = .ok (.iconst 0, 1) := by decide +kernel
theorem dX5_hear_7 : decode cX5_hear 7 = .ok (.iconst 3, 1) := by decide +kernel
theorem dX5_hear_8 : decode cX5_hear 8 = .ok (.invokestatic 63, 3) := by decide +kernel
theorem dX5_hear_11 : decode cX5_hear 11 = .ok (.aload_n 0, 1) := by decide +kernel
theorem dX5_hear_12 : decode cX5_hear 12 = .ok (.getfield 52, 3) := by decide +kernel
theorem dX5_hear_15 : decode cX5_hear 15 = .ok (.iload_n 1, 1) := by decide +kernel
theorem dX5_hear_16 : decode cX5_hear 16 = .ok (.aaload, 1) := by decide +kernel
theorem dX5_hear_17 : decode cX5_hear 17 = .ok (.invokevirtual 312, 3) := by decide +kernel
theorem dX5_hear_20 : decode cX5_hear 20 = .ok (.ifCond .ne 14, 3) := by decide +kernel
theorem dX5_hear_23 : decode cX5_hear 23 = .ok (.new 163, 3) := by decide +kernel
theorem dX5_hear_26 : decode cX5_hear 26 = .ok (.dup, 1) := by decide +kernel
theorem dX5_hear_27 : decode cX5_hear 27 = .ok (.ldc_w 315, 3) := by decide +kernel
theorem dX5_hear_30 : decode cX5_hear 30 = .ok (.invokespecial 167, 3) := by decide +kernel
theorem dX5_hear_33 : decode cX5_hear 33 = .ok (.athrow, 1) := by decide +kernel
theorem dX5_hear_34 : decode cX5_hear 34 = .ok (.aload_n 0, 1) := by decide +kernel
theorem dX5_hear_35 : decode cX5_hear 35 = .ok (.getfield 52, 3) := by decide +kernel
theorem dX5_hear_38 : decode cX5_hear 38 = .ok (.iload_n 1, 1) := by decide +kernel
theorem dX5_hear_39 : decode cX5_hear 39 = .ok (.aaload, 1) := by decide +kernel
theorem dX5_hear_40 : decode cX5_hear 40 = .ok (.iload_n 2, 1) := by decide +kernel
theorem dX5_hear_41 : decode cX5_hear 41 = .ok (.putfield 309, 3) := by decide +kernel
theorem dX5_hear_44 : decode cX5_hear 44 = .ok (.aload_n 0, 1) := by decide +kernel
theorem dX5_hear_45 : decode cX5_hear 45 = .ok (.invokevirtual 317, 3) := by decide +kernel
theorem dX5_hear_48 : decode cX5_hear 48 = .ok (.ireturn, 1) := by decide +kernel
set_option maxRecDepth 20000 in
theorem ggX5_next_X1_isOpen : GoodIn wsX5_next wsX1_isOpen := goodIn_r _ [10, 11, 29, 30, 31, 32] (by decide +kernel) (by decide +kernel)
set_option maxRecDepth 20000 in
theorem gX5_next_X1_isOpen : GoodIn wsX5_next (wsV RX5 312 RX1 yX1_isOpen wsX1_isOpen) := goodIn_app (goodIn_of _ (by decide +kernel)) ggX5_next_X1_isOpen
theorem dX5_next_0 : decode cX5_next 0 = .ok (.iconst (-1), 1) := by decide +kernel
theorem dX5_next_1 : decode cX5_next 1 = .ok (.istore_n 1, 1) := by decide +kernel
theorem dX5_next_2 : decode cX5_next 2 = .ok (.iconst 0, 1) := by decide +kernel
theorem dX5_next_3 : decode cX5_next 3 = .ok (.istore_n 2, 1) := by decide +kernel
theorem dX5_next_4 : decode cX5_next 4 = .ok (.iconst 0, 1) := by decide +kernel
theorem dX5_next_5 : decode cX5_next 5 = .ok (.istore_n 3, 1) := by decide +kernel
theorem dX5_next_6 : decode cX5_next 6 = .ok (.iload_n 3, 1) := by decide +kernel
theorem dX5_next_7 : decode cX5_next 7 = .ok (.aload_n 0, 1) := by decide +kernel
theorem dX5_next_8 : decode cX5_next 8 = .ok (.getfield 229, 3) := by decide +kernel
theorem dX5_next_11 : decode cX5_next 11 = .ok (.if_icmp .ge 46, 3) := by decide +kernel
theorem dX5_next_14 : decode cX5_next 14 = .ok (.aload_n 0, 1) := by decide +kernel
theorem dX5_next_15 : decode cX5_next 15 = .ok (.getfield 52, 3) := by decide +kernel
theorem dX5_next_18 : decode cX5_next 18 = .ok (.iload_n 3, 1) := by decide +kernel
theorem dX5_next_19 : decode cX5_next 19 = .ok (.aaload, 1) := by decide +kernel
theorem dX5_next_20 : decode cX5_next 20 = .ok (.invokevirtual 312, 3) := by decide +kernel
theorem dX5_next_23 : decode cX5_next 23 = .ok (.ifCond .eq 28, 3) := by decide +kernel
theorem dX5_next_26 : decode cX5_next 26 = .ok (.aload_n 0, 1) := by decide +kernel
theorem dX5_next_27 : decode cX5_next 27 = .ok (.getfield 52, 3) := by decide +kernel
theorem dX5_next_30 : decode cX5_next 30 = .ok (.iload_n 3, 1) := by decide +kernel
theorem dX5_next_31 : decode cX5_next 31 = .ok (.aaload, 1) := by decide +kernel
theorem dX5_next_32 : decode cX5_next 32 = .ok (.getfield 306, 3) := by decide +kernel
theorem dX5_next_35 : decode cX5_next 35 = .ok (.iload_n 2, 1) := by decide +kernel
theorem dX5_next_36 : decode cX5_next 36 = .ok (.if_icmp .le 15, 3) := by decide +kernel
theorem dX5_next_39 : decode cX5_next 39 = .ok (.iload_n 3, 1) := by decide +kernel
theorem dX5_next_40 : decode cX5_next 40 = .ok (.istore_n 1, 1) := by decide +kernel
theorem dX5_next_41 : decode cX5_next 41 = .ok (.aload_n 0, 1) := by decide +kernel
theorem dX5_next_42 : decode cX5_next 42 = .ok (.getfield 52, 3) := by decide +kernel
theorem dX5_next_45 : decode cX5_next 45 = .ok (.iload_n 3, 1) := by decide +kernel
theorem dX5_next_46 : decode cX5_next 46 = .ok (.aaload, 1) := by decide +kernel
theorem dX5_next_47 : decode cX5_next 47 = .ok (.getfield 306, 3) := by decide +kernel
theorem dX5_next_50 : decode cX5_next 50 = .ok (.istore_n 2, 1) := by decide +kernel
theorem dX5_next_51 : decode cX5_next 51 = .ok (.iinc 3 1, 3) := by decide +kernel
theorem dX5_next_54 : decode cX5_next 54 = .ok (.goto (-48), 3) := by decide +kernel
theorem dX5_next_57 : decode cX5_next 57 = .ok (.iload_n 1, 1) := by decide +kernel
theorem dX5_next_58 : decode cX5_next 58 = .ok (.iconst (-1), 1) := by decide +kernel
theorem dX5_next_59 : decode cX5_next 59 = .ok (.if_icmp .ne 14, 3) := by decide +kernel
theorem dX5_next_62 : decode cX5_next 62 = .ok (.new 145, 3) := by decide +kernel
theorem dX5_next_65 : decode cX5_next 65 = .ok (.dup, 1) := by decide +kernel
theorem dX5_next_66 : decode cX5_next 66 = .ok (.ldc_w 320, 3) := by decide +kernel
theorem dX5_next_69 : decode cX5_next 69 = .ok (.invokespecial 149, 3) := by decide +kernel
theorem dX5_next_72 : decode cX5_next 72 = .ok (.athrow, 1) := by decide +kernel
theorem dX5_next_73 : decode cX5_next 73 = .ok (.iload_n 1, 1) := by decide +kernel
theorem dX5_next_74 : decode cX5_next 74 = .ok (.ireturn, 1) := by decide +kernel
set_option maxRecDepth 20000 in
theorem ggX5_byteSum_X5_needVersion : GoodIn wsX5_byteSum wsX5_needVersion := goodIn_ca (goodIn_r _ [7, 8, 9, 10, 28, 29, 30, 31, 32, 33, 34, 35, 36, 37, 38, 39, 40, 41, 42, 43, 44] (by decide +kernel) (by decide +kernel)) (goodIn_sub (fun _ h => List.mem_cons_of_mem _ (List.mem_append_left _ (List.mem_append_right _ h))) (by decide +kernel))
set_option maxRecDepth 20000 in
theorem gX5_byteSum_X5_needVersion : GoodIn wsX5_byteSum (wsV RX5 160 RX5 yX5_needVersion wsX5_needVersion) := goodIn_app (goodIn_of _ (by decide +kernel)) ggX5_byteSum_X5_needVersion
set_option maxRecDepth 20000 in
theorem ggX5_byteSum_X3_sumBytes : GoodIn wsX5_byteSum wsX3_sumBytes := goodIn_ca (goodIn_r _ [15, 16, 17, 18, 19, 14, 20, 21, 22, 23, 24, 25, 26, 27, 55, 56] (by decide +kernel) (by decide +kernel)) (goodIn_sub (fun _ h => List.mem_cons_of_mem _ (List.mem_append_right _ h)) (by decide +kernel))
set_option maxRecDepth 20000 in
theorem gX5_byteSum_X3_sumBytes : GoodIn wsX5_byteSum (wsV RX5 322 RX3 yX3_sumBytes wsX3_sumBytes) := goodIn_app (goodIn_of _ (by decide +kernel)) ggX5_byteSum_X3_sumBytes
theorem dX5_byteSum_0 : decode cX5_byteSum 0 = .ok (.aload_n 0, 1) := by decide +kernel
theorem dX5_byteSum_1 : decode cX5_byteSum 1 = .ok (.iload_n 1, 1) := by decide +kernel
theorem dX5_byteSum_2 : decode cX5_byteSum 2 = .ok (.invokevirtual 160, 3) := by decide +kernel
theorem dX5_byteSum_5 : decode cX5_byteSum 5 = .ok (.aload_n 0, 1) := by decide +kernel
theorem dX5_byteSum_6 : decode cX5_byteSum 6 = .ok (.getfield 31, 3) := by decide +kernel
theorem dX5_byteSum_9 : decode cX5_byteSum 9 = .ok (.iload_n 1, 1) := by decide +kernel
theorem dX5_byteSum_10 : decode cX5_byteSum 10 = .ok (.aaload, 1) := by decide +kernel
theorem dX5_byteSum_11 : decode cX5_byteSum 11 = .ok (.getfield 198, 3) := by decide +kernel
theorem dX5_byteSum_14 : decode cX5_byteSum 14 = .ok (.invokevirtual 322, 3) := by decide +kernel
theorem dX5_byteSum_17 : decode cX5_byteSum 17 = .ok (.ireturn, 1) := by decide +kernel
set_option maxRecDepth 20000 in
theorem ggX5_shortSum_X5_needVersion : GoodIn wsX5_shortSum wsX5_needVersion := goodIn_ca (goodIn_r _ [7, 8, 9, 10, 28, 29, 30, 31, 32, 33, 34, 35, 36, 37, 38, 39, 40, 41, 42, 43, 44] (by decide +kernel) (by decide +kernel)) (goodIn_sub (fun _ h => List.mem_cons_of_mem _ (List.mem_append_left _ (List.mem_append_right _ h))) (by decide +kernel))
set_option maxRecDepth 20000 in
theorem gX5_shortSum_X5_needVersion : GoodIn wsX5_shortSum (wsV RX5 160 RX5 yX5_needVersion wsX5_needVersion) := goodIn_app (goodIn_of _ (by decide +kernel)) ggX5_shortSum_X5_needVersion
set_option maxRecDepth 20000 in
theorem ggX5_shortSum_X3_sumShorts : GoodIn wsX5_shortSum wsX3_sumShorts := goodIn_ca (goodIn_r _ [15, 16, 17, 18, 19, 14, 20, 21, 22, 23, 24, 25, 26, 27, 55, 56] (by decide +kernel) (by decide +kernel)) (goodIn_sub (fun _ h => List.mem_cons_of_mem _ (List.mem_append_right _ h)) (by decide +kernel))
set_option maxRecDepth 20000 in
theorem gX5_shortSum_X3_sumShorts : GoodIn wsX5_shortSum (wsV RX5 326 RX3 yX3_sumShorts wsX3_sumShorts) := goodIn_app (goodIn_of _ (by decide +kernel)) ggX5_shortSum_X3_sumShorts
theorem dX5_shortSum_0 : decode cX5_shortSum 0 = .ok (.aload_n 0, 1) := by decide +kernel
theorem dX5_shortSum_1 : decode cX5_shortSum 1 = .ok (.iload_n 1, 1) := by decide +kernel
theorem dX5_shortSum_2 : decode cX5_shortSum 2 = .ok (.invokevirtual 160, 3) := by decide +kernel
theorem dX5_shortSum_5 : decode cX5_shortSum 5 = .ok (.aload_n 0, 1) := by decide +kernel
theorem dX5_shortSum_6 : decode cX5_shortSum 6 = .ok (.getfield 31, 3) := by decide +kernel
theorem dX5_shortSum_9 : decode cX5_shortSum 9 = .ok (.iload_n 1, 1) := by decide +kernel
theorem dX5_shortSum_10 : decode cX5_shortSum 10 = .ok (.aaload, 1) := by decide +kernel
theorem dX5_shortSum_11 : decode cX5_shortSum 11 = .ok (.getfield 198, 3) := by decide +kernel
theorem dX5_shortSum_14 : decode cX5_shortSum 14 = .ok (.invokevirtual 326, 3) := by decide +kernel
theorem dX5_shortSum_17 : decode cX5_shortSum 17 = .ok (.ireturn, 1) := by decide +kernel
set_option maxRecDepth 20000 in
theorem ggX5_packed_X5_needVersion : GoodIn wsX5_packed wsX5_needVersion := goodIn_ca (goodIn_r _ [10, 11, 12, 13, 31, 32, 33, 34, 35, 36, 37, 38, 39, 40, 41, 42, 43, 44, 45, 46, 47] (by decide +kernel) (by decide +kernel)) (goodIn_sub (fun _ h => List.mem_cons_of_mem _ (List.mem_append_left _ (List.mem_append_right _ h))) (by decide +kernel))
set_option maxRecDepth 20000 in
theorem gX5_packed_X5_needVersion : GoodIn wsX5_packed (wsV RX5 160 RX5 yX5_needVersion wsX5_needVersion) := goodIn_app (goodIn_of _ (by decide +kernel)) ggX5_packed_X5_needVersion
set_option maxRecDepth 20000 in
theorem ggX5_packed_X3_sumBytes : GoodIn wsX5_packed wsX3_sumBytes := goodIn_ca (goodIn_r _ [18, 19, 20, 21, 22, 17, 23, 24, 25, 26, 27, 28, 29, 30, 58, 59] (by decide +kernel) (by decide +kernel)) (goodIn_sub (fun _ h => List.mem_cons_of_mem _ (List.mem_append_right _ h)) (by decide +kernel))
set_option maxRecDepth 20000 in
theorem gX5_packed_X3_sumBytes : GoodIn wsX5_packed (wsV RX5 322 RX3 yX3_sumBytes wsX3_sumBytes) := goodIn_app (goodIn_of _ (by decide +kernel)) ggX5_packed_X3_sumBytes
theorem dX5_packed_0 : decode cX5_packed 0 = .ok (.aload_n 0, 1) := by decide +kernel
theorem dX5_packed_1 : decode cX5_packed 1 = .ok (.iload_n 1, 1) := by decide +kernel
theorem dX5_packed_2 : decode cX5_packed 2 = .ok (.invokevirtual 160, 3) := by decide +kernel
theorem dX5_packed_5 : decode cX5_packed 5 = .ok (.aload_n 0, 1) := by decide +kernel
theorem dX5_packed_6 : decode cX5_packed 6 = .ok (.getfield 31, 3) := by decide +kernel
theorem dX5_packed_9 : decode cX5_packed 9 = .ok (.iload_n 1, 1) := by decide +kernel
theorem dX5_packed_10 : decode cX5_packed 10 = .ok (.aaload, 1) := by decide +kernel
theorem dX5_packed_11 : decode cX5_packed 11 = .ok (.astore_n 2, 1) := by decide +kernel
theorem dX5_packed_12 : decode cX5_packed 12 = .ok (.aload_n 2, 1) := by decide +kernel
theorem dX5_packed_13 : decode cX5_packed 13 = .ok (.getfield 198, 3) := by decide +kernel
theorem dX5_packed_16 : decode cX5_packed 16 = .ok (.invokevirtual 322, 3) := by decide +kernel
theorem dX5_packed_19 : decode cX5_packed 19 = .ok (.sipush 255, 3) := by decide +kernel
theorem dX5_packed_22 : decode cX5_packed 22 = .ok (.iand, 1) := by decide +kernel
theorem dX5_packed_23 : decode cX5_packed 23 = .ok (.i2l, 1) := by decide +kernel
theorem dX5_packed_24 : decode cX5_packed 24 = .ok (.lstore_n 3, 1) := by decide +kernel
theorem dX5_packed_25 : decode cX5_packed 25 = .ok (.iload_n 1, 1) := by decide +kernel
theorem dX5_packed_26 : decode cX5_packed 26 = .ok (.i2l, 1) := by decide +kernel
theorem dX5_packed_27 : decode cX5_packed 27 = .ok (.bipush 48, 2) := by decide +kernel
theorem dX5_packed_29 : decode cX5_packed 29 = .ok (.lshl, 1) := by decide +kernel
theorem dX5_packed_30 : decode cX5_packed 30 = .ok (.lload_n 3, 1) := by decide +kernel
theorem dX5_packed_31 : decode cX5_packed 31 = .ok (.bipush 40, 2) := by decide +kernel
theorem dX5_packed_33 : decode cX5_packed 33 = .ok (.lshl, 1) := by decide +kernel
theorem dX5_packed_34 : decode cX5_packed 34 = .ok (.lor, 1) := by decide +kernel
theorem dX5_packed_35 : decode cX5_packed 35 = .ok (.aload_n 2, 1) := by decide +kernel
theorem dX5_packed_36 : decode cX5_packed 36 = .ok (.getfield 179, 3) := by decide +kernel
theorem dX5_packed_39 : decode cX5_packed 39 = .ok (.i2l, 1) := by decide +kernel
theorem dX5_packed_40 : decode cX5_packed 40 = .ok (.bipush 36, 2) := by decide +kernel
theorem dX5_packed_42 : decode cX5_packed 42 = .ok (.lshl, 1) := by decide +kernel
theorem dX5_packed_43 : decode cX5_packed 43 = .ok (.lor, 1) := by decide +kernel
theorem dX5_packed_44 : decode cX5_packed 44 = .ok (.aload_n 2, 1) := by decide +kernel
theorem dX5_packed_45 : decode cX5_packed 45 = .ok (.getfield 182, 3) := by decide +kernel
theorem dX5_packed_48 : decode cX5_packed 48 = .ok (.i2l, 1) := by decide +kernel
theorem dX5_packed_49 : decode cX5_packed 49 = .ok (.bipush 32, 2) := by decide +kernel
theorem dX5_packed_51 : decode cX5_packed 51 = .ok (.lshl, 1) := by decide +kernel
theorem dX5_packed_52 : decode cX5_packed 52 = .ok (.lor, 1) := by decide +kernel
theorem dX5_packed_53 : decode cX5_packed 53 = .ok (.aload_n 2, 1) := by decide +kernel
theorem dX5_packed_54 : decode cX5_packed 54 = .ok (.getfield 188, 3) := by decide +kernel
theorem dX5_packed_57 : decode cX5_packed 57 = .ok (.i2l, 1) := by decide +kernel
theorem dX5_packed_58 : decode cX5_packed 58 = .ok (.lor, 1) := by decide +kernel
theorem dX5_packed_59 : decode cX5_packed 59 = .ok (.lreturn, 1) := by decide +kernel
set_option maxRecDepth 20000 in
theorem ggX5_inShare_X4_isThere : GoodIn wsX5_inShare wsX4_isThere := goodIn_r _ [9, 10, 11, 29, 30, 31, 32, 33, 34, 35, 36, 37, 38] (by decide +kernel) (by decide +kernel)
set_option maxRecDepth 20000 in
theorem gX5_inShare_X4_isThere : GoodIn wsX5_inShare (wsV RX5 246 RX4 yX4_isThere wsX4_isThere) := goodIn_app (goodIn_of _ (by decide +kernel)) ggX5_inShare_X4_isThere
theorem dX5_inShare_0 : decode cX5_inShare 0 = .ok (.aload_n 0, 1) := by decide +kernel
theorem dX5_inShare_1 : decode cX5_inShare 1 = .ok (.getfield 174, 3) := by decide +kernel
theorem dX5_inShare_4 : decode cX5_inShare 4 = .ok (.ifCond .ne 14, 3) := by decide +kernel
theorem dX5_inShare_7 : decode cX5_inShare 7 = .ok (.new 330, 3) := by decide +kernel
theorem dX5_inShare_10 : decode cX5_inShare 10 = .ok (.dup, 1) := by decide +kernel
theorem dX5_inShare_11 : decode cX5_inShare 11 = .ok (.ldc_w 332, 3) := by decide +kernel
theorem dX5_inShare_14 : decode cX5_inShare 14 = .ok (.invokespecial 334, 3) := by decide +kernel
theorem dX5_inShare_17 : decode cX5_inShare 17 = .ok (.athrow, 1) := by decide +kernel
theorem dX5_inShare_18 : decode cX5_inShare 18 = .ok (.iconst 0, 1) := by decide +kernel
theorem dX5_inShare_19 : decode cX5_inShare 19 = .ok (.istore_n 1, 1) := by decide +kernel
theorem dX5_inShare_20 : decode cX5_inShare 20 = .ok (.iconst 0, 1) := by decide +kernel
theorem dX5_inShare_21 : decode cX5_inShare 21 = .ok (.istore_n 2, 1) := by decide +kernel
theorem dX5_inShare_22 : decode cX5_inShare 22 = .ok (.iload_n 2, 1) := by decide +kernel
theorem dX5_inShare_23 : decode cX5_inShare 23 = .ok (.aload_n 0, 1) := by decide +kernel
theorem dX5_inShare_24 : decode cX5_inShare 24 = .ok (.getfield 174, 3) := by decide +kernel
theorem dX5_inShare_27 : decode cX5_inShare 27 = .ok (.if_icmp .ge 24, 3) := by decide +kernel
theorem dX5_inShare_30 : decode cX5_inShare 30 = .ok (.aload_n 0, 1) := by decide +kernel
theorem dX5_inShare_31 : decode cX5_inShare 31 = .ok (.getfield 31, 3) := by decide +kernel
theorem dX5_inShare_34 : decode cX5_inShare 34 = .ok (.iload_n 2, 1) := by decide +kernel
theorem dX5_inShare_35 : decode cX5_inShare 35 = .ok (.aaload, 1) := by decide +kernel
theorem dX5_inShare_36 : decode cX5_inShare 36 = .ok (.invokevirtual 246, 3) := by decide +kernel
theorem dX5_inShare_39 : decode cX5_inShare 39 = .ok (.ifCond .eq 6, 3) := by decide +kernel
theorem dX5_inShare_42 : decode cX5_inShare 42 = .ok (.iinc 1 1, 3) := by decide +kernel
theorem dX5_inShare_45 : decode cX5_inShare 45 = .ok (.iinc 2 1, 3) := by decide +kernel
theorem dX5_inShare_48 : decode cX5_inShare 48 = .ok (.goto (-26), 3) := by decide +kernel
theorem dX5_inShare_51 : decode cX5_inShare 51 = .ok (.iload_n 1, 1) := by decide +kernel
theorem dX5_inShare_52 : decode cX5_inShare 52 = .ok (.i2f, 1) := by decide +kernel
theorem dX5_inShare_53 : decode cX5_inShare 53 = .ok (.aload_n 0, 1) := by decide +kernel
theorem dX5_inShare_54 : decode cX5_inShare 54 = .ok (.getfield 174, 3) := by decide +kernel
theorem dX5_inShare_57 : decode cX5_inShare 57 = .ok (.i2f, 1) := by decide +kernel
theorem dX5_inShare_58 : decode cX5_inShare 58 = .ok (.fdiv, 1) := by decide +kernel
theorem dX5_inShare_59 : decode cX5_inShare 59 = .ok (.freturn, 1) := by decide +kernel
set_option maxRecDepth 20000 in
theorem ggX5_meanMark_X5_hasOpenHit : GoodIn wsX5_meanMark wsX5_hasOpenHit := goodIn_r _ [12, 13, 14, 15, 16, 17, 18, 19, 20, 21, 22, 23, 24, 25, 26, 27, 28, 29, 30, 95, 96, 97, 98, 99, 100, 101, 102, 103, 104, 105, 106, 107, 108, 109, 110, 111, 117, 118, 119, 120, 121, 122, 123, 124, 125, 126, 127, 128, 129, 130] (by decide +kernel) (by decide +kernel)
set_option maxRecDepth 20000 in
theorem gX5_meanMark_X5_hasOpenHit : GoodIn wsX5_meanMark (wsV RX5 277 RX5 yX5_hasOpenHit wsX5_hasOpenHit) := goodIn_app (goodIn_of _ (by decide +kernel)) ggX5_meanMark_X5_hasOpenHit
set_option maxRecDepth 20000 in
theorem ggX5_meanMark_X5_makeMark : GoodIn wsX5_meanMark wsX5_makeMark := goodIn_ca (goodIn_r _ [34, 15, 5, 35, 36, 37, 38, 39, 40, 41, 42, 43, 11, 44, 45, 46, 24, 25, 26, 27, 28, 29, 30, 47, 48, 49, 50, 51, 52, 53, 54, 55, 56, 13, 14, 16, 17, 57, 58, 59, 21, 60, 23, 61, 19, 20, 22, 62, 63, 64, 65, 66, 67, 68, 69, 70, 71, 72, 73, 74, 75, 76, 77, 78, 6, 79, 80, 81, 82, 83, 84, 85, 86, 87, 88, 89, 90, 91, 92, 93, 94, 95, 96, 97, 98, 99, 100, 101, 102, 103, 104, 105, 106, 107, 108, 109, 110, 111, 112, 113, 114, 115, 116, 121, 122, 123, 124, 125, 126, 127, 128, 129, 130, 117, 118, 119, 120, 131, 132, 133] (by decide +kernel) (by decide +kernel)) (goodIn_sub (fun _ h => List.mem_cons_of_mem _ (List.mem_append_left _ (List.mem_append_right _ h))) (by decide +kernel))
set_option maxRecDepth 20000 in
theorem gX5_meanMark_X5_makeMark : GoodIn wsX5_meanMark (wsV RX5 282 RX5 yX5_makeMark wsX5_makeMark) := goodIn_app (goodIn_of _ (by decide +kernel)) ggX5_meanMark_X5_makeMark
theorem dX5_meanMark_0 : decode cX5_meanMark 0 = .ok (.iconst 0, 1) := by decide +kernel
theorem dX5_meanMark_1 : decode cX5_meanMark 1 = .ok (.istore_n 1, 1) := by decide +kernel
theorem dX5_meanMark_2 : decode cX5_meanMark 2 = .ok (.iconst 0, 1) := by decide +kernel
theorem dX5_meanMark_3 : decode cX5_meanMark 3 = .ok (.istore_n 2, 1) := by decide +kernel
theorem dX5_meanMark_4 : decode cX5_meanMark 4 = .ok (.iconst 0, 1) := by decide +kernel
theorem dX5_meanMark_5 : decode cX5_meanMark 5 = .ok (.istore_n 3, 1) := by decide +kernel
theorem dX5_meanMark_6 : decode cX5_meanMark 6 = .ok (.iload_n 3, 1) := by decide +kernel
theorem dX5_meanMark_7 : decode cX5_meanMark 7 = .ok (.aload_n 0, 1) := by decide +kernel
theorem dX5_meanMark_8 : decode cX5_meanMark 8 = .ok (.getfield 80, 3) := by decide +kernel
theorem dX5_meanMark_11 : decode cX5_meanMark 11 = .ok (.if_icmp .ge 69, 3) := by decide +kernel
theorem dX5_meanMark_14 : decode cX5_meanMark 14 = .ok (.iconst 0, 1) := by decide +kernel
theorem dX5_meanMark_15 : decode cX5_meanMark 15 = .ok (.istore 4, 2) := by decide +kernel
theorem dX5_meanMark_17 : decode cX5_meanMark 17 = .ok (.iload 4, 2) := by decide +kernel
theorem dX5_meanMark_19 : decode cX5_meanMark 19 = .ok (.aload_n 0, 1) := by decide +kernel
theorem dX5_meanMark_20 : decode cX5_meanMark 20 = .ok (.getfield 90, 3) := by decide +kernel
theorem dX5_meanMark_23 : decode cX5_meanMark 23 = .ok (.if_icmp .ge 51, 3) := by decide +kernel
theorem dX5_meanMark_26 : decode cX5_meanMark 26 = .ok (.aload_n 0, 1) := by decide +kernel
theorem dX5_meanMark_27 : decode cX5_meanMark 27 = .ok (.getfield 18, 3) := by decide +kernel
theorem dX5_meanMark_30 : decode cX5_meanMark 30 = .ok (.iload 4, 2) := by decide +kernel
theorem dX5_meanMark_32 : decode cX5_meanMark 32 = .ok (.aaload, 1) := by decide +kernel
theorem dX5_meanMark_33 : decode cX5_meanMark 33 = .ok (.getfield 95, 3) := by decide +kernel
theorem dX5_meanMark_36 : decode cX5_meanMark 36 = .ok (.aload_n 0, 1) := by decide +kernel
theorem dX5_meanMark_37 : decode cX5_meanMark 37 = .ok (.getfield 13, 3) := by decide +kernel
theorem dX5_meanMark_40 : decode cX5_meanMark 40 = .ok (.iload_n 3, 1) := by decide +kernel
theorem dX5_meanMark_41 : decode cX5_meanMark 41 = .ok (.iaload, 1) := by decide +kernel
theorem dX5_meanMark_42 : decode cX5_meanMark 42 = .ok (.if_icmp .ne 26, 3) := by decide +kernel
theorem dX5_meanMark_45 : decode cX5_meanMark 45 = .ok (.aload_n 0, 1) := by decide +kernel
theorem dX5_meanMark_46 : decode cX5_meanMark 46 = .ok (.iload_n 3, 1) := by decide +kernel
theorem dX5_meanMark_47 : decode cX5_meanMark 47 = .ok (.iload 4, 2) := by decide +kernel
theorem dX5_meanMark_49 : decode cX5_meanMark 49 = .ok (.invokevirtual 277, 3) := by decide +kernel
theorem dX5_meanMark_52 : decode cX5_meanMark 52 = .ok (.ifCond .ne 16, 3) := by decide +kernel
theorem dX5_meanMark_55 : decode cX5_meanMark 55 = .ok (.iload_n 1, 1) := by decide +kernel
theorem dX5_meanMark_56 : decode cX5_meanMark 56 = .ok (.aload_n 0, 1) := by decide +kernel
theorem dX5_meanMark_57 : decode cX5_meanMark 57 = .ok (.iload_n 3, 1) := by decide +kernel
theorem dX5_meanMark_58 : decode cX5_meanMark 58 = .ok (.iload 4, 2) := by decide +kernel
theorem dX5_meanMark_60 : decode cX5_meanMark 60 = .ok (.invokevirtual 282, 3) := by decide +kernel
theorem dX5_meanMark_63 : decode cX5_meanMark 63 = .ok (.iadd, 1) := by decide +kernel
theorem dX5_meanMark_64 : decode cX5_meanMark 64 = .ok (.istore_n 1, 1) := by decide +kernel
theorem dX5_meanMark_65 : decode cX5_meanMark 65 = .ok (.iinc 2 1, 3) := by decide +kernel
theorem dX5_meanMark_68 : decode cX5_meanMark 68 = .ok (.iinc 4 1, 3) := by decide +kernel
theorem dX5_meanMark_71 : decode cX5_meanMark 71 = .ok (.goto (-54), 3) := by decide +kernel
theorem dX5_meanMark_74 : decode cX5_meanMark 74 = .ok (.iinc 3 1, 3) := by decide +kernel
theorem dX5_meanMark_77 : decode cX5_meanMark 77 = .ok (.goto (-71), 3) := by decide +kernel
theorem dX5_meanMark_80 : decode cX5_meanMark 80 = .ok (.iload_n 2, 1) := by decide +kernel
theorem dX5_meanMark_81 : decode cX5_meanMark 81 = .ok (.ifCond .ne 14, 3) := by decide +kernel
theorem dX5_meanMark_84 : decode cX5_meanMark 84 = .ok (.new 330, 3) := by decide +kernel
theorem dX5_meanMark_87 : decode cX5_meanMark 87 = .ok (.dup, 1) := by decide +kernel
theorem dX5_meanMark_88 : decode cX5_meanMark 88 = .ok (.ldc_w 335, 3) := by decide +kernel
theorem dX5_meanMark_91 : decode cX5_meanMark 91 = .ok (.invokespecial 334, 3) := by decide +kernel
theorem dX5_meanMark_94 : decode cX5_meanMark 94 = .ok (.athrow, 1) := by decide +kernel
theorem dX5_meanMark_95 : decode cX5_meanMark 95 = .ok (.iload_n 1, 1) := by decide +kernel
theorem dX5_meanMark_96 : decode cX5_meanMark 96 = .ok (.i2d, 1) := by decide +kernel
theorem dX5_meanMark_97 : decode cX5_meanMark 97 = .ok (.iload_n 2, 1) := by decide +kernel
theorem dX5_meanMark_98 : decode cX5_meanMark 98 = .ok (.i2d, 1) := by decide +kernel
theorem dX5_meanMark_99 : decode cX5_meanMark 99 = .ok (.ddiv, 1) := by decide +kernel
theorem dX5_meanMark_100 : decode cX5_meanMark 100 = .ok (.dreturn, 1) := by decide +kernel
set_option maxRecDepth 20000 in
theorem ggX5_isTrue_X5_isIndexRight : GoodIn wsX5_isTrue wsX5_isIndexRight := goodIn_ca (goodIn_r _ [5, 6, 7, 8, 9, 10, 11, 12, 13, 14, 15, 16, 17, 18, 19, 20, 21, 22, 23, 24, 25, 26, 27, 28, 29, 30, 31, 32, 33, 34, 35, 36, 37, 38, 39, 40, 41, 42, 43, 44, 45, 46, 47, 48, 49, 50, 51, 52, 53, 77, 78, 79, 80, 81, 82, 83, 84, 85, 86, 87, 88, 89, 90, 91, 92, 93, 94, 95, 96, 97, 98, 99, 100, 101, 102, 103, 104, 105, 106, 107, 108] (by decide +kernel) (by decide +kernel)) (goodIn_sub (fun _ h => List.mem_cons_of_mem _ (List.mem_append_right _ h)) (by decide +kernel))
set_option maxRecDepth 20000 in
theorem gX5_isTrue_X5_isIndexRight : GoodIn wsX5_isTrue (wsV RX5 337 RX5 yX5_isIndexRight wsX5_isIndexRight) := goodIn_app (goodIn_of _ (by decide +kernel)) ggX5_isTrue_X5_isIndexRight
set_option maxRecDepth 20000 in
theorem ggX5_isTrue_X5_areCountingRight : GoodIn wsX5_isTrue wsX5_areCountingRight := goodIn_r _ [57, 58, 59, 9, 60, 61, 62, 63, 4, 64, 8, 65, 66, 67, 68, 16, 69, 70, 71, 13, 14, 15, 17, 18, 19, 77, 78, 79, 80, 81, 82, 83, 84, 85, 86, 87, 88, 89, 90, 91, 92, 93, 97, 98, 99, 100, 101, 102, 103, 104, 105, 106] (by decide +kernel) (by decide +kernel)
set_option maxRecDepth 20000 in
theorem gX5_isTrue_X5_areCountingRight : GoodIn wsX5_isTrue (wsV RX5 340 RX5 yX5_areCountingRight wsX5_areCountingRight) := goodIn_app (goodIn_of _ (by decide +kernel)) ggX5_isTrue_X5_areCountingRight
set_option maxRecDepth 20000 in
theorem ggX5_isTrue_X5_areMarksRight : GoodIn wsX5_isTrue wsX5_areMarksRight := goodIn_ca (goodIn_r _ [75, 8, 9, 10, 11, 76, 20, 21, 22, 23, 24, 25, 26, 27, 28, 29, 30, 31, 32, 33, 34, 35, 36, 37, 38, 39, 40, 41, 42, 43, 44, 50, 51, 52, 53, 77, 78, 79, 80, 81, 82, 83, 84, 85, 86, 87, 88, 89, 90, 91, 92, 93, 97, 98, 99, 100, 101, 102, 103, 104, 105, 106, 94, 95, 96, 107, 108] (by decide +kernel) (by decide +kernel)) (goodIn_sub (fun _ h => List.mem_cons_of_mem _ (List.mem_append_right _ h)) (by decide +kernel))
set_option maxRecDepth 20000 in
theorem gX5_isTrue_X5_areMarksRight : GoodIn wsX5_isTrue (wsV RX5 343 RX5 yX5_areMarksRight wsX5_areMarksRight) := goodIn_app (goodIn_of _ (by decide +kernel)) ggX5_isTrue_X5_areMarksRight
theorem dX5_isTrue_0 : decode cX5_isTrue 0 = .ok (.aload_n 0, 1) := by decide +kernel
theorem dX5_isTrue_1 : decode cX5_isTrue 1 = .ok (.invokevirtual 337, 3) := by decide +kernel
theorem dX5_isTrue_4 : decode cX5_isTrue 4 = .ok (.ifCond .eq 21, 3) := by decide +kernel
theorem dX5_isTrue_7 : decode cX5_isTrue 7 = .ok (.aload_n 0, 1) := by decide +kernel
theorem dX5_isTrue_8 : decode cX5_isTrue 8 = .ok (.invokevirtual 340, 3) := by decide +kernel
theorem dX5_isTrue_11 : decode cX5_isTrue 11 = .ok (.ifCond .eq 14, 3) := by decide +kernel
theorem dX5_isTrue_14 : decode cX5_isTrue 14 = .ok (.aload_n 0, 1) := by decide +kernel
theorem dX5_isTrue_15 : decode cX5_isTrue 15 = .ok (.invokevirtual 343, 3) := by decide +kernel
theorem dX5_isTrue_18 : decode cX5_isTrue 18 = .ok (.ifCond .eq 7, 3) := by decide +kernel
theorem dX5_isTrue_21 : decode cX5_isTrue 21 = .ok (.iconst 1, 1) := by decide +kernel
theorem dX5_isTrue_22 : decode cX5_isTrue 22 = .ok (.goto 4, 3) := by decide +kernel
theorem dX5_isTrue_25 : decode cX5_isTrue 25 = .ok (.iconst 0, 1) := by decide +kernel
theorem dX5_isTrue_26 : decode cX5_isTrue 26 = .ok (.ireturn, 1) := by decide +kernel
theorem dX5_needRange_0 : decode cX5_needRange 0 = .ok (.iload_n 0, 1) := by decide +kernel
theorem dX5_needRange_1 : decode cX5_needRange 1 = .ok (.iload_n 1, 1) := by decide +kernel
theorem dX5_needRange_2 : decode cX5_needRange 2 = .ok (.if_icmp .lt 8, 3) := by decide +kernel
theorem dX5_needRange_5 : decode cX5_needRange 5 = .ok (.iload_n 0, 1) := by decide +kernel
theorem dX5_needRange_6 : decode cX5_needRange 6 = .ok (.iload_n 2, 1) := by decide +kernel
theorem dX5_needRange_7 : decode cX5_needRange 7 = .ok (.if_icmp .le 14, 3) := by decide +kernel
theorem dX5_needRange_10 : decode cX5_needRange 10 = .ok (.new 210, 3) := by decide +kernel
theorem dX5_needRange_13 : decode cX5_needRange 13 = .ok (.dup, 1) := by decide +kernel
theorem dX5_needRange_14 : decode cX5_needRange 14 = .ok (.ldc_w 346, 3) := by decide +kernel
theorem dX5_needRange_17 : decode cX5_needRange 17 = .ok (.invokespecial 214, 3) := by decide +kernel
theorem dX5_needRange_20 : decode cX5_needRange 20 = .ok (.athrow, 1) := by decide +kernel
theorem dX5_needRange_21 : decode cX5_needRange 21 = .ok (.return_, 1) := by decide +kernel
theorem dX5_needRule_0 : decode cX5_needRule 0 = .ok (.iload_n 0, 1) := by decide +kernel
theorem dX5_needRule_1 : decode cX5_needRule 1 = .ok (.bipush 104, 2) := by decide +kernel
theorem dX5_needRule_3 : decode cX5_needRule 3 = .ok (.if_icmp .eq 32, 3) := by decide +kernel
theorem dX5_needRule_6 : decode cX5_needRule 6 = .ok (.iload_n 0, 1) := by decide +kernel
theorem dX5_needRule_7 : decode cX5_needRule 7 = .ok (.bipush 100, 2) := by decide +kernel
theorem dX5_needRule_9 : decode cX5_needRule 9 = .ok (.if_icmp .eq 26, 3) := by decide +kernel
theorem dX5_needRule_12 : decode cX5_needRule 12 = .ok (.iload_n 0, 1) := by decide +kernel
theorem dX5_needRule_13 : decode cX5_needRule 13 = .ok (.bipush 103, 2) := by decide +kernel
theorem dX5_needRule_15 : decode cX5_needRule 15 = .ok (.if_icmp .eq 20, 3) := by decide +kernel
theorem dX5_needRule_18 : decode cX5_needRule 18 = .ok (.iload_n 0, 1) := by decide +kernel
theorem dX5_needRule_19 : decode cX5_needRule 19 = .ok (.bipush 115, 2) := by decide +kernel
theorem dX5_needRule_21 : decode cX5_needRule 21 = .ok (.if_icmp .eq 14, 3) := by decide +kernel
theorem dX5_needRule_24 : decode cX5_needRule 24 = .ok (.new 210, 3) := by decide +kernel
theorem dX5_needRule_27 : decode cX5_needRule 27 = .ok (.dup, 1) := by decide +kernel
theorem dX5_needRule_28 : decode cX5_needRule 28 = .ok (.ldc_w 348, 3) := by decide +kernel
theorem dX5_needRule_31 : decode cX5_needRule 31 = .ok (.invokespecial 214, 3) := by decide +kernel
theorem dX5_needRule_34 : decode cX5_needRule 34 = .ok (.athrow, 1) := by decide +kernel
theorem dX5_needRule_35 : decode cX5_needRule 35 = .ok (.return_, 1) := by decide +kernel
theorem dX5_needSign_0 : decode cX5_needSign 0 = .ok (.iload_n 0, 1) := by decide +kernel
theorem dX5_needSign_1 : decode cX5_needSign 1 = .ok (.bipush 97, 2) := by decide +kernel
theorem dX5_needSign_3 : decode cX5_needSign 3 = .ok (.if_icmp .lt 13, 3) := by decide +kernel
theorem dX5_needSign_6 : decode cX5_needSign 6 = .ok (.iload_n 0, 1) := by decide +kernel
theorem dX5_needSign_7 : decode cX5_needSign 7 = .ok (.bipush 122, 2) := by decide +kernel
theorem dX5_needSign_9 : decode cX5_needSign 9 = .ok (.if_icmp .gt 7, 3) := by decide +kernel
theorem dX5_needSign_12 : decode cX5_needSign 12 = .ok (.iconst 1, 1) := by decide +kernel
theorem dX5_needSign_13 : decode cX5_needSign 13 = .ok (.goto 4, 3) := by decide +kernel
theorem dX5_needSign_16 : decode cX5_needSign 16 = .ok (.iconst 0, 1) := by decide +kernel
theorem dX5_needSign_17 : decode cX5_needSign 17 = .ok (.istore_n 1, 1) := by decide +kernel
theorem dX5_needSign_18 : decode cX5_needSign 18 = .ok (.iload_n 0, 1) := by decide +kernel
theorem dX5_needSign_19 : decode cX5_needSign 19 = .ok (.ldc_w 350, 3) := by decide +kernel
theorem dX5_needSign_22 : decode cX5_needSign 22 = .ok (.if_icmp .lt 14, 3) := by decide +kernel
theorem dX5_needSign_25 : decode cX5_needSign 25 = .ok (.iload_n 0, 1) := by decide +kernel
theorem dX5_needSign_26 : decode cX5_needSign 26 = .ok (.ldc_w 351, 3) := by decide +kernel
theorem dX5_needSign_29 : decode cX5_needSign 29 = .ok (.if_icmp .gt 7, 3) := by decide +kernel
theorem dX5_needSign_32 : decode cX5_needSign 32 = .ok (.iconst 1, 1) := by decide +kernel
theorem dX5_needSign_33 : decode cX5_needSign 33 = .ok (.goto 4, 3) := by decide +kernel
theorem dX5_needSign_36 : decode cX5_needSign 36 = .ok (.iconst 0, 1) := by decide +kernel
theorem dX5_needSign_37 : decode cX5_needSign 37 = .ok (.istore_n 2, 1) := by decide +kernel
theorem dX5_needSign_38 : decode cX5_needSign 38 = .ok (.iload_n 1, 1) := by decide +kernel
theorem dX5_needSign_39 : decode cX5_needSign 39 = .ok (.ifCond .ne 24, 3) := by decide +kernel
theorem dX5_needSign_42 : decode cX5_needSign 42 = .ok (.iload_n 2, 1) := by decide +kernel
theorem dX5_needSign_43 : decode cX5_needSign 43 = .ok (.ifCond .ne 20, 3) := by decide +kernel
theorem dX5_needSign_46 : decode cX5_needSign 46 = .ok (.iload_n 0, 1) := by decide +kernel
theorem dX5_needSign_47 : decode cX5_needSign 47 = .ok (.bipush 32, 2) := by decide +kernel
theorem dX5_needSign_49 : decode cX5_needSign 49 = .ok (.if_icmp .eq 14, 3) := by decide +kernel
theorem dX5_needSign_52 : decode cX5_needSign 52 = .ok (.new 210, 3) := by decide +kernel
theorem dX5_needSign_55 : decode cX5_needSign 55 = .ok (.dup, 1) := by decide +kernel
theorem dX5_needSign_56 : decode cX5_needSign 56 = .ok (.ldc_w 352, 3) := by decide +kernel
theorem dX5_needSign_59 : decode cX5_needSign 59 = .ok (.invokespecial 214, 3) := by decide +kernel
theorem dX5_needSign_62 : decode cX5_needSign 62 = .ok (.athrow, 1) := by decide +kernel
theorem dX5_needSign_63 : decode cX5_needSign 63 = .ok (.return_, 1) := by decide +kernel
theorem dX5_needRoomForSign_0 : decode cX5_needRoomForSign 0 = .ok (.aload_n 0, 1) := by decide +kernel
theorem dX5_needRoomForSign_1 : decode cX5_needRoomForSign 1 = .ok (.getfield 25, 3) := by decide +kernel
theorem dX5_needRoomForSign_4 : decode cX5_needRoomForSign 4 = .ok (.getfield 123, 3) := by decide +kernel
theorem dX5_needRoomForSign_7 : decode cX5_needRoomForSign 7 = .ok (.bipush 40, 2) := by decide +kernel
theorem dX5_needRoomForSign_9 : decode cX5_needRoomForSign 9 = .ok (.if_icmp .lt 14, 3) := by decide +kernel
theorem dX5_needRoomForSign_12 : decode cX5_needRoomForSign 12 = .ok (.new 70, 3) := by decide +kernel
theorem dX5_needRoomForSign_15 : decode cX5_needRoomForSign 15 = .ok (.dup, 1) := by decide +kernel
theorem dX5_needRoomForSign_16 : decode cX5_needRoomForSign 16 = .ok (.ldc_w 354, 3) := by decide +kernel
theorem dX5_needRoomForSign_19 : decode cX5_needRoomForSign 19 = .ok (.invokespecial 74, 3) := by decide +kernel
theorem dX5_needRoomForSign_22 : decode cX5_needRoomForSign 22 = .ok (.athrow, 1) := by decide +kernel
theorem dX5_needRoomForSign_23 : decode cX5_needRoomForSign 23 = .ok (.return_, 1) := by decide +kernel
theorem dX5_needClass_0 : decode cX5_needClass 0 = .ok (.iload_n 1, 1) := by decide +kernel
theorem dX5_needClass_1 : decode cX5_needClass 1 = .ok (.ifCond .lt 11, 3) := by decide +kernel
theorem dX5_needClass_4 : decode cX5_needClass 4 = .ok (.iload_n 1, 1) := by decide +kernel
theorem dX5_needClass_5 : decode cX5_needClass 5 = .ok (.aload_n 0, 1) := by decide +kernel
theorem dX5_needClass_6 : decode cX5_needClass 6 = .ok (.getfield 67, 3) := by decide +kernel
theorem dX5_needClass_9 : decode cX5_needClass 9 = .ok (.if_icmp .lt 14, 3) := by decide +kernel
theorem dX5_needClass_12 : decode cX5_needClass 12 = .ok (.new 130, 3) := by decide +kernel
theorem dX5_needClass_15 : decode cX5_needClass 15 = .ok (.dup, 1) := by decide +kernel
theorem dX5_needClass_16 : decode cX5_needClass 16 = .ok (.ldc_w 356, 3) := by decide +kernel
theorem dX5_needClass_19 : decode cX5_needClass 19 = .ok (.invokespecial 134, 3) := by decide +kernel
theorem dX5_needClass_22 : decode cX5_needClass 22 = .ok (.athrow, 1) := by decide +kernel
theorem dX5_needClass_23 : decode cX5_needClass 23 = .ok (.return_, 1) := by decide +kernel
theorem dX5_needPupil_0 : decode cX5_needPupil 0 = .ok (.iload_n 1, 1) := by decide +kernel
theorem dX5_needPupil_1 : decode cX5_needPupil 1 = .ok (.ifCond .lt 11, 3) := by decide +kernel
theorem dX5_needPupil_4 : decode cX5_needPupil 4 = .ok (.iload_n 1, 1) := by decide +kernel
theorem dX5_needPupil_5 : decode cX5_needPupil 5 = .ok (.aload_n 0, 1) := by decide +kernel
theorem dX5_needPupil_6 : decode cX5_needPupil 6 = .ok (.getfield 80, 3) := by decide +kernel
theorem dX5_needPupil_9 : decode cX5_needPupil 9 = .ok (.if_icmp .lt 14, 3) := by decide +kernel
theorem dX5_needPupil_12 : decode cX5_needPupil 12 = .ok (.new 130, 3) := by decide +kernel
theorem dX5_needPupil_15 : decode cX5_needPupil 15 = .ok (.dup, 1) := by decide +kernel
theorem dX5_needPupil_16 : decode cX5_needPupil 16 = .ok (.ldc_w 358, 3) := by decide +kernel
theorem dX5_needPupil_19 : decode cX5_needPupil 19 = .ok (.invokespecial 134, 3) := by decide +kernel
theorem dX5_needPupil_22 : decode cX5_needPupil 22 = .ok (.athrow, 1) := by decide +kernel
theorem dX5_needPupil_23 : decode cX5_needPupil 23 = .ok (.return_, 1) := by decide +kernel
theorem dX5_needTask_0 : decode cX5_needTask 0 = .ok (.iload_n 1, 1) := by decide +kernel
theorem dX5_needTask_1 : decode cX5_needTask 1 = .ok (.ifCond .lt 11, 3) := by decide +kernel
theorem dX5_needTask_4 : decode cX5_needTask 4 = .ok (.iload_n 1, 1) := by decide +kernel
theorem dX5_needTask_5 : decode cX5_needTask 5 = .ok (.aload_n 0, 1) := by decide +kernel
theorem dX5_needTask_6 : decode cX5_needTask 6 = .ok (.getfield 90, 3) := by decide +kernel
theorem dX5_needTask_9 : decode cX5_needTask 9 = .ok (.if_icmp .lt 14, 3) := by decide +kernel
theorem dX5_needTask_12 : decode cX5_needTask 12 = .ok (.new 130, 3) := by decide +kernel
theorem dX5_needTask_15 : decode cX5_needTask 15 = .ok (.dup, 1) := by decide +kernel
theorem dX5_needTask_16 : decode cX5_needTask 16 = .ok (.ldc_w 360, 3) := by decide +kernel
theorem dX5_needTask_19 : decode cX5_needTask 19 = .ok (.invokespecial 134, 3) := by decide +kernel
theorem dX5_needTask_22 : decode cX5_needTask 22 = .ok (.athrow, 1) := by decide +kernel
theorem dX5_needTask_23 : decode cX5_needTask 23 = .ok (.return_, 1) := by decide +kernel
theorem dX5_needVersion_0 : decode cX5_needVersion 0 = .ok (.iload_n 1, 1) := by decide +kernel
theorem dX5_needVersion_1 : decode cX5_needVersion 1 = .ok (.ifCond .lt 11, 3) := by decide +kernel
theorem dX5_needVersion_4 : decode cX5_needVersion 4 = .ok (.iload_n 1, 1) := by decide +kernel
theorem dX5_needVersion_5 : decode cX5_needVersion 5 = .ok (.aload_n 0, 1) := by decide +kernel
theorem dX5_needVersion_6 : decode cX5_needVersion 6 = .ok (.getfield 174, 3) := by decide +kernel
theorem dX5_needVersion_9 : decode cX5_needVersion 9 = .ok (.if_icmp .lt 14, 3) := by decide +kernel
theorem dX5_needVersion_12 : decode cX5_needVersion 12 = .ok (.new 130, 3) := by decide +kernel
theorem dX5_needVersion_15 : decode cX5_needVersion 15 = .ok (.dup, 1) := by decide +kernel
theorem dX5_needVersion_16 : decode cX5_needVersion 16 = .ok (.ldc_w 362, 3) := by decide +kernel
theorem dX5_needVersion_19 : decode cX5_needVersion 19 = .ok (.invokespecial 134, 3) := by decide +kernel
theorem dX5_needVersion_22 : decode cX5_needVersion 22 = .ok (.athrow, 1) := by decide +kernel
theorem dX5_needVersion_23 : decode cX5_needVersion 23 = .ok (.return_, 1) := by decide +kernel
theorem dX5_needHit_0 : decode cX5_needHit 0 = .ok (.iload_n 1, 1) := by decide +kernel
theorem dX5_needHit_1 : decode cX5_needHit 1 = .ok (.ifCond .lt 11, 3) := by decide +kernel
theorem dX5_needHit_4 : decode cX5_needHit 4 = .ok (.iload_n 1, 1) := by decide +kernel
theorem dX5_needHit_5 : decode cX5_needHit 5 = .ok (.aload_n 0, 1) := by decide +kernel
theorem dX5_needHit_6 : decode cX5_needHit 6 = .ok (.getfield 229, 3) := by decide +kernel
theorem dX5_needHit_9 : decode cX5_needHit 9 = .ok (.if_icmp .lt 14, 3) := by decide +kernel
theorem dX5_needHit_12 : decode cX5_needHit 12 = .ok (.new 130, 3) := by decide +kernel
theorem dX5_needHit_15 : decode cX5_needHit 15 = .ok (.dup, 1) := by decide +kernel
theorem dX5_needHit_16 : decode cX5_needHit 16 = .ok (.ldc_w 364, 3) := by decide +kernel
theorem dX5_needHit_19 : decode cX5_needHit 19 = .ok (.invokespecial 134, 3) := by decide +kernel
theorem dX5_needHit_22 : decode cX5_needHit 22 = .ok (.athrow, 1) := by decide +kernel
theorem dX5_needHit_23 : decode cX5_needHit 23 = .ok (.return_, 1) := by decide +kernel
theorem dX5_isParent_0 : decode cX5_isParent 0 = .ok (.iconst 0, 1) := by decide +kernel
theorem dX5_isParent_1 : decode cX5_isParent 1 = .ok (.istore_n 2, 1) := by decide +kernel
theorem dX5_isParent_2 : decode cX5_isParent 2 = .ok (.iload_n 2, 1) := by decide +kernel
theorem dX5_isParent_3 : decode cX5_isParent 3 = .ok (.aload_n 0, 1) := by decide +kernel
theorem dX5_isParent_4 : decode cX5_isParent 4 = .ok (.getfield 174, 3) := by decide +kernel
theorem dX5_isParent_7 : decode cX5_isParent 7 = .ok (.if_icmp .ge 24, 3) := by decide +kernel
theorem dX5_isParent_10 : decode cX5_isParent 10 = .ok (.aload_n 0, 1) := by decide +kernel
theorem dX5_isParent_11 : decode cX5_isParent 11 = .ok (.getfield 31, 3) := by decide +kernel
theorem dX5_isParent_14 : decode cX5_isParent 14 = .ok (.iload_n 2, 1) := by decide +kernel
theorem dX5_isParent_15 : decode cX5_isParent 15 = .ok (.aaload, 1) := by decide +kernel
theorem dX5_isParent_16 : decode cX5_isParent 16 = .ok (.getfield 185, 3) := by decide +kernel
theorem dX5_isParent_19 : decode cX5_isParent 19 = .ok (.iload_n 1, 1) := by decide +kernel
theorem dX5_isParent_20 : decode cX5_isParent 20 = .ok (.if_icmp .ne 5, 3) := by decide +kernel
theorem dX5_isParent_23 : decode cX5_isParent 23 = .ok (.iconst 1, 1) := by decide +kernel
theorem dX5_isParent_24 : decode cX5_isParent 24 = .ok (.ireturn, 1) := by decide +kernel
theorem dX5_isParent_25 : decode cX5_isParent 25 = .ok (.iinc 2 1, 3) := by decide +kernel
theorem dX5_isParent_28 : decode cX5_isParent 28 = .ok (.goto (-26), 3) := by decide +kernel
theorem dX5_isParent_31 : decode cX5_isParent 31 = .ok (.iconst 0, 1) := by decide +kernel
theorem dX5_isParent_32 : decode cX5_isParent 32 = .ok (.ireturn, 1) := by decide +kernel
set_option maxRecDepth 20000 in
theorem ggX5_findCounting_X4_isOf : GoodIn wsX5_findCounting wsX4_isOf := goodIn_r _ [8, 9, 10, 34, 35, 36, 37, 38, 39, 40, 41, 42, 43] (by decide +kernel) (by decide +kernel)
set_option maxRecDepth 20000 in
theorem gX5_findCounting_X4_isOf : GoodIn wsX5_findCounting (wsV RX5 215 RX4 yX4_isOf wsX4_isOf) := goodIn_app (goodIn_of _ (by decide +kernel)) ggX5_findCounting_X4_isOf
set_option maxRecDepth 20000 in
theorem ggX5_findCounting_X4_isThere : GoodIn wsX5_findCounting wsX4_isThere := goodIn_r _ [14, 15, 16, 34, 35, 36, 37, 38, 39, 40, 41, 42, 43] (by decide +kernel) (by decide +kernel)
set_option maxRecDepth 20000 in
theorem gX5_findCounting_X4_isThere : GoodIn wsX5_findCounting (wsV RX5 246 RX4 yX4_isThere wsX4_isThere) := goodIn_app (goodIn_of _ (by decide +kernel)) ggX5_findCounting_X4_isThere
theorem dX5_findCounting_0 : decode cX5_findCounting 0 = .ok (.iconst (-1), 1) := by decide +kernel
theorem dX5_findCounting_1 : decode cX5_findCounting 1 = .ok (.istore_n 3, 1) := by decide +kernel
theorem dX5_findCounting_2 : decode cX5_findCounting 2 = .ok (.iconst (-1), 1) := by decide +kernel
theorem dX5_findCounting_3 : decode cX5_findCounting 3 = .ok (.istore 4, 2) := by decide +kernel
theorem dX5_findCounting_5 : decode cX5_findCounting 5 = .ok (.iconst 0, 1) := by decide +kernel
theorem dX5_findCounting_6 : decode cX5_findCounting 6 = .ok (.istore 5, 2) := by decide +kernel
theorem dX5_findCounting_8 : decode cX5_findCounting 8 = .ok (.iload 5, 2) := by decide +kernel
theorem dX5_findCounting_10 : decode cX5_findCounting 10 = .ok (.aload_n 0, 1) := by decide +kernel
theorem dX5_findCounting_11 : decode cX5_findCounting 11 = .ok (.getfield 174, 3) := by decide +kernel
theorem dX5_findCounting_14 : decode cX5_findCounting 14 = .ok (.if_icmp .ge 56, 3) := by decide +kernel
theorem dX5_findCounting_17 : decode cX5_findCounting 17 = .ok (.aload_n 0, 1) := by decide +kernel
theorem dX5_findCounting_18 : decode cX5_findCounting 18 = .ok (.getfield 31, 3) := by decide +kernel
theorem dX5_findCounting_21 : decode cX5_findCounting 21 = .ok (.iload 5, 2) := by decide +kernel
theorem dX5_findCounting_23 : decode cX5_findCounting 23 = .ok (.aaload, 1) := by decide +kernel
theorem dX5_findCounting_24 : decode cX5_findCounting 24 = .ok (.astore 6, 2) := by decide +kernel
theorem dX5_findCounting_26 : decode cX5_findCounting 26 = .ok (.aload 6, 2) := by decide +kernel
theorem dX5_findCounting_28 : decode cX5_findCounting 28 = .ok (.iload_n 1, 1) := by decide +kernel
theorem dX5_findCounting_29 : decode cX5_findCounting 29 = .ok (.iload_n 2, 1) := by decide +kernel
theorem dX5_findCounting_30 : decode cX5_findCounting 30 = .ok (.invokevirtual 215, 3) := by decide +kernel
theorem dX5_findCounting_33 : decode cX5_findCounting 33 = .ok (.ifCond .eq 31, 3) := by decide +kernel
theorem dX5_findCounting_36 : decode cX5_findCounting 36 = .ok (.aload 6, 2) := by decide +kernel
theorem dX5_findCounting_38 : decode cX5_findCounting 38 = .ok (.invokevirtual 246, 3) := by decide +kernel
theorem dX5_findCounting_41 : decode cX5_findCounting 41 = .ok (.ifCond .eq 23, 3) := by decide +kernel
theorem dX5_findCounting_44 : decode cX5_findCounting 44 = .ok (.aload 6, 2) := by decide +kernel
theorem dX5_findCounting_46 : decode cX5_findCounting 46 = .ok (.getfield 240, 3) := by decide +kernel
theorem dX5_findCounting_49 : decode cX5_findCounting 49 = .ok (.iload 4, 2) := by decide +kernel
theorem dX5_findCounting_51 : decode cX5_findCounting 51 = .ok (.if_icmp .le 13, 3) := by decide +kernel
theorem dX5_findCounting_54 : decode cX5_findCounting 54 = .ok (.iload 5, 2) := by decide +kernel
theorem dX5_findCounting_56 : decode cX5_findCounting 56 = .ok (.istore_n 3, 1) := by decide +kernel
theorem dX5_findCounting_57 : decode cX5_findCounting 57 = .ok (.aload 6, 2) := by decide +kernel
theorem dX5_findCounting_59 : decode cX5_findCounting 59 = .ok (.getfield 240, 3) := by decide +kernel
theorem dX5_findCounting_62 : decode cX5_findCounting 62 = .ok (.istore 4, 2) := by decide +kernel
theorem dX5_findCounting_64 : decode cX5_findCounting 64 = .ok (.iinc 5 1, 3) := by decide +kernel
theorem dX5_findCounting_67 : decode cX5_findCounting 67 = .ok (.goto (-59), 3) := by decide +kernel
theorem dX5_findCounting_70 : decode cX5_findCounting 70 = .ok (.iload_n 3, 1) := by decide +kernel
theorem dX5_findCounting_71 : decode cX5_findCounting 71 = .ok (.ireturn, 1) := by decide +kernel
theorem dX5_minutesBehindDue_0 : decode cX5_minutesBehindDue 0 = .ok (.aload_n 0, 1) := by decide +kernel
theorem dX5_minutesBehindDue_1 : decode cX5_minutesBehindDue 1 = .ok (.getfield 18, 3) := by decide +kernel
theorem dX5_minutesBehindDue_4 : decode cX5_minutesBehindDue 4 = .ok (.iload_n 1, 1) := by decide +kernel
theorem dX5_minutesBehindDue_5 : decode cX5_minutesBehindDue 5 = .ok (.aaload, 1) := by decide +kernel
theorem dX5_minutesBehindDue_6 : decode cX5_minutesBehindDue 6 = .ok (.astore_n 3, 1) := by decide +kernel
theorem dX5_minutesBehindDue_7 : decode cX5_minutesBehindDue 7 = .ok (.iconst 0, 1) := by decide +kernel
theorem dX5_minutesBehindDue_8 : decode cX5_minutesBehindDue 8 = .ok (.iload_n 2, 1) := by decide +kernel
theorem dX5_minutesBehindDue_9 : decode cX5_minutesBehindDue 9 = .ok (.aload_n 0, 1) := by decide +kernel
theorem dX5_minutesBehindDue_10 : decode cX5_minutesBehindDue 10 = .ok (.getfield 9, 3) := by decide +kernel
theorem dX5_minutesBehindDue_13 : decode cX5_minutesBehindDue 13 = .ok (.aload_n 3, 1) := by decide +kernel
theorem dX5_minutesBehindDue_14 : decode cX5_minutesBehindDue 14 = .ok (.getfield 95, 3) := by decide +kernel
theorem dX5_minutesBehindDue_17 : decode cX5_minutesBehindDue 17 = .ok (.iaload, 1) := by decide +kernel
theorem dX5_minutesBehindDue_18 : decode cX5_minutesBehindDue 18 = .ok (.iadd, 1) := by decide +kernel
theorem dX5_minutesBehindDue_19 : decode cX5_minutesBehindDue 19 = .ok (.aload_n 3, 1) := by decide +kernel
theorem dX5_minutesBehindDue_20 : decode cX5_minutesBehindDue 20 = .ok (.getfield 98, 3) := by decide +kernel
theorem dX5_minutesBehindDue_23 : decode cX5_minutesBehindDue 23 = .ok (.isub, 1) := by decide +kernel
theorem dX5_minutesBehindDue_24 : decode cX5_minutesBehindDue 24 = .ok (.invokestatic 366, 3) := by decide +kernel
theorem dX5_minutesBehindDue_27 : decode cX5_minutesBehindDue 27 = .ok (.ireturn, 1) := by decide +kernel
set_option maxRecDepth 20000 in
theorem ggX5_leastLate_X5_minutesBehindDue : GoodIn wsX5_leastLate wsX5_minutesBehindDue := goodIn_ca (goodIn_r _ [15, 16, 17, 18, 19, 20, 21, 9, 22, 50, 51, 52, 53, 54, 55, 56, 57, 58, 59, 60, 61, 62, 63, 64, 65, 66, 67, 68, 69, 70, 71] (by decide +kernel) (by decide +kernel)) (goodIn_sub (fun _ h => List.mem_cons_of_mem _ (List.mem_append_right _ h)) (by decide +kernel))
set_option maxRecDepth 20000 in
theorem gX5_leastLate_X5_minutesBehindDue : GoodIn wsX5_leastLate (wsV RX5 252 RX5 yX5_minutesBehindDue wsX5_minutesBehindDue) := goodIn_app (goodIn_of _ (by decide +kernel)) ggX5_leastLate_X5_minutesBehindDue
set_option maxRecDepth 20000 in
theorem ggX5_leastLate_X4_isThere : GoodIn wsX5_leastLate wsX4_isThere := goodIn_r _ [27, 28, 29, 37, 38, 39, 40, 41, 42, 43, 44, 45, 46] (by decide +kernel) (by decide +kernel)
set_option maxRecDepth 20000 in
theorem gX5_leastLate_X4_isThere : GoodIn wsX5_leastLate (wsV RX5 246 RX4 yX4_isThere wsX4_isThere) := goodIn_app (goodIn_of _ (by decide +kernel)) ggX5_leastLate_X4_isThere
set_option maxRecDepth 20000 in
theorem ggX5_leastLate_X0_countCommon : GoodIn wsX5_leastLate wsX0_countCommon := goodIn_ca (goodIn_r _ [34, 35, 36, 47, 48, 49] (by decide +kernel) (by decide +kernel)) (goodIn_sub (fun _ h => List.mem_cons_of_mem _ (List.mem_append_right _ h)) (by decide +kernel))
set_option maxRecDepth 20000 in
theorem gX5_leastLate_X0_countCommon : GoodIn wsX5_leastLate (wsV RX5 285 RX0 yX0_countCommon wsX0_countCommon) := goodIn_app (goodIn_of _ (by decide +kernel)) ggX5_leastLate_X0_countCommon
theorem dX5_leastLate_0 : decode cX5_leastLate 0 = .ok (.aload_n 0, 1) := by decide +kernel
theorem dX5_leastLate_1 : decode cX5_leastLate 1 = .ok (.aload_n 1, 1) := by decide +kernel
theorem dX5_leastLate_2 : decode cX5_leastLate 2 = .ok (.getfield 182, 3) := by decide +kernel
theorem dX5_leastLate_5 : decode cX5_leastLate 5 = .ok (.aload_n 1, 1) := by decide +kernel
theorem dX5_leastLate_6 : decode cX5_leastLate 6 = .ok (.getfield 195, 3) := by decide +kernel
theorem dX5_leastLate_9 : decode cX5_leastLate 9 = .ok (.invokevirtual 252, 3) := by decide +kernel
theorem dX5_leastLate_12 : decode cX5_leastLate 12 = .ok (.istore_n 2, 1) := by decide +kernel
theorem dX5_leastLate_13 : decode cX5_leastLate 13 = .ok (.aload_n 1, 1) := by decide +kernel
theorem dX5_leastLate_14 : decode cX5_leastLate 14 = .ok (.getfield 201, 3) := by decide +kernel
theorem dX5_leastLate_17 : decode cX5_leastLate 17 = .ok (.getfield 204, 3) := by decide +kernel
theorem dX5_leastLate_20 : decode cX5_leastLate 20 = .ok (.iconst 2, 1) := by decide +kernel
theorem dX5_leastLate_21 : decode cX5_leastLate 21 = .ok (.idiv, 1) := by decide +kernel
theorem dX5_leastLate_22 : decode cX5_leastLate 22 = .ok (.istore_n 3, 1) := by decide +kernel
theorem dX5_leastLate_23 : decode cX5_leastLate 23 = .ok (.aload_n 1, 1) := by decide +kernel
theorem dX5_leastLate_24 : decode cX5_leastLate 24 = .ok (.getfield 185, 3) := by decide +kernel
theorem dX5_leastLate_27 : decode cX5_leastLate 27 = .ok (.istore 4, 2) := by decide +kernel
theorem dX5_leastLate_29 : decode cX5_leastLate 29 = .ok (.iconst 0, 1) := by decide +kernel
theorem dX5_leastLate_30 : decode cX5_leastLate 30 = .ok (.istore 5, 2) := by decide +kernel
theorem dX5_leastLate_32 : decode cX5_leastLate 32 = .ok (.iload 5, 2) := by decide +kernel
theorem dX5_leastLate_34 : decode cX5_leastLate 34 = .ok (.bipush 60, 2) := by decide +kernel
theorem dX5_leastLate_36 : decode cX5_leastLate 36 = .ok (.if_icmp .ge 74, 3) := by decide +kernel
theorem dX5_leastLate_39 : decode cX5_leastLate 39 = .ok (.iload 4, 2) := by decide +kernel
theorem dX5_leastLate_41 : decode cX5_leastLate 41 = .ok (.iconst (-1), 1) := by decide +kernel
theorem dX5_leastLate_42 : decode cX5_leastLate 42 = .ok (.if_icmp .eq 68, 3) := by decide +kernel
theorem dX5_leastLate_45 : decode cX5_leastLate 45 = .ok (.aload_n 0, 1) := by decide +kernel
theorem dX5_leastLate_46 : decode cX5_leastLate 46 = .ok (.getfield 31, 3) := by decide +kernel
theorem dX5_leastLate_49 : decode cX5_leastLate 49 = .ok (.iload 4, 2) := by decide +kernel
theorem dX5_leastLate_51 : decode cX5_leastLate 51 = .ok (.aaload, 1) := by decide +kernel
theorem dX5_leastLate_52 : decode cX5_leastLate 52 = .ok (.astore 6, 2) := by decide +kernel
theorem dX5_leastLate_54 : decode cX5_leastLate 54 = .ok (.aload 6, 2) := by decide +kernel
theorem dX5_leastLate_56 : decode cX5_leastLate 56 = .ok (.invokevirtual 246, 3) := by decide +kernel
theorem dX5_leastLate_59 : decode cX5_leastLate 59 = .ok (.ifCond .eq 38, 3) := by decide +kernel
theorem dX5_leastLate_62 : decode cX5_leastLate 62 = .ok (.aload 6, 2) := by decide +kernel
theorem dX5_leastLate_64 : decode cX5_leastLate 64 = .ok (.getfield 201, 3) := by decide +kernel
theorem dX5_leastLate_67 : decode cX5_leastLate 67 = .ok (.aload_n 1, 1) := by decide +kernel
theorem dX5_leastLate_68 : decode cX5_leastLate 68 = .ok (.getfield 201, 3) := by decide +kernel
theorem dX5_leastLate_71 : decode cX5_leastLate 71 = .ok (.invokevirtual 285, 3) := by decide +kernel
theorem dX5_leastLate_74 : decode cX5_leastLate 74 = .ok (.iload_n 3, 1) := by decide +kernel
theorem dX5_leastLate_75 : decode cX5_leastLate 75 = .ok (.if_icmp .lt 22, 3) := by decide +kernel
theorem dX5_leastLate_78 : decode cX5_leastLate 78 = .ok (.iload_n 2, 1) := by decide +kernel
theorem dX5_leastLate_79 : decode cX5_leastLate 79 = .ok (.aload_n 0, 1) := by decide +kernel
theorem dX5_leastLate_80 : decode cX5_leastLate 80 = .ok (.aload 6, 2) := by decide +kernel
theorem dX5_leastLate_82 : decode cX5_leastLate 82 = .ok (.getfield 182, 3) := by decide +kernel
theorem dX5_leastLate_85 : decode cX5_leastLate 85 = .ok (.aload 6, 2) := by decide +kernel
theorem dX5_leastLate_87 : decode cX5_leastLate 87 = .ok (.getfield 195, 3) := by decide +kernel
theorem dX5_leastLate_90 : decode cX5_leastLate 90 = .ok (.invokevirtual 252, 3) := by decide +kernel
theorem dX5_leastLate_93 : decode cX5_leastLate 93 = .ok (.invokestatic 371, 3) := by decide +kernel
theorem dX5_leastLate_96 : decode cX5_leastLate 96 = .ok (.istore_n 2, 1) := by decide +kernel
theorem dX5_leastLate_97 : decode cX5_leastLate 97 = .ok (.aload 6, 2) := by decide +kernel
theorem dX5_leastLate_99 : decode cX5_leastLate 99 = .ok (.getfield 185, 3) := by decide +kernel
theorem dX5_leastLate_102 : decode cX5_leastLate 102 = .ok (.istore 4, 2) := by decide +kernel
theorem dX5_leastLate_104 : decode cX5_leastLate 104 = .ok (.iinc 5 1, 3) := by decide +kernel
theorem dX5_leastLate_107 : decode cX5_leastLate 107 = .ok (.goto (-75), 3) := by decide +kernel
theorem dX5_leastLate_110 : decode cX5_leastLate 110 = .ok (.iload_n 2, 1) := by decide +kernel
theorem dX5_leastLate_111 : decode cX5_leastLate 111 = .ok (.ireturn, 1) := by decide +kernel
set_option maxRecDepth 20000 in
theorem ggX5_makeMark_X5_findCounting : GoodIn wsX5_makeMark wsX5_findCounting := goodIn_r _ [13, 14, 1, 15, 16, 17, 18, 19, 20, 21, 22, 23, 24, 25, 26, 27, 28, 81, 82, 83, 84, 85, 86, 87, 88, 89, 90, 91, 92, 93, 94, 95, 96, 97, 103, 104, 105, 106, 107, 108, 109, 110, 111, 112] (by decide +kernel) (by decide +kernel)
set_option maxRecDepth 20000 in
theorem gX5_makeMark_X5_findCounting : GoodIn wsX5_makeMark (wsV RX5 265 RX5 yX5_findCounting wsX5_findCounting) := goodIn_app (goodIn_of _ (by decide +kernel)) ggX5_makeMark_X5_findCounting
set_option maxRecDepth 20000 in
theorem ggX5_makeMark_X5_isLost : GoodIn wsX5_makeMark wsX5_isLost := goodIn_r _ [32, 33, 34, 1, 35, 36, 37, 38, 39, 40, 41, 42, 43, 44, 45, 46, 16, 17, 18, 19, 20, 21, 22, 81, 82, 83, 84, 85, 86, 87, 88, 89, 90, 91, 92, 93, 94, 95, 96, 97, 113, 114, 115, 116, 103, 104, 105, 106, 107, 108, 109, 110, 111, 112] (by decide +kernel) (by decide +kernel)
set_option maxRecDepth 20000 in
theorem gX5_makeMark_X5_isLost : GoodIn wsX5_makeMark (wsV RX5 374 RX5 yX5_isLost wsX5_isLost) := goodIn_app (goodIn_of _ (by decide +kernel)) ggX5_makeMark_X5_isLost
set_option maxRecDepth 20000 in
theorem ggX5_makeMark_X5_leastLate : GoodIn wsX5_makeMark wsX5_leastLate := goodIn_ca (goodIn_r _ [50, 51, 52, 53, 54, 55, 1, 56, 57, 7, 58, 59, 60, 61, 12, 62, 2, 63, 64, 65, 5, 6, 8, 23, 24, 25, 19, 26, 27, 28, 66, 67, 68, 69, 70, 71, 72, 103, 104, 105, 106, 107, 108, 109, 110, 111, 112, 117, 118, 119, 81, 82, 83, 84, 85, 86, 87, 88, 89, 90, 91, 92, 93, 94, 95, 96, 97, 98, 99, 100, 101, 102] (by decide +kernel) (by decide +kernel)) (goodIn_sub (fun _ h => List.mem_cons_of_mem _ (List.mem_append_right _ h)) (by decide +kernel))
set_option maxRecDepth 20000 in
theorem gX5_makeMark_X5_leastLate : GoodIn wsX5_makeMark (wsV RX5 268 RX5 yX5_leastLate wsX5_leastLate) := goodIn_app (goodIn_of _ (by decide +kernel)) ggX5_makeMark_X5_leastLate
set_option maxRecDepth 20000 in
theorem ggX5_makeMark_X2_pointsOff : GoodIn wsX5_makeMark wsX2_pointsOff := goodIn_r _ [77, 78, 79, 80, 57, 7, 58, 98, 99, 100, 101, 102] (by decide +kernel) (by decide +kernel)
set_option maxRecDepth 20000 in
theorem gX5_makeMark_X2_pointsOff : GoodIn wsX5_makeMark (wsV RX5 271 RX2 yX2_pointsOff wsX2_pointsOff) := goodIn_app (goodIn_of _ (by decide +kernel)) ggX5_makeMark_X2_pointsOff
theorem dX5_makeMark_0 : decode cX5_makeMark 0 = .ok (.aload_n 0, 1) := by decide +kernel
theorem dX5_makeMark_1 : decode cX5_makeMark 1 = .ok (.iload_n 1, 1) := by decide +kernel
theorem dX5_makeMark_2 : decode cX5_makeMark 2 = .ok (.iload_n 2, 1) := by decide +kernel
theorem dX5_makeMark_3 : decode cX5_makeMark 3 = .ok (.invokevirtual 265, 3) := by decide +kernel
theorem dX5_makeMark_6 : decode cX5_makeMark 6 = .ok (.istore_n 3, 1) := by decide +kernel
theorem dX5_makeMark_7 : decode cX5_makeMark 7 = .ok (.iload_n 3, 1) := by decide +kernel
theorem dX5_makeMark_8 : decode cX5_makeMark 8 = .ok (.iconst (-1), 1) := by decide +kernel
theorem dX5_makeMark_9 : decode cX5_makeMark 9 = .ok (.if_icmp .eq 12, 3) := by decide +kernel
theorem dX5_makeMark_12 : decode cX5_makeMark 12 = .ok (.aload_n 0, 1) := by decide +kernel
theorem dX5_makeMark_13 : decode cX5_makeMark 13 = .ok (.iload_n 1, 1) := by decide +kernel
theorem dX5_makeMark_14 : decode cX5_makeMark 14 = .ok (.iload_n 2, 1) := by decide +kernel
theorem dX5_makeMark_15 : decode cX5_makeMark 15 = .ok (.invokevirtual 374, 3) := by decide +kernel
theorem dX5_makeMark_18 : decode cX5_makeMark 18 = .ok (.ifCond .eq 5, 3) := by decide +kernel
theorem dX5_makeMark_21 : decode cX5_makeMark 21 = .ok (.iconst 0, 1) := by decide +kernel
theorem dX5_makeMark_22 : decode cX5_makeMark 22 = .ok (.ireturn, 1) := by decide +kernel
theorem dX5_makeMark_23 : decode cX5_makeMark 23 = .ok (.aload_n 0, 1) := by decide +kernel
theorem dX5_makeMark_24 : decode cX5_makeMark 24 = .ok (.getfield 31, 3) := by decide +kernel
theorem dX5_makeMark_27 : decode cX5_makeMark 27 = .ok (.iload_n 3, 1) := by decide +kernel
theorem dX5_makeMark_28 : decode cX5_makeMark 28 = .ok (.aaload, 1) := by decide +kernel
theorem dX5_makeMark_29 : decode cX5_makeMark 29 = .ok (.astore 4, 2) := by decide +kernel
theorem dX5_makeMark_31 : decode cX5_makeMark 31 = .ok (.aload_n 0, 1) := by decide +kernel
theorem dX5_makeMark_32 : decode cX5_makeMark 32 = .ok (.getfield 18, 3) := by decide +kernel
theorem dX5_makeMark_35 : decode cX5_makeMark 35 = .ok (.iload_n 2, 1) := by decide +kernel
theorem dX5_makeMark_36 : decode cX5_makeMark 36 = .ok (.aaload, 1) := by decide +kernel
theorem dX5_makeMark_37 : decode cX5_makeMark 37 = .ok (.getfield 101, 3) := by decide +kernel
theorem dX5_makeMark_40 : decode cX5_makeMark 40 = .ok (.aload 4, 2) := by decide +kernel
theorem dX5_makeMark_42 : decode cX5_makeMark 42 = .ok (.getfield 207, 3) := by decide +kernel
theorem dX5_makeMark_45 : decode cX5_makeMark 45 = .ok (.imul, 1) := by decide +kernel
theorem dX5_makeMark_46 : decode cX5_makeMark 46 = .ok (.bipush 100, 2) := by decide +kernel
theorem dX5_makeMark_48 : decode cX5_makeMark 48 = .ok (.idiv, 1) := by decide +kernel
theorem dX5_makeMark_49 : decode cX5_makeMark 49 = .ok (.istore 5, 2) := by decide +kernel
theorem dX5_makeMark_51 : decode cX5_makeMark 51 = .ok (.iconst 0, 1) := by decide +kernel
theorem dX5_makeMark_52 : decode cX5_makeMark 52 = .ok (.iload 5, 2) := by decide +kernel
theorem dX5_makeMark_54 : decode cX5_makeMark 54 = .ok (.aload_n 0, 1) := by decide +kernel
theorem dX5_makeMark_55 : decode cX5_makeMark 55 = .ok (.getfield 18, 3) := by decide +kernel
theorem dX5_makeMark_58 : decode cX5_makeMark 58 = .ok (.iload_n 2, 1) := by decide +kernel
theorem dX5_makeMark_59 : decode cX5_makeMark 59 = .ok (.aaload, 1) := by decide +kernel
theorem dX5_makeMark_60 : decode cX5_makeMark 60 = .ok (.aload_n 0, 1) := by decide +kernel
theorem dX5_makeMark_61 : decode cX5_makeMark 61 = .ok (.aload 4, 2) := by decide +kernel
theorem dX5_makeMark_63 : decode cX5_makeMark 63 = .ok (.invokevirtual 268, 3) := by decide +kernel
theorem dX5_makeMark_66 : decode cX5_makeMark 66 = .ok (.invokevirtual 271, 3) := by decide +kernel
theorem dX5_makeMark_69 : decode cX5_makeMark 69 = .ok (.isub, 1) := by decide +kernel
theorem dX5_makeMark_70 : decode cX5_makeMark 70 = .ok (.invokestatic 366, 3) := by decide +kernel
theorem dX5_makeMark_73 : decode cX5_makeMark 73 = .ok (.ireturn, 1) := by decide +kernel
set_option maxRecDepth 20000 in
theorem ggX5_isMatch_X4_isThere : GoodIn wsX5_isMatch wsX4_isThere := goodIn_r _ [8, 9, 10, 18, 19, 20, 21, 22, 23, 24, 25, 26, 27] (by decide +kernel) (by decide +kernel)
set_option maxRecDepth 20000 in
theorem gX5_isMatch_X4_isThere : GoodIn wsX5_isMatch (wsV RX5 246 RX4 yX4_isThere wsX4_isThere) := goodIn_app (goodIn_of _ (by decide +kernel)) ggX5_isMatch_X4_isThere
set_option maxRecDepth 20000 in
theorem ggX5_isMatch_X0_countCommon : GoodIn wsX5_isMatch wsX0_countCommon := goodIn_ca (goodIn_r _ [15, 16, 17, 45, 46, 47] (by decide +kernel) (by decide +kernel)) (goodIn_sub (fun _ h => List.mem_cons_of_mem _ (List.mem_append_right _ h)) (by decide +kernel))
set_option maxRecDepth 20000 in
theorem gX5_isMatch_X0_countCommon : GoodIn wsX5_isMatch (wsV RX5 285 RX0 yX0_countCommon wsX0_countCommon) := goodIn_app (goodIn_of _ (by decide +kernel)) ggX5_isMatch_X0_countCommon
theorem dX5_isMatch_0 : decode cX5_isMatch 0 = .ok (.aload_n 2, 1) := by decide +kernel
theorem dX5_isMatch_1 : decode cX5_isMatch 1 = .ok (.invokevirtual 246, 3) := by decide +kernel
theorem dX5_isMatch_4 : decode cX5_isMatch 4 = .ok (.ifCond .eq 36, 3) := by decide +kernel
theorem dX5_isMatch_7 : decode cX5_isMatch 7 = .ok (.aload_n 2, 1) := by decide +kernel
theorem dX5_isMatch_8 : decode cX5_isMatch 8 = .ok (.getfield 179, 3) := by decide +kernel
theorem dX5_isMatch_11 : decode cX5_isMatch 11 = .ok (.aload_n 1, 1) := by decide +kernel
theorem dX5_isMatch_12 : decode cX5_isMatch 12 = .ok (.getfield 179, 3) := by decide +kernel
theorem dX5_isMatch_15 : decode cX5_isMatch 15 = .ok (.if_icmp .eq 25, 3) := by decide +kernel
theorem dX5_isMatch_18 : decode cX5_isMatch 18 = .ok (.aload_n 2, 1) := by decide +kernel
theorem dX5_isMatch_19 : decode cX5_isMatch 19 = .ok (.getfield 201, 3) := by decide +kernel
theorem dX5_isMatch_22 : decode cX5_isMatch 22 = .ok (.aload_n 1, 1) := by decide +kernel
theorem dX5_isMatch_23 : decode cX5_isMatch 23 = .ok (.getfield 201, 3) := by decide +kernel
theorem dX5_isMatch_26 : decode cX5_isMatch 26 = .ok (.invokevirtual 285, 3) := by decide +kernel
theorem dX5_isMatch_29 : decode cX5_isMatch 29 = .ok (.aload_n 0, 1) := by decide +kernel
theorem dX5_isMatch_30 : decode cX5_isMatch 30 = .ok (.getfield 56, 3) := by decide +kernel
theorem dX5_isMatch_33 : decode cX5_isMatch 33 = .ok (.if_icmp .lt 7, 3) := by decide +kernel
theorem dX5_isMatch_36 : decode cX5_isMatch 36 = .ok (.iconst 1, 1) := by decide +kernel
theorem dX5_isMatch_37 : decode cX5_isMatch 37 = .ok (.goto 4, 3) := by decide +kernel
theorem dX5_isMatch_40 : decode cX5_isMatch 40 = .ok (.iconst 0, 1) := by decide +kernel
theorem dX5_isMatch_41 : decode cX5_isMatch 41 = .ok (.ireturn, 1) := by decide +kernel
set_option maxRecDepth 20000 in
theorem ggX5_countMatches_X5_isMatch : GoodIn wsX5_countMatches wsX5_isMatch := goodIn_ca (goodIn_r _ [7, 8, 9, 10, 11, 12, 13, 14, 15, 16, 17, 18, 19, 20, 21, 22, 23, 24, 42, 43, 44, 45, 46, 47, 48, 49, 50, 51, 25, 26, 27, 28, 29, 30, 31, 32, 33, 34, 35, 36, 37, 38, 39, 40, 41, 52, 53, 54] (by decide +kernel) (by decide +kernel)) (goodIn_sub (fun _ h => List.mem_cons_of_mem _ (List.mem_append_right _ h)) (by decide +kernel))
set_option maxRecDepth 20000 in
theorem gX5_countMatches_X5_isMatch : GoodIn wsX5_countMatches (wsV RX5 377 RX5 yX5_isMatch wsX5_isMatch) := goodIn_app (goodIn_of _ (by decide +kernel)) ggX5_countMatches_X5_isMatch
theorem dX5_countMatches_0 : decode cX5_countMatches 0 = .ok (.iconst 0, 1) := by decide +kernel
theorem dX5_countMatches_1 : decode cX5_countMatches 1 = .ok (.istore_n 2, 1) := by decide +kernel
theorem dX5_countMatches_2 : decode cX5_countMatches 2 = .ok (.iconst 0, 1) := by decide +kernel
theorem dX5_countMatches_3 : decode cX5_countMatches 3 = .ok (.istore_n 3, 1) := by decide +kernel
theorem dX5_countMatches_4 : decode cX5_countMatches 4 = .ok (.iload_n 3, 1) := by decide +kernel
theorem dX5_countMatches_5 : decode cX5_countMatches 5 = .ok (.aload_n 0, 1) := by decide +kernel
theorem dX5_countMatches_6 : decode cX5_countMatches 6 = .ok (.getfield 174, 3) := by decide +kernel
theorem dX5_countMatches_9 : decode cX5_countMatches 9 = .ok (.if_icmp .ge 26, 3) := by decide +kernel
theorem dX5_countMatches_12 : decode cX5_countMatches 12 = .ok (.aload_n 0, 1) := by decide +kernel
theorem dX5_countMatches_13 : decode cX5_countMatches 13 = .ok (.aload_n 1, 1) := by decide +kernel
theorem dX5_countMatches_14 : decode cX5_countMatches 14 = .ok (.aload_n 0, 1) := by decide +kernel
theorem dX5_countMatches_15 : decode cX5_countMatches 15 = .ok (.getfield 31, 3) := by decide +kernel
theorem dX5_countMatches_18 : decode cX5_countMatches 18 = .ok (.iload_n 3, 1) := by decide +kernel
theorem dX5_countMatches_19 : decode cX5_countMatches 19 = .ok (.aaload, 1) := by decide +kernel
theorem dX5_countMatches_20 : decode cX5_countMatches 20 = .ok (.invokevirtual 377, 3) := by decide +kernel
theorem dX5_countMatches_23 : decode cX5_countMatches 23 = .ok (.ifCond .eq 6, 3) := by decide +kernel
theorem dX5_countMatches_26 : decode cX5_countMatches 26 = .ok (.iinc 2 1, 3) := by decide +kernel
theorem dX5_countMatches_29 : decode cX5_countMatches 29 = .ok (.iinc 3 1, 3) := by decide +kernel
theorem dX5_countMatches_32 : decode cX5_countMatches 32 = .ok (.goto (-28), 3) := by decide +kernel
theorem dX5_countMatches_35 : decode cX5_countMatches 35 = .ok (.iload_n 2, 1) := by decide +kernel
theorem dX5_countMatches_36 : decode cX5_countMatches 36 = .ok (.ireturn, 1) := by decide +kernel
set_option maxRecDepth 20000 in
theorem ggX5_addHits_X5_isMatch : GoodIn wsX5_addHits wsX5_isMatch := goodIn_ca (goodIn_r _ [13, 14, 7, 15, 16, 17, 18, 19, 20, 21, 22, 23, 24, 25, 26, 27, 28, 29, 51, 52, 53, 54, 55, 56, 57, 58, 59, 60, 30, 31, 32, 33, 34, 35, 36, 37, 38, 39, 40, 41, 42, 43, 44, 45, 46, 61, 62, 63] (by decide +kernel) (by decide +kernel)) (goodIn_sub (fun _ h => List.mem_cons_of_mem _ (List.mem_append_right _ h)) (by decide +kernel))
set_option maxRecDepth 20000 in
theorem gX5_addHits_X5_isMatch : GoodIn wsX5_addHits (wsV RX5 377 RX5 yX5_isMatch wsX5_isMatch) := goodIn_app (goodIn_of _ (by decide +kernel)) ggX5_addHits_X5_isMatch
set_option maxRecDepth 20000 in
theorem ggX5_addHits_X0_countCommon : GoodIn wsX5_addHits wsX0_countCommon := goodIn_ca (goodIn_r _ [27, 28, 29, 61, 62, 63] (by decide +kernel) (by decide +kernel)) (goodIn_sub (fun _ h => List.mem_cons_of_mem _ (List.mem_append_right _ h)) (by decide +kernel))
set_option maxRecDepth 20000 in
theorem gX5_addHits_X0_countCommon : GoodIn wsX5_addHits (wsV RX5 285 RX0 yX0_countCommon wsX0_countCommon) := goodIn_app (goodIn_of _ (by decide +kernel)) ggX5_addHits_X0_countCommon
theorem dX5_addHits_0 : decode cX5_addHits 0 = .ok (.aload_n 0, 1) := by decide +kernel
theorem dX5_addHits_1 : decode cX5_addHits 1 = .ok (.getfield 31, 3) := by decide +kernel
theorem dX5_addHits_4 : decode cX5_addHits 4 = .ok (.iload_n 1, 1) := by decide +kernel
theorem dX5_addHits_5 : decode cX5_addHits 5 = .ok (.aaload, 1) := by decide +kernel
theorem dX5_addHits_6 : decode cX5_addHits 6 = .ok (.astore_n 2, 1) := by decide +kernel
theorem dX5_addHits_7 : decode cX5_addHits 7 = .ok (.iconst 0, 1) := by decide +kernel
theorem dX5_addHits_8 : decode cX5_addHits 8 = .ok (.istore_n 3, 1) := by decide +kernel
theorem dX5_addHits_9 : decode cX5_addHits 9 = .ok (.iload_n 3, 1) := by decide +kernel
theorem dX5_addHits_10 : decode cX5_addHits 10 = .ok (.aload_n 0, 1) := by decide +kernel
theorem dX5_addHits_11 : decode cX5_addHits 11 = .ok (.getfield 174, 3) := by decide +kernel
theorem dX5_addHits_14 : decode cX5_addHits 14 = .ok (.if_icmp .ge 86, 3) := by decide +kernel
theorem dX5_addHits_17 : decode cX5_addHits 17 = .ok (.aload_n 0, 1) := by decide +kernel
theorem dX5_addHits_18 : decode cX5_addHits 18 = .ok (.getfield 229, 3) := by decide +kernel
theorem dX5_addHits_21 : decode cX5_addHits 21 = .ok (.bipush 40, 2) := by decide +kernel
theorem dX5_addHits_23 : decode cX5_addHits 23 = .ok (.if_icmp .ge 77, 3) := by decide +kernel
theorem dX5_addHits_26 : decode cX5_addHits 26 = .ok (.aload_n 0, 1) := by decide +kernel
theorem dX5_addHits_27 : decode cX5_addHits 27 = .ok (.aload_n 2, 1) := by decide +kernel
theorem dX5_addHits_28 : decode cX5_addHits 28 = .ok (.aload_n 0, 1) := by decide +kernel
theorem dX5_addHits_29 : decode cX5_addHits 29 = .ok (.getfield 31, 3) := by decide +kernel
theorem dX5_addHits_32 : decode cX5_addHits 32 = .ok (.iload_n 3, 1) := by decide +kernel
theorem dX5_addHits_33 : decode cX5_addHits 33 = .ok (.aaload, 1) := by decide +kernel
theorem dX5_addHits_34 : decode cX5_addHits 34 = .ok (.invokevirtual 377, 3) := by decide +kernel
theorem dX5_addHits_37 : decode cX5_addHits 37 = .ok (.ifCond .eq 57, 3) := by decide +kernel
theorem dX5_addHits_40 : decode cX5_addHits 40 = .ok (.aload_n 0, 1) := by decide +kernel
theorem dX5_addHits_41 : decode cX5_addHits 41 = .ok (.getfield 52, 3) := by decide +kernel
theorem dX5_addHits_44 : decode cX5_addHits 44 = .ok (.aload_n 0, 1) := by decide +kernel
theorem dX5_addHits_45 : decode cX5_addHits 45 = .ok (.getfield 229, 3) := by decide +kernel
theorem dX5_addHits_48 : decode cX5_addHits 48 = .ok (.aaload, 1) := by decide +kernel
theorem dX5_addHits_49 : decode cX5_addHits 49 = .ok (.astore 4, 2) := by decide +kernel
theorem dX5_addHits_51 : decode cX5_addHits 51 = .ok (.aload 4, 2) := by decide +kernel
theorem dX5_addHits_53 : decode cX5_addHits 53 = .ok (.iload_n 1, 1) := by decide +kernel
theorem dX5_addHits_54 : decode cX5_addHits 54 = .ok (.putfield 300, 3) := by decide +kernel
theorem dX5_addHits_57 : decode cX5_addHits 57 = .ok (.aload 4, 2) := by decide +kernel
theorem dX5_addHits_59 : decode cX5_addHits 59 = .ok (.iload_n 3, 1) := by decide +kernel
theorem dX5_addHits_60 : decode cX5_addHits 60 = .ok (.putfield 303, 3) := by decide +kernel
theorem dX5_addHits_63 : decode cX5_addHits 63 = .ok (.aload 4, 2) := by decide +kernel
theorem dX5_addHits_65 : decode cX5_addHits 65 = .ok (.aload_n 0, 1) := by decide +kernel
theorem dX5_addHits_66 : decode cX5_addHits 66 = .ok (.getfield 31, 3) := by decide +kernel
theorem dX5_addHits_69 : decode cX5_addHits 69 = .ok (.iload_n 3, 1) := by decide +kernel
theorem dX5_addHits_70 : decode cX5_addHits 70 = .ok (.aaload, 1) := by decide +kernel
theorem dX5_addHits_71 : decode cX5_addHits 71 = .ok (.getfield 201, 3) := by decide +kernel
theorem dX5_addHits_74 : decode cX5_addHits 74 = .ok (.aload_n 2, 1) := by decide +kernel
theorem dX5_addHits_75 : decode cX5_addHits 75 = .ok (.getfield 201, 3) := by decide +kernel
theorem dX5_addHits_78 : decode cX5_addHits 78 = .ok (.invokevirtual 285, 3) := by decide +kernel
theorem dX5_addHits_81 : decode cX5_addHits 81 = .ok (.putfield 306, 3) := by decide +kernel
theorem dX5_addHits_84 : decode cX5_addHits 84 = .ok (.aload_n 0, 1) := by decide +kernel
theorem dX5_addHits_85 : decode cX5_addHits 85 = .ok (.dup, 1) := by decide +kernel
theorem dX5_addHits_86 : decode cX5_addHits 86 = .ok (.getfield 229, 3) := by decide +kernel
theorem dX5_addHits_89 : decode cX5_addHits 89 = .ok (.iconst 1, 1) := by decide +kernel
theorem dX5_addHits_90 : decode cX5_addHits 90 = .ok (.iadd, 1) := by decide +kernel
theorem dX5_addHits_91 : decode cX5_addHits 91 = .ok (.putfield 229, 3) := by decide +kernel
theorem dX5_addHits_94 : decode cX5_addHits 94 = .ok (.iinc 3 1, 3) := by decide +kernel
theorem dX5_addHits_97 : decode cX5_addHits 97 = .ok (.goto (-88), 3) := by decide +kernel
theorem dX5_addHits_100 : decode cX5_addHits 100 = .ok (.return_, 1) := by decide +kernel
set_option maxRecDepth 20000 in
theorem ggX5_countOpenHits_X1_isOpen : GoodIn wsX5_countOpenHits wsX1_isOpen := goodIn_r _ [7, 8, 26, 27, 28, 29] (by decide +kernel) (by decide +kernel)
set_option maxRecDepth 20000 in
theorem gX5_countOpenHits_X1_isOpen : GoodIn wsX5_countOpenHits (wsV RX5 312 RX1 yX1_isOpen wsX1_isOpen) := goodIn_app (goodIn_of _ (by decide +kernel)) ggX5_countOpenHits_X1_isOpen
theorem dX5_countOpenHits_0 : decode cX5_countOpenHits 0 = .ok (.iconst 0, 1) := by decide +kernel
theorem dX5_countOpenHits_1 : decode cX5_countOpenHits 1 = .ok (.istore_n 1, 1) := by decide +kernel
theorem dX5_countOpenHits_2 : decode cX5_countOpenHits 2 = .ok (.iconst 0, 1) := by decide +kernel
theorem dX5_countOpenHits_3 : decode cX5_countOpenHits 3 = .ok (.istore_n 2, 1) := by decide +kernel
theorem dX5_countOpenHits_4 : decode cX5_countOpenHits 4 = .ok (.iload_n 2, 1) := by decide +kernel
theorem dX5_countOpenHits_5 : decode cX5_countOpenHits 5 = .ok (.aload_n 0, 1) := by decide +kernel
theorem dX5_countOpenHits_6 : decode cX5_countOpenHits 6 = .ok (.getfield 229, 3) := by decide +kernel
theorem dX5_countOpenHits_9 : decode cX5_countOpenHits 9 = .ok (.if_icmp .ge 24, 3) := by decide +kernel
theorem dX5_countOpenHits_12 : decode cX5_countOpenHits 12 = .ok (.aload_n 0, 1) := by decide +kernel
theorem dX5_countOpenHits_13 : decode cX5_countOpenHits 13 = .ok (.getfield 52, 3) := by decide +kernel
theorem dX5_countOpenHits_16 : decode cX5_countOpenHits 16 = .ok (.iload_n 2, 1) := by decide +kernel
theorem dX5_countOpenHits_17 : decode cX5_countOpenHits 17 = .ok (.aaload, 1) := by decide +kernel
theorem dX5_countOpenHits_18 : decode cX5_countOpenHits 18 = .ok (.invokevirtual 312, 3) := by decide +kernel
theorem dX5_countOpenHits_21 : decode cX5_countOpenHits 21 = .ok (.ifCond .eq 6, 3) := by decide +kernel
theorem dX5_countOpenHits_24 : decode cX5_countOpenHits 24 = .ok (.iinc 1 1, 3) := by decide +kernel
theorem dX5_countOpenHits_27 : decode cX5_countOpenHits 27 = .ok (.iinc 2 1, 3) := by decide +kernel
theorem dX5_countOpenHits_30 : decode cX5_countOpenHits 30 = .ok (.goto (-26), 3) := by decide +kernel
theorem dX5_countOpenHits_33 : decode cX5_countOpenHits 33 = .ok (.iload_n 1, 1) := by decide +kernel
theorem dX5_countOpenHits_34 : decode cX5_countOpenHits 34 = .ok (.ireturn, 1) := by decide +kernel
set_option maxRecDepth 20000 in
theorem ggX5_hasOpenHit_X1_isOpen : GoodIn wsX5_hasOpenHit wsX1_isOpen := goodIn_r _ [10, 11, 36, 37, 38, 39] (by decide +kernel) (by decide +kernel)
set_option maxRecDepth 20000 in
theorem gX5_hasOpenHit_X1_isOpen : GoodIn wsX5_hasOpenHit (wsV RX5 312 RX1 yX1_isOpen wsX1_isOpen) := goodIn_app (goodIn_of _ (by decide +kernel)) ggX5_hasOpenHit_X1_isOpen
set_option maxRecDepth 20000 in
theorem ggX5_hasOpenHit_X4_isOf : GoodIn wsX5_hasOpenHit wsX4_isOf := goodIn_r _ [16, 17, 18, 40, 41, 42, 43, 44, 45, 46, 47, 48, 49] (by decide +kernel) (by decide +kernel)
set_option maxRecDepth 20000 in
theorem gX5_hasOpenHit_X4_isOf : GoodIn wsX5_hasOpenHit (wsV RX5 215 RX4 yX4_isOf wsX4_isOf) := goodIn_app (goodIn_of _ (by decide +kernel)) ggX5_hasOpenHit_X4_isOf
theorem dX5_hasOpenHit_0 : decode cX5_hasOpenHit 0 = .ok (.iconst 0, 1) := by decide +kernel
theorem dX5_hasOpenHit_1 : decode cX5_hasOpenHit 1 = .ok (.istore_n 3, 1) := by decide +kernel
theorem dX5_hasOpenHit_2 : decode cX5_hasOpenHit 2 = .ok (.iload_n 3, 1) := by decide +kernel
theorem dX5_hasOpenHit_3 : decode cX5_hasOpenHit 3 = .ok (.aload_n 0, 1) := by decide +kernel
theorem dX5_hasOpenHit_4 : decode cX5_hasOpenHit 4 = .ok (.getfield 229, 3) := by decide +kernel
theorem dX5_hasOpenHit_7 : decode cX5_hasOpenHit 7 = .ok (.if_icmp .ge 63, 3) := by decide +kernel
theorem dX5_hasOpenHit_10 : decode cX5_hasOpenHit 10 = .ok (.aload_n 0, 1) := by decide +kernel
theorem dX5_hasOpenHit_11 : decode cX5_hasOpenHit 11 = .ok (.getfield 52, 3) := by decide +kernel
theorem dX5_hasOpenHit_14 : decode cX5_hasOpenHit 14 = .ok (.iload_n 3, 1) := by decide +kernel
theorem dX5_hasOpenHit_15 : decode cX5_hasOpenHit 15 = .ok (.aaload, 1) := by decide +kernel
theorem dX5_hasOpenHit_16 : decode cX5_hasOpenHit 16 = .ok (.astore 4, 2) := by decide +kernel
theorem dX5_hasOpenHit_18 : decode cX5_hasOpenHit 18 = .ok (.aload 4, 2) := by decide +kernel
theorem dX5_hasOpenHit_20 : decode cX5_hasOpenHit 20 = .ok (.invokevirtual 312, 3) := by decide +kernel
theorem dX5_hasOpenHit_23 : decode cX5_hasOpenHit 23 = .ok (.ifCond .eq 41, 3) := by decide +kernel
theorem dX5_hasOpenHit_26 : decode cX5_hasOpenHit 26 = .ok (.aload_n 0, 1) := by decide +kernel
theorem dX5_hasOpenHit_27 : decode cX5_hasOpenHit 27 = .ok (.getfield 31, 3) := by decide +kernel
theorem dX5_hasOpenHit_30 : decode cX5_hasOpenHit 30 = .ok (.aload 4, 2) := by decide +kernel
theorem dX5_hasOpenHit_32 : decode cX5_hasOpenHit 32 = .ok (.getfield 300, 3) := by decide +kernel
theorem dX5_hasOpenHit_35 : decode cX5_hasOpenHit 35 = .ok (.aaload, 1) := by decide +kernel
theorem dX5_hasOpenHit_36 : decode cX5_hasOpenHit 36 = .ok (.iload_n 1, 1) := by decide +kernel
theorem dX5_hasOpenHit_37 : decode cX5_hasOpenHit 37 = .ok (.iload_n 2, 1) := by decide +kernel
theorem dX5_hasOpenHit_38 : decode cX5_hasOpenHit 38 = .ok (.invokevirtual 215, 3) := by decide +kernel
theorem dX5_hasOpenHit_41 : decode cX5_hasOpenHit 41 = .ok (.ifCond .ne 21, 3) := by decide +kernel
theorem dX5_hasOpenHit_44 : decode cX5_hasOpenHit 44 = .ok (.aload_n 0, 1) := by decide +kernel
theorem dX5_hasOpenHit_45 : decode cX5_hasOpenHit 45 = .ok (.getfield 31, 3) := by decide +kernel
theorem dX5_hasOpenHit_48 : decode cX5_hasOpenHit 48 = .ok (.aload 4, 2) := by decide +kernel
theorem dX5_hasOpenHit_50 : decode cX5_hasOpenHit 50 = .ok (.getfield 303, 3) := by decide +kernel
theorem dX5_hasOpenHit_53 : decode cX5_hasOpenHit 53 = .ok (.aaload, 1) := by decide +kernel
theorem dX5_hasOpenHit_54 : decode cX5_hasOpenHit 54 = .ok (.iload_n 1, 1) := by decide +kernel
theorem dX5_hasOpenHit_55 : decode cX5_hasOpenHit 55 = .ok (.iload_n 2, 1) := by decide +kernel
theorem dX5_hasOpenHit_56 : decode cX5_hasOpenHit 56 = .ok (.invokevirtual 215, 3) := by decide +kernel
theorem dX5_hasOpenHit_59 : decode cX5_hasOpenHit 59 = .ok (.ifCond .eq 5, 3) := by decide +kernel
theorem dX5_hasOpenHit_62 : decode cX5_hasOpenHit 62 = .ok (.iconst 1, 1) := by decide +kernel
theorem dX5_hasOpenHit_63 : decode cX5_hasOpenHit 63 = .ok (.ireturn, 1) := by decide +kernel
theorem dX5_hasOpenHit_64 : decode cX5_hasOpenHit 64 = .ok (.iinc 3 1, 3) := by decide +kernel
theorem dX5_hasOpenHit_67 : decode cX5_hasOpenHit 67 = .ok (.goto (-65), 3) := by decide +kernel
theorem dX5_hasOpenHit_70 : decode cX5_hasOpenHit 70 = .ok (.iconst 0, 1) := by decide +kernel
theorem dX5_hasOpenHit_71 : decode cX5_hasOpenHit 71 = .ok (.ireturn, 1) := by decide +kernel
set_option maxRecDepth 20000 in
theorem ggX5_isLost_X1_takesFrom : GoodIn wsX5_isLost wsX1_takesFrom := goodIn_r _ [10, 11, 12, 13, 14, 9, 15, 40, 41, 42, 43] (by decide +kernel) (by decide +kernel)
set_option maxRecDepth 20000 in
theorem gX5_isLost_X1_takesFrom : GoodIn wsX5_isLost (wsV RX5 381 RX1 yX1_takesFrom wsX1_takesFrom) := goodIn_app (goodIn_of _ (by decide +kernel)) ggX5_isLost_X1_takesFrom
set_option maxRecDepth 20000 in
theorem ggX5_isLost_X4_isOf : GoodIn wsX5_isLost wsX4_isOf := goodIn_r _ [20, 21, 22, 44, 45, 46, 47, 48, 49, 50, 51, 52, 53] (by decide +kernel) (by decide +kernel)
set_option maxRecDepth 20000 in
theorem gX5_isLost_X4_isOf : GoodIn wsX5_isLost (wsV RX5 215 RX4 yX4_isOf wsX4_isOf) := goodIn_app (goodIn_of _ (by decide +kernel)) ggX5_isLost_X4_isOf
theorem dX5_isLost_0 : decode cX5_isLost 0 = .ok (.iconst 0, 1) := by decide +kernel
theorem dX5_isLost_1 : decode cX5_isLost 1 = .ok (.istore_n 3, 1) := by decide +kernel
theorem dX5_isLost_2 : decode cX5_isLost 2 = .ok (.iload_n 3, 1) := by decide +kernel
theorem dX5_isLost_3 : decode cX5_isLost 3 = .ok (.aload_n 0, 1) := by decide +kernel
theorem dX5_isLost_4 : decode cX5_isLost 4 = .ok (.getfield 229, 3) := by decide +kernel
theorem dX5_isLost_7 : decode cX5_isLost 7 = .ok (.if_icmp .ge 75, 3) := by decide +kernel
theorem dX5_isLost_10 : decode cX5_isLost 10 = .ok (.aload_n 0, 1) := by decide +kernel
theorem dX5_isLost_11 : decode cX5_isLost 11 = .ok (.getfield 52, 3) := by decide +kernel
theorem dX5_isLost_14 : decode cX5_isLost 14 = .ok (.iload_n 3, 1) := by decide +kernel
theorem dX5_isLost_15 : decode cX5_isLost 15 = .ok (.aaload, 1) := by decide +kernel
theorem dX5_isLost_16 : decode cX5_isLost 16 = .ok (.astore 4, 2) := by decide +kernel
theorem dX5_isLost_18 : decode cX5_isLost 18 = .ok (.aload 4, 2) := by decide +kernel
theorem dX5_isLost_20 : decode cX5_isLost 20 = .ok (.iconst 1, 1) := by decide +kernel
theorem dX5_isLost_21 : decode cX5_isLost 21 = .ok (.invokevirtual 381, 3) := by decide +kernel
theorem dX5_isLost_24 : decode cX5_isLost 24 = .ok (.ifCond .eq 23, 3) := by decide +kernel
theorem dX5_isLost_27 : decode cX5_isLost 27 = .ok (.aload_n 0, 1) := by decide +kernel
theorem dX5_isLost_28 : decode cX5_isLost 28 = .ok (.getfield 31, 3) := by decide +kernel
theorem dX5_isLost_31 : decode cX5_isLost 31 = .ok (.aload 4, 2) := by decide +kernel
theorem dX5_isLost_33 : decode cX5_isLost 33 = .ok (.getfield 300, 3) := by decide +kernel
theorem dX5_isLost_36 : decode cX5_isLost 36 = .ok (.aaload, 1) := by decide +kernel
theorem dX5_isLost_37 : decode cX5_isLost 37 = .ok (.iload_n 1, 1) := by decide +kernel
theorem dX5_isLost_38 : decode cX5_isLost 38 = .ok (.iload_n 2, 1) := by decide +kernel
theorem dX5_isLost_39 : decode cX5_isLost 39 = .ok (.invokevirtual 215, 3) := by decide +kernel
theorem dX5_isLost_42 : decode cX5_isLost 42 = .ok (.ifCond .eq 5, 3) := by decide +kernel
theorem dX5_isLost_45 : decode cX5_isLost 45 = .ok (.iconst 1, 1) := by decide +kernel
theorem dX5_isLost_46 : decode cX5_isLost 46 = .ok (.ireturn, 1) := by decide +kernel
theorem dX5_isLost_47 : decode cX5_isLost 47 = .ok (.aload 4, 2) := by decide +kernel
theorem dX5_isLost_49 : decode cX5_isLost 49 = .ok (.iconst 2, 1) := by decide +kernel
theorem dX5_isLost_50 : decode cX5_isLost 50 = .ok (.invokevirtual 381, 3) := by decide +kernel
theorem dX5_isLost_53 : decode cX5_isLost 53 = .ok (.ifCond .eq 23, 3) := by decide +kernel
theorem dX5_isLost_56 : decode cX5_isLost 56 = .ok (.aload_n 0, 1) := by decide +kernel
theorem dX5_isLost_57 : decode cX5_isLost 57 = .ok (.getfield 31, 3) := by decide +kernel
theorem dX5_isLost_60 : decode cX5_isLost 60 = .ok (.aload 4, 2) := by decide +kernel
theorem dX5_isLost_62 : decode cX5_isLost 62 = .ok (.getfield 303, 3) := by decide +kernel
theorem dX5_isLost_65 : decode cX5_isLost 65 = .ok (.aaload, 1) := by decide +kernel
theorem dX5_isLost_66 : decode cX5_isLost 66 = .ok (.iload_n 1, 1) := by decide +kernel
theorem dX5_isLost_67 : decode cX5_isLost 67 = .ok (.iload_n 2, 1) := by decide +kernel
theorem dX5_isLost_68 : decode cX5_isLost 68 = .ok (.invokevirtual 215, 3) := by decide +kernel
theorem dX5_isLost_71 : decode cX5_isLost 71 = .ok (.ifCond .eq 5, 3) := by decide +kernel
theorem dX5_isLost_74 : decode cX5_isLost 74 = .ok (.iconst 1, 1) := by decide +kernel
theorem dX5_isLost_75 : decode cX5_isLost 75 = .ok (.ireturn, 1) := by decide +kernel
theorem dX5_isLost_76 : decode cX5_isLost 76 = .ok (.iinc 3 1, 3) := by decide +kernel
theorem dX5_isLost_79 : decode cX5_isLost 79 = .ok (.goto (-77), 3) := by decide +kernel
theorem dX5_isLost_82 : decode cX5_isLost 82 = .ok (.iconst 0, 1) := by decide +kernel
theorem dX5_isLost_83 : decode cX5_isLost 83 = .ok (.ireturn, 1) := by decide +kernel
set_option maxRecDepth 20000 in
theorem ggX5_isIndexRight_X4_isThere : GoodIn wsX5_isIndexRight wsX4_isThere := goodIn_r _ [12, 13, 14, 69, 70, 71, 72, 73, 74, 75, 76, 77, 78] (by decide +kernel) (by decide +kernel)
set_option maxRecDepth 20000 in
theorem gX5_isIndexRight_X4_isThere : GoodIn wsX5_isIndexRight (wsV RX5 246 RX4 yX4_isThere wsX4_isThere) := goodIn_app (goodIn_of _ (by decide +kernel)) ggX5_isIndexRight_X4_isThere
set_option maxRecDepth 20000 in
theorem ggX5_isIndexRight_X3_cutInto : GoodIn wsX5_isIndexRight wsX3_cutInto := goodIn_ca (goodIn_r _ [19, 20, 21, 22, 23, 24, 25, 26, 27, 28, 29, 30, 31, 32, 33, 34, 35, 36, 37, 38, 39, 66, 67, 68, 79, 80] (by decide +kernel) (by decide +kernel)) (goodIn_sub (fun _ h => List.mem_cons_of_mem _ (List.mem_append_right _ h)) (by decide +kernel))
set_option maxRecDepth 20000 in
theorem gX5_isIndexRight_X3_cutInto : GoodIn wsX5_isIndexRight (wsV RX5 384 RX3 yX3_cutInto wsX3_cutInto) := goodIn_app (goodIn_of _ (by decide +kernel)) ggX5_isIndexRight_X3_cutInto
set_option maxRecDepth 20000 in
theorem ggX5_isIndexRight_X0_addKeysOf : GoodIn wsX5_isIndexRight wsX0_addKeysOf := goodIn_ca (goodIn_r _ [43, 29, 30, 44, 25, 26, 27, 28, 31, 32, 33, 34, 35, 36, 37, 38, 39, 66, 67, 68] (by decide +kernel) (by decide +kernel)) (goodIn_sub (fun _ h => List.mem_cons_of_mem _ (List.mem_append_right _ h)) (by decide +kernel))
set_option maxRecDepth 20000 in
theorem gX5_isIndexRight_X0_addKeysOf : GoodIn wsX5_isIndexRight (wsV RX5 242 RX0 yX0_addKeysOf wsX0_addKeysOf) := goodIn_app (goodIn_of _ (by decide +kernel)) ggX5_isIndexRight_X0_addKeysOf
set_option maxRecDepth 20000 in
theorem ggX5_isIndexRight_X0_isLike : GoodIn wsX5_isIndexRight wsX0_isLike := goodIn_ca (goodIn_r _ [48, 29, 30, 31, 66, 67, 68] (by decide +kernel) (by decide +kernel)) (goodIn_sub (fun _ h => List.mem_cons_of_mem _ (List.mem_append_right _ h)) (by decide +kernel))
set_option maxRecDepth 20000 in
theorem gX5_isIndexRight_X0_isLike : GoodIn wsX5_isIndexRight (wsV RX5 387 RX0 yX0_isLike wsX0_isLike) := goodIn_app (goodIn_of _ (by decide +kernel)) ggX5_isIndexRight_X0_isLike
theorem dX5_isIndexRight_0 : decode cX5_isIndexRight 0 = .ok (.aload_n 0, 1) := by decide +kernel
theorem dX5_isIndexRight_1 : decode cX5_isIndexRight 1 = .ok (.getfield 44, 3) := by decide +kernel
theorem dX5_isIndexRight_4 : decode cX5_isIndexRight 4 = .ok (.iconst 0, 1) := by decide +kernel
theorem dX5_isIndexRight_5 : decode cX5_isIndexRight 5 = .ok (.putfield 204, 3) := by decide +kernel
theorem dX5_isIndexRight_8 : decode cX5_isIndexRight 8 = .ok (.iconst 0, 1) := by decide +kernel
theorem dX5_isIndexRight_9 : decode cX5_isIndexRight 9 = .ok (.istore_n 1, 1) := by decide +kernel
theorem dX5_isIndexRight_10 : decode cX5_isIndexRight 10 = .ok (.iload_n 1, 1) := by decide +kernel
theorem dX5_isIndexRight_11 : decode cX5_isIndexRight 11 = .ok (.aload_n 0, 1) := by decide +kernel
theorem dX5_isIndexRight_12 : decode cX5_isIndexRight 12 = .ok (.getfield 174, 3) := by decide +kernel
theorem dX5_isIndexRight_15 : decode cX5_isIndexRight 15 = .ok (.if_icmp .ge 48, 3) := by decide +kernel
theorem dX5_isIndexRight_18 : decode cX5_isIndexRight 18 = .ok (.aload_n 0, 1) := by decide +kernel
theorem dX5_isIndexRight_19 : decode cX5_isIndexRight 19 = .ok (.getfield 31, 3) := by decide +kernel
theorem dX5_isIndexRight_22 : decode cX5_isIndexRight 22 = .ok (.iload_n 1, 1) := by decide +kernel
theorem dX5_isIndexRight_23 : decode cX5_isIndexRight 23 = .ok (.aaload, 1) := by decide +kernel
theorem dX5_isIndexRight_24 : decode cX5_isIndexRight 24 = .ok (.invokevirtual 246, 3) := by decide +kernel
theorem dX5_isIndexRight_27 : decode cX5_isIndexRight 27 = .ok (.ifCond .eq 30, 3) := by decide +kernel
theorem dX5_isIndexRight_30 : decode cX5_isIndexRight 30 = .ok (.aload_n 0, 1) := by decide +kernel
theorem dX5_isIndexRight_31 : decode cX5_isIndexRight 31 = .ok (.getfield 31, 3) := by decide +kernel
theorem dX5_isIndexRight_34 : decode cX5_isIndexRight 34 = .ok (.iload_n 1, 1) := by decide +kernel
theorem dX5_isIndexRight_35 : decode cX5_isIndexRight 35 = .ok (.aaload, 1) := by decide +kernel
theorem dX5_isIndexRight_36 : decode cX5_isIndexRight 36 = .ok (.getfield 198, 3) := by decide +kernel
theorem dX5_isIndexRight_39 : decode cX5_isIndexRight 39 = .ok (.aload_n 0, 1) := by decide +kernel
theorem dX5_isIndexRight_40 : decode cX5_isIndexRight 40 = .ok (.getfield 47, 3) := by decide +kernel
theorem dX5_isIndexRight_43 : decode cX5_isIndexRight 43 = .ok (.invokevirtual 384, 3) := by decide +kernel
theorem dX5_isIndexRight_46 : decode cX5_isIndexRight 46 = .ok (.aload_n 0, 1) := by decide +kernel
theorem dX5_isIndexRight_47 : decode cX5_isIndexRight 47 = .ok (.getfield 44, 3) := by decide +kernel
theorem dX5_isIndexRight_50 : decode cX5_isIndexRight 50 = .ok (.aload_n 0, 1) := by decide +kernel
theorem dX5_isIndexRight_51 : decode cX5_isIndexRight 51 = .ok (.getfield 47, 3) := by decide +kernel
theorem dX5_isIndexRight_54 : decode cX5_isIndexRight 54 = .ok (.invokevirtual 242, 3) := by decide +kernel
theorem dX5_isIndexRight_57 : decode cX5_isIndexRight 57 = .ok (.iinc 1 1, 3) := by decide +kernel
theorem dX5_isIndexRight_60 : decode cX5_isIndexRight 60 = .ok (.goto (-50), 3) := by decide +kernel
theorem dX5_isIndexRight_63 : decode cX5_isIndexRight 63 = .ok (.aload_n 0, 1) := by decide +kernel
theorem dX5_isIndexRight_64 : decode cX5_isIndexRight 64 = .ok (.getfield 40, 3) := by decide +kernel
theorem dX5_isIndexRight_67 : decode cX5_isIndexRight 67 = .ok (.aload_n 0, 1) := by decide +kernel
theorem dX5_isIndexRight_68 : decode cX5_isIndexRight 68 = .ok (.getfield 44, 3) := by decide +kernel
theorem dX5_isIndexRight_71 : decode cX5_isIndexRight 71 = .ok (.invokevirtual 387, 3) := by decide +kernel
theorem dX5_isIndexRight_74 : decode cX5_isIndexRight 74 = .ok (.ireturn, 1) := by decide +kernel
set_option maxRecDepth 20000 in
theorem ggX5_areCountingRight_X5_findCounting : GoodIn wsX5_areCountingRight wsX5_findCounting := goodIn_r _ [9, 10, 3, 11, 12, 13, 14, 15, 16, 17, 18, 19, 20, 21, 22, 23, 24, 25, 26, 27, 28, 29, 30, 31, 32, 33, 34, 35, 36, 37, 38, 39, 40, 41, 42, 43, 44, 45, 46, 47, 48, 49, 50, 51] (by decide +kernel) (by decide +kernel)
set_option maxRecDepth 20000 in
theorem gX5_areCountingRight_X5_findCounting : GoodIn wsX5_areCountingRight (wsV RX5 265 RX5 yX5_findCounting wsX5_findCounting) := goodIn_app (goodIn_of _ (by decide +kernel)) ggX5_areCountingRight_X5_findCounting
theorem dX5_areCountingRight_0 : decode cX5_areCountingRight 0 = .ok (.iconst 0, 1) := by decide +kernel
theorem dX5_areCountingRight_1 : decode cX5_areCountingRight 1 = .ok (.istore_n 1, 1) := by decide +kernel
theorem dX5_areCountingRight_2 : decode cX5_areCountingRight 2 = .ok (.iload_n 1, 1) := by decide +kernel
theorem dX5_areCountingRight_3 : decode cX5_areCountingRight 3 = .ok (.aload_n 0, 1) := by decide +kernel
theorem dX5_areCountingRight_4 : decode cX5_areCountingRight 4 = .ok (.getfield 80, 3) := by decide +kernel
theorem dX5_areCountingRight_7 : decode cX5_areCountingRight 7 = .ok (.if_icmp .ge 51, 3) := by decide +kernel
theorem dX5_areCountingRight_10 : decode cX5_areCountingRight 10 = .ok (.iconst 0, 1) := by decide +kernel
theorem dX5_areCountingRight_11 : decode cX5_areCountingRight 11 = .ok (.istore_n 2, 1) := by decide +kernel
theorem dX5_areCountingRight_12 : decode cX5_areCountingRight 12 = .ok (.iload_n 2, 1) := by decide +kernel
theorem dX5_areCountingRight_13 : decode cX5_areCountingRight 13 = .ok (.aload_n 0, 1) := by decide +kernel
theorem dX5_areCountingRight_14 : decode cX5_areCountingRight 14 = .ok (.getfield 90, 3) := by decide +kernel
theorem dX5_areCountingRight_17 : decode cX5_areCountingRight 17 = .ok (.if_icmp .ge 35, 3) := by decide +kernel
theorem dX5_areCountingRight_20 : decode cX5_areCountingRight 20 = .ok (.aload_n 0, 1) := by decide +kernel
theorem dX5_areCountingRight_21 : decode cX5_areCountingRight 21 = .ok (.iload_n 1, 1) := by decide +kernel
theorem dX5_areCountingRight_22 : decode cX5_areCountingRight 22 = .ok (.iload_n 2, 1) := by decide +kernel
theorem dX5_areCountingRight_23 : decode cX5_areCountingRight 23 = .ok (.invokevirtual 265, 3) := by decide +kernel
theorem dX5_areCountingRight_26 : decode cX5_areCountingRight 26 = .ok (.istore_n 3, 1) := by decide +kernel
theorem dX5_areCountingRight_27 : decode cX5_areCountingRight 27 = .ok (.iload_n 3, 1) := by decide +kernel
theorem dX5_areCountingRight_28 : decode cX5_areCountingRight 28 = .ok (.iconst (-1), 1) := by decide +kernel
theorem dX5_areCountingRight_29 : decode cX5_areCountingRight 29 = .ok (.if_icmp .eq 17, 3) := by decide +kernel
theorem dX5_areCountingRight_32 : decode cX5_areCountingRight 32 = .ok (.aload_n 0, 1) := by decide +kernel
theorem dX5_areCountingRight_33 : decode cX5_areCountingRight 33 = .ok (.getfield 31, 3) := by decide +kernel
theorem dX5_areCountingRight_36 : decode cX5_areCountingRight 36 = .ok (.iload_n 3, 1) := by decide +kernel
theorem dX5_areCountingRight_37 : decode cX5_areCountingRight 37 = .ok (.aaload, 1) := by decide +kernel
theorem dX5_areCountingRight_38 : decode cX5_areCountingRight 38 = .ok (.getfield 258, 3) := by decide +kernel
theorem dX5_areCountingRight_41 : decode cX5_areCountingRight 41 = .ok (.ifCond .eq 5, 3) := by decide +kernel
theorem dX5_areCountingRight_44 : decode cX5_areCountingRight 44 = .ok (.iconst 0, 1) := by decide +kernel
theorem dX5_areCountingRight_45 : decode cX5_areCountingRight 45 = .ok (.ireturn, 1) := by decide +kernel
theorem dX5_areCountingRight_46 : decode cX5_areCountingRight 46 = .ok (.iinc 2 1, 3) := by decide +kernel
theorem dX5_areCountingRight_49 : decode cX5_areCountingRight 49 = .ok (.goto (-37), 3) := by decide +kernel
theorem dX5_areCountingRight_52 : decode cX5_areCountingRight 52 = .ok (.iinc 1 1, 3) := by decide +kernel
theorem dX5_areCountingRight_55 : decode cX5_areCountingRight 55 = .ok (.goto (-53), 3) := by decide +kernel
theorem dX5_areCountingRight_58 : decode cX5_areCountingRight 58 = .ok (.iconst 1, 1) := by decide +kernel
theorem dX5_areCountingRight_59 : decode cX5_areCountingRight 59 = .ok (.ireturn, 1) := by decide +kernel
set_option maxRecDepth 20000 in
theorem ggX5_areMarksRight_X3_cutInto : GoodIn wsX5_areMarksRight wsX3_cutInto := goodIn_ca (goodIn_r _ [10, 11, 12, 13, 14, 15, 16, 17, 18, 19, 20, 21, 22, 23, 24, 25, 26, 27, 28, 29, 30, 62, 63, 64, 65, 66] (by decide +kernel) (by decide +kernel)) (goodIn_sub (fun _ h => List.mem_cons_of_mem _ (List.mem_append_right _ h)) (by decide +kernel))
set_option maxRecDepth 20000 in
theorem gX5_areMarksRight_X3_cutInto : GoodIn wsX5_areMarksRight (wsV RX5 384 RX3 yX3_cutInto wsX3_cutInto) := goodIn_app (goodIn_of _ (by decide +kernel)) ggX5_areMarksRight_X3_cutInto
set_option maxRecDepth 20000 in
theorem ggX5_areMarksRight_X0_isLike : GoodIn wsX5_areMarksRight wsX0_isLike := goodIn_ca (goodIn_r _ [34, 20, 21, 22, 62, 63, 64] (by decide +kernel) (by decide +kernel)) (goodIn_sub (fun _ h => List.mem_cons_of_mem _ (List.mem_append_right _ h)) (by decide +kernel))
set_option maxRecDepth 20000 in
theorem gX5_areMarksRight_X0_isLike : GoodIn wsX5_areMarksRight (wsV RX5 387 RX0 yX0_isLike wsX0_isLike) := goodIn_app (goodIn_of _ (by decide +kernel)) ggX5_areMarksRight_X0_isLike
theorem dX5_areMarksRight_0 : decode cX5_areMarksRight 0 = .ok (.iconst 0, 1) := by decide +kernel
theorem dX5_areMarksRight_1 : decode cX5_areMarksRight 1 = .ok (.istore_n 1, 1) := by decide +kernel
theorem dX5_areMarksRight_2 : decode cX5_areMarksRight 2 = .ok (.iload_n 1, 1) := by decide +kernel
theorem dX5_areMarksRight_3 : decode cX5_areMarksRight 3 = .ok (.aload_n 0, 1) := by decide +kernel
theorem dX5_areMarksRight_4 : decode cX5_areMarksRight 4 = .ok (.getfield 174, 3) := by decide +kernel
theorem dX5_areMarksRight_7 : decode cX5_areMarksRight 7 = .ok (.if_icmp .ge 46, 3) := by decide +kernel
theorem dX5_areMarksRight_10 : decode cX5_areMarksRight 10 = .ok (.aload_n 0, 1) := by decide +kernel
theorem dX5_areMarksRight_11 : decode cX5_areMarksRight 11 = .ok (.getfield 31, 3) := by decide +kernel
theorem dX5_areMarksRight_14 : decode cX5_areMarksRight 14 = .ok (.iload_n 1, 1) := by decide +kernel
theorem dX5_areMarksRight_15 : decode cX5_areMarksRight 15 = .ok (.aaload, 1) := by decide +kernel
theorem dX5_areMarksRight_16 : decode cX5_areMarksRight 16 = .ok (.getfield 198, 3) := by decide +kernel
theorem dX5_areMarksRight_19 : decode cX5_areMarksRight 19 = .ok (.aload_n 0, 1) := by decide +kernel
theorem dX5_areMarksRight_20 : decode cX5_areMarksRight 20 = .ok (.getfield 47, 3) := by decide +kernel
theorem dX5_areMarksRight_23 : decode cX5_areMarksRight 23 = .ok (.invokevirtual 384, 3) := by decide +kernel
theorem dX5_areMarksRight_26 : decode cX5_areMarksRight 26 = .ok (.aload_n 0, 1) := by decide +kernel
theorem dX5_areMarksRight_27 : decode cX5_areMarksRight 27 = .ok (.getfield 31, 3) := by decide +kernel
theorem dX5_areMarksRight_30 : decode cX5_areMarksRight 30 = .ok (.iload_n 1, 1) := by decide +kernel
theorem dX5_areMarksRight_31 : decode cX5_areMarksRight 31 = .ok (.aaload, 1) := by decide +kernel
theorem dX5_areMarksRight_32 : decode cX5_areMarksRight 32 = .ok (.getfield 201, 3) := by decide +kernel
theorem dX5_areMarksRight_35 : decode cX5_areMarksRight 35 = .ok (.aload_n 0, 1) := by decide +kernel
theorem dX5_areMarksRight_36 : decode cX5_areMarksRight 36 = .ok (.getfield 47, 3) := by decide +kernel
theorem dX5_areMarksRight_39 : decode cX5_areMarksRight 39 = .ok (.invokevirtual 387, 3) := by decide +kernel
theorem dX5_areMarksRight_42 : decode cX5_areMarksRight 42 = .ok (.ifCond .ne 5, 3) := by decide +kernel
theorem dX5_areMarksRight_45 : decode cX5_areMarksRight 45 = .ok (.iconst 0, 1) := by decide +kernel
theorem dX5_areMarksRight_46 : decode cX5_areMarksRight 46 = .ok (.ireturn, 1) := by decide +kernel
theorem dX5_areMarksRight_47 : decode cX5_areMarksRight 47 = .ok (.iinc 1 1, 3) := by decide +kernel
theorem dX5_areMarksRight_50 : decode cX5_areMarksRight 50 = .ok (.goto (-48), 3) := by decide +kernel
theorem dX5_areMarksRight_53 : decode cX5_areMarksRight 53 = .ok (.iconst 1, 1) := by decide +kernel
theorem dX5_areMarksRight_54 : decode cX5_areMarksRight 54 = .ok (.ireturn, 1) := by decide +kernel
