theorem dX4_init_0 : decode cX4_init 0 = .ok (.aload_n 0, 1) := by decide +kernel
theorem dX4_init_1 : decode cX4_init 1 = .ok (.invokespecial 1, 3) := by decide +kernel
theorem dX4_init_4 : decode cX4_init 4 = .ok (.aload_n 0, 1) := by decide +kernel
theorem dX4_init_5 : decode cX4_init 5 = .ok (.iconst 1, 1) := by decide +kernel
theorem dX4_init_6 : decode cX4_init 6 = .ok (.putfield 7, 3) := by decide +kernel
theorem dX4_init_9 : decode cX4_init 9 = .ok (.aload_n 0, 1) := by decide +kernel
theorem dX4_init_10 : decode cX4_init 10 = .ok (.iconst 1, 1) := by decide +kernel
theorem dX4_init_11 : decode cX4_init 11 = .ok (.putfield 13, 3) := by decide +kernel
theorem dX4_init_14 : decode cX4_init 14 = .ok (.aload_n 0, 1) := by decide +kernel
theorem dX4_init_15 : decode cX4_init 15 = .ok (.iconst 1, 1) := by decide +kernel
theorem dX4_init_16 : decode cX4_init 16 = .ok (.putfield 16, 3) := by decide +kernel
theorem dX4_init_19 : decode cX4_init 19 = .ok (.aload_n 0, 1) := by decide +kernel
theorem dX4_init_20 : decode cX4_init 20 = .ok (.bipush 6, 2) := by decide +kernel
theorem dX4_init_22 : decode cX4_init 22 = .ok (.newarray .int, 2) := by decide +kernel
theorem dX4_init_24 : decode cX4_init 24 = .ok (.putfield 19, 3) := by decide +kernel
theorem dX4_init_27 : decode cX4_init 27 = .ok (.aload_n 0, 1) := by decide +kernel
theorem dX4_init_28 : decode cX4_init 28 = .ok (.bipush 6, 2) := by decide +kernel
theorem dX4_init_30 : decode cX4_init 30 = .ok (.newarray .int, 2) := by decide +kernel
theorem dX4_init_32 : decode cX4_init 32 = .ok (.putfield 23, 3) := by decide +kernel
theorem dX4_init_35 : decode cX4_init 35 = .ok (.aload_n 0, 1) := by decide +kernel
theorem dX4_init_36 : decode cX4_init 36 = .ok (.bipush 6, 2) := by decide +kernel
theorem dX4_init_38 : decode cX4_init 38 = .ok (.newarray .int, 2) := by decide +kernel
theorem dX4_init_40 : decode cX4_init 40 = .ok (.putfield 26, 3) := by decide +kernel
theorem dX4_init_43 : decode cX4_init 43 = .ok (.aload_n 0, 1) := by decide +kernel
theorem dX4_init_44 : decode cX4_init 44 = .ok (.sipush 312, 3) := by decide +kernel
theorem dX4_init_47 : decode cX4_init 47 = .ok (.newarray .long, 2) := by decide +kernel
theorem dX4_init_49 : decode cX4_init 49 = .ok (.putfield 29, 3) := by decide +kernel
theorem dX4_init_52 : decode cX4_init 52 = .ok (.aload_n 0, 1) := by decide +kernel
theorem dX4_init_53 : decode cX4_init 53 = .ok (.bipush 12, 2) := by decide +kernel
theorem dX4_init_55 : decode cX4_init 55 = .ok (.newarray .int, 2) := by decide +kernel
theorem dX4_init_57 : decode cX4_init 57 = .ok (.putfield 33, 3) := by decide +kernel
theorem dX4_init_60 : decode cX4_init 60 = .ok (.aload_n 0, 1) := by decide +kernel
theorem dX4_init_61 : decode cX4_init 61 = .ok (.sipush 200, 3) := by decide +kernel
theorem dX4_init_64 : decode cX4_init 64 = .ok (.newarray .int, 2) := by decide +kernel
theorem dX4_init_66 : decode cX4_init 66 = .ok (.putfield 36, 3) := by decide +kernel
theorem dX4_init_69 : decode cX4_init 69 = .ok (.aload_n 0, 1) := by decide +kernel
theorem dX4_init_70 : decode cX4_init 70 = .ok (.sipush 200, 3) := by decide +kernel
theorem dX4_init_73 : decode cX4_init 73 = .ok (.newarray .int, 2) := by decide +kernel
theorem dX4_init_75 : decode cX4_init 75 = .ok (.putfield 39, 3) := by decide +kernel
theorem dX4_init_78 : decode cX4_init 78 = .ok (.aload_n 0, 1) := by decide +kernel
theorem dX4_init_79 : decode cX4_init 79 = .ok (.sipush 200, 3) := by decide +kernel
theorem dX4_init_82 : decode cX4_init 82 = .ok (.newarray .int, 2) := by decide +kernel
theorem dX4_init_84 : decode cX4_init 84 = .ok (.putfield 42, 3) := by decide +kernel
theorem dX4_init_87 : decode cX4_init 87 = .ok (.return_, 1) := by decide +kernel
theorem dX4_in_0 : decode cX4_in 0 = .ok (.iload_n 0, 1) := by decide +kernel
theorem dX4_in_1 : decode cX4_in 1 = .ok (.iload_n 1, 1) := by decide +kernel
theorem dX4_in_2 : decode cX4_in 2 = .ok (.if_icmp .lt 12, 3) := by decide +kernel
theorem dX4_in_5 : decode cX4_in 5 = .ok (.iload_n 0, 1) := by decide +kernel
theorem dX4_in_6 : decode cX4_in 6 = .ok (.iload_n 2, 1) := by decide +kernel
theorem dX4_in_7 : decode cX4_in 7 = .ok (.if_icmp .gt 7, 3) := by decide +kernel
theorem dX4_in_10 : decode cX4_in 10 = .ok (.iconst 1, 1) := by decide +kernel
theorem dX4_in_11 : decode cX4_in 11 = .ok (.goto 4, 3) := by decide +kernel
theorem dX4_in_14 : decode cX4_in 14 = .ok (.iconst 0, 1) := by decide +kernel
theorem dX4_in_15 : decode cX4_in 15 = .ok (.ireturn, 1) := by decide +kernel
theorem dX4_forgets_0 : decode cX4_forgets 0 = .ok (.aload_n 0, 1) := by decide +kernel
theorem dX4_forgets_1 : decode cX4_forgets 1 = .ok (.iconst 0, 1) := by decide +kernel
theorem dX4_forgets_2 : decode cX4_forgets 2 = .ok (.putfield 45, 3) := by decide +kernel
theorem dX4_forgets_5 : decode cX4_forgets 5 = .ok (.aload_n 0, 1) := by decide +kernel
theorem dX4_forgets_6 : decode cX4_forgets 6 = .ok (.iconst 0, 1) := by decide +kernel
theorem dX4_forgets_7 : decode cX4_forgets 7 = .ok (.putfield 49, 3) := by decide +kernel
theorem dX4_forgets_10 : decode cX4_forgets 10 = .ok (.aload_n 0, 1) := by decide +kernel
theorem dX4_forgets_11 : decode cX4_forgets 11 = .ok (.iconst 0, 1) := by decide +kernel
theorem dX4_forgets_12 : decode cX4_forgets 12 = .ok (.putfield 52, 3) := by decide +kernel
theorem dX4_forgets_15 : decode cX4_forgets 15 = .ok (.aload_n 0, 1) := by decide +kernel
theorem dX4_forgets_16 : decode cX4_forgets 16 = .ok (.iconst 0, 1) := by decide +kernel
theorem dX4_forgets_17 : decode cX4_forgets 17 = .ok (.putfield 55, 3) := by decide +kernel
theorem dX4_forgets_20 : decode cX4_forgets 20 = .ok (.return_, 1) := by decide +kernel
set_option maxRecDepth 20000 in
theorem ggX4_isPoint_X4_in : GoodIn wsX4_isPoint wsX4_in := goodIn_r _ [5] (by decide +kernel) (by decide +kernel)
set_option maxRecDepth 20000 in
theorem gX4_isPoint_X4_in : GoodIn wsX4_isPoint (va_wsS RX4 61 yX4_in wsX4_in) := goodIn_app (goodIn_of _ (by decide +kernel)) ggX4_isPoint_X4_in
theorem dX4_isPoint_0 : decode cX4_isPoint 0 = .ok (.iload_n 1, 1) := by decide +kernel
theorem dX4_isPoint_1 : decode cX4_isPoint 1 = .ok (.iconst 0, 1) := by decide +kernel
theorem dX4_isPoint_2 : decode cX4_isPoint 2 = .ok (.aload_n 0, 1) := by decide +kernel
theorem dX4_isPoint_3 : decode cX4_isPoint 3 = .ok (.getfield 58, 3) := by decide +kernel
theorem dX4_isPoint_6 : decode cX4_isPoint 6 = .ok (.iconst 1, 1) := by decide +kernel
theorem dX4_isPoint_7 : decode cX4_isPoint 7 = .ok (.isub, 1) := by decide +kernel
theorem dX4_isPoint_8 : decode cX4_isPoint 8 = .ok (.invokestatic 61, 3) := by decide +kernel
theorem dX4_isPoint_11 : decode cX4_isPoint 11 = .ok (.ireturn, 1) := by decide +kernel
set_option maxRecDepth 20000 in
theorem ggX4_point_X4_in : GoodIn wsX4_point wsX4_in := goodIn_r _ [9] (by decide +kernel) (by decide +kernel)
set_option maxRecDepth 20000 in
theorem gX4_point_X4_in : GoodIn wsX4_point (va_wsS RX4 61 yX4_in wsX4_in) := goodIn_app (goodIn_of _ (by decide +kernel)) ggX4_point_X4_in
set_option maxRecDepth 20000 in
theorem ggX4_point_X4_forgets : GoodIn wsX4_point wsX4_forgets := goodIn_r _ [13, 14, 15, 16, 17, 18, 19, 20, 21, 22, 23, 24, 25, 26, 27, 28, 29, 30, 31, 32, 33, 34, 35, 36, 37] (by decide +kernel) (by decide +kernel)
set_option maxRecDepth 20000 in
theorem gX4_point_X4_forgets : GoodIn wsX4_point (wsV RX4 65 RX4 yX4_forgets wsX4_forgets) := goodIn_app (goodIn_of _ (by decide +kernel)) ggX4_point_X4_forgets
theorem dX4_point_0 : decode cX4_point 0 = .ok (.iload_n 1, 1) := by decide +kernel
theorem dX4_point_1 : decode cX4_point 1 = .ok (.bipush (-4), 2) := by decide +kernel
theorem dX4_point_3 : decode cX4_point 3 = .ok (.iconst 4, 1) := by decide +kernel
theorem dX4_point_4 : decode cX4_point 4 = .ok (.invokestatic 61, 3) := by decide +kernel
theorem dX4_point_7 : decode cX4_point 7 = .ok (.ifCond .eq 23, 3) := by decide +kernel
theorem dX4_point_10 : decode cX4_point 10 = .ok (.iload_n 2, 1) := by decide +kernel
theorem dX4_point_11 : decode cX4_point 11 = .ok (.bipush (-4), 2) := by decide +kernel
theorem dX4_point_13 : decode cX4_point 13 = .ok (.iconst 4, 1) := by decide +kernel
theorem dX4_point_14 : decode cX4_point 14 = .ok (.invokestatic 61, 3) := by decide +kernel
theorem dX4_point_17 : decode cX4_point 17 = .ok (.ifCond .eq 13, 3) := by decide +kernel
theorem dX4_point_20 : decode cX4_point 20 = .ok (.iload_n 3, 1) := by decide +kernel
theorem dX4_point_21 : decode cX4_point 21 = .ok (.iconst 1, 1) := by decide +kernel
theorem dX4_point_22 : decode cX4_point 22 = .ok (.if_icmp .eq 11, 3) := by decide +kernel
theorem dX4_point_25 : decode cX4_point 25 = .ok (.iload_n 3, 1) := by decide +kernel
theorem dX4_point_26 : decode cX4_point 26 = .ok (.iconst (-1), 1) := by decide +kernel
theorem dX4_point_27 : decode cX4_point 27 = .ok (.if_icmp .eq 6, 3) := by decide +kernel
theorem dX4_point_30 : decode cX4_point 30 = .ok (.bipush (-2), 2) := by decide +kernel
theorem dX4_point_32 : decode cX4_point 32 = .ok (.ireturn, 1) := by decide +kernel
theorem dX4_point_33 : decode cX4_point 33 = .ok (.aload_n 0, 1) := by decide +kernel
theorem dX4_point_34 : decode cX4_point 34 = .ok (.getfield 58, 3) := by decide +kernel
theorem dX4_point_37 : decode cX4_point 37 = .ok (.aload_n 0, 1) := by decide +kernel
theorem dX4_point_38 : decode cX4_point 38 = .ok (.getfield 7, 3) := by decide +kernel
theorem dX4_point_41 : decode cX4_point 41 = .ok (.iconst 1, 1) := by decide +kernel
theorem dX4_point_42 : decode cX4_point 42 = .ok (.if_icmp .ne 8, 3) := by decide +kernel
theorem dX4_point_45 : decode cX4_point 45 = .ok (.bipush 6, 2) := by decide +kernel
theorem dX4_point_47 : decode cX4_point 47 = .ok (.goto 4, 3) := by decide +kernel
theorem dX4_point_50 : decode cX4_point 50 = .ok (.iconst 4, 1) := by decide +kernel
theorem dX4_point_51 : decode cX4_point 51 = .ok (.if_icmp .ne 6, 3) := by decide +kernel
theorem dX4_point_54 : decode cX4_point 54 = .ok (.bipush (-4), 2) := by decide +kernel
theorem dX4_point_56 : decode cX4_point 56 = .ok (.ireturn, 1) := by decide +kernel
theorem dX4_point_57 : decode cX4_point 57 = .ok (.aload_n 0, 1) := by decide +kernel
theorem dX4_point_58 : decode cX4_point 58 = .ok (.getfield 19, 3) := by decide +kernel
theorem dX4_point_61 : decode cX4_point 61 = .ok (.aload_n 0, 1) := by decide +kernel
theorem dX4_point_62 : decode cX4_point 62 = .ok (.getfield 58, 3) := by decide +kernel
theorem dX4_point_65 : decode cX4_point 65 = .ok (.iload_n 1, 1) := by decide +kernel
theorem dX4_point_66 : decode cX4_point 66 = .ok (.iastore, 1) := by decide +kernel
theorem dX4_point_67 : decode cX4_point 67 = .ok (.aload_n 0, 1) := by decide +kernel
theorem dX4_point_68 : decode cX4_point 68 = .ok (.getfield 23, 3) := by decide +kernel
theorem dX4_point_71 : decode cX4_point 71 = .ok (.aload_n 0, 1) := by decide +kernel
theorem dX4_point_72 : decode cX4_point 72 = .ok (.getfield 58, 3) := by decide +kernel
theorem dX4_point_75 : decode cX4_point 75 = .ok (.iload_n 2, 1) := by decide +kernel
theorem dX4_point_76 : decode cX4_point 76 = .ok (.iastore, 1) := by decide +kernel
theorem dX4_point_77 : decode cX4_point 77 = .ok (.aload_n 0, 1) := by decide +kernel
theorem dX4_point_78 : decode cX4_point 78 = .ok (.getfield 26, 3) := by decide +kernel
theorem dX4_point_81 : decode cX4_point 81 = .ok (.aload_n 0, 1) := by decide +kernel
theorem dX4_point_82 : decode cX4_point 82 = .ok (.getfield 58, 3) := by decide +kernel
theorem dX4_point_85 : decode cX4_point 85 = .ok (.iload_n 3, 1) := by decide +kernel
theorem dX4_point_86 : decode cX4_point 86 = .ok (.iastore, 1) := by decide +kernel
theorem dX4_point_87 : decode cX4_point 87 = .ok (.aload_n 0, 1) := by decide +kernel
theorem dX4_point_88 : decode cX4_point 88 = .ok (.dup, 1) := by decide +kernel
theorem dX4_point_89 : decode cX4_point 89 = .ok (.getfield 58, 3) := by decide +kernel
theorem dX4_point_92 : decode cX4_point 92 = .ok (.iconst 1, 1) := by decide +kernel
theorem dX4_point_93 : decode cX4_point 93 = .ok (.iadd, 1) := by decide +kernel
theorem dX4_point_94 : decode cX4_point 94 = .ok (.putfield 58, 3) := by decide +kernel
theorem dX4_point_97 : decode cX4_point 97 = .ok (.aload_n 0, 1) := by decide +kernel
theorem dX4_point_98 : decode cX4_point 98 = .ok (.invokevirtual 65, 3) := by decide +kernel
theorem dX4_point_101 : decode cX4_point 101 = .ok (.aload_n 0, 1) := by decide +kernel
theorem dX4_point_102 : decode cX4_point 102 = .ok (.getfield 58, 3) := by decide +kernel
theorem dX4_point_105 : decode cX4_point 105 = .ok (.iconst 1, 1) := by decide +kernel
theorem dX4_point_106 : decode cX4_point 106 = .ok (.isub, 1) := by decide +kernel
theorem dX4_point_107 : decode cX4_point 107 = .ok (.ireturn, 1) := by decide +kernel
set_option maxRecDepth 20000 in
theorem ggX4_drop_X4_forgets : GoodIn wsX4_drop wsX4_forgets := goodIn_r _ [6, 7, 8, 9, 10, 11, 12, 13, 14, 15, 16, 17, 18, 19, 20, 21, 22, 23, 24, 25, 26, 27, 28, 29, 30] (by decide +kernel) (by decide +kernel)
set_option maxRecDepth 20000 in
theorem gX4_drop_X4_forgets : GoodIn wsX4_drop (wsV RX4 65 RX4 yX4_forgets wsX4_forgets) := goodIn_app (goodIn_of _ (by decide +kernel)) ggX4_drop_X4_forgets
theorem dX4_drop_0 : decode cX4_drop 0 = .ok (.aload_n 0, 1) := by decide +kernel
theorem dX4_drop_1 : decode cX4_drop 1 = .ok (.getfield 58, 3) := by decide +kernel
theorem dX4_drop_4 : decode cX4_drop 4 = .ok (.ifCond .ne 6, 3) := by decide +kernel
theorem dX4_drop_7 : decode cX4_drop 7 = .ok (.bipush (-3), 2) := by decide +kernel
theorem dX4_drop_9 : decode cX4_drop 9 = .ok (.ireturn, 1) := by decide +kernel
theorem dX4_drop_10 : decode cX4_drop 10 = .ok (.aload_n 0, 1) := by decide +kernel
theorem dX4_drop_11 : decode cX4_drop 11 = .ok (.dup, 1) := by decide +kernel
theorem dX4_drop_12 : decode cX4_drop 12 = .ok (.getfield 58, 3) := by decide +kernel
theorem dX4_drop_15 : decode cX4_drop 15 = .ok (.iconst 1, 1) := by decide +kernel
theorem dX4_drop_16 : decode cX4_drop 16 = .ok (.isub, 1) := by decide +kernel
theorem dX4_drop_17 : decode cX4_drop 17 = .ok (.putfield 58, 3) := by decide +kernel
theorem dX4_drop_20 : decode cX4_drop 20 = .ok (.aload_n 0, 1) := by decide +kernel
theorem dX4_drop_21 : decode cX4_drop 21 = .ok (.invokevirtual 65, 3) := by decide +kernel
theorem dX4_drop_24 : decode cX4_drop 24 = .ok (.aload_n 0, 1) := by decide +kernel
theorem dX4_drop_25 : decode cX4_drop 25 = .ok (.getfield 58, 3) := by decide +kernel
theorem dX4_drop_28 : decode cX4_drop 28 = .ok (.ireturn, 1) := by decide +kernel
set_option maxRecDepth 20000 in
theorem ggX4_degree_X4_in : GoodIn wsX4_degree wsX4_in := goodIn_r _ [6] (by decide +kernel) (by decide +kernel)
set_option maxRecDepth 20000 in
theorem gX4_degree_X4_in : GoodIn wsX4_degree (va_wsS RX4 61 yX4_in wsX4_in) := goodIn_app (goodIn_of _ (by decide +kernel)) ggX4_degree_X4_in
set_option maxRecDepth 20000 in
theorem ggX4_degree_X4_forgets : GoodIn wsX4_degree wsX4_forgets := goodIn_r _ [10, 11, 12, 13, 14, 15, 16, 17, 18, 19, 20, 21, 22, 23, 24, 25, 26, 27, 28, 29, 30, 31, 32, 33, 34] (by decide +kernel) (by decide +kernel)
set_option maxRecDepth 20000 in
theorem gX4_degree_X4_forgets : GoodIn wsX4_degree (wsV RX4 65 RX4 yX4_forgets wsX4_forgets) := goodIn_app (goodIn_of _ (by decide +kernel)) ggX4_degree_X4_forgets
theorem dX4_degree_0 : decode cX4_degree 0 = .ok (.iload_n 1, 1) := by decide +kernel
theorem dX4_degree_1 : decode cX4_degree 1 = .ok (.iconst 1, 1) := by decide +kernel
theorem dX4_degree_2 : decode cX4_degree 2 = .ok (.iconst 2, 1) := by decide +kernel
theorem dX4_degree_3 : decode cX4_degree 3 = .ok (.invokestatic 61, 3) := by decide +kernel
theorem dX4_degree_6 : decode cX4_degree 6 = .ok (.ifCond .ne 6, 3) := by decide +kernel
theorem dX4_degree_9 : decode cX4_degree 9 = .ok (.bipush (-2), 2) := by decide +kernel
theorem dX4_degree_11 : decode cX4_degree 11 = .ok (.ireturn, 1) := by decide +kernel
theorem dX4_degree_12 : decode cX4_degree 12 = .ok (.iload_n 1, 1) := by decide +kernel
theorem dX4_degree_13 : decode cX4_degree 13 = .ok (.iconst 2, 1) := by decide +kernel
theorem dX4_degree_14 : decode cX4_degree 14 = .ok (.if_icmp .ne 14, 3) := by decide +kernel
theorem dX4_degree_17 : decode cX4_degree 17 = .ok (.aload_n 0, 1) := by decide +kernel
theorem dX4_degree_18 : decode cX4_degree 18 = .ok (.getfield 58, 3) := by decide +kernel
theorem dX4_degree_21 : decode cX4_degree 21 = .ok (.iconst 4, 1) := by decide +kernel
theorem dX4_degree_22 : decode cX4_degree 22 = .ok (.if_icmp .le 6, 3) := by decide +kernel
theorem dX4_degree_25 : decode cX4_degree 25 = .ok (.bipush (-3), 2) := by decide +kernel
theorem dX4_degree_27 : decode cX4_degree 27 = .ok (.ireturn, 1) := by decide +kernel
theorem dX4_degree_28 : decode cX4_degree 28 = .ok (.aload_n 0, 1) := by decide +kernel
theorem dX4_degree_29 : decode cX4_degree 29 = .ok (.getfield 7, 3) := by decide +kernel
theorem dX4_degree_32 : decode cX4_degree 32 = .ok (.istore_n 2, 1) := by decide +kernel
theorem dX4_degree_33 : decode cX4_degree 33 = .ok (.aload_n 0, 1) := by decide +kernel
theorem dX4_degree_34 : decode cX4_degree 34 = .ok (.iload_n 1, 1) := by decide +kernel
theorem dX4_degree_35 : decode cX4_degree 35 = .ok (.putfield 7, 3) := by decide +kernel
theorem dX4_degree_38 : decode cX4_degree 38 = .ok (.aload_n 0, 1) := by decide +kernel
theorem dX4_degree_39 : decode cX4_degree 39 = .ok (.invokevirtual 65, 3) := by decide +kernel
theorem dX4_degree_42 : decode cX4_degree 42 = .ok (.iload_n 2, 1) := by decide +kernel
theorem dX4_degree_43 : decode cX4_degree 43 = .ok (.ireturn, 1) := by decide +kernel
set_option maxRecDepth 20000 in
theorem ggX4_box_X4_in : GoodIn wsX4_box wsX4_in := goodIn_r _ [6] (by decide +kernel) (by decide +kernel)
set_option maxRecDepth 20000 in
theorem gX4_box_X4_in : GoodIn wsX4_box (va_wsS RX4 61 yX4_in wsX4_in) := goodIn_app (goodIn_of _ (by decide +kernel)) ggX4_box_X4_in
set_option maxRecDepth 20000 in
theorem ggX4_box_X4_forgets : GoodIn wsX4_box wsX4_forgets := goodIn_r _ [10, 11, 12, 13, 14, 15, 16, 17, 18, 19, 20, 21, 22, 23, 24, 25, 26, 27, 28, 29, 30, 31, 32, 33, 34] (by decide +kernel) (by decide +kernel)
set_option maxRecDepth 20000 in
theorem gX4_box_X4_forgets : GoodIn wsX4_box (wsV RX4 65 RX4 yX4_forgets wsX4_forgets) := goodIn_app (goodIn_of _ (by decide +kernel)) ggX4_box_X4_forgets
theorem dX4_box_0 : decode cX4_box 0 = .ok (.iload_n 1, 1) := by decide +kernel
theorem dX4_box_1 : decode cX4_box 1 = .ok (.iconst 1, 1) := by decide +kernel
theorem dX4_box_2 : decode cX4_box 2 = .ok (.bipush 20, 2) := by decide +kernel
theorem dX4_box_4 : decode cX4_box 4 = .ok (.invokestatic 61, 3) := by decide +kernel
theorem dX4_box_7 : decode cX4_box 7 = .ok (.ifCond .eq 13, 3) := by decide +kernel
theorem dX4_box_10 : decode cX4_box 10 = .ok (.iload_n 2, 1) := by decide +kernel
theorem dX4_box_11 : decode cX4_box 11 = .ok (.iconst 1, 1) := by decide +kernel
theorem dX4_box_12 : decode cX4_box 12 = .ok (.bipush 6, 2) := by decide +kernel
theorem dX4_box_14 : decode cX4_box 14 = .ok (.invokestatic 61, 3) := by decide +kernel
theorem dX4_box_17 : decode cX4_box 17 = .ok (.ifCond .ne 6, 3) := by decide +kernel
theorem dX4_box_20 : decode cX4_box 20 = .ok (.bipush (-2), 2) := by decide +kernel
theorem dX4_box_22 : decode cX4_box 22 = .ok (.ireturn, 1) := by decide +kernel
theorem dX4_box_23 : decode cX4_box 23 = .ok (.aload_n 0, 1) := by decide +kernel
theorem dX4_box_24 : decode cX4_box 24 = .ok (.iload_n 1, 1) := by decide +kernel
theorem dX4_box_25 : decode cX4_box 25 = .ok (.putfield 13, 3) := by decide +kernel
theorem dX4_box_28 : decode cX4_box 28 = .ok (.aload_n 0, 1) := by decide +kernel
theorem dX4_box_29 : decode cX4_box 29 = .ok (.iload_n 2, 1) := by decide +kernel
theorem dX4_box_30 : decode cX4_box 30 = .ok (.putfield 16, 3) := by decide +kernel
theorem dX4_box_33 : decode cX4_box 33 = .ok (.aload_n 0, 1) := by decide +kernel
theorem dX4_box_34 : decode cX4_box 34 = .ok (.invokevirtual 65, 3) := by decide +kernel
theorem dX4_box_37 : decode cX4_box 37 = .ok (.iconst 1, 1) := by decide +kernel
theorem dX4_box_38 : decode cX4_box 38 = .ok (.ireturn, 1) := by decide +kernel
theorem dX4_kernel_0 : decode cX4_kernel 0 = .ok (.aload_n 0, 1) := by decide +kernel
theorem dX4_kernel_1 : decode cX4_kernel 1 = .ok (.getfield 19, 3) := by decide +kernel
theorem dX4_kernel_4 : decode cX4_kernel 4 = .ok (.iload_n 1, 1) := by decide +kernel
theorem dX4_kernel_5 : decode cX4_kernel 5 = .ok (.iaload, 1) := by decide +kernel
theorem dX4_kernel_6 : decode cX4_kernel 6 = .ok (.iload_n 2, 1) := by decide +kernel
theorem dX4_kernel_7 : decode cX4_kernel 7 = .ok (.imul, 1) := by decide +kernel
theorem dX4_kernel_8 : decode cX4_kernel 8 = .ok (.aload_n 0, 1) := by decide +kernel
theorem dX4_kernel_9 : decode cX4_kernel 9 = .ok (.getfield 23, 3) := by decide +kernel
theorem dX4_kernel_12 : decode cX4_kernel 12 = .ok (.iload_n 1, 1) := by decide +kernel
theorem dX4_kernel_13 : decode cX4_kernel 13 = .ok (.iaload, 1) := by decide +kernel
theorem dX4_kernel_14 : decode cX4_kernel 14 = .ok (.iload_n 3, 1) := by decide +kernel
theorem dX4_kernel_15 : decode cX4_kernel 15 = .ok (.imul, 1) := by decide +kernel
theorem dX4_kernel_16 : decode cX4_kernel 16 = .ok (.iadd, 1) := by decide +kernel
theorem dX4_kernel_17 : decode cX4_kernel 17 = .ok (.iconst 1, 1) := by decide +kernel
theorem dX4_kernel_18 : decode cX4_kernel 18 = .ok (.iadd, 1) := by decide +kernel
theorem dX4_kernel_19 : decode cX4_kernel 19 = .ok (.istore 4, 2) := by decide +kernel
theorem dX4_kernel_21 : decode cX4_kernel 21 = .ok (.aload_n 0, 1) := by decide +kernel
theorem dX4_kernel_22 : decode cX4_kernel 22 = .ok (.getfield 7, 3) := by decide +kernel
theorem dX4_kernel_25 : decode cX4_kernel 25 = .ok (.iconst 1, 1) := by decide +kernel
theorem dX4_kernel_26 : decode cX4_kernel 26 = .ok (.if_icmp .ne 8, 3) := by decide +kernel
theorem dX4_kernel_29 : decode cX4_kernel 29 = .ok (.iload 4, 2) := by decide +kernel
theorem dX4_kernel_31 : decode cX4_kernel 31 = .ok (.goto 8, 3) := by decide +kernel
theorem dX4_kernel_34 : decode cX4_kernel 34 = .ok (.iload 4, 2) := by decide +kernel
theorem dX4_kernel_36 : decode cX4_kernel 36 = .ok (.iload 4, 2) := by decide +kernel
theorem dX4_kernel_38 : decode cX4_kernel 38 = .ok (.imul, 1) := by decide +kernel
theorem dX4_kernel_39 : decode cX4_kernel 39 = .ok (.ireturn, 1) := by decide +kernel
set_option maxRecDepth 20000 in
theorem ggX4_qOf_X4_kernel : GoodIn wsX4_qOf wsX4_kernel := goodIn_r _ [8, 2, 3, 9, 10, 11, 12, 13, 14, 15, 16, 17, 18, 19, 20, 21, 22, 23, 24, 25, 26, 27, 28, 29] (by decide +kernel) (by decide +kernel)
set_option maxRecDepth 20000 in
theorem gX4_qOf_X4_kernel : GoodIn wsX4_qOf (wsV RX4 68 RX4 yX4_kernel wsX4_kernel) := goodIn_app (goodIn_of _ (by decide +kernel)) ggX4_qOf_X4_kernel
theorem dX4_qOf_0 : decode cX4_qOf 0 = .ok (.aload_n 0, 1) := by decide +kernel
theorem dX4_qOf_1 : decode cX4_qOf 1 = .ok (.getfield 26, 3) := by decide +kernel
theorem dX4_qOf_4 : decode cX4_qOf 4 = .ok (.iload_n 1, 1) := by decide +kernel
theorem dX4_qOf_5 : decode cX4_qOf 5 = .ok (.iaload, 1) := by decide +kernel
theorem dX4_qOf_6 : decode cX4_qOf 6 = .ok (.aload_n 0, 1) := by decide +kernel
theorem dX4_qOf_7 : decode cX4_qOf 7 = .ok (.getfield 26, 3) := by decide +kernel
theorem dX4_qOf_10 : decode cX4_qOf 10 = .ok (.iload_n 2, 1) := by decide +kernel
theorem dX4_qOf_11 : decode cX4_qOf 11 = .ok (.iaload, 1) := by decide +kernel
theorem dX4_qOf_12 : decode cX4_qOf 12 = .ok (.imul, 1) := by decide +kernel
theorem dX4_qOf_13 : decode cX4_qOf 13 = .ok (.aload_n 0, 1) := by decide +kernel
theorem dX4_qOf_14 : decode cX4_qOf 14 = .ok (.iload_n 1, 1) := by decide +kernel
theorem dX4_qOf_15 : decode cX4_qOf 15 = .ok (.aload_n 0, 1) := by decide +kernel
theorem dX4_qOf_16 : decode cX4_qOf 16 = .ok (.getfield 19, 3) := by decide +kernel
theorem dX4_qOf_19 : decode cX4_qOf 19 = .ok (.iload_n 2, 1) := by decide +kernel
theorem dX4_qOf_20 : decode cX4_qOf 20 = .ok (.iaload, 1) := by decide +kernel
theorem dX4_qOf_21 : decode cX4_qOf 21 = .ok (.aload_n 0, 1) := by decide +kernel
theorem dX4_qOf_22 : decode cX4_qOf 22 = .ok (.getfield 23, 3) := by decide +kernel
theorem dX4_qOf_25 : decode cX4_qOf 25 = .ok (.iload_n 2, 1) := by decide +kernel
theorem dX4_qOf_26 : decode cX4_qOf 26 = .ok (.iaload, 1) := by decide +kernel
theorem dX4_qOf_27 : decode cX4_qOf 27 = .ok (.invokevirtual 68, 3) := by decide +kernel
theorem dX4_qOf_30 : decode cX4_qOf 30 = .ok (.imul, 1) := by decide +kernel
theorem dX4_qOf_31 : decode cX4_qOf 31 = .ok (.ireturn, 1) := by decide +kernel
set_option maxRecDepth 20000 in
theorem ggX4_q_X4_isPoint : GoodIn wsX4_q wsX4_isPoint := goodIn_r _ [6, 7, 8, 9, 5, 10, 23, 24, 25, 26, 27, 28, 29, 30, 31, 32, 33, 34, 35, 36, 37, 38, 39, 40, 41, 42] (by decide +kernel) (by decide +kernel)
set_option maxRecDepth 20000 in
theorem gX4_q_X4_isPoint : GoodIn wsX4_q (wsV RX4 72 RX4 yX4_isPoint wsX4_isPoint) := goodIn_app (goodIn_of _ (by decide +kernel)) ggX4_q_X4_isPoint
set_option maxRecDepth 20000 in
theorem ggX4_q_X4_qOf : GoodIn wsX4_q wsX4_qOf := goodIn_r _ [14, 15, 16, 17, 18, 19, 20, 5, 21, 22, 23, 24, 25, 26, 27, 28, 29, 30, 31, 32, 33, 34, 35, 36, 37, 38, 39, 40, 41, 42] (by decide +kernel) (by decide +kernel)
set_option maxRecDepth 20000 in
theorem gX4_q_X4_qOf : GoodIn wsX4_q (wsV RX4 76 RX4 yX4_qOf wsX4_qOf) := goodIn_app (goodIn_of _ (by decide +kernel)) ggX4_q_X4_qOf
theorem dX4_q_0 : decode cX4_q 0 = .ok (.aload_n 0, 1) := by decide +kernel
theorem dX4_q_1 : decode cX4_q 1 = .ok (.iload_n 1, 1) := by decide +kernel
theorem dX4_q_2 : decode cX4_q 2 = .ok (.invokevirtual 72, 3) := by decide +kernel
theorem dX4_q_5 : decode cX4_q 5 = .ok (.ifCond .eq 20, 3) := by decide +kernel
theorem dX4_q_8 : decode cX4_q 8 = .ok (.aload_n 0, 1) := by decide +kernel
theorem dX4_q_9 : decode cX4_q 9 = .ok (.iload_n 2, 1) := by decide +kernel
theorem dX4_q_10 : decode cX4_q 10 = .ok (.invokevirtual 72, 3) := by decide +kernel
theorem dX4_q_13 : decode cX4_q 13 = .ok (.ifCond .eq 12, 3) := by decide +kernel
theorem dX4_q_16 : decode cX4_q 16 = .ok (.aload_n 0, 1) := by decide +kernel
theorem dX4_q_17 : decode cX4_q 17 = .ok (.iload_n 1, 1) := by decide +kernel
theorem dX4_q_18 : decode cX4_q 18 = .ok (.iload_n 2, 1) := by decide +kernel
theorem dX4_q_19 : decode cX4_q 19 = .ok (.invokevirtual 76, 3) := by decide +kernel
theorem dX4_q_22 : decode cX4_q 22 = .ok (.goto 5, 3) := by decide +kernel
theorem dX4_q_25 : decode cX4_q 25 = .ok (.ldc 80, 2) := by decide +kernel
theorem dX4_q_27 : decode cX4_q 27 = .ok (.ireturn, 1) := by decide +kernel
theorem dX4_product_0 : decode cX4_product 0 = .ok (.lload_n 1, 1) := by decide +kernel
theorem dX4_product_1 : decode cX4_product 1 = .ok (.ldc2_w 81, 3) := by decide +kernel
theorem dX4_product_4 : decode cX4_product 4 = .ok (.land, 1) := by decide +kernel
theorem dX4_product_5 : decode cX4_product 5 = .ok (.lstore 5, 2) := by decide +kernel
theorem dX4_product_7 : decode cX4_product 7 = .ok (.lload_n 1, 1) := by decide +kernel
theorem dX4_product_8 : decode cX4_product 8 = .ok (.bipush 32, 2) := by decide +kernel
theorem dX4_product_10 : decode cX4_product 10 = .ok (.lshr, 1) := by decide +kernel
theorem dX4_product_11 : decode cX4_product 11 = .ok (.lstore 7, 2) := by decide +kernel
theorem dX4_product_13 : decode cX4_product 13 = .ok (.lload_n 3, 1) := by decide +kernel
theorem dX4_product_14 : decode cX4_product 14 = .ok (.ldc2_w 81, 3) := by decide +kernel
theorem dX4_product_17 : decode cX4_product 17 = .ok (.land, 1) := by decide +kernel
theorem dX4_product_18 : decode cX4_product 18 = .ok (.lstore 9, 2) := by decide +kernel
theorem dX4_product_20 : decode cX4_product 20 = .ok (.lload_n 3, 1) := by decide +kernel
theorem dX4_product_21 : decode cX4_product 21 = .ok (.bipush 32, 2) := by decide +kernel
theorem dX4_product_23 : decode cX4_product 23 = .ok (.lshr, 1) := by decide +kernel
theorem dX4_product_24 : decode cX4_product 24 = .ok (.lstore 11, 2) := by decide +kernel
theorem dX4_product_26 : decode cX4_product 26 = .ok (.lload 5, 2) := by decide +kernel
theorem dX4_product_28 : decode cX4_product 28 = .ok (.lload 9, 2) := by decide +kernel
theorem dX4_product_30 : decode cX4_product 30 = .ok (.lmul, 1) := by decide +kernel
theorem dX4_product_31 : decode cX4_product 31 = .ok (.lstore 13, 2) := by decide +kernel
theorem dX4_product_33 : decode cX4_product 33 = .ok (.lload 7, 2) := by decide +kernel
theorem dX4_product_35 : decode cX4_product 35 = .ok (.lload 9, 2) := by decide +kernel
theorem dX4_product_37 : decode cX4_product 37 = .ok (.lmul, 1) := by decide +kernel
theorem dX4_product_38 : decode cX4_product 38 = .ok (.lload 13, 2) := by decide +kernel
theorem dX4_product_40 : decode cX4_product 40 = .ok (.bipush 32, 2) := by decide +kernel
theorem dX4_product_42 : decode cX4_product 42 = .ok (.lushr, 1) := by decide +kernel
theorem dX4_product_43 : decode cX4_product 43 = .ok (.ladd, 1) := by decide +kernel
theorem dX4_product_44 : decode cX4_product 44 = .ok (.lstore 15, 2) := by decide +kernel
theorem dX4_product_46 : decode cX4_product 46 = .ok (.lload 5, 2) := by decide +kernel
theorem dX4_product_48 : decode cX4_product 48 = .ok (.lload 11, 2) := by decide +kernel
theorem dX4_product_50 : decode cX4_product 50 = .ok (.lmul, 1) := by decide +kernel
theorem dX4_product_51 : decode cX4_product 51 = .ok (.lload 15, 2) := by decide +kernel
theorem dX4_product_53 : decode cX4_product 53 = .ok (.ldc2_w 81, 3) := by decide +kernel
theorem dX4_product_56 : decode cX4_product 56 = .ok (.land, 1) := by decide +kernel
theorem dX4_product_57 : decode cX4_product 57 = .ok (.ladd, 1) := by decide +kernel
theorem dX4_product_58 : decode cX4_product 58 = .ok (.lstore 17, 2) := by decide +kernel
theorem dX4_product_60 : decode cX4_product 60 = .ok (.aload_n 0, 1) := by decide +kernel
theorem dX4_product_61 : decode cX4_product 61 = .ok (.lload 7, 2) := by decide +kernel
theorem dX4_product_63 : decode cX4_product 63 = .ok (.lload 11, 2) := by decide +kernel
theorem dX4_product_65 : decode cX4_product 65 = .ok (.lmul, 1) := by decide +kernel
theorem dX4_product_66 : decode cX4_product 66 = .ok (.lload 15, 2) := by decide +kernel
theorem dX4_product_68 : decode cX4_product 68 = .ok (.bipush 32, 2) := by decide +kernel
theorem dX4_product_70 : decode cX4_product 70 = .ok (.lshr, 1) := by decide +kernel
theorem dX4_product_71 : decode cX4_product 71 = .ok (.ladd, 1) := by decide +kernel
theorem dX4_product_72 : decode cX4_product 72 = .ok (.lload 17, 2) := by decide +kernel
theorem dX4_product_74 : decode cX4_product 74 = .ok (.bipush 32, 2) := by decide +kernel
theorem dX4_product_76 : decode cX4_product 76 = .ok (.lshr, 1) := by decide +kernel
theorem dX4_product_77 : decode cX4_product 77 = .ok (.ladd, 1) := by decide +kernel
theorem dX4_product_78 : decode cX4_product 78 = .ok (.putfield 83, 3) := by decide +kernel
theorem dX4_product_81 : decode cX4_product 81 = .ok (.aload_n 0, 1) := by decide +kernel
theorem dX4_product_82 : decode cX4_product 82 = .ok (.lload_n 1, 1) := by decide +kernel
theorem dX4_product_83 : decode cX4_product 83 = .ok (.lload_n 3, 1) := by decide +kernel
theorem dX4_product_84 : decode cX4_product 84 = .ok (.lmul, 1) := by decide +kernel
theorem dX4_product_85 : decode cX4_product 85 = .ok (.putfield 87, 3) := by decide +kernel
theorem dX4_product_88 : decode cX4_product 88 = .ok (.return_, 1) := by decide +kernel
set_option maxRecDepth 20000 in
theorem ggX4_cross_X4_product : GoodIn wsX4_cross wsX4_product := goodIn_r _ [8, 9, 1, 2, 10, 11, 12, 13, 14, 15, 16, 17, 18, 19, 20, 21, 22, 23, 24, 25, 26, 27, 28, 29] (by decide +kernel) (by decide +kernel)
set_option maxRecDepth 20000 in
theorem gX4_cross_X4_product : GoodIn wsX4_cross (wsV RX4 90 RX4 yX4_product wsX4_product) := goodIn_app (goodIn_of _ (by decide +kernel)) ggX4_cross_X4_product
theorem dX4_cross_0 : decode cX4_cross 0 = .ok (.aload_n 0, 1) := by decide +kernel
theorem dX4_cross_1 : decode cX4_cross 1 = .ok (.lload_n 1, 1) := by decide +kernel
theorem dX4_cross_2 : decode cX4_cross 2 = .ok (.lload_n 3, 1) := by decide +kernel
theorem dX4_cross_3 : decode cX4_cross 3 = .ok (.invokevirtual 90, 3) := by decide +kernel
theorem dX4_cross_6 : decode cX4_cross 6 = .ok (.aload_n 0, 1) := by decide +kernel
theorem dX4_cross_7 : decode cX4_cross 7 = .ok (.getfield 83, 3) := by decide +kernel
theorem dX4_cross_10 : decode cX4_cross 10 = .ok (.lstore 9, 2) := by decide +kernel
theorem dX4_cross_12 : decode cX4_cross 12 = .ok (.aload_n 0, 1) := by decide +kernel
theorem dX4_cross_13 : decode cX4_cross 13 = .ok (.getfield 87, 3) := by decide +kernel
theorem dX4_cross_16 : decode cX4_cross 16 = .ok (.lstore 11, 2) := by decide +kernel
theorem dX4_cross_18 : decode cX4_cross 18 = .ok (.aload_n 0, 1) := by decide +kernel
theorem dX4_cross_19 : decode cX4_cross 19 = .ok (.lload 5, 2) := by decide +kernel
theorem dX4_cross_21 : decode cX4_cross 21 = .ok (.lload 7, 2) := by decide +kernel
theorem dX4_cross_23 : decode cX4_cross 23 = .ok (.invokevirtual 90, 3) := by decide +kernel
theorem dX4_cross_26 : decode cX4_cross 26 = .ok (.lload 11, 2) := by decide +kernel
theorem dX4_cross_28 : decode cX4_cross 28 = .ok (.aload_n 0, 1) := by decide +kernel
theorem dX4_cross_29 : decode cX4_cross 29 = .ok (.getfield 87, 3) := by decide +kernel
theorem dX4_cross_32 : decode cX4_cross 32 = .ok (.lsub, 1) := by decide +kernel
theorem dX4_cross_33 : decode cX4_cross 33 = .ok (.lstore 13, 2) := by decide +kernel
theorem dX4_cross_35 : decode cX4_cross 35 = .ok (.lload 11, 2) := by decide +kernel
theorem dX4_cross_37 : decode cX4_cross 37 = .ok (.ldc2_w 94, 3) := by decide +kernel
theorem dX4_cross_40 : decode cX4_cross 40 = .ok (.ladd, 1) := by decide +kernel
theorem dX4_cross_41 : decode cX4_cross 41 = .ok (.aload_n 0, 1) := by decide +kernel
theorem dX4_cross_42 : decode cX4_cross 42 = .ok (.getfield 87, 3) := by decide +kernel
theorem dX4_cross_45 : decode cX4_cross 45 = .ok (.ldc2_w 94, 3) := by decide +kernel
theorem dX4_cross_48 : decode cX4_cross 48 = .ok (.ladd, 1) := by decide +kernel
theorem dX4_cross_49 : decode cX4_cross 49 = .ok (.lcmp, 1) := by decide +kernel
theorem dX4_cross_50 : decode cX4_cross 50 = .ok (.ifCond .ge 7, 3) := by decide +kernel
theorem dX4_cross_53 : decode cX4_cross 53 = .ok (.iconst 1, 1) := by decide +kernel
theorem dX4_cross_54 : decode cX4_cross 54 = .ok (.goto 4, 3) := by decide +kernel
theorem dX4_cross_57 : decode cX4_cross 57 = .ok (.iconst 0, 1) := by decide +kernel
theorem dX4_cross_58 : decode cX4_cross 58 = .ok (.istore 15, 2) := by decide +kernel
theorem dX4_cross_60 : decode cX4_cross 60 = .ok (.aload_n 0, 1) := by decide +kernel
theorem dX4_cross_61 : decode cX4_cross 61 = .ok (.lload 9, 2) := by decide +kernel
theorem dX4_cross_63 : decode cX4_cross 63 = .ok (.aload_n 0, 1) := by decide +kernel
theorem dX4_cross_64 : decode cX4_cross 64 = .ok (.getfield 83, 3) := by decide +kernel
theorem dX4_cross_67 : decode cX4_cross 67 = .ok (.lsub, 1) := by decide +kernel
theorem dX4_cross_68 : decode cX4_cross 68 = .ok (.iload 15, 2) := by decide +kernel
theorem dX4_cross_70 : decode cX4_cross 70 = .ok (.ifCond .eq 7, 3) := by decide +kernel
theorem dX4_cross_73 : decode cX4_cross 73 = .ok (.lconst 1, 1) := by decide +kernel
theorem dX4_cross_74 : decode cX4_cross 74 = .ok (.goto 4, 3) := by decide +kernel
theorem dX4_cross_77 : decode cX4_cross 77 = .ok (.lconst 0, 1) := by decide +kernel
theorem dX4_cross_78 : decode cX4_cross 78 = .ok (.lsub, 1) := by decide +kernel
theorem dX4_cross_79 : decode cX4_cross 79 = .ok (.putfield 83, 3) := by decide +kernel
theorem dX4_cross_82 : decode cX4_cross 82 = .ok (.aload_n 0, 1) := by decide +kernel
theorem dX4_cross_83 : decode cX4_cross 83 = .ok (.lload 13, 2) := by decide +kernel
theorem dX4_cross_85 : decode cX4_cross 85 = .ok (.putfield 87, 3) := by decide +kernel
theorem dX4_cross_88 : decode cX4_cross 88 = .ok (.return_, 1) := by decide +kernel
set_option maxRecDepth 20000 in
theorem ggX4_signOfCross_X4_cross : GoodIn wsX4_signOfCross wsX4_cross := goodIn_r _ [7, 1, 2, 8, 9, 10, 11, 6, 12, 13, 14, 15, 16, 17, 18, 19, 20, 21, 22, 23, 24, 25, 26, 27, 28, 29, 30, 31, 32, 33] (by decide +kernel) (by decide +kernel)
set_option maxRecDepth 20000 in
theorem gX4_signOfCross_X4_cross : GoodIn wsX4_signOfCross (wsV RX4 96 RX4 yX4_cross wsX4_cross) := goodIn_app (goodIn_of _ (by decide +kernel)) ggX4_signOfCross_X4_cross
theorem dX4_signOfCross_0 : decode cX4_signOfCross 0 = .ok (.aload_n 0, 1) := by decide +kernel
theorem dX4_signOfCross_1 : decode cX4_signOfCross 1 = .ok (.lload_n 1, 1) := by decide +kernel
theorem dX4_signOfCross_2 : decode cX4_signOfCross 2 = .ok (.lload_n 3, 1) := by decide +kernel
theorem dX4_signOfCross_3 : decode cX4_signOfCross 3 = .ok (.lload 5, 2) := by decide +kernel
theorem dX4_signOfCross_5 : decode cX4_signOfCross 5 = .ok (.lload 7, 2) := by decide +kernel
theorem dX4_signOfCross_7 : decode cX4_signOfCross 7 = .ok (.invokevirtual 96, 3) := by decide +kernel
theorem dX4_signOfCross_10 : decode cX4_signOfCross 10 = .ok (.aload_n 0, 1) := by decide +kernel
theorem dX4_signOfCross_11 : decode cX4_signOfCross 11 = .ok (.getfield 83, 3) := by decide +kernel
theorem dX4_signOfCross_14 : decode cX4_signOfCross 14 = .ok (.lconst 0, 1) := by decide +kernel
theorem dX4_signOfCross_15 : decode cX4_signOfCross 15 = .ok (.lcmp, 1) := by decide +kernel
theorem dX4_signOfCross_16 : decode cX4_signOfCross 16 = .ok (.ifCond .ge 7, 3) := by decide +kernel
theorem dX4_signOfCross_19 : decode cX4_signOfCross 19 = .ok (.iconst (-1), 1) := by decide +kernel
theorem dX4_signOfCross_20 : decode cX4_signOfCross 20 = .ok (.goto 26, 3) := by decide +kernel
theorem dX4_signOfCross_23 : decode cX4_signOfCross 23 = .ok (.aload_n 0, 1) := by decide +kernel
theorem dX4_signOfCross_24 : decode cX4_signOfCross 24 = .ok (.getfield 83, 3) := by decide +kernel
theorem dX4_signOfCross_27 : decode cX4_signOfCross 27 = .ok (.lconst 0, 1) := by decide +kernel
theorem dX4_signOfCross_28 : decode cX4_signOfCross 28 = .ok (.lcmp, 1) := by decide +kernel
theorem dX4_signOfCross_29 : decode cX4_signOfCross 29 = .ok (.ifCond .gt 12, 3) := by decide +kernel
theorem dX4_signOfCross_32 : decode cX4_signOfCross 32 = .ok (.aload_n 0, 1) := by decide +kernel
theorem dX4_signOfCross_33 : decode cX4_signOfCross 33 = .ok (.getfield 87, 3) := by decide +kernel
theorem dX4_signOfCross_36 : decode cX4_signOfCross 36 = .ok (.lconst 0, 1) := by decide +kernel
theorem dX4_signOfCross_37 : decode cX4_signOfCross 37 = .ok (.lcmp, 1) := by decide +kernel
theorem dX4_signOfCross_38 : decode cX4_signOfCross 38 = .ok (.ifCond .eq 7, 3) := by decide +kernel
theorem dX4_signOfCross_41 : decode cX4_signOfCross 41 = .ok (.iconst 1, 1) := by decide +kernel
theorem dX4_signOfCross_42 : decode cX4_signOfCross 42 = .ok (.goto 4, 3) := by decide +kernel
theorem dX4_signOfCross_45 : decode cX4_signOfCross 45 = .ok (.iconst 0, 1) := by decide +kernel
theorem dX4_signOfCross_46 : decode cX4_signOfCross 46 = .ok (.ireturn, 1) := by decide +kernel
theorem dX4_shared_0 : decode cX4_shared 0 = .ok (.iconst 0, 1) := by decide +kernel
theorem dX4_shared_1 : decode cX4_shared 1 = .ok (.istore_n 3, 1) := by decide +kernel
theorem dX4_shared_2 : decode cX4_shared 2 = .ok (.lload_n 1, 1) := by decide +kernel
theorem dX4_shared_3 : decode cX4_shared 3 = .ok (.lstore 4, 2) := by decide +kernel
theorem dX4_shared_5 : decode cX4_shared 5 = .ok (.lload 4, 2) := by decide +kernel
theorem dX4_shared_7 : decode cX4_shared 7 = .ok (.lconst 1, 1) := by decide +kernel
theorem dX4_shared_8 : decode cX4_shared 8 = .ok (.land, 1) := by decide +kernel
theorem dX4_shared_9 : decode cX4_shared 9 = .ok (.lconst 0, 1) := by decide +kernel
theorem dX4_shared_10 : decode cX4_shared 10 = .ok (.lcmp, 1) := by decide +kernel
theorem dX4_shared_11 : decode cX4_shared 11 = .ok (.ifCond .ne 15, 3) := by decide +kernel
theorem dX4_shared_14 : decode cX4_shared 14 = .ok (.lload 4, 2) := by decide +kernel
theorem dX4_shared_16 : decode cX4_shared 16 = .ok (.iconst 1, 1) := by decide +kernel
theorem dX4_shared_17 : decode cX4_shared 17 = .ok (.lshr, 1) := by decide +kernel
theorem dX4_shared_18 : decode cX4_shared 18 = .ok (.lstore 4, 2) := by decide +kernel
theorem dX4_shared_20 : decode cX4_shared 20 = .ok (.iinc 3 1, 3) := by decide +kernel
theorem dX4_shared_23 : decode cX4_shared 23 = .ok (.goto (-18), 3) := by decide +kernel
theorem dX4_shared_26 : decode cX4_shared 26 = .ok (.iload_n 3, 1) := by decide +kernel
theorem dX4_shared_27 : decode cX4_shared 27 = .ok (.ifCond .ne 10, 3) := by decide +kernel
theorem dX4_shared_30 : decode cX4_shared 30 = .ok (.aload_n 0, 1) := by decide +kernel
theorem dX4_shared_31 : decode cX4_shared 31 = .ok (.getfield 87, 3) := by decide +kernel
theorem dX4_shared_34 : decode cX4_shared 34 = .ok (.goto 19, 3) := by decide +kernel
theorem dX4_shared_37 : decode cX4_shared 37 = .ok (.aload_n 0, 1) := by decide +kernel
theorem dX4_shared_38 : decode cX4_shared 38 = .ok (.getfield 87, 3) := by decide +kernel
theorem dX4_shared_41 : decode cX4_shared 41 = .ok (.iload_n 3, 1) := by decide +kernel
theorem dX4_shared_42 : decode cX4_shared 42 = .ok (.lushr, 1) := by decide +kernel
theorem dX4_shared_43 : decode cX4_shared 43 = .ok (.aload_n 0, 1) := by decide +kernel
theorem dX4_shared_44 : decode cX4_shared 44 = .ok (.getfield 83, 3) := by decide +kernel
theorem dX4_shared_47 : decode cX4_shared 47 = .ok (.bipush 64, 2) := by decide +kernel
theorem dX4_shared_49 : decode cX4_shared 49 = .ok (.iload_n 3, 1) := by decide +kernel
theorem dX4_shared_50 : decode cX4_shared 50 = .ok (.isub, 1) := by decide +kernel
theorem dX4_shared_51 : decode cX4_shared 51 = .ok (.lshl, 1) := by decide +kernel
theorem dX4_shared_52 : decode cX4_shared 52 = .ok (.lor, 1) := by decide +kernel
theorem dX4_shared_53 : decode cX4_shared 53 = .ok (.lstore 6, 2) := by decide +kernel
theorem dX4_shared_55 : decode cX4_shared 55 = .ok (.lload 4, 2) := by decide +kernel
theorem dX4_shared_57 : decode cX4_shared 57 = .ok (.lstore 8, 2) := by decide +kernel
theorem dX4_shared_59 : decode cX4_shared 59 = .ok (.iconst 0, 1) := by decide +kernel
theorem dX4_shared_60 : decode cX4_shared 60 = .ok (.istore 10, 2) := by decide +kernel
theorem dX4_shared_62 : decode cX4_shared 62 = .ok (.iload 10, 2) := by decide +kernel
theorem dX4_shared_64 : decode cX4_shared 64 = .ok (.bipush 6, 2) := by decide +kernel
theorem dX4_shared_66 : decode cX4_shared 66 = .ok (.if_icmp .ge 23, 3) := by decide +kernel
theorem dX4_shared_69 : decode cX4_shared 69 = .ok (.lload 8, 2) := by decide +kernel
theorem dX4_shared_71 : decode cX4_shared 71 = .ok (.ldc2_w 100, 3) := by decide +kernel
theorem dX4_shared_74 : decode cX4_shared 74 = .ok (.lload 4, 2) := by decide +kernel
theorem dX4_shared_76 : decode cX4_shared 76 = .ok (.lload 8, 2) := by decide +kernel
theorem dX4_shared_78 : decode cX4_shared 78 = .ok (.lmul, 1) := by decide +kernel
theorem dX4_shared_79 : decode cX4_shared 79 = .ok (.lsub, 1) := by decide +kernel
theorem dX4_shared_80 : decode cX4_shared 80 = .ok (.lmul, 1) := by decide +kernel
theorem dX4_shared_81 : decode cX4_shared 81 = .ok (.lstore 8, 2) := by decide +kernel
theorem dX4_shared_83 : decode cX4_shared 83 = .ok (.iinc 10 1, 3) := by decide +kernel
theorem dX4_shared_86 : decode cX4_shared 86 = .ok (.goto (-24), 3) := by decide +kernel
theorem dX4_shared_89 : decode cX4_shared 89 = .ok (.lload 6, 2) := by decide +kernel
theorem dX4_shared_91 : decode cX4_shared 91 = .ok (.lload 8, 2) := by decide +kernel
theorem dX4_shared_93 : decode cX4_shared 93 = .ok (.lmul, 1) := by decide +kernel
theorem dX4_shared_94 : decode cX4_shared 94 = .ok (.lreturn, 1) := by decide +kernel
theorem dX4_size_0 : decode cX4_size 0 = .ok (.lload_n 0, 1) := by decide +kernel
theorem dX4_size_1 : decode cX4_size 1 = .ok (.lconst 0, 1) := by decide +kernel
theorem dX4_size_2 : decode cX4_size 2 = .ok (.lcmp, 1) := by decide +kernel
theorem dX4_size_3 : decode cX4_size 3 = .ok (.ifCond .ge 8, 3) := by decide +kernel
theorem dX4_size_6 : decode cX4_size 6 = .ok (.lload_n 0, 1) := by decide +kernel
theorem dX4_size_7 : decode cX4_size 7 = .ok (.lneg, 1) := by decide +kernel
theorem dX4_size_8 : decode cX4_size 8 = .ok (.goto 4, 3) := by decide +kernel
theorem dX4_size_11 : decode cX4_size 11 = .ok (.lload_n 0, 1) := by decide +kernel
theorem dX4_size_12 : decode cX4_size 12 = .ok (.lreturn, 1) := by decide +kernel
set_option maxRecDepth 20000 in
theorem ggX4_divisor_X4_size : GoodIn wsX4_divisor wsX4_size := goodIn_r _ [4] (by decide +kernel) (by decide +kernel)
set_option maxRecDepth 20000 in
theorem gX4_divisor_X4_size : GoodIn wsX4_divisor (va_wsS RX4 102 yX4_size wsX4_size) := goodIn_app (goodIn_of _ (by decide +kernel)) ggX4_divisor_X4_size
theorem dX4_divisor_0 : decode cX4_divisor 0 = .ok (.lload_n 0, 1) := by decide +kernel
theorem dX4_divisor_1 : decode cX4_divisor 1 = .ok (.invokestatic 102, 3) := by decide +kernel
theorem dX4_divisor_4 : decode cX4_divisor 4 = .ok (.lstore 4, 2) := by decide +kernel
theorem dX4_divisor_6 : decode cX4_divisor 6 = .ok (.lload_n 2, 1) := by decide +kernel
theorem dX4_divisor_7 : decode cX4_divisor 7 = .ok (.invokestatic 102, 3) := by decide +kernel
theorem dX4_divisor_10 : decode cX4_divisor 10 = .ok (.lstore 6, 2) := by decide +kernel
theorem dX4_divisor_12 : decode cX4_divisor 12 = .ok (.lload 6, 2) := by decide +kernel
theorem dX4_divisor_14 : decode cX4_divisor 14 = .ok (.lconst 0, 1) := by decide +kernel
theorem dX4_divisor_15 : decode cX4_divisor 15 = .ok (.lcmp, 1) := by decide +kernel
theorem dX4_divisor_16 : decode cX4_divisor 16 = .ok (.ifCond .eq 21, 3) := by decide +kernel
theorem dX4_divisor_19 : decode cX4_divisor 19 = .ok (.lload 4, 2) := by decide +kernel
theorem dX4_divisor_21 : decode cX4_divisor 21 = .ok (.lload 6, 2) := by decide +kernel
theorem dX4_divisor_23 : decode cX4_divisor 23 = .ok (.lrem, 1) := by decide +kernel
theorem dX4_divisor_24 : decode cX4_divisor 24 = .ok (.lstore 8, 2) := by decide +kernel
theorem dX4_divisor_26 : decode cX4_divisor 26 = .ok (.lload 6, 2) := by decide +kernel
theorem dX4_divisor_28 : decode cX4_divisor 28 = .ok (.lstore 4, 2) := by decide +kernel
theorem dX4_divisor_30 : decode cX4_divisor 30 = .ok (.lload 8, 2) := by decide +kernel
theorem dX4_divisor_32 : decode cX4_divisor 32 = .ok (.lstore 6, 2) := by decide +kernel
theorem dX4_divisor_34 : decode cX4_divisor 34 = .ok (.goto (-22), 3) := by decide +kernel
theorem dX4_divisor_37 : decode cX4_divisor 37 = .ok (.lload 4, 2) := by decide +kernel
theorem dX4_divisor_39 : decode cX4_divisor 39 = .ok (.lreturn, 1) := by decide +kernel
set_option maxRecDepth 20000 in
theorem ggX4_lowest_X4_divisor : GoodIn wsX4_lowest wsX4_divisor := goodIn_r _ [4, 5, 6, 3, 7] (by decide +kernel) (by decide +kernel)
set_option maxRecDepth 20000 in
theorem gX4_lowest_X4_divisor : GoodIn wsX4_lowest (va_wsS RX4 106 yX4_divisor wsX4_divisor) := goodIn_app (goodIn_of _ (by decide +kernel)) ggX4_lowest_X4_divisor
theorem dX4_lowest_0 : decode cX4_lowest 0 = .ok (.lload_n 0, 1) := by decide +kernel
theorem dX4_lowest_1 : decode cX4_lowest 1 = .ok (.lload_n 2, 1) := by decide +kernel
theorem dX4_lowest_2 : decode cX4_lowest 2 = .ok (.invokestatic 106, 3) := by decide +kernel
theorem dX4_lowest_5 : decode cX4_lowest 5 = .ok (.lstore 5, 2) := by decide +kernel
theorem dX4_lowest_7 : decode cX4_lowest 7 = .ok (.iload 4, 2) := by decide +kernel
theorem dX4_lowest_9 : decode cX4_lowest 9 = .ok (.ifCond .ne 10, 3) := by decide +kernel
theorem dX4_lowest_12 : decode cX4_lowest 12 = .ok (.lload_n 0, 1) := by decide +kernel
theorem dX4_lowest_13 : decode cX4_lowest 13 = .ok (.lload 5, 2) := by decide +kernel
theorem dX4_lowest_15 : decode cX4_lowest 15 = .ok (.ldiv, 1) := by decide +kernel
theorem dX4_lowest_16 : decode cX4_lowest 16 = .ok (.goto 17, 3) := by decide +kernel
theorem dX4_lowest_19 : decode cX4_lowest 19 = .ok (.iload 4, 2) := by decide +kernel
theorem dX4_lowest_21 : decode cX4_lowest 21 = .ok (.iconst 1, 1) := by decide +kernel
theorem dX4_lowest_22 : decode cX4_lowest 22 = .ok (.if_icmp .ne 10, 3) := by decide +kernel
theorem dX4_lowest_25 : decode cX4_lowest 25 = .ok (.lload_n 2, 1) := by decide +kernel
theorem dX4_lowest_26 : decode cX4_lowest 26 = .ok (.lload 5, 2) := by decide +kernel
theorem dX4_lowest_28 : decode cX4_lowest 28 = .ok (.ldiv, 1) := by decide +kernel
theorem dX4_lowest_29 : decode cX4_lowest 29 = .ok (.goto 4, 3) := by decide +kernel
theorem dX4_lowest_32 : decode cX4_lowest 32 = .ok (.lconst 0, 1) := by decide +kernel
theorem dX4_lowest_33 : decode cX4_lowest 33 = .ok (.lreturn, 1) := by decide +kernel
set_option maxRecDepth 20000 in
theorem ggX4_m_X4_qOf : GoodIn wsX4_m wsX4_qOf := goodIn_r _ [7, 8, 9, 10, 11, 12, 13, 6, 14, 15, 16, 17, 18, 19, 20, 21, 22, 23, 24, 25, 26, 27, 28, 29, 30, 31, 32, 33, 34, 35] (by decide +kernel) (by decide +kernel)
set_option maxRecDepth 20000 in
theorem gX4_m_X4_qOf : GoodIn wsX4_m (wsV RX4 76 RX4 yX4_qOf wsX4_qOf) := goodIn_app (goodIn_of _ (by decide +kernel)) ggX4_m_X4_qOf
theorem dX4_m_0 : decode cX4_m 0 = .ok (.iload_n 1, 1) := by decide +kernel
theorem dX4_m_1 : decode cX4_m 1 = .ok (.aload_n 0, 1) := by decide +kernel
theorem dX4_m_2 : decode cX4_m 2 = .ok (.getfield 58, 3) := by decide +kernel
theorem dX4_m_5 : decode cX4_m 5 = .ok (.if_icmp .ge 21, 3) := by decide +kernel
theorem dX4_m_8 : decode cX4_m 8 = .ok (.iload_n 2, 1) := by decide +kernel
theorem dX4_m_9 : decode cX4_m 9 = .ok (.aload_n 0, 1) := by decide +kernel
theorem dX4_m_10 : decode cX4_m 10 = .ok (.getfield 58, 3) := by decide +kernel
theorem dX4_m_13 : decode cX4_m 13 = .ok (.if_icmp .ge 13, 3) := by decide +kernel
theorem dX4_m_16 : decode cX4_m 16 = .ok (.aload_n 0, 1) := by decide +kernel
theorem dX4_m_17 : decode cX4_m 17 = .ok (.iload_n 1, 1) := by decide +kernel
theorem dX4_m_18 : decode cX4_m 18 = .ok (.iload_n 2, 1) := by decide +kernel
theorem dX4_m_19 : decode cX4_m 19 = .ok (.invokevirtual 76, 3) := by decide +kernel
theorem dX4_m_22 : decode cX4_m 22 = .ok (.i2l, 1) := by decide +kernel
theorem dX4_m_23 : decode cX4_m 23 = .ok (.goto 34, 3) := by decide +kernel
theorem dX4_m_26 : decode cX4_m 26 = .ok (.iload_n 2, 1) := by decide +kernel
theorem dX4_m_27 : decode cX4_m 27 = .ok (.aload_n 0, 1) := by decide +kernel
theorem dX4_m_28 : decode cX4_m 28 = .ok (.getfield 58, 3) := by decide +kernel
theorem dX4_m_31 : decode cX4_m 31 = .ok (.iload_n 1, 1) := by decide +kernel
theorem dX4_m_32 : decode cX4_m 32 = .ok (.iadd, 1) := by decide +kernel
theorem dX4_m_33 : decode cX4_m 33 = .ok (.if_icmp .ne 7, 3) := by decide +kernel
theorem dX4_m_36 : decode cX4_m 36 = .ok (.lconst 1, 1) := by decide +kernel
theorem dX4_m_37 : decode cX4_m 37 = .ok (.goto 20, 3) := by decide +kernel
theorem dX4_m_40 : decode cX4_m 40 = .ok (.iload_n 1, 1) := by decide +kernel
theorem dX4_m_41 : decode cX4_m 41 = .ok (.aload_n 0, 1) := by decide +kernel
theorem dX4_m_42 : decode cX4_m 42 = .ok (.getfield 58, 3) := by decide +kernel
theorem dX4_m_45 : decode cX4_m 45 = .ok (.iload_n 2, 1) := by decide +kernel
theorem dX4_m_46 : decode cX4_m 46 = .ok (.iadd, 1) := by decide +kernel
theorem dX4_m_47 : decode cX4_m 47 = .ok (.if_icmp .ne 9, 3) := by decide +kernel
theorem dX4_m_50 : decode cX4_m 50 = .ok (.ldc2_w 110, 3) := by decide +kernel
theorem dX4_m_53 : decode cX4_m 53 = .ok (.goto 4, 3) := by decide +kernel
theorem dX4_m_56 : decode cX4_m 56 = .ok (.lconst 0, 1) := by decide +kernel
theorem dX4_m_57 : decode cX4_m 57 = .ok (.lreturn, 1) := by decide +kernel
theorem dX4_columnQ_0 : decode cX4_columnQ 0 = .ok (.iconst 2, 1) := by decide +kernel
theorem dX4_columnQ_1 : decode cX4_columnQ 1 = .ok (.aload_n 0, 1) := by decide +kernel
theorem dX4_columnQ_2 : decode cX4_columnQ 2 = .ok (.getfield 112, 3) := by decide +kernel
theorem dX4_columnQ_5 : decode cX4_columnQ 5 = .ok (.imul, 1) := by decide +kernel
theorem dX4_columnQ_6 : decode cX4_columnQ 6 = .ok (.iconst 1, 1) := by decide +kernel
theorem dX4_columnQ_7 : decode cX4_columnQ 7 = .ok (.iadd, 1) := by decide +kernel
theorem dX4_columnQ_8 : decode cX4_columnQ 8 = .ok (.ireturn, 1) := by decide +kernel
set_option maxRecDepth 20000 in
theorem ggX4_begin_X4_forgets : GoodIn wsX4_begin wsX4_forgets := goodIn_r _ [14, 2, 15, 16, 17, 38, 39, 40, 41, 42, 43, 44, 45, 46, 47, 48, 49, 50, 51, 52, 53, 54, 55, 56, 57] (by decide +kernel) (by decide +kernel)
set_option maxRecDepth 20000 in
theorem gX4_begin_X4_forgets : GoodIn wsX4_begin (wsV RX4 65 RX4 yX4_forgets wsX4_forgets) := goodIn_app (goodIn_of _ (by decide +kernel)) ggX4_begin_X4_forgets
set_option maxRecDepth 20000 in
theorem ggX4_begin_X4_m : GoodIn wsX4_begin wsX4_m := goodIn_r _ [21, 1, 7, 22, 23, 24, 13, 25, 26, 27, 28, 29, 30, 31, 32, 33, 38, 39, 40, 41, 42, 43, 44, 45, 46, 47, 48, 49, 50, 51, 52, 53, 54, 55, 56, 57] (by decide +kernel) (by decide +kernel)
set_option maxRecDepth 20000 in
theorem gX4_begin_X4_m : GoodIn wsX4_begin (wsV RX4 118 RX4 yX4_m wsX4_m) := goodIn_app (goodIn_of _ (by decide +kernel)) ggX4_begin_X4_m
set_option maxRecDepth 20000 in
theorem ggX4_begin_X4_columnQ : GoodIn wsX4_begin wsX4_columnQ := goodIn_r _ [37, 3, 38, 39, 40, 41, 42, 43, 44, 45, 46, 47, 48, 49, 50, 51, 52, 53, 54, 55, 56, 57] (by decide +kernel) (by decide +kernel)
set_option maxRecDepth 20000 in
theorem gX4_begin_X4_columnQ : GoodIn wsX4_begin (wsV RX4 122 RX4 yX4_columnQ wsX4_columnQ) := goodIn_app (goodIn_of _ (by decide +kernel)) ggX4_begin_X4_columnQ
theorem dX4_begin_0 : decode cX4_begin 0 = .ok (.aload_n 0, 1) := by decide +kernel
theorem dX4_begin_1 : decode cX4_begin 1 = .ok (.getfield 58, 3) := by decide +kernel
theorem dX4_begin_4 : decode cX4_begin 4 = .ok (.ifCond .ne 6, 3) := by decide +kernel
theorem dX4_begin_7 : decode cX4_begin 7 = .ok (.bipush (-3), 2) := by decide +kernel
theorem dX4_begin_9 : decode cX4_begin 9 = .ok (.ireturn, 1) := by decide +kernel
theorem dX4_begin_10 : decode cX4_begin 10 = .ok (.aload_n 0, 1) := by decide +kernel
theorem dX4_begin_11 : decode cX4_begin 11 = .ok (.invokevirtual 65, 3) := by decide +kernel
theorem dX4_begin_14 : decode cX4_begin 14 = .ok (.aload_n 0, 1) := by decide +kernel
theorem dX4_begin_15 : decode cX4_begin 15 = .ok (.iconst 1, 1) := by decide +kernel
theorem dX4_begin_16 : decode cX4_begin 16 = .ok (.putfield 45, 3) := by decide +kernel
theorem dX4_begin_19 : decode cX4_begin 19 = .ok (.aload_n 0, 1) := by decide +kernel
theorem dX4_begin_20 : decode cX4_begin 20 = .ok (.iconst 2, 1) := by decide +kernel
theorem dX4_begin_21 : decode cX4_begin 21 = .ok (.aload_n 0, 1) := by decide +kernel
theorem dX4_begin_22 : decode cX4_begin 22 = .ok (.getfield 58, 3) := by decide +kernel
theorem dX4_begin_25 : decode cX4_begin 25 = .ok (.imul, 1) := by decide +kernel
theorem dX4_begin_26 : decode cX4_begin 26 = .ok (.putfield 112, 3) := by decide +kernel
theorem dX4_begin_29 : decode cX4_begin 29 = .ok (.aload_n 0, 1) := by decide +kernel
theorem dX4_begin_30 : decode cX4_begin 30 = .ok (.lconst 1, 1) := by decide +kernel
theorem dX4_begin_31 : decode cX4_begin 31 = .ok (.putfield 115, 3) := by decide +kernel
theorem dX4_begin_34 : decode cX4_begin 34 = .ok (.iconst 0, 1) := by decide +kernel
theorem dX4_begin_35 : decode cX4_begin 35 = .ok (.istore_n 1, 1) := by decide +kernel
theorem dX4_begin_36 : decode cX4_begin 36 = .ok (.iload_n 1, 1) := by decide +kernel
theorem dX4_begin_37 : decode cX4_begin 37 = .ok (.aload_n 0, 1) := by decide +kernel
theorem dX4_begin_38 : decode cX4_begin 38 = .ok (.getfield 112, 3) := by decide +kernel
theorem dX4_begin_41 : decode cX4_begin 41 = .ok (.if_icmp .ge 131, 3) := by decide +kernel
theorem dX4_begin_44 : decode cX4_begin 44 = .ok (.aload_n 0, 1) := by decide +kernel
theorem dX4_begin_45 : decode cX4_begin 45 = .ok (.getfield 33, 3) := by decide +kernel
theorem dX4_begin_48 : decode cX4_begin 48 = .ok (.iload_n 1, 1) := by decide +kernel
theorem dX4_begin_49 : decode cX4_begin 49 = .ok (.iload_n 1, 1) := by decide +kernel
theorem dX4_begin_50 : decode cX4_begin 50 = .ok (.iastore, 1) := by decide +kernel
theorem dX4_begin_51 : decode cX4_begin 51 = .ok (.iconst 0, 1) := by decide +kernel
theorem dX4_begin_52 : decode cX4_begin 52 = .ok (.istore_n 2, 1) := by decide +kernel
theorem dX4_begin_53 : decode cX4_begin 53 = .ok (.iload_n 2, 1) := by decide +kernel
theorem dX4_begin_54 : decode cX4_begin 54 = .ok (.aload_n 0, 1) := by decide +kernel
theorem dX4_begin_55 : decode cX4_begin 55 = .ok (.getfield 112, 3) := by decide +kernel
theorem dX4_begin_58 : decode cX4_begin 58 = .ok (.if_icmp .ge 53, 3) := by decide +kernel
theorem dX4_begin_61 : decode cX4_begin 61 = .ok (.aload_n 0, 1) := by decide +kernel
theorem dX4_begin_62 : decode cX4_begin 62 = .ok (.getfield 29, 3) := by decide +kernel
theorem dX4_begin_65 : decode cX4_begin 65 = .ok (.bipush 26, 2) := by decide +kernel
theorem dX4_begin_67 : decode cX4_begin 67 = .ok (.iload_n 1, 1) := by decide +kernel
theorem dX4_begin_68 : decode cX4_begin 68 = .ok (.imul, 1) := by decide +kernel
theorem dX4_begin_69 : decode cX4_begin 69 = .ok (.iload_n 2, 1) := by decide +kernel
theorem dX4_begin_70 : decode cX4_begin 70 = .ok (.iadd, 1) := by decide +kernel
theorem dX4_begin_71 : decode cX4_begin 71 = .ok (.iload_n 2, 1) := by decide +kernel
theorem dX4_begin_72 : decode cX4_begin 72 = .ok (.iload_n 1, 1) := by decide +kernel
theorem dX4_begin_73 : decode cX4_begin 73 = .ok (.if_icmp .ne 7, 3) := by decide +kernel
theorem dX4_begin_76 : decode cX4_begin 76 = .ok (.lconst 1, 1) := by decide +kernel
theorem dX4_begin_77 : decode cX4_begin 77 = .ok (.goto 4, 3) := by decide +kernel
theorem dX4_begin_80 : decode cX4_begin 80 = .ok (.lconst 0, 1) := by decide +kernel
theorem dX4_begin_81 : decode cX4_begin 81 = .ok (.lastore, 1) := by decide +kernel
theorem dX4_begin_82 : decode cX4_begin 82 = .ok (.aload_n 0, 1) := by decide +kernel
theorem dX4_begin_83 : decode cX4_begin 83 = .ok (.getfield 29, 3) := by decide +kernel
theorem dX4_begin_86 : decode cX4_begin 86 = .ok (.bipush 26, 2) := by decide +kernel
theorem dX4_begin_88 : decode cX4_begin 88 = .ok (.iload_n 1, 1) := by decide +kernel
theorem dX4_begin_89 : decode cX4_begin 89 = .ok (.imul, 1) := by decide +kernel
theorem dX4_begin_90 : decode cX4_begin 90 = .ok (.aload_n 0, 1) := by decide +kernel
theorem dX4_begin_91 : decode cX4_begin 91 = .ok (.getfield 112, 3) := by decide +kernel
theorem dX4_begin_94 : decode cX4_begin 94 = .ok (.iadd, 1) := by decide +kernel
theorem dX4_begin_95 : decode cX4_begin 95 = .ok (.iload_n 2, 1) := by decide +kernel
theorem dX4_begin_96 : decode cX4_begin 96 = .ok (.iadd, 1) := by decide +kernel
theorem dX4_begin_97 : decode cX4_begin 97 = .ok (.aload_n 0, 1) := by decide +kernel
theorem dX4_begin_98 : decode cX4_begin 98 = .ok (.iload_n 1, 1) := by decide +kernel
theorem dX4_begin_99 : decode cX4_begin 99 = .ok (.iload_n 2, 1) := by decide +kernel
theorem dX4_begin_100 : decode cX4_begin 100 = .ok (.invokevirtual 118, 3) := by decide +kernel
theorem dX4_begin_103 : decode cX4_begin 103 = .ok (.lneg, 1) := by decide +kernel
theorem dX4_begin_104 : decode cX4_begin 104 = .ok (.lastore, 1) := by decide +kernel
theorem dX4_begin_105 : decode cX4_begin 105 = .ok (.iinc 2 1, 3) := by decide +kernel
theorem dX4_begin_108 : decode cX4_begin 108 = .ok (.goto (-55), 3) := by decide +kernel
theorem dX4_begin_111 : decode cX4_begin 111 = .ok (.aload_n 0, 1) := by decide +kernel
theorem dX4_begin_112 : decode cX4_begin 112 = .ok (.getfield 29, 3) := by decide +kernel
theorem dX4_begin_115 : decode cX4_begin 115 = .ok (.bipush 26, 2) := by decide +kernel
theorem dX4_begin_117 : decode cX4_begin 117 = .ok (.iload_n 1, 1) := by decide +kernel
theorem dX4_begin_118 : decode cX4_begin 118 = .ok (.imul, 1) := by decide +kernel
theorem dX4_begin_119 : decode cX4_begin 119 = .ok (.iconst 2, 1) := by decide +kernel
theorem dX4_begin_120 : decode cX4_begin 120 = .ok (.aload_n 0, 1) := by decide +kernel
theorem dX4_begin_121 : decode cX4_begin 121 = .ok (.getfield 112, 3) := by decide +kernel
theorem dX4_begin_124 : decode cX4_begin 124 = .ok (.imul, 1) := by decide +kernel
theorem dX4_begin_125 : decode cX4_begin 125 = .ok (.iadd, 1) := by decide +kernel
theorem dX4_begin_126 : decode cX4_begin 126 = .ok (.ldc2_w 110, 3) := by decide +kernel
theorem dX4_begin_129 : decode cX4_begin 129 = .ok (.lastore, 1) := by decide +kernel
theorem dX4_begin_130 : decode cX4_begin 130 = .ok (.aload_n 0, 1) := by decide +kernel
theorem dX4_begin_131 : decode cX4_begin 131 = .ok (.getfield 29, 3) := by decide +kernel
theorem dX4_begin_134 : decode cX4_begin 134 = .ok (.bipush 26, 2) := by decide +kernel
theorem dX4_begin_136 : decode cX4_begin 136 = .ok (.iload_n 1, 1) := by decide +kernel
theorem dX4_begin_137 : decode cX4_begin 137 = .ok (.imul, 1) := by decide +kernel
theorem dX4_begin_138 : decode cX4_begin 138 = .ok (.aload_n 0, 1) := by decide +kernel
theorem dX4_begin_139 : decode cX4_begin 139 = .ok (.invokevirtual 122, 3) := by decide +kernel
theorem dX4_begin_142 : decode cX4_begin 142 = .ok (.iadd, 1) := by decide +kernel
theorem dX4_begin_143 : decode cX4_begin 143 = .ok (.iload_n 1, 1) := by decide +kernel
theorem dX4_begin_144 : decode cX4_begin 144 = .ok (.aload_n 0, 1) := by decide +kernel
theorem dX4_begin_145 : decode cX4_begin 145 = .ok (.getfield 58, 3) := by decide +kernel
theorem dX4_begin_148 : decode cX4_begin 148 = .ok (.if_icmp .ge 12, 3) := by decide +kernel
theorem dX4_begin_151 : decode cX4_begin 151 = .ok (.aload_n 0, 1) := by decide +kernel
theorem dX4_begin_152 : decode cX4_begin 152 = .ok (.getfield 16, 3) := by decide +kernel
theorem dX4_begin_155 : decode cX4_begin 155 = .ok (.ineg, 1) := by decide +kernel
theorem dX4_begin_156 : decode cX4_begin 156 = .ok (.i2l, 1) := by decide +kernel
theorem dX4_begin_157 : decode cX4_begin 157 = .ok (.goto 8, 3) := by decide +kernel
theorem dX4_begin_160 : decode cX4_begin 160 = .ok (.aload_n 0, 1) := by decide +kernel
theorem dX4_begin_161 : decode cX4_begin 161 = .ok (.getfield 13, 3) := by decide +kernel
theorem dX4_begin_164 : decode cX4_begin 164 = .ok (.i2l, 1) := by decide +kernel
theorem dX4_begin_165 : decode cX4_begin 165 = .ok (.lastore, 1) := by decide +kernel
theorem dX4_begin_166 : decode cX4_begin 166 = .ok (.iinc 1 1, 3) := by decide +kernel
theorem dX4_begin_169 : decode cX4_begin 169 = .ok (.goto (-133), 3) := by decide +kernel
theorem dX4_begin_172 : decode cX4_begin 172 = .ok (.aload_n 0, 1) := by decide +kernel
theorem dX4_begin_173 : decode cX4_begin 173 = .ok (.getfield 112, 3) := by decide +kernel
theorem dX4_begin_176 : decode cX4_begin 176 = .ok (.ireturn, 1) := by decide +kernel
set_option maxRecDepth 20000 in
theorem ggX4_isLess_X4_columnQ : GoodIn wsX4_isLess wsX4_columnQ := goodIn_r _ [7, 2, 24, 25, 26, 27, 28, 29, 30, 31, 32, 33, 34, 35, 36, 37, 38, 39, 40, 41, 42, 43] (by decide +kernel) (by decide +kernel)
set_option maxRecDepth 20000 in
theorem gX4_isLess_X4_columnQ : GoodIn wsX4_isLess (wsV RX4 122 RX4 yX4_columnQ wsX4_columnQ) := goodIn_app (goodIn_of _ (by decide +kernel)) ggX4_isLess_X4_columnQ
set_option maxRecDepth 20000 in
theorem ggX4_isLess_X4_signOfCross : GoodIn wsX4_isLess wsX4_signOfCross := goodIn_r _ [11, 12, 13, 14, 15, 16, 6, 17, 18, 19, 20, 21, 22, 23, 24, 25, 26, 27, 28, 29, 30, 31, 32, 33, 34, 35, 36, 37, 38, 39, 40, 41, 42, 43] (by decide +kernel) (by decide +kernel)
set_option maxRecDepth 20000 in
theorem gX4_isLess_X4_signOfCross : GoodIn wsX4_isLess (wsV RX4 126 RX4 yX4_signOfCross wsX4_signOfCross) := goodIn_app (goodIn_of _ (by decide +kernel)) ggX4_isLess_X4_signOfCross
theorem dX4_isLess_0 : decode cX4_isLess 0 = .ok (.iload_n 3, 1) := by decide +kernel
theorem dX4_isLess_1 : decode cX4_isLess 1 = .ok (.iconst (-1), 1) := by decide +kernel
theorem dX4_isLess_2 : decode cX4_isLess 2 = .ok (.if_icmp .ne 7, 3) := by decide +kernel
theorem dX4_isLess_5 : decode cX4_isLess 5 = .ok (.lconst 1, 1) := by decide +kernel
theorem dX4_isLess_6 : decode cX4_isLess 6 = .ok (.goto 14, 3) := by decide +kernel
theorem dX4_isLess_9 : decode cX4_isLess 9 = .ok (.aload_n 0, 1) := by decide +kernel
theorem dX4_isLess_10 : decode cX4_isLess 10 = .ok (.getfield 29, 3) := by decide +kernel
theorem dX4_isLess_13 : decode cX4_isLess 13 = .ok (.bipush 26, 2) := by decide +kernel
theorem dX4_isLess_15 : decode cX4_isLess 15 = .ok (.iload_n 1, 1) := by decide +kernel
theorem dX4_isLess_16 : decode cX4_isLess 16 = .ok (.imul, 1) := by decide +kernel
theorem dX4_isLess_17 : decode cX4_isLess 17 = .ok (.iload_n 3, 1) := by decide +kernel
theorem dX4_isLess_18 : decode cX4_isLess 18 = .ok (.iadd, 1) := by decide +kernel
theorem dX4_isLess_19 : decode cX4_isLess 19 = .ok (.laload, 1) := by decide +kernel
theorem dX4_isLess_20 : decode cX4_isLess 20 = .ok (.lstore 4, 2) := by decide +kernel
theorem dX4_isLess_22 : decode cX4_isLess 22 = .ok (.iload_n 3, 1) := by decide +kernel
theorem dX4_isLess_23 : decode cX4_isLess 23 = .ok (.iconst (-1), 1) := by decide +kernel
theorem dX4_isLess_24 : decode cX4_isLess 24 = .ok (.if_icmp .ne 7, 3) := by decide +kernel
theorem dX4_isLess_27 : decode cX4_isLess 27 = .ok (.lconst 1, 1) := by decide +kernel
theorem dX4_isLess_28 : decode cX4_isLess 28 = .ok (.goto 14, 3) := by decide +kernel
theorem dX4_isLess_31 : decode cX4_isLess 31 = .ok (.aload_n 0, 1) := by decide +kernel
theorem dX4_isLess_32 : decode cX4_isLess 32 = .ok (.getfield 29, 3) := by decide +kernel
theorem dX4_isLess_35 : decode cX4_isLess 35 = .ok (.bipush 26, 2) := by decide +kernel
theorem dX4_isLess_37 : decode cX4_isLess 37 = .ok (.iload_n 2, 1) := by decide +kernel
theorem dX4_isLess_38 : decode cX4_isLess 38 = .ok (.imul, 1) := by decide +kernel
theorem dX4_isLess_39 : decode cX4_isLess 39 = .ok (.iload_n 3, 1) := by decide +kernel
theorem dX4_isLess_40 : decode cX4_isLess 40 = .ok (.iadd, 1) := by decide +kernel
theorem dX4_isLess_41 : decode cX4_isLess 41 = .ok (.laload, 1) := by decide +kernel
theorem dX4_isLess_42 : decode cX4_isLess 42 = .ok (.lstore 6, 2) := by decide +kernel
theorem dX4_isLess_44 : decode cX4_isLess 44 = .ok (.iconst (-1), 1) := by decide +kernel
theorem dX4_isLess_45 : decode cX4_isLess 45 = .ok (.istore 8, 2) := by decide +kernel
theorem dX4_isLess_47 : decode cX4_isLess 47 = .ok (.iload 8, 2) := by decide +kernel
theorem dX4_isLess_49 : decode cX4_isLess 49 = .ok (.aload_n 0, 1) := by decide +kernel
theorem dX4_isLess_50 : decode cX4_isLess 50 = .ok (.getfield 112, 3) := by decide +kernel
theorem dX4_isLess_53 : decode cX4_isLess 53 = .ok (.if_icmp .ge 75, 3) := by decide +kernel
theorem dX4_isLess_56 : decode cX4_isLess 56 = .ok (.iload 8, 2) := by decide +kernel
theorem dX4_isLess_58 : decode cX4_isLess 58 = .ok (.ifCond .ge 10, 3) := by decide +kernel
theorem dX4_isLess_61 : decode cX4_isLess 61 = .ok (.aload_n 0, 1) := by decide +kernel
theorem dX4_isLess_62 : decode cX4_isLess 62 = .ok (.invokevirtual 122, 3) := by decide +kernel
theorem dX4_isLess_65 : decode cX4_isLess 65 = .ok (.goto 5, 3) := by decide +kernel
theorem dX4_isLess_68 : decode cX4_isLess 68 = .ok (.iload 8, 2) := by decide +kernel
theorem dX4_isLess_70 : decode cX4_isLess 70 = .ok (.istore 9, 2) := by decide +kernel
theorem dX4_isLess_72 : decode cX4_isLess 72 = .ok (.aload_n 0, 1) := by decide +kernel
theorem dX4_isLess_73 : decode cX4_isLess 73 = .ok (.aload_n 0, 1) := by decide +kernel
theorem dX4_isLess_74 : decode cX4_isLess 74 = .ok (.getfield 29, 3) := by decide +kernel
theorem dX4_isLess_77 : decode cX4_isLess 77 = .ok (.bipush 26, 2) := by decide +kernel
theorem dX4_isLess_79 : decode cX4_isLess 79 = .ok (.iload_n 1, 1) := by decide +kernel
theorem dX4_isLess_80 : decode cX4_isLess 80 = .ok (.imul, 1) := by decide +kernel
theorem dX4_isLess_81 : decode cX4_isLess 81 = .ok (.iload 9, 2) := by decide +kernel
theorem dX4_isLess_83 : decode cX4_isLess 83 = .ok (.iadd, 1) := by decide +kernel
theorem dX4_isLess_84 : decode cX4_isLess 84 = .ok (.laload, 1) := by decide +kernel
theorem dX4_isLess_85 : decode cX4_isLess 85 = .ok (.lload 6, 2) := by decide +kernel
theorem dX4_isLess_87 : decode cX4_isLess 87 = .ok (.aload_n 0, 1) := by decide +kernel
theorem dX4_isLess_88 : decode cX4_isLess 88 = .ok (.getfield 29, 3) := by decide +kernel
theorem dX4_isLess_91 : decode cX4_isLess 91 = .ok (.bipush 26, 2) := by decide +kernel
theorem dX4_isLess_93 : decode cX4_isLess 93 = .ok (.iload_n 2, 1) := by decide +kernel
theorem dX4_isLess_94 : decode cX4_isLess 94 = .ok (.imul, 1) := by decide +kernel
theorem dX4_isLess_95 : decode cX4_isLess 95 = .ok (.iload 9, 2) := by decide +kernel
theorem dX4_isLess_97 : decode cX4_isLess 97 = .ok (.iadd, 1) := by decide +kernel
theorem dX4_isLess_98 : decode cX4_isLess 98 = .ok (.laload, 1) := by decide +kernel
theorem dX4_isLess_99 : decode cX4_isLess 99 = .ok (.lload 4, 2) := by decide +kernel
theorem dX4_isLess_101 : decode cX4_isLess 101 = .ok (.invokevirtual 126, 3) := by decide +kernel
theorem dX4_isLess_104 : decode cX4_isLess 104 = .ok (.istore 10, 2) := by decide +kernel
theorem dX4_isLess_106 : decode cX4_isLess 106 = .ok (.iload 10, 2) := by decide +kernel
theorem dX4_isLess_108 : decode cX4_isLess 108 = .ok (.ifCond .eq 14, 3) := by decide +kernel
theorem dX4_isLess_111 : decode cX4_isLess 111 = .ok (.iload 10, 2) := by decide +kernel
theorem dX4_isLess_113 : decode cX4_isLess 113 = .ok (.ifCond .ge 7, 3) := by decide +kernel
theorem dX4_isLess_116 : decode cX4_isLess 116 = .ok (.iconst 1, 1) := by decide +kernel
theorem dX4_isLess_117 : decode cX4_isLess 117 = .ok (.goto 4, 3) := by decide +kernel
theorem dX4_isLess_120 : decode cX4_isLess 120 = .ok (.iconst 0, 1) := by decide +kernel
theorem dX4_isLess_121 : decode cX4_isLess 121 = .ok (.ireturn, 1) := by decide +kernel
theorem dX4_isLess_122 : decode cX4_isLess 122 = .ok (.iinc 8 1, 3) := by decide +kernel
theorem dX4_isLess_125 : decode cX4_isLess 125 = .ok (.goto (-78), 3) := by decide +kernel
theorem dX4_isLess_128 : decode cX4_isLess 128 = .ok (.iconst 0, 1) := by decide +kernel
theorem dX4_isLess_129 : decode cX4_isLess 129 = .ok (.ireturn, 1) := by decide +kernel
set_option maxRecDepth 20000 in
theorem ggX4_turn_X4_columnQ : GoodIn wsX4_turn wsX4_columnQ := goodIn_r _ [8, 2, 26, 27, 28, 29, 30, 31, 32, 33, 34, 35, 36, 37, 38, 39, 40, 41, 42, 43, 44, 45] (by decide +kernel) (by decide +kernel)
set_option maxRecDepth 20000 in
theorem gX4_turn_X4_columnQ : GoodIn wsX4_turn (wsV RX4 122 RX4 yX4_columnQ wsX4_columnQ) := goodIn_app (goodIn_of _ (by decide +kernel)) ggX4_turn_X4_columnQ
set_option maxRecDepth 20000 in
theorem ggX4_turn_X4_cross : GoodIn wsX4_turn wsX4_cross := goodIn_r _ [12, 13, 14, 15, 16, 17, 18, 7, 19, 20, 26, 27, 28, 29, 30, 31, 32, 33, 34, 35, 36, 37, 38, 39, 40, 41, 42, 43, 44, 45] (by decide +kernel) (by decide +kernel)
set_option maxRecDepth 20000 in
theorem gX4_turn_X4_cross : GoodIn wsX4_turn (wsV RX4 96 RX4 yX4_cross wsX4_cross) := goodIn_app (goodIn_of _ (by decide +kernel)) ggX4_turn_X4_cross
set_option maxRecDepth 20000 in
theorem ggX4_turn_X4_shared : GoodIn wsX4_turn wsX4_shared := goodIn_r _ [24, 14, 13, 25, 26, 27, 28, 29, 30, 31, 32, 33, 34, 35, 36, 37, 38, 39, 40, 41, 42, 43, 44, 45] (by decide +kernel) (by decide +kernel)
set_option maxRecDepth 20000 in
theorem gX4_turn_X4_shared : GoodIn wsX4_turn (wsV RX4 130 RX4 yX4_shared wsX4_shared) := goodIn_app (goodIn_of _ (by decide +kernel)) ggX4_turn_X4_shared
