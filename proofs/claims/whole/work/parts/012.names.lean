theorem dX3_init_0 : decode cX3_init 0 = .ok (.aload_n 0, 1) := by decide +kernel
theorem dX3_init_1 : decode cX3_init 1 = .ok (.invokespecial 1, 3) := by decide +kernel
theorem dX3_init_4 : decode cX3_init 4 = .ok (.aload_n 0, 1) := by decide +kernel
theorem dX3_init_5 : decode cX3_init 5 = .ok (.new 7, 3) := by decide +kernel
theorem dX3_init_8 : decode cX3_init 8 = .ok (.dup, 1) := by decide +kernel
theorem dX3_init_9 : decode cX3_init 9 = .ok (.invokespecial 9, 3) := by decide +kernel
theorem dX3_init_12 : decode cX3_init 12 = .ok (.putfield 10, 3) := by decide +kernel
theorem dX3_init_15 : decode cX3_init 15 = .ok (.aload_n 0, 1) := by decide +kernel
theorem dX3_init_16 : decode cX3_init 16 = .ok (.new 16, 3) := by decide +kernel
theorem dX3_init_19 : decode cX3_init 19 = .ok (.dup, 1) := by decide +kernel
theorem dX3_init_20 : decode cX3_init 20 = .ok (.invokespecial 18, 3) := by decide +kernel
theorem dX3_init_23 : decode cX3_init 23 = .ok (.putfield 19, 3) := by decide +kernel
theorem dX3_init_26 : decode cX3_init 26 = .ok (.aload_n 0, 1) := by decide +kernel
theorem dX3_init_27 : decode cX3_init 27 = .ok (.iconst 1, 1) := by decide +kernel
theorem dX3_init_28 : decode cX3_init 28 = .ok (.putfield 23, 3) := by decide +kernel
theorem dX3_init_31 : decode cX3_init 31 = .ok (.aload_n 0, 1) := by decide +kernel
theorem dX3_init_32 : decode cX3_init 32 = .ok (.iconst 1, 1) := by decide +kernel
theorem dX3_init_33 : decode cX3_init 33 = .ok (.putfield 27, 3) := by decide +kernel
theorem dX3_init_36 : decode cX3_init 36 = .ok (.return_, 1) := by decide +kernel
set_option maxRecDepth 20000 in
theorem ggX3_point_X0_isPlace : GoodIn wsX3_point wsX0_isPlace := goodIn_r _ [8] (by decide +kernel) (by decide +kernel)
set_option maxRecDepth 20000 in
theorem gX3_point_X0_isPlace : GoodIn wsX3_point (va_wsS RX3 30 yX0_isPlace wsX0_isPlace) := goodIn_app (goodIn_of _ (by decide +kernel)) ggX3_point_X0_isPlace
set_option maxRecDepth 20000 in
theorem ggX3_point_X0_mostWith : GoodIn wsX3_point wsX0_mostWith := goodIn_r _ [11] (by decide +kernel) (by decide +kernel)
set_option maxRecDepth 20000 in
theorem gX3_point_X0_mostWith : GoodIn wsX3_point (va_wsS RX3 40 yX0_mostWith wsX0_mostWith) := goodIn_app (goodIn_of _ (by decide +kernel)) ggX3_point_X0_mostWith
set_option maxRecDepth 20000 in
theorem ggX3_point_X0_add : GoodIn wsX3_point wsX0_add := goodIn_r _ [15, 16, 17, 18, 19, 32, 33, 34, 35, 36] (by decide +kernel) (by decide +kernel)
set_option maxRecDepth 20000 in
theorem gX3_point_X0_add : GoodIn wsX3_point (wsV RX3 44 RX0 yX0_add wsX0_add) := goodIn_app (goodIn_of _ (by decide +kernel)) ggX3_point_X0_add
set_option maxRecDepth 20000 in
theorem ggX3_point_X1_forget : GoodIn wsX3_point wsX1_forget := goodIn_r _ [24, 25, 26, 27, 37, 38, 39, 40, 41, 42, 43, 44, 45] (by decide +kernel) (by decide +kernel)
set_option maxRecDepth 20000 in
theorem gX3_point_X1_forget : GoodIn wsX3_point (wsV RX3 48 RX1 yX1_forget wsX1_forget) := goodIn_app (goodIn_of _ (by decide +kernel)) ggX3_point_X1_forget
theorem dX3_point_0 : decode cX3_point 0 = .ok (.iload_n 1, 1) := by decide +kernel
theorem dX3_point_1 : decode cX3_point 1 = .ok (.iload_n 2, 1) := by decide +kernel
theorem dX3_point_2 : decode cX3_point 2 = .ok (.invokestatic 30, 3) := by decide +kernel
theorem dX3_point_5 : decode cX3_point 5 = .ok (.ifCond .eq 13, 3) := by decide +kernel
theorem dX3_point_8 : decode cX3_point 8 = .ok (.iload_n 3, 1) := by decide +kernel
theorem dX3_point_9 : decode cX3_point 9 = .ok (.iconst 1, 1) := by decide +kernel
theorem dX3_point_10 : decode cX3_point 10 = .ok (.if_icmp .eq 11, 3) := by decide +kernel
theorem dX3_point_13 : decode cX3_point 13 = .ok (.iload_n 3, 1) := by decide +kernel
theorem dX3_point_14 : decode cX3_point 14 = .ok (.iconst (-1), 1) := by decide +kernel
theorem dX3_point_15 : decode cX3_point 15 = .ok (.if_icmp .eq 6, 3) := by decide +kernel
theorem dX3_point_18 : decode cX3_point 18 = .ok (.bipush (-2), 2) := by decide +kernel
theorem dX3_point_20 : decode cX3_point 20 = .ok (.ireturn, 1) := by decide +kernel
theorem dX3_point_21 : decode cX3_point 21 = .ok (.aload_n 0, 1) := by decide +kernel
theorem dX3_point_22 : decode cX3_point 22 = .ok (.getfield 10, 3) := by decide +kernel
theorem dX3_point_25 : decode cX3_point 25 = .ok (.getfield 34, 3) := by decide +kernel
theorem dX3_point_28 : decode cX3_point 28 = .ok (.aload_n 0, 1) := by decide +kernel
theorem dX3_point_29 : decode cX3_point 29 = .ok (.getfield 10, 3) := by decide +kernel
theorem dX3_point_32 : decode cX3_point 32 = .ok (.getfield 37, 3) := by decide +kernel
theorem dX3_point_35 : decode cX3_point 35 = .ok (.invokestatic 40, 3) := by decide +kernel
theorem dX3_point_38 : decode cX3_point 38 = .ok (.if_icmp .lt 6, 3) := by decide +kernel
theorem dX3_point_41 : decode cX3_point 41 = .ok (.bipush (-4), 2) := by decide +kernel
theorem dX3_point_43 : decode cX3_point 43 = .ok (.ireturn, 1) := by decide +kernel
theorem dX3_point_44 : decode cX3_point 44 = .ok (.aload_n 0, 1) := by decide +kernel
theorem dX3_point_45 : decode cX3_point 45 = .ok (.getfield 10, 3) := by decide +kernel
theorem dX3_point_48 : decode cX3_point 48 = .ok (.iload_n 1, 1) := by decide +kernel
theorem dX3_point_49 : decode cX3_point 49 = .ok (.iload_n 2, 1) := by decide +kernel
theorem dX3_point_50 : decode cX3_point 50 = .ok (.iload_n 3, 1) := by decide +kernel
theorem dX3_point_51 : decode cX3_point 51 = .ok (.invokevirtual 44, 3) := by decide +kernel
theorem dX3_point_54 : decode cX3_point 54 = .ok (.aload_n 0, 1) := by decide +kernel
theorem dX3_point_55 : decode cX3_point 55 = .ok (.getfield 19, 3) := by decide +kernel
theorem dX3_point_58 : decode cX3_point 58 = .ok (.invokevirtual 48, 3) := by decide +kernel
theorem dX3_point_61 : decode cX3_point 61 = .ok (.aload_n 0, 1) := by decide +kernel
theorem dX3_point_62 : decode cX3_point 62 = .ok (.getfield 10, 3) := by decide +kernel
theorem dX3_point_65 : decode cX3_point 65 = .ok (.getfield 34, 3) := by decide +kernel
theorem dX3_point_68 : decode cX3_point 68 = .ok (.iconst 1, 1) := by decide +kernel
theorem dX3_point_69 : decode cX3_point 69 = .ok (.isub, 1) := by decide +kernel
theorem dX3_point_70 : decode cX3_point 70 = .ok (.ireturn, 1) := by decide +kernel
set_option maxRecDepth 20000 in
theorem ggX3_drop_X1_forget : GoodIn wsX3_drop wsX1_forget := goodIn_r _ [8, 9, 10, 11, 21, 22, 23, 24, 25, 26, 27, 28, 29] (by decide +kernel) (by decide +kernel)
set_option maxRecDepth 20000 in
theorem gX3_drop_X1_forget : GoodIn wsX3_drop (wsV RX3 48 RX1 yX1_forget wsX1_forget) := goodIn_app (goodIn_of _ (by decide +kernel)) ggX3_drop_X1_forget
theorem dX3_drop_0 : decode cX3_drop 0 = .ok (.aload_n 0, 1) := by decide +kernel
theorem dX3_drop_1 : decode cX3_drop 1 = .ok (.getfield 10, 3) := by decide +kernel
theorem dX3_drop_4 : decode cX3_drop 4 = .ok (.getfield 34, 3) := by decide +kernel
theorem dX3_drop_7 : decode cX3_drop 7 = .ok (.ifCond .ne 6, 3) := by decide +kernel
theorem dX3_drop_10 : decode cX3_drop 10 = .ok (.bipush (-3), 2) := by decide +kernel
theorem dX3_drop_12 : decode cX3_drop 12 = .ok (.ireturn, 1) := by decide +kernel
theorem dX3_drop_13 : decode cX3_drop 13 = .ok (.aload_n 0, 1) := by decide +kernel
theorem dX3_drop_14 : decode cX3_drop 14 = .ok (.getfield 10, 3) := by decide +kernel
theorem dX3_drop_17 : decode cX3_drop 17 = .ok (.dup, 1) := by decide +kernel
theorem dX3_drop_18 : decode cX3_drop 18 = .ok (.getfield 34, 3) := by decide +kernel
theorem dX3_drop_21 : decode cX3_drop 21 = .ok (.iconst 1, 1) := by decide +kernel
theorem dX3_drop_22 : decode cX3_drop 22 = .ok (.isub, 1) := by decide +kernel
theorem dX3_drop_23 : decode cX3_drop 23 = .ok (.putfield 34, 3) := by decide +kernel
theorem dX3_drop_26 : decode cX3_drop 26 = .ok (.aload_n 0, 1) := by decide +kernel
theorem dX3_drop_27 : decode cX3_drop 27 = .ok (.getfield 19, 3) := by decide +kernel
theorem dX3_drop_30 : decode cX3_drop 30 = .ok (.invokevirtual 48, 3) := by decide +kernel
theorem dX3_drop_33 : decode cX3_drop 33 = .ok (.aload_n 0, 1) := by decide +kernel
theorem dX3_drop_34 : decode cX3_drop 34 = .ok (.getfield 10, 3) := by decide +kernel
theorem dX3_drop_37 : decode cX3_drop 37 = .ok (.getfield 34, 3) := by decide +kernel
theorem dX3_drop_40 : decode cX3_drop 40 = .ok (.ireturn, 1) := by decide +kernel
set_option maxRecDepth 20000 in
theorem ggX3_degree_X0_mostWith : GoodIn wsX3_degree wsX0_mostWith := goodIn_r _ [8] (by decide +kernel) (by decide +kernel)
set_option maxRecDepth 20000 in
theorem gX3_degree_X0_mostWith : GoodIn wsX3_degree (va_wsS RX3 40 yX0_mostWith wsX0_mostWith) := goodIn_app (goodIn_of _ (by decide +kernel)) ggX3_degree_X0_mostWith
set_option maxRecDepth 20000 in
theorem ggX3_degree_X1_forget : GoodIn wsX3_degree wsX1_forget := goodIn_r _ [13, 14, 15, 16, 26, 27, 28, 29, 30, 31, 32, 33, 34] (by decide +kernel) (by decide +kernel)
set_option maxRecDepth 20000 in
theorem gX3_degree_X1_forget : GoodIn wsX3_degree (wsV RX3 48 RX1 yX1_forget wsX1_forget) := goodIn_app (goodIn_of _ (by decide +kernel)) ggX3_degree_X1_forget
theorem dX3_degree_0 : decode cX3_degree 0 = .ok (.iload_n 1, 1) := by decide +kernel
theorem dX3_degree_1 : decode cX3_degree 1 = .ok (.iconst 1, 1) := by decide +kernel
theorem dX3_degree_2 : decode cX3_degree 2 = .ok (.if_icmp .eq 11, 3) := by decide +kernel
theorem dX3_degree_5 : decode cX3_degree 5 = .ok (.iload_n 1, 1) := by decide +kernel
theorem dX3_degree_6 : decode cX3_degree 6 = .ok (.iconst 2, 1) := by decide +kernel
theorem dX3_degree_7 : decode cX3_degree 7 = .ok (.if_icmp .eq 6, 3) := by decide +kernel
theorem dX3_degree_10 : decode cX3_degree 10 = .ok (.bipush (-2), 2) := by decide +kernel
theorem dX3_degree_12 : decode cX3_degree 12 = .ok (.ireturn, 1) := by decide +kernel
theorem dX3_degree_13 : decode cX3_degree 13 = .ok (.aload_n 0, 1) := by decide +kernel
theorem dX3_degree_14 : decode cX3_degree 14 = .ok (.getfield 10, 3) := by decide +kernel
theorem dX3_degree_17 : decode cX3_degree 17 = .ok (.getfield 34, 3) := by decide +kernel
theorem dX3_degree_20 : decode cX3_degree 20 = .ok (.iload_n 1, 1) := by decide +kernel
theorem dX3_degree_21 : decode cX3_degree 21 = .ok (.invokestatic 40, 3) := by decide +kernel
theorem dX3_degree_24 : decode cX3_degree 24 = .ok (.if_icmp .le 6, 3) := by decide +kernel
theorem dX3_degree_27 : decode cX3_degree 27 = .ok (.bipush (-3), 2) := by decide +kernel
theorem dX3_degree_29 : decode cX3_degree 29 = .ok (.ireturn, 1) := by decide +kernel
theorem dX3_degree_30 : decode cX3_degree 30 = .ok (.aload_n 0, 1) := by decide +kernel
theorem dX3_degree_31 : decode cX3_degree 31 = .ok (.getfield 10, 3) := by decide +kernel
theorem dX3_degree_34 : decode cX3_degree 34 = .ok (.getfield 37, 3) := by decide +kernel
theorem dX3_degree_37 : decode cX3_degree 37 = .ok (.istore_n 2, 1) := by decide +kernel
theorem dX3_degree_38 : decode cX3_degree 38 = .ok (.aload_n 0, 1) := by decide +kernel
theorem dX3_degree_39 : decode cX3_degree 39 = .ok (.getfield 10, 3) := by decide +kernel
theorem dX3_degree_42 : decode cX3_degree 42 = .ok (.iload_n 1, 1) := by decide +kernel
theorem dX3_degree_43 : decode cX3_degree 43 = .ok (.putfield 37, 3) := by decide +kernel
theorem dX3_degree_46 : decode cX3_degree 46 = .ok (.aload_n 0, 1) := by decide +kernel
theorem dX3_degree_47 : decode cX3_degree 47 = .ok (.getfield 19, 3) := by decide +kernel
theorem dX3_degree_50 : decode cX3_degree 50 = .ok (.invokevirtual 48, 3) := by decide +kernel
theorem dX3_degree_53 : decode cX3_degree 53 = .ok (.iload_n 2, 1) := by decide +kernel
theorem dX3_degree_54 : decode cX3_degree 54 = .ok (.ireturn, 1) := by decide +kernel
set_option maxRecDepth 20000 in
theorem ggX3_box_X1_forget : GoodIn wsX3_box wsX1_forget := goodIn_r _ [8, 9, 10, 11, 16, 17, 18, 19, 20, 21, 22, 23, 24] (by decide +kernel) (by decide +kernel)
set_option maxRecDepth 20000 in
theorem gX3_box_X1_forget : GoodIn wsX3_box (wsV RX3 48 RX1 yX1_forget wsX1_forget) := goodIn_app (goodIn_of _ (by decide +kernel)) ggX3_box_X1_forget
theorem dX3_box_0 : decode cX3_box 0 = .ok (.iload_n 1, 1) := by decide +kernel
theorem dX3_box_1 : decode cX3_box 1 = .ok (.iconst 1, 1) := by decide +kernel
theorem dX3_box_2 : decode cX3_box 2 = .ok (.if_icmp .lt 20, 3) := by decide +kernel
theorem dX3_box_5 : decode cX3_box 5 = .ok (.iload_n 1, 1) := by decide +kernel
theorem dX3_box_6 : decode cX3_box 6 = .ok (.bipush 20, 2) := by decide +kernel
theorem dX3_box_8 : decode cX3_box 8 = .ok (.if_icmp .gt 14, 3) := by decide +kernel
theorem dX3_box_11 : decode cX3_box 11 = .ok (.iload_n 2, 1) := by decide +kernel
theorem dX3_box_12 : decode cX3_box 12 = .ok (.iconst 1, 1) := by decide +kernel
theorem dX3_box_13 : decode cX3_box 13 = .ok (.if_icmp .lt 9, 3) := by decide +kernel
theorem dX3_box_16 : decode cX3_box 16 = .ok (.iload_n 2, 1) := by decide +kernel
theorem dX3_box_17 : decode cX3_box 17 = .ok (.bipush 6, 2) := by decide +kernel
theorem dX3_box_19 : decode cX3_box 19 = .ok (.if_icmp .le 6, 3) := by decide +kernel
theorem dX3_box_22 : decode cX3_box 22 = .ok (.bipush (-2), 2) := by decide +kernel
theorem dX3_box_24 : decode cX3_box 24 = .ok (.ireturn, 1) := by decide +kernel
theorem dX3_box_25 : decode cX3_box 25 = .ok (.aload_n 0, 1) := by decide +kernel
theorem dX3_box_26 : decode cX3_box 26 = .ok (.iload_n 1, 1) := by decide +kernel
theorem dX3_box_27 : decode cX3_box 27 = .ok (.putfield 23, 3) := by decide +kernel
theorem dX3_box_30 : decode cX3_box 30 = .ok (.aload_n 0, 1) := by decide +kernel
theorem dX3_box_31 : decode cX3_box 31 = .ok (.iload_n 2, 1) := by decide +kernel
theorem dX3_box_32 : decode cX3_box 32 = .ok (.putfield 27, 3) := by decide +kernel
theorem dX3_box_35 : decode cX3_box 35 = .ok (.aload_n 0, 1) := by decide +kernel
theorem dX3_box_36 : decode cX3_box 36 = .ok (.getfield 19, 3) := by decide +kernel
theorem dX3_box_39 : decode cX3_box 39 = .ok (.invokevirtual 48, 3) := by decide +kernel
theorem dX3_box_42 : decode cX3_box 42 = .ok (.iconst 1, 1) := by decide +kernel
theorem dX3_box_43 : decode cX3_box 43 = .ok (.ireturn, 1) := by decide +kernel
set_option maxRecDepth 20000 in
theorem ggX3_q_X0_has : GoodIn wsX3_q wsX0_has := goodIn_r _ [7, 8, 25, 26, 27, 28, 29] (by decide +kernel) (by decide +kernel)
set_option maxRecDepth 20000 in
theorem gX3_q_X0_has : GoodIn wsX3_q (wsV RX3 51 RX0 yX0_has wsX0_has) := goodIn_app (goodIn_of _ (by decide +kernel)) ggX3_q_X0_has
set_option maxRecDepth 20000 in
theorem ggX3_q_X0_product : GoodIn wsX3_q wsX0_product := goodIn_r _ [12, 13, 14, 15, 16, 17, 18, 6, 19, 20, 25, 26, 27, 28, 29] (by decide +kernel) (by decide +kernel)
set_option maxRecDepth 20000 in
theorem gX3_q_X0_product : GoodIn wsX3_q (wsV RX3 55 RX0 yX0_product wsX0_product) := goodIn_app (goodIn_of _ (by decide +kernel)) ggX3_q_X0_product
theorem dX3_q_0 : decode cX3_q 0 = .ok (.aload_n 0, 1) := by decide +kernel
theorem dX3_q_1 : decode cX3_q 1 = .ok (.getfield 10, 3) := by decide +kernel
theorem dX3_q_4 : decode cX3_q 4 = .ok (.iload_n 1, 1) := by decide +kernel
theorem dX3_q_5 : decode cX3_q 5 = .ok (.invokevirtual 51, 3) := by decide +kernel
theorem dX3_q_8 : decode cX3_q 8 = .ok (.ifCond .eq 26, 3) := by decide +kernel
theorem dX3_q_11 : decode cX3_q 11 = .ok (.aload_n 0, 1) := by decide +kernel
theorem dX3_q_12 : decode cX3_q 12 = .ok (.getfield 10, 3) := by decide +kernel
theorem dX3_q_15 : decode cX3_q 15 = .ok (.iload_n 2, 1) := by decide +kernel
theorem dX3_q_16 : decode cX3_q 16 = .ok (.invokevirtual 51, 3) := by decide +kernel
theorem dX3_q_19 : decode cX3_q 19 = .ok (.ifCond .eq 15, 3) := by decide +kernel
theorem dX3_q_22 : decode cX3_q 22 = .ok (.aload_n 0, 1) := by decide +kernel
theorem dX3_q_23 : decode cX3_q 23 = .ok (.getfield 10, 3) := by decide +kernel
theorem dX3_q_26 : decode cX3_q 26 = .ok (.iload_n 1, 1) := by decide +kernel
theorem dX3_q_27 : decode cX3_q 27 = .ok (.iload_n 2, 1) := by decide +kernel
theorem dX3_q_28 : decode cX3_q 28 = .ok (.invokevirtual 55, 3) := by decide +kernel
theorem dX3_q_31 : decode cX3_q 31 = .ok (.goto 5, 3) := by decide +kernel
theorem dX3_q_34 : decode cX3_q 34 = .ok (.ldc 59, 2) := by decide +kernel
theorem dX3_q_36 : decode cX3_q 36 = .ok (.ireturn, 1) := by decide +kernel
set_option maxRecDepth 20000 in
theorem ggX3_begin_X1_lay : GoodIn wsX3_begin wsX1_lay := goodIn_r _ [11, 12, 13, 14, 15, 16, 17, 18, 19, 20, 21, 10, 22, 23, 24, 25, 26, 27, 28, 29, 30, 31, 32, 33, 34, 35, 36, 37, 38, 39, 40, 41, 42, 43, 48, 49, 50, 51, 52, 53, 54, 55, 56, 57, 58, 59, 60, 61] (by decide +kernel) (by decide +kernel)
set_option maxRecDepth 20000 in
theorem gX3_begin_X1_lay : GoodIn wsX3_begin (wsV RX3 60 RX1 yX1_lay wsX1_lay) := goodIn_app (goodIn_of _ (by decide +kernel)) ggX3_begin_X1_lay
theorem dX3_begin_0 : decode cX3_begin 0 = .ok (.aload_n 0, 1) := by decide +kernel
theorem dX3_begin_1 : decode cX3_begin 1 = .ok (.getfield 10, 3) := by decide +kernel
theorem dX3_begin_4 : decode cX3_begin 4 = .ok (.getfield 34, 3) := by decide +kernel
theorem dX3_begin_7 : decode cX3_begin 7 = .ok (.ifCond .ne 6, 3) := by decide +kernel
theorem dX3_begin_10 : decode cX3_begin 10 = .ok (.bipush (-3), 2) := by decide +kernel
theorem dX3_begin_12 : decode cX3_begin 12 = .ok (.ireturn, 1) := by decide +kernel
theorem dX3_begin_13 : decode cX3_begin 13 = .ok (.aload_n 0, 1) := by decide +kernel
theorem dX3_begin_14 : decode cX3_begin 14 = .ok (.getfield 19, 3) := by decide +kernel
theorem dX3_begin_17 : decode cX3_begin 17 = .ok (.aload_n 0, 1) := by decide +kernel
theorem dX3_begin_18 : decode cX3_begin 18 = .ok (.getfield 10, 3) := by decide +kernel
theorem dX3_begin_21 : decode cX3_begin 21 = .ok (.aload_n 0, 1) := by decide +kernel
theorem dX3_begin_22 : decode cX3_begin 22 = .ok (.getfield 23, 3) := by decide +kernel
theorem dX3_begin_25 : decode cX3_begin 25 = .ok (.aload_n 0, 1) := by decide +kernel
theorem dX3_begin_26 : decode cX3_begin 26 = .ok (.getfield 27, 3) := by decide +kernel
theorem dX3_begin_29 : decode cX3_begin 29 = .ok (.invokevirtual 60, 3) := by decide +kernel
theorem dX3_begin_32 : decode cX3_begin 32 = .ok (.aload_n 0, 1) := by decide +kernel
theorem dX3_begin_33 : decode cX3_begin 33 = .ok (.getfield 19, 3) := by decide +kernel
theorem dX3_begin_36 : decode cX3_begin 36 = .ok (.getfield 64, 3) := by decide +kernel
theorem dX3_begin_39 : decode cX3_begin 39 = .ok (.ireturn, 1) := by decide +kernel
set_option maxRecDepth 20000 in
theorem ggX3_go_X1_mayStep : GoodIn wsX3_go wsX1_mayStep := goodIn_r _ [7, 8, 9, 99, 100, 101, 102, 103, 104, 105, 106, 107] (by decide +kernel) (by decide +kernel)
set_option maxRecDepth 20000 in
theorem gX3_go_X1_mayStep : GoodIn wsX3_go (wsV RX3 70 RX1 yX1_mayStep wsX1_mayStep) := goodIn_app (goodIn_of _ (by decide +kernel)) ggX3_go_X1_mayStep
set_option maxRecDepth 20000 in
theorem ggX3_go_X1_makeStep : GoodIn wsX3_go wsX1_makeStep := goodIn_r _ [13, 9, 14, 8, 15, 16, 17, 18, 19, 20, 6, 21, 22, 23, 24, 25, 26, 27, 28, 29, 30, 31, 32, 33, 34, 35, 36, 37, 38, 39, 40, 41, 42, 43, 44, 45, 46, 47, 48, 49, 50, 51, 52, 53, 54, 55, 56, 57, 58, 59, 60, 61, 62, 63, 64, 65, 66, 67, 68, 69, 70, 71, 72, 73, 74, 75, 76, 77, 78, 79, 80, 81, 82, 83, 84, 85, 86, 87, 88, 89, 90, 91, 92, 93, 94, 99, 100, 101, 102, 103, 104, 105, 106, 107] (by decide +kernel) (by decide +kernel)
set_option maxRecDepth 20000 in
theorem gX3_go_X1_makeStep : GoodIn wsX3_go (wsV RX3 74 RX1 yX1_makeStep wsX1_makeStep) := goodIn_app (goodIn_of _ (by decide +kernel)) ggX3_go_X1_makeStep
theorem dX3_go_0 : decode cX3_go 0 = .ok (.iload_n 1, 1) := by decide +kernel
theorem dX3_go_1 : decode cX3_go 1 = .ok (.iconst 1, 1) := by decide +kernel
theorem dX3_go_2 : decode cX3_go 2 = .ok (.if_icmp .lt 9, 3) := by decide +kernel
theorem dX3_go_5 : decode cX3_go 5 = .ok (.iload_n 1, 1) := by decide +kernel
theorem dX3_go_6 : decode cX3_go 6 = .ok (.bipush 60, 2) := by decide +kernel
theorem dX3_go_8 : decode cX3_go 8 = .ok (.if_icmp .le 6, 3) := by decide +kernel
theorem dX3_go_11 : decode cX3_go 11 = .ok (.bipush (-2), 2) := by decide +kernel
theorem dX3_go_13 : decode cX3_go 13 = .ok (.ireturn, 1) := by decide +kernel
theorem dX3_go_14 : decode cX3_go 14 = .ok (.aload_n 0, 1) := by decide +kernel
theorem dX3_go_15 : decode cX3_go 15 = .ok (.getfield 19, 3) := by decide +kernel
theorem dX3_go_18 : decode cX3_go 18 = .ok (.getfield 67, 3) := by decide +kernel
theorem dX3_go_21 : decode cX3_go 21 = .ok (.iconst (-1), 1) := by decide +kernel
theorem dX3_go_22 : decode cX3_go 22 = .ok (.if_icmp .ne 6, 3) := by decide +kernel
theorem dX3_go_25 : decode cX3_go 25 = .ok (.bipush (-3), 2) := by decide +kernel
theorem dX3_go_27 : decode cX3_go 27 = .ok (.ireturn, 1) := by decide +kernel
theorem dX3_go_28 : decode cX3_go 28 = .ok (.iconst 0, 1) := by decide +kernel
theorem dX3_go_29 : decode cX3_go 29 = .ok (.istore_n 2, 1) := by decide +kernel
theorem dX3_go_30 : decode cX3_go 30 = .ok (.iload_n 2, 1) := by decide +kernel
theorem dX3_go_31 : decode cX3_go 31 = .ok (.iload_n 1, 1) := by decide +kernel
theorem dX3_go_32 : decode cX3_go 32 = .ok (.if_icmp .ge 26, 3) := by decide +kernel
theorem dX3_go_35 : decode cX3_go 35 = .ok (.aload_n 0, 1) := by decide +kernel
theorem dX3_go_36 : decode cX3_go 36 = .ok (.getfield 19, 3) := by decide +kernel
theorem dX3_go_39 : decode cX3_go 39 = .ok (.invokevirtual 70, 3) := by decide +kernel
theorem dX3_go_42 : decode cX3_go 42 = .ok (.ifCond .eq 16, 3) := by decide +kernel
theorem dX3_go_45 : decode cX3_go 45 = .ok (.aload_n 0, 1) := by decide +kernel
theorem dX3_go_46 : decode cX3_go 46 = .ok (.getfield 19, 3) := by decide +kernel
theorem dX3_go_49 : decode cX3_go 49 = .ok (.invokevirtual 74, 3) := by decide +kernel
theorem dX3_go_52 : decode cX3_go 52 = .ok (.iinc 2 1, 3) := by decide +kernel
theorem dX3_go_55 : decode cX3_go 55 = .ok (.goto (-25), 3) := by decide +kernel
theorem dX3_go_58 : decode cX3_go 58 = .ok (.aload_n 0, 1) := by decide +kernel
theorem dX3_go_59 : decode cX3_go 59 = .ok (.getfield 19, 3) := by decide +kernel
theorem dX3_go_62 : decode cX3_go 62 = .ok (.getfield 67, 3) := by decide +kernel
theorem dX3_go_65 : decode cX3_go 65 = .ok (.ireturn, 1) := by decide +kernel
set_option maxRecDepth 20000 in
theorem ggX3_step_X1_letter : GoodIn wsX3_step wsX1_letter := goodIn_r _ [10, 11, 12, 13, 14, 9, 15, 20, 21, 22, 23, 24, 25, 26, 27, 28] (by decide +kernel) (by decide +kernel)
set_option maxRecDepth 20000 in
theorem gX3_step_X1_letter : GoodIn wsX3_step (wsV RX3 90 RX1 yX1_letter wsX1_letter) := goodIn_app (goodIn_of _ (by decide +kernel)) ggX3_step_X1_letter
theorem dX3_step_0 : decode cX3_step 0 = .ok (.iload_n 2, 1) := by decide +kernel
theorem dX3_step_1 : decode cX3_step 1 = .ok (.ifCond .lt 8, 3) := by decide +kernel
theorem dX3_step_4 : decode cX3_step 4 = .ok (.iload_n 2, 1) := by decide +kernel
theorem dX3_step_5 : decode cX3_step 5 = .ok (.iconst 2, 1) := by decide +kernel
theorem dX3_step_6 : decode cX3_step 6 = .ok (.if_icmp .le 6, 3) := by decide +kernel
theorem dX3_step_9 : decode cX3_step 9 = .ok (.bipush (-2), 2) := by decide +kernel
theorem dX3_step_11 : decode cX3_step 11 = .ok (.ireturn, 1) := by decide +kernel
theorem dX3_step_12 : decode cX3_step 12 = .ok (.iload_n 1, 1) := by decide +kernel
theorem dX3_step_13 : decode cX3_step 13 = .ok (.ifCond .lt 14, 3) := by decide +kernel
theorem dX3_step_16 : decode cX3_step 16 = .ok (.iload_n 1, 1) := by decide +kernel
theorem dX3_step_17 : decode cX3_step 17 = .ok (.aload_n 0, 1) := by decide +kernel
theorem dX3_step_18 : decode cX3_step 18 = .ok (.getfield 19, 3) := by decide +kernel
theorem dX3_step_21 : decode cX3_step 21 = .ok (.getfield 77, 3) := by decide +kernel
theorem dX3_step_24 : decode cX3_step 24 = .ok (.if_icmp .lt 5, 3) := by decide +kernel
theorem dX3_step_27 : decode cX3_step 27 = .ok (.iconst (-1), 1) := by decide +kernel
theorem dX3_step_28 : decode cX3_step 28 = .ok (.ireturn, 1) := by decide +kernel
theorem dX3_step_29 : decode cX3_step 29 = .ok (.iload_n 2, 1) := by decide +kernel
theorem dX3_step_30 : decode cX3_step 30 = .ok (.iconst 2, 1) := by decide +kernel
theorem dX3_step_31 : decode cX3_step 31 = .ok (.if_icmp .ne 13, 3) := by decide +kernel
theorem dX3_step_34 : decode cX3_step 34 = .ok (.aload_n 0, 1) := by decide +kernel
theorem dX3_step_35 : decode cX3_step 35 = .ok (.getfield 19, 3) := by decide +kernel
theorem dX3_step_38 : decode cX3_step 38 = .ok (.getfield 80, 3) := by decide +kernel
theorem dX3_step_41 : decode cX3_step 41 = .ok (.iload_n 1, 1) := by decide +kernel
theorem dX3_step_42 : decode cX3_step 42 = .ok (.iaload, 1) := by decide +kernel
theorem dX3_step_43 : decode cX3_step 43 = .ok (.ireturn, 1) := by decide +kernel
theorem dX3_step_44 : decode cX3_step 44 = .ok (.aload_n 0, 1) := by decide +kernel
theorem dX3_step_45 : decode cX3_step 45 = .ok (.getfield 19, 3) := by decide +kernel
theorem dX3_step_48 : decode cX3_step 48 = .ok (.iload_n 2, 1) := by decide +kernel
theorem dX3_step_49 : decode cX3_step 49 = .ok (.ifCond .ne 15, 3) := by decide +kernel
theorem dX3_step_52 : decode cX3_step 52 = .ok (.aload_n 0, 1) := by decide +kernel
theorem dX3_step_53 : decode cX3_step 53 = .ok (.getfield 19, 3) := by decide +kernel
theorem dX3_step_56 : decode cX3_step 56 = .ok (.getfield 84, 3) := by decide +kernel
theorem dX3_step_59 : decode cX3_step 59 = .ok (.iload_n 1, 1) := by decide +kernel
theorem dX3_step_60 : decode cX3_step 60 = .ok (.iaload, 1) := by decide +kernel
theorem dX3_step_61 : decode cX3_step 61 = .ok (.goto 12, 3) := by decide +kernel
theorem dX3_step_64 : decode cX3_step 64 = .ok (.aload_n 0, 1) := by decide +kernel
theorem dX3_step_65 : decode cX3_step 65 = .ok (.getfield 19, 3) := by decide +kernel
theorem dX3_step_68 : decode cX3_step 68 = .ok (.getfield 87, 3) := by decide +kernel
theorem dX3_step_71 : decode cX3_step 71 = .ok (.iload_n 1, 1) := by decide +kernel
theorem dX3_step_72 : decode cX3_step 72 = .ok (.iaload, 1) := by decide +kernel
theorem dX3_step_73 : decode cX3_step 73 = .ok (.invokevirtual 90, 3) := by decide +kernel
theorem dX3_step_76 : decode cX3_step 76 = .ok (.ireturn, 1) := by decide +kernel
set_option maxRecDepth 20000 in
theorem ggX3_told_X1_hasRow : GoodIn wsX3_told wsX1_hasRow := goodIn_r _ [7, 8, 21, 22, 23, 24, 25, 26, 27, 28, 29] (by decide +kernel) (by decide +kernel)
set_option maxRecDepth 20000 in
theorem gX3_told_X1_hasRow : GoodIn wsX3_told (wsV RX3 93 RX1 yX1_hasRow wsX1_hasRow) := goodIn_app (goodIn_of _ (by decide +kernel)) ggX3_told_X1_hasRow
set_option maxRecDepth 20000 in
theorem ggX3_told_X1_letter : GoodIn wsX3_told wsX1_letter := goodIn_r _ [12, 8, 13, 14, 15, 6, 16, 21, 22, 23, 24, 25, 26, 27, 28, 29] (by decide +kernel) (by decide +kernel)
set_option maxRecDepth 20000 in
theorem gX3_told_X1_letter : GoodIn wsX3_told (wsV RX3 90 RX1 yX1_letter wsX1_letter) := goodIn_app (goodIn_of _ (by decide +kernel)) ggX3_told_X1_letter
theorem dX3_told_0 : decode cX3_told 0 = .ok (.aload_n 0, 1) := by decide +kernel
theorem dX3_told_1 : decode cX3_told 1 = .ok (.getfield 19, 3) := by decide +kernel
theorem dX3_told_4 : decode cX3_told 4 = .ok (.iload_n 1, 1) := by decide +kernel
theorem dX3_told_5 : decode cX3_told 5 = .ok (.invokevirtual 93, 3) := by decide +kernel
theorem dX3_told_8 : decode cX3_told 8 = .ok (.ifCond .eq 22, 3) := by decide +kernel
theorem dX3_told_11 : decode cX3_told 11 = .ok (.aload_n 0, 1) := by decide +kernel
theorem dX3_told_12 : decode cX3_told 12 = .ok (.getfield 19, 3) := by decide +kernel
theorem dX3_told_15 : decode cX3_told 15 = .ok (.aload_n 0, 1) := by decide +kernel
theorem dX3_told_16 : decode cX3_told 16 = .ok (.getfield 19, 3) := by decide +kernel
theorem dX3_told_19 : decode cX3_told 19 = .ok (.getfield 96, 3) := by decide +kernel
theorem dX3_told_22 : decode cX3_told 22 = .ok (.iload_n 1, 1) := by decide +kernel
theorem dX3_told_23 : decode cX3_told 23 = .ok (.iaload, 1) := by decide +kernel
theorem dX3_told_24 : decode cX3_told 24 = .ok (.invokevirtual 90, 3) := by decide +kernel
theorem dX3_told_27 : decode cX3_told 27 = .ok (.goto 4, 3) := by decide +kernel
theorem dX3_told_30 : decode cX3_told 30 = .ok (.iconst (-1), 1) := by decide +kernel
theorem dX3_told_31 : decode cX3_told 31 = .ok (.ireturn, 1) := by decide +kernel
set_option maxRecDepth 20000 in
theorem ggX3_at_X1_hasRow : GoodIn wsX3_at wsX1_hasRow := goodIn_r _ [8, 9, 37, 38, 39, 40, 41, 42, 43, 44, 45] (by decide +kernel) (by decide +kernel)
set_option maxRecDepth 20000 in
theorem gX3_at_X1_hasRow : GoodIn wsX3_at (wsV RX3 93 RX1 yX1_hasRow wsX1_hasRow) := goodIn_app (goodIn_of _ (by decide +kernel)) ggX3_at_X1_hasRow
set_option maxRecDepth 20000 in
theorem ggX3_at_X1_hasColumn : GoodIn wsX3_at wsX1_hasColumn := goodIn_r _ [13, 14, 15, 16, 7, 17, 9, 37, 38, 39, 40, 41, 42, 43, 44, 45] (by decide +kernel) (by decide +kernel)
set_option maxRecDepth 20000 in
theorem gX3_at_X1_hasColumn : GoodIn wsX3_at (wsV RX3 99 RX1 yX1_hasColumn wsX1_hasColumn) := goodIn_app (goodIn_of _ (by decide +kernel)) ggX3_at_X1_hasColumn
set_option maxRecDepth 20000 in
theorem ggX3_at_X3_isPart : GoodIn wsX3_at wsX3_isPart := goodIn_r _ [21] (by decide +kernel) (by decide +kernel)
set_option maxRecDepth 20000 in
theorem gX3_at_X3_isPart : GoodIn wsX3_at (va_wsS RX3 102 yX3_isPart wsX3_isPart) := goodIn_app (goodIn_of _ (by decide +kernel)) ggX3_at_X3_isPart
set_option maxRecDepth 20000 in
theorem ggX3_at_X2_part : GoodIn wsX3_at wsX2_part := goodIn_r _ [25, 26, 27, 28, 29, 30, 31, 24, 32] (by decide +kernel) (by decide +kernel)
set_option maxRecDepth 20000 in
theorem gX3_at_X2_part : GoodIn wsX3_at (va_wsS RX3 113 yX2_part wsX2_part) := goodIn_app (goodIn_of _ (by decide +kernel)) ggX3_at_X2_part
theorem dX3_at_0 : decode cX3_at 0 = .ok (.aload_n 0, 1) := by decide +kernel
theorem dX3_at_1 : decode cX3_at 1 = .ok (.getfield 19, 3) := by decide +kernel
theorem dX3_at_4 : decode cX3_at 4 = .ok (.iload_n 1, 1) := by decide +kernel
theorem dX3_at_5 : decode cX3_at 5 = .ok (.invokevirtual 93, 3) := by decide +kernel
theorem dX3_at_8 : decode cX3_at 8 = .ok (.ifCond .eq 21, 3) := by decide +kernel
theorem dX3_at_11 : decode cX3_at 11 = .ok (.aload_n 0, 1) := by decide +kernel
theorem dX3_at_12 : decode cX3_at 12 = .ok (.getfield 19, 3) := by decide +kernel
theorem dX3_at_15 : decode cX3_at 15 = .ok (.iload_n 2, 1) := by decide +kernel
theorem dX3_at_16 : decode cX3_at 16 = .ok (.invokevirtual 99, 3) := by decide +kernel
theorem dX3_at_19 : decode cX3_at 19 = .ok (.ifCond .eq 10, 3) := by decide +kernel
theorem dX3_at_22 : decode cX3_at 22 = .ok (.iload_n 3, 1) := by decide +kernel
theorem dX3_at_23 : decode cX3_at 23 = .ok (.invokestatic 102, 3) := by decide +kernel
theorem dX3_at_26 : decode cX3_at 26 = .ok (.ifCond .ne 5, 3) := by decide +kernel
theorem dX3_at_29 : decode cX3_at 29 = .ok (.lconst 0, 1) := by decide +kernel
theorem dX3_at_30 : decode cX3_at 30 = .ok (.lreturn, 1) := by decide +kernel
theorem dX3_at_31 : decode cX3_at 31 = .ok (.aload_n 0, 1) := by decide +kernel
theorem dX3_at_32 : decode cX3_at 32 = .ok (.getfield 19, 3) := by decide +kernel
theorem dX3_at_35 : decode cX3_at 35 = .ok (.getfield 105, 3) := by decide +kernel
theorem dX3_at_38 : decode cX3_at 38 = .ok (.iload_n 1, 1) := by decide +kernel
theorem dX3_at_39 : decode cX3_at 39 = .ok (.aaload, 1) := by decide +kernel
theorem dX3_at_40 : decode cX3_at 40 = .ok (.iload_n 2, 1) := by decide +kernel
theorem dX3_at_41 : decode cX3_at 41 = .ok (.laload, 1) := by decide +kernel
theorem dX3_at_42 : decode cX3_at 42 = .ok (.aload_n 0, 1) := by decide +kernel
theorem dX3_at_43 : decode cX3_at 43 = .ok (.getfield 19, 3) := by decide +kernel
theorem dX3_at_46 : decode cX3_at 46 = .ok (.getfield 109, 3) := by decide +kernel
theorem dX3_at_49 : decode cX3_at 49 = .ok (.iload_n 3, 1) := by decide +kernel
theorem dX3_at_50 : decode cX3_at 50 = .ok (.invokestatic 113, 3) := by decide +kernel
theorem dX3_at_53 : decode cX3_at 53 = .ok (.lreturn, 1) := by decide +kernel
set_option maxRecDepth 20000 in
theorem ggX3_multiplier_X3_isDone : GoodIn wsX3_multiplier wsX3_isDone := goodIn_r _ [6, 7, 8, 51, 52, 53, 54, 55, 56, 57, 58, 59, 60, 61, 62, 63] (by decide +kernel) (by decide +kernel)
set_option maxRecDepth 20000 in
theorem gX3_multiplier_X3_isDone : GoodIn wsX3_multiplier (wsV RX3 119 RX3 yX3_isDone wsX3_isDone) := goodIn_app (goodIn_of _ (by decide +kernel)) ggX3_multiplier_X3_isDone
set_option maxRecDepth 20000 in
theorem ggX3_multiplier_X0_has : GoodIn wsX3_multiplier wsX0_has := goodIn_r _ [13, 14, 64, 65, 66, 67, 68] (by decide +kernel) (by decide +kernel)
set_option maxRecDepth 20000 in
theorem gX3_multiplier_X0_has : GoodIn wsX3_multiplier (wsV RX3 51 RX0 yX0_has wsX0_has) := goodIn_app (goodIn_of _ (by decide +kernel)) ggX3_multiplier_X0_has
set_option maxRecDepth 20000 in
theorem ggX3_multiplier_X3_isPart : GoodIn wsX3_multiplier wsX3_isPart := goodIn_r _ [17] (by decide +kernel) (by decide +kernel)
set_option maxRecDepth 20000 in
theorem gX3_multiplier_X3_isPart : GoodIn wsX3_multiplier (va_wsS RX3 102 yX3_isPart wsX3_isPart) := goodIn_app (goodIn_of _ (by decide +kernel)) ggX3_multiplier_X3_isPart
set_option maxRecDepth 20000 in
theorem ggX3_multiplier_X3_share : GoodIn wsX3_multiplier wsX3_share := goodIn_r _ [21, 7, 22, 23, 24, 25, 26, 27, 28, 29, 30, 31, 32, 33, 51, 52, 53, 54, 55, 56, 57, 58, 59, 60, 61, 62, 63] (by decide +kernel) (by decide +kernel)
set_option maxRecDepth 20000 in
theorem gX3_multiplier_X3_share : GoodIn wsX3_multiplier (wsV RX3 122 RX3 yX3_share wsX3_share) := goodIn_app (goodIn_of _ (by decide +kernel)) ggX3_multiplier_X3_share
set_option maxRecDepth 20000 in
theorem ggX3_multiplier_X3_shareBase : GoodIn wsX3_multiplier wsX3_shareBase := goodIn_r _ [37, 7, 38, 39, 51, 52, 53, 54, 55, 56, 57, 58, 59, 60, 61, 62, 63] (by decide +kernel) (by decide +kernel)
set_option maxRecDepth 20000 in
theorem gX3_multiplier_X3_shareBase : GoodIn wsX3_multiplier (wsV RX3 126 RX3 yX3_shareBase wsX3_shareBase) := goodIn_app (goodIn_of _ (by decide +kernel)) ggX3_multiplier_X3_shareBase
set_option maxRecDepth 20000 in
theorem ggX3_multiplier_X2_part : GoodIn wsX3_multiplier wsX2_part := goodIn_r _ [43, 44, 45, 46, 47, 48, 49, 42, 50] (by decide +kernel) (by decide +kernel)
set_option maxRecDepth 20000 in
theorem gX3_multiplier_X2_part : GoodIn wsX3_multiplier (va_wsS RX3 113 yX2_part wsX2_part) := goodIn_app (goodIn_of _ (by decide +kernel)) ggX3_multiplier_X2_part
theorem dX3_multiplier_0 : decode cX3_multiplier 0 = .ok (.aload_n 0, 1) := by decide +kernel
theorem dX3_multiplier_1 : decode cX3_multiplier 1 = .ok (.invokevirtual 119, 3) := by decide +kernel
theorem dX3_multiplier_4 : decode cX3_multiplier 4 = .ok (.ifCond .eq 21, 3) := by decide +kernel
theorem dX3_multiplier_7 : decode cX3_multiplier 7 = .ok (.aload_n 0, 1) := by decide +kernel
theorem dX3_multiplier_8 : decode cX3_multiplier 8 = .ok (.getfield 10, 3) := by decide +kernel
theorem dX3_multiplier_11 : decode cX3_multiplier 11 = .ok (.iload_n 1, 1) := by decide +kernel
theorem dX3_multiplier_12 : decode cX3_multiplier 12 = .ok (.invokevirtual 51, 3) := by decide +kernel
theorem dX3_multiplier_15 : decode cX3_multiplier 15 = .ok (.ifCond .eq 10, 3) := by decide +kernel
theorem dX3_multiplier_18 : decode cX3_multiplier 18 = .ok (.iload_n 2, 1) := by decide +kernel
theorem dX3_multiplier_19 : decode cX3_multiplier 19 = .ok (.invokestatic 102, 3) := by decide +kernel
theorem dX3_multiplier_22 : decode cX3_multiplier 22 = .ok (.ifCond .ne 5, 3) := by decide +kernel
theorem dX3_multiplier_25 : decode cX3_multiplier 25 = .ok (.lconst 0, 1) := by decide +kernel
theorem dX3_multiplier_26 : decode cX3_multiplier 26 = .ok (.lreturn, 1) := by decide +kernel
theorem dX3_multiplier_27 : decode cX3_multiplier 27 = .ok (.aload_n 0, 1) := by decide +kernel
theorem dX3_multiplier_28 : decode cX3_multiplier 28 = .ok (.iload_n 1, 1) := by decide +kernel
theorem dX3_multiplier_29 : decode cX3_multiplier 29 = .ok (.invokevirtual 122, 3) := by decide +kernel
theorem dX3_multiplier_32 : decode cX3_multiplier 32 = .ok (.aload_n 0, 1) := by decide +kernel
theorem dX3_multiplier_33 : decode cX3_multiplier 33 = .ok (.invokevirtual 126, 3) := by decide +kernel
theorem dX3_multiplier_36 : decode cX3_multiplier 36 = .ok (.iload_n 2, 1) := by decide +kernel
theorem dX3_multiplier_37 : decode cX3_multiplier 37 = .ok (.invokestatic 113, 3) := by decide +kernel
theorem dX3_multiplier_40 : decode cX3_multiplier 40 = .ok (.lreturn, 1) := by decide +kernel
set_option maxRecDepth 20000 in
theorem ggX3_lies_X0_has : GoodIn wsX3_lies wsX0_has := goodIn_r _ [6, 7, 45, 46, 47, 48, 49] (by decide +kernel) (by decide +kernel)
set_option maxRecDepth 20000 in
theorem gX3_lies_X0_has : GoodIn wsX3_lies (wsV RX3 51 RX0 yX0_has wsX0_has) := goodIn_app (goodIn_of _ (by decide +kernel)) ggX3_lies_X0_has
set_option maxRecDepth 20000 in
theorem ggX3_lies_X3_isDone : GoodIn wsX3_lies wsX3_isDone := goodIn_r _ [12, 13, 14, 41, 42, 43, 44, 50, 51, 52, 53, 54, 55, 56, 57, 58] (by decide +kernel) (by decide +kernel)
set_option maxRecDepth 20000 in
theorem gX3_lies_X3_isDone : GoodIn wsX3_lies (wsV RX3 119 RX3 yX3_isDone wsX3_isDone) := goodIn_app (goodIn_of _ (by decide +kernel)) ggX3_lies_X3_isDone
set_option maxRecDepth 20000 in
theorem ggX3_lies_X3_placeInBox : GoodIn wsX3_lies wsX3_placeInBox := goodIn_r _ [18, 19, 20, 21, 11, 22, 13, 23, 24, 25, 26, 27, 28, 29, 30, 31, 32, 33, 34, 35, 36, 37, 38, 39, 40, 41, 42, 43, 44, 50, 51, 52, 53, 54, 55, 56, 57, 58] (by decide +kernel) (by decide +kernel)
set_option maxRecDepth 20000 in
theorem gX3_lies_X3_placeInBox : GoodIn wsX3_lies (wsV RX3 130 RX3 yX3_placeInBox wsX3_placeInBox) := goodIn_app (goodIn_of _ (by decide +kernel)) ggX3_lies_X3_placeInBox
theorem dX3_lies_0 : decode cX3_lies 0 = .ok (.aload_n 0, 1) := by decide +kernel
theorem dX3_lies_1 : decode cX3_lies 1 = .ok (.getfield 10, 3) := by decide +kernel
theorem dX3_lies_4 : decode cX3_lies 4 = .ok (.iload_n 1, 1) := by decide +kernel
theorem dX3_lies_5 : decode cX3_lies 5 = .ok (.invokevirtual 51, 3) := by decide +kernel
theorem dX3_lies_8 : decode cX3_lies 8 = .ok (.ifCond .ne 6, 3) := by decide +kernel
theorem dX3_lies_11 : decode cX3_lies 11 = .ok (.bipush (-2), 2) := by decide +kernel
theorem dX3_lies_13 : decode cX3_lies 13 = .ok (.ireturn, 1) := by decide +kernel
theorem dX3_lies_14 : decode cX3_lies 14 = .ok (.aload_n 0, 1) := by decide +kernel
theorem dX3_lies_15 : decode cX3_lies 15 = .ok (.invokevirtual 119, 3) := by decide +kernel
theorem dX3_lies_18 : decode cX3_lies 18 = .ok (.ifCond .eq 11, 3) := by decide +kernel
theorem dX3_lies_21 : decode cX3_lies 21 = .ok (.aload_n 0, 1) := by decide +kernel
theorem dX3_lies_22 : decode cX3_lies 22 = .ok (.iload_n 1, 1) := by decide +kernel
theorem dX3_lies_23 : decode cX3_lies 23 = .ok (.invokevirtual 130, 3) := by decide +kernel
theorem dX3_lies_26 : decode cX3_lies 26 = .ok (.goto 4, 3) := by decide +kernel
theorem dX3_lies_29 : decode cX3_lies 29 = .ok (.iconst (-1), 1) := by decide +kernel
theorem dX3_lies_30 : decode cX3_lies 30 = .ok (.ireturn, 1) := by decide +kernel
set_option maxRecDepth 20000 in
theorem ggX3_slope_X3_isDone : GoodIn wsX3_slope wsX3_isDone := goodIn_r _ [6, 7, 8, 68, 69, 70, 71, 72, 73, 74, 75, 76, 77, 78, 79, 80] (by decide +kernel) (by decide +kernel)
set_option maxRecDepth 20000 in
theorem gX3_slope_X3_isDone : GoodIn wsX3_slope (wsV RX3 119 RX3 yX3_isDone wsX3_isDone) := goodIn_app (goodIn_of _ (by decide +kernel)) ggX3_slope_X3_isDone
set_option maxRecDepth 20000 in
theorem ggX3_slope_X0_has : GoodIn wsX3_slope wsX0_has := goodIn_r _ [13, 14, 81, 82, 83, 84, 85] (by decide +kernel) (by decide +kernel)
set_option maxRecDepth 20000 in
theorem gX3_slope_X0_has : GoodIn wsX3_slope (wsV RX3 51 RX0 yX0_has wsX0_has) := goodIn_app (goodIn_of _ (by decide +kernel)) ggX3_slope_X0_has
set_option maxRecDepth 20000 in
theorem ggX3_slope_X3_isPart : GoodIn wsX3_slope wsX3_isPart := goodIn_r _ [17] (by decide +kernel) (by decide +kernel)
set_option maxRecDepth 20000 in
theorem gX3_slope_X3_isPart : GoodIn wsX3_slope (va_wsS RX3 102 yX3_isPart wsX3_isPart) := goodIn_app (goodIn_of _ (by decide +kernel)) ggX3_slope_X3_isPart
set_option maxRecDepth 20000 in
theorem ggX3_slope_X3_slopeShare : GoodIn wsX3_slope wsX3_slopeShare := goodIn_r _ [21, 1, 22, 23, 24, 25, 5, 26, 7, 27, 28, 29, 30, 31, 12, 32, 33, 34, 35, 36, 37, 38, 39, 40, 41, 42, 43, 44, 45, 46, 47, 48, 49, 50, 51, 52, 53, 54, 55, 56, 68, 69, 70, 71, 81, 82, 83, 84, 85, 72, 73, 74, 75, 76, 77, 78, 79, 80] (by decide +kernel) (by decide +kernel)
set_option maxRecDepth 20000 in
theorem gX3_slope_X3_slopeShare : GoodIn wsX3_slope (wsV RX3 133 RX3 yX3_slopeShare wsX3_slopeShare) := goodIn_app (goodIn_of _ (by decide +kernel)) ggX3_slope_X3_slopeShare
set_option maxRecDepth 20000 in
theorem ggX3_slope_X3_shareBase : GoodIn wsX3_slope wsX3_shareBase := goodIn_r _ [26, 7, 27, 28, 68, 69, 70, 71, 72, 73, 74, 75, 76, 77, 78, 79, 80] (by decide +kernel) (by decide +kernel)
set_option maxRecDepth 20000 in
theorem gX3_slope_X3_shareBase : GoodIn wsX3_slope (wsV RX3 126 RX3 yX3_shareBase wsX3_shareBase) := goodIn_app (goodIn_of _ (by decide +kernel)) ggX3_slope_X3_shareBase
set_option maxRecDepth 20000 in
theorem ggX3_slope_X2_part : GoodIn wsX3_slope wsX2_part := goodIn_r _ [60, 61, 62, 63, 64, 65, 66, 59, 67] (by decide +kernel) (by decide +kernel)
set_option maxRecDepth 20000 in
theorem gX3_slope_X2_part : GoodIn wsX3_slope (va_wsS RX3 113 yX2_part wsX2_part) := goodIn_app (goodIn_of _ (by decide +kernel)) ggX3_slope_X2_part
theorem dX3_slope_0 : decode cX3_slope 0 = .ok (.aload_n 0, 1) := by decide +kernel
theorem dX3_slope_1 : decode cX3_slope 1 = .ok (.invokevirtual 119, 3) := by decide +kernel
theorem dX3_slope_4 : decode cX3_slope 4 = .ok (.ifCond .eq 21, 3) := by decide +kernel
theorem dX3_slope_7 : decode cX3_slope 7 = .ok (.aload_n 0, 1) := by decide +kernel
theorem dX3_slope_8 : decode cX3_slope 8 = .ok (.getfield 10, 3) := by decide +kernel
theorem dX3_slope_11 : decode cX3_slope 11 = .ok (.iload_n 1, 1) := by decide +kernel
theorem dX3_slope_12 : decode cX3_slope 12 = .ok (.invokevirtual 51, 3) := by decide +kernel
theorem dX3_slope_15 : decode cX3_slope 15 = .ok (.ifCond .eq 10, 3) := by decide +kernel
theorem dX3_slope_18 : decode cX3_slope 18 = .ok (.iload_n 2, 1) := by decide +kernel
theorem dX3_slope_19 : decode cX3_slope 19 = .ok (.invokestatic 102, 3) := by decide +kernel
theorem dX3_slope_22 : decode cX3_slope 22 = .ok (.ifCond .ne 5, 3) := by decide +kernel
theorem dX3_slope_25 : decode cX3_slope 25 = .ok (.lconst 0, 1) := by decide +kernel
theorem dX3_slope_26 : decode cX3_slope 26 = .ok (.lreturn, 1) := by decide +kernel
theorem dX3_slope_27 : decode cX3_slope 27 = .ok (.aload_n 0, 1) := by decide +kernel
theorem dX3_slope_28 : decode cX3_slope 28 = .ok (.iload_n 1, 1) := by decide +kernel
theorem dX3_slope_29 : decode cX3_slope 29 = .ok (.invokevirtual 133, 3) := by decide +kernel
theorem dX3_slope_32 : decode cX3_slope 32 = .ok (.aload_n 0, 1) := by decide +kernel
theorem dX3_slope_33 : decode cX3_slope 33 = .ok (.invokevirtual 126, 3) := by decide +kernel
theorem dX3_slope_36 : decode cX3_slope 36 = .ok (.iload_n 2, 1) := by decide +kernel
theorem dX3_slope_37 : decode cX3_slope 37 = .ok (.invokestatic 113, 3) := by decide +kernel
theorem dX3_slope_40 : decode cX3_slope 40 = .ok (.lreturn, 1) := by decide +kernel
set_option maxRecDepth 20000 in
theorem ggX3_check_X3_isDone : GoodIn wsX3_check wsX3_isDone := goodIn_r _ [7, 8, 9, 62, 63, 64, 65, 71, 72, 73, 74, 75, 76, 77, 78, 79] (by decide +kernel) (by decide +kernel)
set_option maxRecDepth 20000 in
theorem gX3_check_X3_isDone : GoodIn wsX3_check (wsV RX3 119 RX3 yX3_isDone wsX3_isDone) := goodIn_app (goodIn_of _ (by decide +kernel)) ggX3_check_X3_isDone
set_option maxRecDepth 20000 in
theorem ggX3_check_X3_holdsCondition : GoodIn wsX3_check wsX3_holdsCondition := goodIn_r _ [13, 14, 15, 16, 6, 17, 1, 2, 18, 19, 20, 21, 8, 22, 23, 24, 25, 26, 27, 28, 29, 30, 31, 32, 33, 34, 35, 36, 37, 38, 39, 40, 41, 42, 43, 44, 45, 46, 47, 48, 49, 50, 51, 52, 53, 54, 55, 56, 57, 58, 59, 60, 61, 62, 63, 64, 65, 66, 67, 68, 69, 70, 71, 72, 73, 74, 75, 76, 77, 78, 79] (by decide +kernel) (by decide +kernel)
set_option maxRecDepth 20000 in
theorem gX3_check_X3_holdsCondition : GoodIn wsX3_check (wsV RX3 136 RX3 yX3_holdsCondition wsX3_holdsCondition) := goodIn_app (goodIn_of _ (by decide +kernel)) ggX3_check_X3_holdsCondition
theorem dX3_check_0 : decode cX3_check 0 = .ok (.aload_n 0, 1) := by decide +kernel
theorem dX3_check_1 : decode cX3_check 1 = .ok (.invokevirtual 119, 3) := by decide +kernel
theorem dX3_check_4 : decode cX3_check 4 = .ok (.ifCond .ne 6, 3) := by decide +kernel
theorem dX3_check_7 : decode cX3_check 7 = .ok (.bipush (-3), 2) := by decide +kernel
theorem dX3_check_9 : decode cX3_check 9 = .ok (.ireturn, 1) := by decide +kernel
theorem dX3_check_10 : decode cX3_check 10 = .ok (.iconst 0, 1) := by decide +kernel
theorem dX3_check_11 : decode cX3_check 11 = .ok (.istore_n 1, 1) := by decide +kernel
theorem dX3_check_12 : decode cX3_check 12 = .ok (.iload_n 1, 1) := by decide +kernel
theorem dX3_check_13 : decode cX3_check 13 = .ok (.aload_n 0, 1) := by decide +kernel
theorem dX3_check_14 : decode cX3_check 14 = .ok (.getfield 10, 3) := by decide +kernel
theorem dX3_check_17 : decode cX3_check 17 = .ok (.getfield 34, 3) := by decide +kernel
theorem dX3_check_20 : decode cX3_check 20 = .ok (.if_icmp .ge 19, 3) := by decide +kernel
theorem dX3_check_23 : decode cX3_check 23 = .ok (.aload_n 0, 1) := by decide +kernel
theorem dX3_check_24 : decode cX3_check 24 = .ok (.iload_n 1, 1) := by decide +kernel
theorem dX3_check_25 : decode cX3_check 25 = .ok (.invokevirtual 136, 3) := by decide +kernel
theorem dX3_check_28 : decode cX3_check 28 = .ok (.ifCond .ne 5, 3) := by decide +kernel
theorem dX3_check_31 : decode cX3_check 31 = .ok (.iconst 0, 1) := by decide +kernel
theorem dX3_check_32 : decode cX3_check 32 = .ok (.ireturn, 1) := by decide +kernel
theorem dX3_check_33 : decode cX3_check 33 = .ok (.iinc 1 1, 3) := by decide +kernel
theorem dX3_check_36 : decode cX3_check 36 = .ok (.goto (-24), 3) := by decide +kernel
theorem dX3_check_39 : decode cX3_check 39 = .ok (.iconst 1, 1) := by decide +kernel
theorem dX3_check_40 : decode cX3_check 40 = .ok (.ireturn, 1) := by decide +kernel
set_option maxRecDepth 20000 in
theorem ggX3_change_X0_has : GoodIn wsX3_change wsX0_has := goodIn_r _ [6, 7, 71, 72, 73, 74, 75] (by decide +kernel) (by decide +kernel)
set_option maxRecDepth 20000 in
theorem gX3_change_X0_has : GoodIn wsX3_change (wsV RX3 51 RX0 yX0_has wsX0_has) := goodIn_app (goodIn_of _ (by decide +kernel)) ggX3_change_X0_has
set_option maxRecDepth 20000 in
theorem ggX3_change_X3_isInBox : GoodIn wsX3_change wsX3_isInBox := goodIn_r _ [12, 13, 14, 67, 68, 69, 70] (by decide +kernel) (by decide +kernel)
set_option maxRecDepth 20000 in
theorem gX3_change_X3_isInBox : GoodIn wsX3_change (wsV RX3 139 RX3 yX3_isInBox wsX3_isInBox) := goodIn_app (goodIn_of _ (by decide +kernel)) ggX3_change_X3_isInBox
set_option maxRecDepth 20000 in
theorem ggX3_change_X3_isDone : GoodIn wsX3_change wsX3_isDone := goodIn_r _ [18, 19, 20, 67, 68, 69, 70, 76, 77, 78, 79, 80, 81, 82, 83, 84] (by decide +kernel) (by decide +kernel)
set_option maxRecDepth 20000 in
theorem gX3_change_X3_isDone : GoodIn wsX3_change (wsV RX3 119 RX3 yX3_isDone wsX3_isDone) := goodIn_app (goodIn_of _ (by decide +kernel)) ggX3_change_X3_isDone
set_option maxRecDepth 20000 in
theorem ggX3_change_X3_worthSign : GoodIn wsX3_change wsX3_worthSign := goodIn_r _ [24, 1, 25, 26, 27, 11, 28, 19, 29, 13, 30, 31, 32, 33, 34, 35, 36, 37, 38, 39, 40, 41, 42, 43, 44, 45, 46, 47, 48, 49, 50, 51, 52, 53, 5, 54, 55, 56, 57, 58, 59, 60, 61, 62, 63, 64, 65, 66, 67, 68, 69, 70, 76, 77, 78, 79, 80, 81, 82, 83, 84, 71, 72, 73, 74, 75] (by decide +kernel) (by decide +kernel)
set_option maxRecDepth 20000 in
theorem gX3_change_X3_worthSign : GoodIn wsX3_change (wsV RX3 142 RX3 yX3_worthSign wsX3_worthSign) := goodIn_app (goodIn_of _ (by decide +kernel)) ggX3_change_X3_worthSign
theorem dX3_change_0 : decode cX3_change 0 = .ok (.aload_n 0, 1) := by decide +kernel
theorem dX3_change_1 : decode cX3_change 1 = .ok (.getfield 10, 3) := by decide +kernel
theorem dX3_change_4 : decode cX3_change 4 = .ok (.iload_n 1, 1) := by decide +kernel
theorem dX3_change_5 : decode cX3_change 5 = .ok (.invokevirtual 51, 3) := by decide +kernel
theorem dX3_change_8 : decode cX3_change 8 = .ok (.ifCond .eq 12, 3) := by decide +kernel
theorem dX3_change_11 : decode cX3_change 11 = .ok (.aload_n 0, 1) := by decide +kernel
theorem dX3_change_12 : decode cX3_change 12 = .ok (.iload_n 2, 1) := by decide +kernel
theorem dX3_change_13 : decode cX3_change 13 = .ok (.iload_n 3, 1) := by decide +kernel
theorem dX3_change_14 : decode cX3_change 14 = .ok (.invokevirtual 139, 3) := by decide +kernel
theorem dX3_change_17 : decode cX3_change 17 = .ok (.ifCond .ne 6, 3) := by decide +kernel
theorem dX3_change_20 : decode cX3_change 20 = .ok (.bipush (-2), 2) := by decide +kernel
theorem dX3_change_22 : decode cX3_change 22 = .ok (.ireturn, 1) := by decide +kernel
theorem dX3_change_23 : decode cX3_change 23 = .ok (.aload_n 0, 1) := by decide +kernel
theorem dX3_change_24 : decode cX3_change 24 = .ok (.invokevirtual 119, 3) := by decide +kernel
theorem dX3_change_27 : decode cX3_change 27 = .ok (.ifCond .eq 13, 3) := by decide +kernel
theorem dX3_change_30 : decode cX3_change 30 = .ok (.aload_n 0, 1) := by decide +kernel
theorem dX3_change_31 : decode cX3_change 31 = .ok (.iload_n 1, 1) := by decide +kernel
theorem dX3_change_32 : decode cX3_change 32 = .ok (.iload_n 2, 1) := by decide +kernel
theorem dX3_change_33 : decode cX3_change 33 = .ok (.iload_n 3, 1) := by decide +kernel
theorem dX3_change_34 : decode cX3_change 34 = .ok (.invokevirtual 142, 3) := by decide +kernel
theorem dX3_change_37 : decode cX3_change 37 = .ok (.goto 5, 3) := by decide +kernel
theorem dX3_change_40 : decode cX3_change 40 = .ok (.bipush (-3), 2) := by decide +kernel
theorem dX3_change_42 : decode cX3_change 42 = .ok (.ireturn, 1) := by decide +kernel
set_option maxRecDepth 20000 in
theorem ggX3_decision_X3_isDone : GoodIn wsX3_decision wsX3_isDone := goodIn_r _ [5, 6, 7, 62, 63, 64, 65, 66, 67, 68, 69, 70, 71, 72, 73, 74] (by decide +kernel) (by decide +kernel)
set_option maxRecDepth 20000 in
theorem gX3_decision_X3_isDone : GoodIn wsX3_decision (wsV RX3 119 RX3 yX3_isDone wsX3_isDone) := goodIn_app (goodIn_of _ (by decide +kernel)) ggX3_decision_X3_isDone
set_option maxRecDepth 20000 in
theorem ggX3_decision_X0_isPlace : GoodIn wsX3_decision wsX0_isPlace := goodIn_r _ [11] (by decide +kernel) (by decide +kernel)
set_option maxRecDepth 20000 in
theorem gX3_decision_X0_isPlace : GoodIn wsX3_decision (va_wsS RX3 30 yX0_isPlace wsX0_isPlace) := goodIn_app (goodIn_of _ (by decide +kernel)) ggX3_decision_X0_isPlace
set_option maxRecDepth 20000 in
theorem ggX3_decision_X3_isPart : GoodIn wsX3_decision wsX3_isPart := goodIn_r _ [14] (by decide +kernel) (by decide +kernel)
set_option maxRecDepth 20000 in
theorem gX3_decision_X3_isPart : GoodIn wsX3_decision (va_wsS RX3 102 yX3_isPart wsX3_isPart) := goodIn_app (goodIn_of _ (by decide +kernel)) ggX3_decision_X3_isPart
set_option maxRecDepth 20000 in
theorem ggX3_decision_X3_decisionShare : GoodIn wsX3_decision wsX3_decisionShare := goodIn_r _ [18, 19, 20, 21, 22, 23, 24, 4, 25, 6, 26, 27, 28, 29, 30, 31, 32, 33, 34, 35, 36, 37, 38, 39, 40, 10, 41, 42, 43, 44, 62, 63, 64, 65, 75, 76, 77, 78, 79, 66, 67, 68, 69, 70, 71, 72, 73, 74] (by decide +kernel) (by decide +kernel)
set_option maxRecDepth 20000 in
theorem gX3_decision_X3_decisionShare : GoodIn wsX3_decision (wsV RX3 146 RX3 yX3_decisionShare wsX3_decisionShare) := goodIn_app (goodIn_of _ (by decide +kernel)) ggX3_decision_X3_decisionShare
set_option maxRecDepth 20000 in
theorem ggX3_decision_X3_shareBase : GoodIn wsX3_decision wsX3_shareBase := goodIn_r _ [48, 6, 49, 50, 62, 63, 64, 65, 66, 67, 68, 69, 70, 71, 72, 73, 74] (by decide +kernel) (by decide +kernel)
set_option maxRecDepth 20000 in
theorem gX3_decision_X3_shareBase : GoodIn wsX3_decision (wsV RX3 126 RX3 yX3_shareBase wsX3_shareBase) := goodIn_app (goodIn_of _ (by decide +kernel)) ggX3_decision_X3_shareBase
set_option maxRecDepth 20000 in
theorem ggX3_decision_X2_part : GoodIn wsX3_decision wsX2_part := goodIn_r _ [54, 55, 56, 57, 58, 59, 60, 53, 61] (by decide +kernel) (by decide +kernel)
set_option maxRecDepth 20000 in
theorem gX3_decision_X2_part : GoodIn wsX3_decision (va_wsS RX3 113 yX2_part wsX2_part) := goodIn_app (goodIn_of _ (by decide +kernel)) ggX3_decision_X2_part
theorem dX3_decision_0 : decode cX3_decision 0 = .ok (.aload_n 0, 1) := by decide +kernel
theorem dX3_decision_1 : decode cX3_decision 1 = .ok (.invokevirtual 119, 3) := by decide +kernel
theorem dX3_decision_4 : decode cX3_decision 4 = .ok (.ifCond .eq 18, 3) := by decide +kernel
theorem dX3_decision_7 : decode cX3_decision 7 = .ok (.iload_n 1, 1) := by decide +kernel
theorem dX3_decision_8 : decode cX3_decision 8 = .ok (.iload_n 2, 1) := by decide +kernel
theorem dX3_decision_9 : decode cX3_decision 9 = .ok (.invokestatic 30, 3) := by decide +kernel
theorem dX3_decision_12 : decode cX3_decision 12 = .ok (.ifCond .eq 10, 3) := by decide +kernel
theorem dX3_decision_15 : decode cX3_decision 15 = .ok (.iload_n 3, 1) := by decide +kernel
theorem dX3_decision_16 : decode cX3_decision 16 = .ok (.invokestatic 102, 3) := by decide +kernel
theorem dX3_decision_19 : decode cX3_decision 19 = .ok (.ifCond .ne 5, 3) := by decide +kernel
theorem dX3_decision_22 : decode cX3_decision 22 = .ok (.lconst 0, 1) := by decide +kernel
theorem dX3_decision_23 : decode cX3_decision 23 = .ok (.lreturn, 1) := by decide +kernel
theorem dX3_decision_24 : decode cX3_decision 24 = .ok (.aload_n 0, 1) := by decide +kernel
theorem dX3_decision_25 : decode cX3_decision 25 = .ok (.iload_n 1, 1) := by decide +kernel
theorem dX3_decision_26 : decode cX3_decision 26 = .ok (.iload_n 2, 1) := by decide +kernel
theorem dX3_decision_27 : decode cX3_decision 27 = .ok (.invokevirtual 146, 3) := by decide +kernel
theorem dX3_decision_30 : decode cX3_decision 30 = .ok (.aload_n 0, 1) := by decide +kernel
theorem dX3_decision_31 : decode cX3_decision 31 = .ok (.invokevirtual 126, 3) := by decide +kernel
theorem dX3_decision_34 : decode cX3_decision 34 = .ok (.iload_n 3, 1) := by decide +kernel
theorem dX3_decision_35 : decode cX3_decision 35 = .ok (.invokestatic 113, 3) := by decide +kernel
theorem dX3_decision_38 : decode cX3_decision 38 = .ok (.lreturn, 1) := by decide +kernel
set_option maxRecDepth 20000 in
theorem ggX3_predict_X0_isPlace : GoodIn wsX3_predict wsX0_isPlace := goodIn_r _ [4] (by decide +kernel) (by decide +kernel)
set_option maxRecDepth 20000 in
theorem gX3_predict_X0_isPlace : GoodIn wsX3_predict (va_wsS RX3 30 yX0_isPlace wsX0_isPlace) := goodIn_app (goodIn_of _ (by decide +kernel)) ggX3_predict_X0_isPlace
set_option maxRecDepth 20000 in
theorem ggX3_predict_X3_isDone : GoodIn wsX3_predict wsX3_isDone := goodIn_r _ [9, 10, 11, 46, 47, 48, 49, 50, 51, 52, 53, 54, 55, 56, 57, 58] (by decide +kernel) (by decide +kernel)
set_option maxRecDepth 20000 in
theorem gX3_predict_X3_isDone : GoodIn wsX3_predict (wsV RX3 119 RX3 yX3_isDone wsX3_isDone) := goodIn_app (goodIn_of _ (by decide +kernel)) ggX3_predict_X3_isDone
set_option maxRecDepth 20000 in
theorem ggX3_predict_X3_decisionShare : GoodIn wsX3_predict wsX3_decisionShare := goodIn_r _ [15, 16, 17, 18, 19, 20, 21, 8, 22, 10, 23, 24, 25, 26, 27, 28, 29, 30, 31, 32, 33, 34, 35, 36, 37, 3, 38, 39, 40, 41, 46, 47, 48, 49, 59, 60, 61, 62, 63, 50, 51, 52, 53, 54, 55, 56, 57, 58] (by decide +kernel) (by decide +kernel)
set_option maxRecDepth 20000 in
theorem gX3_predict_X3_decisionShare : GoodIn wsX3_predict (wsV RX3 146 RX3 yX3_decisionShare wsX3_decisionShare) := goodIn_app (goodIn_of _ (by decide +kernel)) ggX3_predict_X3_decisionShare
set_option maxRecDepth 20000 in
theorem ggX3_predict_J13_signum_95d88 : GoodIn wsX3_predict wsJ13_signum_95d88 := goodIn_r _ [45] (by decide +kernel) (by decide +kernel)
set_option maxRecDepth 20000 in
theorem gX3_predict_J13_signum_95d88 : GoodIn wsX3_predict (va_wsS RX3 150 yJ13_signum_95d88 wsJ13_signum_95d88) := goodIn_app (goodIn_of _ (by decide +kernel)) ggX3_predict_J13_signum_95d88
theorem dX3_predict_0 : decode cX3_predict 0 = .ok (.iload_n 1, 1) := by decide +kernel
theorem dX3_predict_1 : decode cX3_predict 1 = .ok (.iload_n 2, 1) := by decide +kernel
theorem dX3_predict_2 : decode cX3_predict 2 = .ok (.invokestatic 30, 3) := by decide +kernel
theorem dX3_predict_5 : decode cX3_predict 5 = .ok (.ifCond .ne 6, 3) := by decide +kernel
theorem dX3_predict_8 : decode cX3_predict 8 = .ok (.bipush (-2), 2) := by decide +kernel
theorem dX3_predict_10 : decode cX3_predict 10 = .ok (.ireturn, 1) := by decide +kernel
theorem dX3_predict_11 : decode cX3_predict 11 = .ok (.aload_n 0, 1) := by decide +kernel
theorem dX3_predict_12 : decode cX3_predict 12 = .ok (.invokevirtual 119, 3) := by decide +kernel
theorem dX3_predict_15 : decode cX3_predict 15 = .ok (.ifCond .eq 15, 3) := by decide +kernel
theorem dX3_predict_18 : decode cX3_predict 18 = .ok (.aload_n 0, 1) := by decide +kernel
theorem dX3_predict_19 : decode cX3_predict 19 = .ok (.iload_n 1, 1) := by decide +kernel
theorem dX3_predict_20 : decode cX3_predict 20 = .ok (.iload_n 2, 1) := by decide +kernel
theorem dX3_predict_21 : decode cX3_predict 21 = .ok (.invokevirtual 146, 3) := by decide +kernel
theorem dX3_predict_24 : decode cX3_predict 24 = .ok (.invokestatic 150, 3) := by decide +kernel
theorem dX3_predict_27 : decode cX3_predict 27 = .ok (.goto 5, 3) := by decide +kernel
theorem dX3_predict_30 : decode cX3_predict 30 = .ok (.bipush (-3), 2) := by decide +kernel
theorem dX3_predict_32 : decode cX3_predict 32 = .ok (.ireturn, 1) := by decide +kernel
set_option maxRecDepth 20000 in
theorem ggX3_count_X3_isDone : GoodIn wsX3_count wsX3_isDone := goodIn_r _ [13, 6, 8, 34, 35, 36, 37, 43, 44, 45, 46, 47, 48, 49, 50, 51] (by decide +kernel) (by decide +kernel)
set_option maxRecDepth 20000 in
theorem gX3_count_X3_isDone : GoodIn wsX3_count (wsV RX3 119 RX3 yX3_isDone wsX3_isDone) := goodIn_app (goodIn_of _ (by decide +kernel)) ggX3_count_X3_isDone
set_option maxRecDepth 20000 in
theorem ggX3_count_X3_supporters : GoodIn wsX3_count wsX3_supporters := goodIn_r _ [17, 1, 2, 18, 19, 20, 12, 21, 6, 22, 23, 24, 25, 26, 27, 28, 29, 30, 31, 32, 33, 34, 35, 36, 37, 38, 39, 40, 41, 42, 43, 44, 45, 46, 47, 48, 49, 50, 51] (by decide +kernel) (by decide +kernel)
set_option maxRecDepth 20000 in
theorem gX3_count_X3_supporters : GoodIn wsX3_count (wsV RX3 156 RX3 yX3_supporters wsX3_supporters) := goodIn_app (goodIn_of _ (by decide +kernel)) ggX3_count_X3_supporters
theorem dX3_count_0 : decode cX3_count 0 = .ok (.iload_n 1, 1) := by decide +kernel
theorem dX3_count_1 : decode cX3_count 1 = .ok (.tableswitch 101 0 6 #[43, 51, 59, 64, 69, 77, 85], 43) := by decide +kernel
theorem dX3_count_44 : decode cX3_count 44 = .ok (.aload_n 0, 1) := by decide +kernel
theorem dX3_count_45 : decode cX3_count 45 = .ok (.getfield 10, 3) := by decide +kernel
theorem dX3_count_48 : decode cX3_count 48 = .ok (.getfield 34, 3) := by decide +kernel
theorem dX3_count_51 : decode cX3_count 51 = .ok (.ireturn, 1) := by decide +kernel
theorem dX3_count_52 : decode cX3_count 52 = .ok (.aload_n 0, 1) := by decide +kernel
theorem dX3_count_53 : decode cX3_count 53 = .ok (.getfield 10, 3) := by decide +kernel
theorem dX3_count_56 : decode cX3_count 56 = .ok (.getfield 37, 3) := by decide +kernel
theorem dX3_count_59 : decode cX3_count 59 = .ok (.ireturn, 1) := by decide +kernel
theorem dX3_count_60 : decode cX3_count 60 = .ok (.aload_n 0, 1) := by decide +kernel
theorem dX3_count_61 : decode cX3_count 61 = .ok (.getfield 23, 3) := by decide +kernel
theorem dX3_count_64 : decode cX3_count 64 = .ok (.ireturn, 1) := by decide +kernel
theorem dX3_count_65 : decode cX3_count 65 = .ok (.aload_n 0, 1) := by decide +kernel
theorem dX3_count_66 : decode cX3_count 66 = .ok (.getfield 27, 3) := by decide +kernel
theorem dX3_count_69 : decode cX3_count 69 = .ok (.ireturn, 1) := by decide +kernel
theorem dX3_count_70 : decode cX3_count 70 = .ok (.aload_n 0, 1) := by decide +kernel
theorem dX3_count_71 : decode cX3_count 71 = .ok (.getfield 19, 3) := by decide +kernel
theorem dX3_count_74 : decode cX3_count 74 = .ok (.getfield 77, 3) := by decide +kernel
theorem dX3_count_77 : decode cX3_count 77 = .ok (.ireturn, 1) := by decide +kernel
theorem dX3_count_78 : decode cX3_count 78 = .ok (.aload_n 0, 1) := by decide +kernel
theorem dX3_count_79 : decode cX3_count 79 = .ok (.getfield 19, 3) := by decide +kernel
theorem dX3_count_82 : decode cX3_count 82 = .ok (.getfield 67, 3) := by decide +kernel
theorem dX3_count_85 : decode cX3_count 85 = .ok (.ireturn, 1) := by decide +kernel
theorem dX3_count_86 : decode cX3_count 86 = .ok (.aload_n 0, 1) := by decide +kernel
theorem dX3_count_87 : decode cX3_count 87 = .ok (.invokevirtual 119, 3) := by decide +kernel
theorem dX3_count_90 : decode cX3_count 90 = .ok (.ifCond .eq 10, 3) := by decide +kernel
theorem dX3_count_93 : decode cX3_count 93 = .ok (.aload_n 0, 1) := by decide +kernel
theorem dX3_count_94 : decode cX3_count 94 = .ok (.invokevirtual 156, 3) := by decide +kernel
theorem dX3_count_97 : decode cX3_count 97 = .ok (.goto 4, 3) := by decide +kernel
theorem dX3_count_100 : decode cX3_count 100 = .ok (.iconst (-1), 1) := by decide +kernel
theorem dX3_count_101 : decode cX3_count 101 = .ok (.ireturn, 1) := by decide +kernel
theorem dX3_count_102 : decode cX3_count 102 = .ok (.bipush (-2), 2) := by decide +kernel
theorem dX3_count_104 : decode cX3_count 104 = .ok (.ireturn, 1) := by decide +kernel
set_option maxRecDepth 20000 in
theorem ggX3_digest_X3_count : GoodIn wsX3_digest wsX3_count := goodIn_r _ [14, 3, 4, 15, 16, 17, 8, 9, 18, 19, 20, 21, 13, 22, 23, 24, 25, 26, 27, 28, 29, 30, 31, 32, 33, 34, 35, 36, 37, 38, 39, 40, 41, 42, 87, 88, 89, 90, 91, 92, 93, 94, 95, 96, 97, 98, 99, 100, 101, 102, 103, 104] (by decide +kernel) (by decide +kernel)
set_option maxRecDepth 20000 in
theorem gX3_digest_X3_count : GoodIn wsX3_digest (wsV RX3 164 RX3 yX3_count wsX3_count) := goodIn_app (goodIn_of _ (by decide +kernel)) ggX3_digest_X3_count
set_option maxRecDepth 20000 in
theorem ggX3_digest_X3_step : GoodIn wsX3_digest wsX3_step := goodIn_r _ [46, 8, 9, 47, 48, 49, 50, 51, 52, 34, 53, 36, 54, 55, 56, 57, 87, 88, 89, 90, 96, 97, 98, 99, 100, 101, 102, 103, 104] (by decide +kernel) (by decide +kernel)
set_option maxRecDepth 20000 in
theorem gX3_digest_X3_step : GoodIn wsX3_digest (wsV RX3 176 RX3 yX3_step wsX3_step) := goodIn_app (goodIn_of _ (by decide +kernel)) ggX3_digest_X3_step
set_option maxRecDepth 20000 in
theorem ggX3_digest_X3_multiplier : GoodIn wsX3_digest wsX3_multiplier := goodIn_r _ [61, 3, 19, 20, 21, 13, 22, 8, 18, 62, 63, 64, 65, 66, 67, 68, 69, 70, 27, 28, 29, 30, 31, 32, 33, 34, 35, 36, 37, 38, 39, 40, 41, 42, 71, 72, 73, 74, 75, 17, 76, 77, 78, 79, 80, 81, 82, 83, 84, 85, 86, 87, 88, 89, 90, 96, 97, 98, 99, 100, 101, 102, 103, 104, 91, 92, 93, 94, 95] (by decide +kernel) (by decide +kernel)
set_option maxRecDepth 20000 in
theorem gX3_digest_X3_multiplier : GoodIn wsX3_digest (wsV RX3 179 RX3 yX3_multiplier wsX3_multiplier) := goodIn_app (goodIn_of _ (by decide +kernel)) ggX3_digest_X3_multiplier
theorem dX3_digest_0 : decode cX3_digest 0 = .ok (.ldc2_w 160, 3) := by decide +kernel
theorem dX3_digest_3 : decode cX3_digest 3 = .ok (.lstore_n 1, 1) := by decide +kernel
theorem dX3_digest_4 : decode cX3_digest 4 = .ok (.iconst 0, 1) := by decide +kernel
theorem dX3_digest_5 : decode cX3_digest 5 = .ok (.istore_n 3, 1) := by decide +kernel
theorem dX3_digest_6 : decode cX3_digest 6 = .ok (.iload_n 3, 1) := by decide +kernel
theorem dX3_digest_7 : decode cX3_digest 7 = .ok (.bipush 7, 2) := by decide +kernel
theorem dX3_digest_9 : decode cX3_digest 9 = .ok (.if_icmp .ge 22, 3) := by decide +kernel
theorem dX3_digest_12 : decode cX3_digest 12 = .ok (.ldc2_w 162, 3) := by decide +kernel
theorem dX3_digest_15 : decode cX3_digest 15 = .ok (.lload_n 1, 1) := by decide +kernel
theorem dX3_digest_16 : decode cX3_digest 16 = .ok (.lmul, 1) := by decide +kernel
theorem dX3_digest_17 : decode cX3_digest 17 = .ok (.aload_n 0, 1) := by decide +kernel
theorem dX3_digest_18 : decode cX3_digest 18 = .ok (.iload_n 3, 1) := by decide +kernel
theorem dX3_digest_19 : decode cX3_digest 19 = .ok (.invokevirtual 164, 3) := by decide +kernel
theorem dX3_digest_22 : decode cX3_digest 22 = .ok (.i2l, 1) := by decide +kernel
theorem dX3_digest_23 : decode cX3_digest 23 = .ok (.ladd, 1) := by decide +kernel
theorem dX3_digest_24 : decode cX3_digest 24 = .ok (.lstore_n 1, 1) := by decide +kernel
theorem dX3_digest_25 : decode cX3_digest 25 = .ok (.iinc 3 1, 3) := by decide +kernel
theorem dX3_digest_28 : decode cX3_digest 28 = .ok (.goto (-22), 3) := by decide +kernel
theorem dX3_digest_31 : decode cX3_digest 31 = .ok (.iconst 0, 1) := by decide +kernel
theorem dX3_digest_32 : decode cX3_digest 32 = .ok (.istore_n 3, 1) := by decide +kernel
theorem dX3_digest_33 : decode cX3_digest 33 = .ok (.iload_n 3, 1) := by decide +kernel
theorem dX3_digest_34 : decode cX3_digest 34 = .ok (.aload_n 0, 1) := by decide +kernel
theorem dX3_digest_35 : decode cX3_digest 35 = .ok (.getfield 10, 3) := by decide +kernel
theorem dX3_digest_38 : decode cX3_digest 38 = .ok (.getfield 34, 3) := by decide +kernel
theorem dX3_digest_41 : decode cX3_digest 41 = .ok (.if_icmp .ge 60, 3) := by decide +kernel
theorem dX3_digest_44 : decode cX3_digest 44 = .ok (.ldc2_w 162, 3) := by decide +kernel
theorem dX3_digest_47 : decode cX3_digest 47 = .ok (.lload_n 1, 1) := by decide +kernel
theorem dX3_digest_48 : decode cX3_digest 48 = .ok (.lmul, 1) := by decide +kernel
theorem dX3_digest_49 : decode cX3_digest 49 = .ok (.aload_n 0, 1) := by decide +kernel
theorem dX3_digest_50 : decode cX3_digest 50 = .ok (.getfield 10, 3) := by decide +kernel
theorem dX3_digest_53 : decode cX3_digest 53 = .ok (.getfield 167, 3) := by decide +kernel
theorem dX3_digest_56 : decode cX3_digest 56 = .ok (.iload_n 3, 1) := by decide +kernel
theorem dX3_digest_57 : decode cX3_digest 57 = .ok (.iaload, 1) := by decide +kernel
theorem dX3_digest_58 : decode cX3_digest 58 = .ok (.i2l, 1) := by decide +kernel
theorem dX3_digest_59 : decode cX3_digest 59 = .ok (.ladd, 1) := by decide +kernel
theorem dX3_digest_60 : decode cX3_digest 60 = .ok (.lstore_n 1, 1) := by decide +kernel
theorem dX3_digest_61 : decode cX3_digest 61 = .ok (.ldc2_w 162, 3) := by decide +kernel
theorem dX3_digest_64 : decode cX3_digest 64 = .ok (.lload_n 1, 1) := by decide +kernel
theorem dX3_digest_65 : decode cX3_digest 65 = .ok (.lmul, 1) := by decide +kernel
theorem dX3_digest_66 : decode cX3_digest 66 = .ok (.aload_n 0, 1) := by decide +kernel
theorem dX3_digest_67 : decode cX3_digest 67 = .ok (.getfield 10, 3) := by decide +kernel
theorem dX3_digest_70 : decode cX3_digest 70 = .ok (.getfield 170, 3) := by decide +kernel
theorem dX3_digest_73 : decode cX3_digest 73 = .ok (.iload_n 3, 1) := by decide +kernel
theorem dX3_digest_74 : decode cX3_digest 74 = .ok (.iaload, 1) := by decide +kernel
theorem dX3_digest_75 : decode cX3_digest 75 = .ok (.i2l, 1) := by decide +kernel
theorem dX3_digest_76 : decode cX3_digest 76 = .ok (.ladd, 1) := by decide +kernel
theorem dX3_digest_77 : decode cX3_digest 77 = .ok (.lstore_n 1, 1) := by decide +kernel
theorem dX3_digest_78 : decode cX3_digest 78 = .ok (.ldc2_w 162, 3) := by decide +kernel
theorem dX3_digest_81 : decode cX3_digest 81 = .ok (.lload_n 1, 1) := by decide +kernel
theorem dX3_digest_82 : decode cX3_digest 82 = .ok (.lmul, 1) := by decide +kernel
theorem dX3_digest_83 : decode cX3_digest 83 = .ok (.aload_n 0, 1) := by decide +kernel
theorem dX3_digest_84 : decode cX3_digest 84 = .ok (.getfield 10, 3) := by decide +kernel
theorem dX3_digest_87 : decode cX3_digest 87 = .ok (.getfield 173, 3) := by decide +kernel
theorem dX3_digest_90 : decode cX3_digest 90 = .ok (.iload_n 3, 1) := by decide +kernel
theorem dX3_digest_91 : decode cX3_digest 91 = .ok (.iaload, 1) := by decide +kernel
theorem dX3_digest_92 : decode cX3_digest 92 = .ok (.i2l, 1) := by decide +kernel
theorem dX3_digest_93 : decode cX3_digest 93 = .ok (.ladd, 1) := by decide +kernel
theorem dX3_digest_94 : decode cX3_digest 94 = .ok (.lstore_n 1, 1) := by decide +kernel
theorem dX3_digest_95 : decode cX3_digest 95 = .ok (.iinc 3 1, 3) := by decide +kernel
theorem dX3_digest_98 : decode cX3_digest 98 = .ok (.goto (-65), 3) := by decide +kernel
theorem dX3_digest_101 : decode cX3_digest 101 = .ok (.iconst 0, 1) := by decide +kernel
theorem dX3_digest_102 : decode cX3_digest 102 = .ok (.istore_n 3, 1) := by decide +kernel
theorem dX3_digest_103 : decode cX3_digest 103 = .ok (.iload_n 3, 1) := by decide +kernel
theorem dX3_digest_104 : decode cX3_digest 104 = .ok (.aload_n 0, 1) := by decide +kernel
theorem dX3_digest_105 : decode cX3_digest 105 = .ok (.getfield 19, 3) := by decide +kernel
theorem dX3_digest_108 : decode cX3_digest 108 = .ok (.getfield 77, 3) := by decide +kernel
theorem dX3_digest_111 : decode cX3_digest 111 = .ok (.if_icmp .ge 39, 3) := by decide +kernel
theorem dX3_digest_114 : decode cX3_digest 114 = .ok (.iconst 0, 1) := by decide +kernel
theorem dX3_digest_115 : decode cX3_digest 115 = .ok (.istore 4, 2) := by decide +kernel
theorem dX3_digest_117 : decode cX3_digest 117 = .ok (.iload 4, 2) := by decide +kernel
theorem dX3_digest_119 : decode cX3_digest 119 = .ok (.iconst 2, 1) := by decide +kernel
theorem dX3_digest_120 : decode cX3_digest 120 = .ok (.if_icmp .gt 24, 3) := by decide +kernel
theorem dX3_digest_123 : decode cX3_digest 123 = .ok (.ldc2_w 162, 3) := by decide +kernel
theorem dX3_digest_126 : decode cX3_digest 126 = .ok (.lload_n 1, 1) := by decide +kernel
theorem dX3_digest_127 : decode cX3_digest 127 = .ok (.lmul, 1) := by decide +kernel
theorem dX3_digest_128 : decode cX3_digest 128 = .ok (.aload_n 0, 1) := by decide +kernel
theorem dX3_digest_129 : decode cX3_digest 129 = .ok (.iload_n 3, 1) := by decide +kernel
theorem dX3_digest_130 : decode cX3_digest 130 = .ok (.iload 4, 2) := by decide +kernel
theorem dX3_digest_132 : decode cX3_digest 132 = .ok (.invokevirtual 176, 3) := by decide +kernel
theorem dX3_digest_135 : decode cX3_digest 135 = .ok (.i2l, 1) := by decide +kernel
theorem dX3_digest_136 : decode cX3_digest 136 = .ok (.ladd, 1) := by decide +kernel
theorem dX3_digest_137 : decode cX3_digest 137 = .ok (.lstore_n 1, 1) := by decide +kernel
theorem dX3_digest_138 : decode cX3_digest 138 = .ok (.iinc 4 1, 3) := by decide +kernel
theorem dX3_digest_141 : decode cX3_digest 141 = .ok (.goto (-24), 3) := by decide +kernel
theorem dX3_digest_144 : decode cX3_digest 144 = .ok (.iinc 3 1, 3) := by decide +kernel
theorem dX3_digest_147 : decode cX3_digest 147 = .ok (.goto (-44), 3) := by decide +kernel
theorem dX3_digest_150 : decode cX3_digest 150 = .ok (.iconst 0, 1) := by decide +kernel
theorem dX3_digest_151 : decode cX3_digest 151 = .ok (.istore_n 3, 1) := by decide +kernel
theorem dX3_digest_152 : decode cX3_digest 152 = .ok (.iload_n 3, 1) := by decide +kernel
theorem dX3_digest_153 : decode cX3_digest 153 = .ok (.aload_n 0, 1) := by decide +kernel
theorem dX3_digest_154 : decode cX3_digest 154 = .ok (.getfield 10, 3) := by decide +kernel
theorem dX3_digest_157 : decode cX3_digest 157 = .ok (.getfield 34, 3) := by decide +kernel
theorem dX3_digest_160 : decode cX3_digest 160 = .ok (.if_icmp .ge 35, 3) := by decide +kernel
theorem dX3_digest_163 : decode cX3_digest 163 = .ok (.ldc2_w 162, 3) := by decide +kernel
theorem dX3_digest_166 : decode cX3_digest 166 = .ok (.lload_n 1, 1) := by decide +kernel
theorem dX3_digest_167 : decode cX3_digest 167 = .ok (.lmul, 1) := by decide +kernel
theorem dX3_digest_168 : decode cX3_digest 168 = .ok (.aload_n 0, 1) := by decide +kernel
theorem dX3_digest_169 : decode cX3_digest 169 = .ok (.iload_n 3, 1) := by decide +kernel
theorem dX3_digest_170 : decode cX3_digest 170 = .ok (.iconst 0, 1) := by decide +kernel
theorem dX3_digest_171 : decode cX3_digest 171 = .ok (.invokevirtual 179, 3) := by decide +kernel
theorem dX3_digest_174 : decode cX3_digest 174 = .ok (.ladd, 1) := by decide +kernel
theorem dX3_digest_175 : decode cX3_digest 175 = .ok (.lstore_n 1, 1) := by decide +kernel
theorem dX3_digest_176 : decode cX3_digest 176 = .ok (.ldc2_w 162, 3) := by decide +kernel
theorem dX3_digest_179 : decode cX3_digest 179 = .ok (.lload_n 1, 1) := by decide +kernel
theorem dX3_digest_180 : decode cX3_digest 180 = .ok (.lmul, 1) := by decide +kernel
theorem dX3_digest_181 : decode cX3_digest 181 = .ok (.aload_n 0, 1) := by decide +kernel
theorem dX3_digest_182 : decode cX3_digest 182 = .ok (.iload_n 3, 1) := by decide +kernel
theorem dX3_digest_183 : decode cX3_digest 183 = .ok (.iconst 1, 1) := by decide +kernel
theorem dX3_digest_184 : decode cX3_digest 184 = .ok (.invokevirtual 179, 3) := by decide +kernel
theorem dX3_digest_187 : decode cX3_digest 187 = .ok (.ladd, 1) := by decide +kernel
theorem dX3_digest_188 : decode cX3_digest 188 = .ok (.lstore_n 1, 1) := by decide +kernel
theorem dX3_digest_189 : decode cX3_digest 189 = .ok (.iinc 3 1, 3) := by decide +kernel
theorem dX3_digest_192 : decode cX3_digest 192 = .ok (.goto (-40), 3) := by decide +kernel
theorem dX3_digest_195 : decode cX3_digest 195 = .ok (.lload_n 1, 1) := by decide +kernel
theorem dX3_digest_196 : decode cX3_digest 196 = .ok (.lreturn, 1) := by decide +kernel
theorem dX3_isPart_0 : decode cX3_isPart 0 = .ok (.iload_n 0, 1) := by decide +kernel
theorem dX3_isPart_1 : decode cX3_isPart 1 = .ok (.ifCond .eq 8, 3) := by decide +kernel
theorem dX3_isPart_4 : decode cX3_isPart 4 = .ok (.iload_n 0, 1) := by decide +kernel
theorem dX3_isPart_5 : decode cX3_isPart 5 = .ok (.iconst 1, 1) := by decide +kernel
theorem dX3_isPart_6 : decode cX3_isPart 6 = .ok (.if_icmp .ne 7, 3) := by decide +kernel
theorem dX3_isPart_9 : decode cX3_isPart 9 = .ok (.iconst 1, 1) := by decide +kernel
theorem dX3_isPart_10 : decode cX3_isPart 10 = .ok (.goto 4, 3) := by decide +kernel
theorem dX3_isPart_13 : decode cX3_isPart 13 = .ok (.iconst 0, 1) := by decide +kernel
theorem dX3_isPart_14 : decode cX3_isPart 14 = .ok (.ireturn, 1) := by decide +kernel
theorem dX3_isDone_0 : decode cX3_isDone 0 = .ok (.aload_n 0, 1) := by decide +kernel
theorem dX3_isDone_1 : decode cX3_isDone 1 = .ok (.getfield 19, 3) := by decide +kernel
theorem dX3_isDone_4 : decode cX3_isDone 4 = .ok (.getfield 67, 3) := by decide +kernel
theorem dX3_isDone_7 : decode cX3_isDone 7 = .ok (.iconst 1, 1) := by decide +kernel
theorem dX3_isDone_8 : decode cX3_isDone 8 = .ok (.if_icmp .ne 7, 3) := by decide +kernel
theorem dX3_isDone_11 : decode cX3_isDone 11 = .ok (.iconst 1, 1) := by decide +kernel
theorem dX3_isDone_12 : decode cX3_isDone 12 = .ok (.goto 4, 3) := by decide +kernel
theorem dX3_isDone_15 : decode cX3_isDone 15 = .ok (.iconst 0, 1) := by decide +kernel
theorem dX3_isDone_16 : decode cX3_isDone 16 = .ok (.ireturn, 1) := by decide +kernel
set_option maxRecDepth 20000 in
theorem ggX3_share_X1_shareOfZ : GoodIn wsX3_share wsX1_shareOfZ := goodIn_r _ [6, 7, 8, 9, 10, 11, 12, 5, 13, 18, 19, 20, 21, 22, 23, 24, 25, 26] (by decide +kernel) (by decide +kernel)
set_option maxRecDepth 20000 in
theorem gX3_share_X1_shareOfZ : GoodIn wsX3_share (wsV RX3 182 RX1 yX1_shareOfZ wsX1_shareOfZ) := goodIn_app (goodIn_of _ (by decide +kernel)) ggX3_share_X1_shareOfZ
theorem dX3_share_0 : decode cX3_share 0 = .ok (.aload_n 0, 1) := by decide +kernel
theorem dX3_share_1 : decode cX3_share 1 = .ok (.getfield 19, 3) := by decide +kernel
theorem dX3_share_4 : decode cX3_share 4 = .ok (.iload_n 1, 1) := by decide +kernel
theorem dX3_share_5 : decode cX3_share 5 = .ok (.invokevirtual 182, 3) := by decide +kernel
theorem dX3_share_8 : decode cX3_share 8 = .ok (.lreturn, 1) := by decide +kernel
theorem dX3_shareBase_0 : decode cX3_shareBase 0 = .ok (.aload_n 0, 1) := by decide +kernel
theorem dX3_shareBase_1 : decode cX3_shareBase 1 = .ok (.getfield 19, 3) := by decide +kernel
theorem dX3_shareBase_4 : decode cX3_shareBase 4 = .ok (.getfield 109, 3) := by decide +kernel
theorem dX3_shareBase_7 : decode cX3_shareBase 7 = .ok (.aload_n 0, 1) := by decide +kernel
theorem dX3_shareBase_8 : decode cX3_shareBase 8 = .ok (.getfield 27, 3) := by decide +kernel
theorem dX3_shareBase_11 : decode cX3_shareBase 11 = .ok (.i2l, 1) := by decide +kernel
theorem dX3_shareBase_12 : decode cX3_shareBase 12 = .ok (.lmul, 1) := by decide +kernel
theorem dX3_shareBase_13 : decode cX3_shareBase 13 = .ok (.lreturn, 1) := by decide +kernel
theorem dX3_fullShare_0 : decode cX3_fullShare 0 = .ok (.aload_n 0, 1) := by decide +kernel
theorem dX3_fullShare_1 : decode cX3_fullShare 1 = .ok (.getfield 19, 3) := by decide +kernel
theorem dX3_fullShare_4 : decode cX3_fullShare 4 = .ok (.getfield 109, 3) := by decide +kernel
theorem dX3_fullShare_7 : decode cX3_fullShare 7 = .ok (.aload_n 0, 1) := by decide +kernel
theorem dX3_fullShare_8 : decode cX3_fullShare 8 = .ok (.getfield 23, 3) := by decide +kernel
theorem dX3_fullShare_11 : decode cX3_fullShare 11 = .ok (.i2l, 1) := by decide +kernel
theorem dX3_fullShare_12 : decode cX3_fullShare 12 = .ok (.lmul, 1) := by decide +kernel
theorem dX3_fullShare_13 : decode cX3_fullShare 13 = .ok (.lreturn, 1) := by decide +kernel
set_option maxRecDepth 20000 in
theorem ggX3_placeInBox_X3_share : GoodIn wsX3_placeInBox wsX3_share := goodIn_r _ [5, 6, 7, 8, 9, 10, 11, 12, 13, 14, 15, 16, 17, 18, 25, 26, 27, 28, 29, 30, 31, 32, 33, 34, 35, 36, 37] (by decide +kernel) (by decide +kernel)
set_option maxRecDepth 20000 in
theorem gX3_placeInBox_X3_share : GoodIn wsX3_placeInBox (wsV RX3 122 RX3 yX3_share wsX3_share) := goodIn_app (goodIn_of _ (by decide +kernel)) ggX3_placeInBox_X3_share
set_option maxRecDepth 20000 in
theorem ggX3_placeInBox_X3_fullShare : GoodIn wsX3_placeInBox wsX3_fullShare := goodIn_r _ [22, 6, 23, 24, 25, 26, 27, 28, 29, 30, 31, 32, 33, 34, 35, 36, 37] (by decide +kernel) (by decide +kernel)
set_option maxRecDepth 20000 in
theorem gX3_placeInBox_X3_fullShare : GoodIn wsX3_placeInBox (wsV RX3 185 RX3 yX3_fullShare wsX3_fullShare) := goodIn_app (goodIn_of _ (by decide +kernel)) ggX3_placeInBox_X3_fullShare
theorem dX3_placeInBox_0 : decode cX3_placeInBox 0 = .ok (.aload_n 0, 1) := by decide +kernel
theorem dX3_placeInBox_1 : decode cX3_placeInBox 1 = .ok (.iload_n 1, 1) := by decide +kernel
theorem dX3_placeInBox_2 : decode cX3_placeInBox 2 = .ok (.invokevirtual 122, 3) := by decide +kernel
theorem dX3_placeInBox_5 : decode cX3_placeInBox 5 = .ok (.lstore_n 2, 1) := by decide +kernel
theorem dX3_placeInBox_6 : decode cX3_placeInBox 6 = .ok (.lload_n 2, 1) := by decide +kernel
theorem dX3_placeInBox_7 : decode cX3_placeInBox 7 = .ok (.lconst 0, 1) := by decide +kernel
theorem dX3_placeInBox_8 : decode cX3_placeInBox 8 = .ok (.lcmp, 1) := by decide +kernel
theorem dX3_placeInBox_9 : decode cX3_placeInBox 9 = .ok (.ifCond .ne 5, 3) := by decide +kernel
theorem dX3_placeInBox_12 : decode cX3_placeInBox 12 = .ok (.iconst 0, 1) := by decide +kernel
theorem dX3_placeInBox_13 : decode cX3_placeInBox 13 = .ok (.ireturn, 1) := by decide +kernel
theorem dX3_placeInBox_14 : decode cX3_placeInBox 14 = .ok (.lload_n 2, 1) := by decide +kernel
theorem dX3_placeInBox_15 : decode cX3_placeInBox 15 = .ok (.aload_n 0, 1) := by decide +kernel
theorem dX3_placeInBox_16 : decode cX3_placeInBox 16 = .ok (.invokevirtual 185, 3) := by decide +kernel
theorem dX3_placeInBox_19 : decode cX3_placeInBox 19 = .ok (.lcmp, 1) := by decide +kernel
theorem dX3_placeInBox_20 : decode cX3_placeInBox 20 = .ok (.ifCond .ne 7, 3) := by decide +kernel
theorem dX3_placeInBox_23 : decode cX3_placeInBox 23 = .ok (.iconst 2, 1) := by decide +kernel
theorem dX3_placeInBox_24 : decode cX3_placeInBox 24 = .ok (.goto 4, 3) := by decide +kernel
theorem dX3_placeInBox_27 : decode cX3_placeInBox 27 = .ok (.iconst 1, 1) := by decide +kernel
theorem dX3_placeInBox_28 : decode cX3_placeInBox 28 = .ok (.ireturn, 1) := by decide +kernel
set_option maxRecDepth 20000 in
theorem ggX3_slopeShare_X3_shareBase : GoodIn wsX3_slopeShare wsX3_shareBase := goodIn_r _ [7, 8, 9, 10, 40, 41, 42, 43, 49, 50, 51, 52, 53, 54, 55, 56, 57] (by decide +kernel) (by decide +kernel)
set_option maxRecDepth 20000 in
theorem gX3_slopeShare_X3_shareBase : GoodIn wsX3_slopeShare (wsV RX3 126 RX3 yX3_shareBase wsX3_shareBase) := goodIn_app (goodIn_of _ (by decide +kernel)) ggX3_slopeShare_X3_shareBase
set_option maxRecDepth 20000 in
theorem ggX3_slopeShare_X0_product : GoodIn wsX3_slopeShare wsX0_product := goodIn_r _ [15, 16, 17, 18, 19, 20, 21, 14, 22, 23, 44, 45, 46, 47, 48] (by decide +kernel) (by decide +kernel)
set_option maxRecDepth 20000 in
theorem gX3_slopeShare_X0_product : GoodIn wsX3_slopeShare (wsV RX3 55 RX0 yX0_product wsX0_product) := goodIn_app (goodIn_of _ (by decide +kernel)) ggX3_slopeShare_X0_product
set_option maxRecDepth 20000 in
theorem ggX3_slopeShare_X3_share : GoodIn wsX3_slopeShare wsX3_share := goodIn_r _ [27, 8, 28, 29, 30, 31, 32, 33, 34, 35, 36, 37, 38, 39, 40, 41, 42, 43, 49, 50, 51, 52, 53, 54, 55, 56, 57] (by decide +kernel) (by decide +kernel)
set_option maxRecDepth 20000 in
theorem gX3_slopeShare_X3_share : GoodIn wsX3_slopeShare (wsV RX3 122 RX3 yX3_share wsX3_share) := goodIn_app (goodIn_of _ (by decide +kernel)) ggX3_slopeShare_X3_share
theorem dX3_slopeShare_0 : decode cX3_slopeShare 0 = .ok (.aload_n 0, 1) := by decide +kernel
theorem dX3_slopeShare_1 : decode cX3_slopeShare 1 = .ok (.invokevirtual 126, 3) := by decide +kernel
theorem dX3_slopeShare_4 : decode cX3_slopeShare 4 = .ok (.lstore_n 2, 1) := by decide +kernel
theorem dX3_slopeShare_5 : decode cX3_slopeShare 5 = .ok (.iconst 0, 1) := by decide +kernel
theorem dX3_slopeShare_6 : decode cX3_slopeShare 6 = .ok (.istore 4, 2) := by decide +kernel
theorem dX3_slopeShare_8 : decode cX3_slopeShare 8 = .ok (.iload 4, 2) := by decide +kernel
theorem dX3_slopeShare_10 : decode cX3_slopeShare 10 = .ok (.aload_n 0, 1) := by decide +kernel
theorem dX3_slopeShare_11 : decode cX3_slopeShare 11 = .ok (.getfield 10, 3) := by decide +kernel
theorem dX3_slopeShare_14 : decode cX3_slopeShare 14 = .ok (.getfield 34, 3) := by decide +kernel
theorem dX3_slopeShare_17 : decode cX3_slopeShare 17 = .ok (.if_icmp .ge 30, 3) := by decide +kernel
theorem dX3_slopeShare_20 : decode cX3_slopeShare 20 = .ok (.lload_n 2, 1) := by decide +kernel
theorem dX3_slopeShare_21 : decode cX3_slopeShare 21 = .ok (.aload_n 0, 1) := by decide +kernel
theorem dX3_slopeShare_22 : decode cX3_slopeShare 22 = .ok (.getfield 10, 3) := by decide +kernel
theorem dX3_slopeShare_25 : decode cX3_slopeShare 25 = .ok (.iload_n 1, 1) := by decide +kernel
theorem dX3_slopeShare_26 : decode cX3_slopeShare 26 = .ok (.iload 4, 2) := by decide +kernel
theorem dX3_slopeShare_28 : decode cX3_slopeShare 28 = .ok (.invokevirtual 55, 3) := by decide +kernel
theorem dX3_slopeShare_31 : decode cX3_slopeShare 31 = .ok (.i2l, 1) := by decide +kernel
theorem dX3_slopeShare_32 : decode cX3_slopeShare 32 = .ok (.aload_n 0, 1) := by decide +kernel
theorem dX3_slopeShare_33 : decode cX3_slopeShare 33 = .ok (.iload 4, 2) := by decide +kernel
theorem dX3_slopeShare_35 : decode cX3_slopeShare 35 = .ok (.invokevirtual 122, 3) := by decide +kernel
theorem dX3_slopeShare_38 : decode cX3_slopeShare 38 = .ok (.lmul, 1) := by decide +kernel
theorem dX3_slopeShare_39 : decode cX3_slopeShare 39 = .ok (.lsub, 1) := by decide +kernel
theorem dX3_slopeShare_40 : decode cX3_slopeShare 40 = .ok (.lstore_n 2, 1) := by decide +kernel
theorem dX3_slopeShare_41 : decode cX3_slopeShare 41 = .ok (.iinc 4 1, 3) := by decide +kernel
theorem dX3_slopeShare_44 : decode cX3_slopeShare 44 = .ok (.goto (-36), 3) := by decide +kernel
theorem dX3_slopeShare_47 : decode cX3_slopeShare 47 = .ok (.lload_n 2, 1) := by decide +kernel
theorem dX3_slopeShare_48 : decode cX3_slopeShare 48 = .ok (.lreturn, 1) := by decide +kernel
set_option maxRecDepth 20000 in
theorem ggX3_holdsCondition_X3_slopeShare : GoodIn wsX3_holdsCondition wsX3_slopeShare := goodIn_r _ [5, 6, 7, 8, 9, 10, 4, 11, 12, 13, 14, 15, 16, 17, 18, 19, 20, 21, 22, 23, 24, 25, 26, 27, 28, 29, 30, 31, 32, 33, 34, 35, 36, 37, 38, 39, 40, 41, 42, 43, 53, 54, 55, 56, 57, 58, 59, 60, 61, 62, 63, 64, 65, 66, 67, 68, 69, 70] (by decide +kernel) (by decide +kernel)
set_option maxRecDepth 20000 in
theorem gX3_holdsCondition_X3_slopeShare : GoodIn wsX3_holdsCondition (wsV RX3 133 RX3 yX3_slopeShare wsX3_slopeShare) := goodIn_app (goodIn_of _ (by decide +kernel)) ggX3_holdsCondition_X3_slopeShare
set_option maxRecDepth 20000 in
theorem ggX3_holdsCondition_X3_placeInBox : GoodIn wsX3_holdsCondition wsX3_placeInBox := goodIn_r _ [47, 28, 29, 30, 4, 31, 12, 32, 33, 34, 35, 36, 37, 38, 39, 40, 41, 42, 43, 48, 49, 50, 51, 13, 52, 53, 54, 55, 56, 62, 63, 64, 65, 66, 67, 68, 69, 70] (by decide +kernel) (by decide +kernel)
set_option maxRecDepth 20000 in
theorem gX3_holdsCondition_X3_placeInBox : GoodIn wsX3_holdsCondition (wsV RX3 130 RX3 yX3_placeInBox wsX3_placeInBox) := goodIn_app (goodIn_of _ (by decide +kernel)) ggX3_holdsCondition_X3_placeInBox
theorem dX3_holdsCondition_0 : decode cX3_holdsCondition 0 = .ok (.aload_n 0, 1) := by decide +kernel
theorem dX3_holdsCondition_1 : decode cX3_holdsCondition 1 = .ok (.iload_n 1, 1) := by decide +kernel
theorem dX3_holdsCondition_2 : decode cX3_holdsCondition 2 = .ok (.invokevirtual 133, 3) := by decide +kernel
theorem dX3_holdsCondition_5 : decode cX3_holdsCondition 5 = .ok (.lstore_n 2, 1) := by decide +kernel
theorem dX3_holdsCondition_6 : decode cX3_holdsCondition 6 = .ok (.aload_n 0, 1) := by decide +kernel
theorem dX3_holdsCondition_7 : decode cX3_holdsCondition 7 = .ok (.iload_n 1, 1) := by decide +kernel
theorem dX3_holdsCondition_8 : decode cX3_holdsCondition 8 = .ok (.invokevirtual 130, 3) := by decide +kernel
theorem dX3_holdsCondition_11 : decode cX3_holdsCondition 11 = .ok (.istore 4, 2) := by decide +kernel
theorem dX3_holdsCondition_13 : decode cX3_holdsCondition 13 = .ok (.iload 4, 2) := by decide +kernel
theorem dX3_holdsCondition_15 : decode cX3_holdsCondition 15 = .ok (.ifCond .ne 15, 3) := by decide +kernel
theorem dX3_holdsCondition_18 : decode cX3_holdsCondition 18 = .ok (.lload_n 2, 1) := by decide +kernel
theorem dX3_holdsCondition_19 : decode cX3_holdsCondition 19 = .ok (.lconst 0, 1) := by decide +kernel
theorem dX3_holdsCondition_20 : decode cX3_holdsCondition 20 = .ok (.lcmp, 1) := by decide +kernel
theorem dX3_holdsCondition_21 : decode cX3_holdsCondition 21 = .ok (.ifCond .gt 7, 3) := by decide +kernel
theorem dX3_holdsCondition_24 : decode cX3_holdsCondition 24 = .ok (.iconst 1, 1) := by decide +kernel
theorem dX3_holdsCondition_25 : decode cX3_holdsCondition 25 = .ok (.goto 4, 3) := by decide +kernel
theorem dX3_holdsCondition_28 : decode cX3_holdsCondition 28 = .ok (.iconst 0, 1) := by decide +kernel
theorem dX3_holdsCondition_29 : decode cX3_holdsCondition 29 = .ok (.ireturn, 1) := by decide +kernel
theorem dX3_holdsCondition_30 : decode cX3_holdsCondition 30 = .ok (.iload 4, 2) := by decide +kernel
theorem dX3_holdsCondition_32 : decode cX3_holdsCondition 32 = .ok (.iconst 2, 1) := by decide +kernel
theorem dX3_holdsCondition_33 : decode cX3_holdsCondition 33 = .ok (.if_icmp .ne 17, 3) := by decide +kernel
theorem dX3_holdsCondition_36 : decode cX3_holdsCondition 36 = .ok (.lload_n 2, 1) := by decide +kernel
theorem dX3_holdsCondition_37 : decode cX3_holdsCondition 37 = .ok (.lconst 0, 1) := by decide +kernel
theorem dX3_holdsCondition_38 : decode cX3_holdsCondition 38 = .ok (.lcmp, 1) := by decide +kernel
theorem dX3_holdsCondition_39 : decode cX3_holdsCondition 39 = .ok (.ifCond .lt 7, 3) := by decide +kernel
theorem dX3_holdsCondition_42 : decode cX3_holdsCondition 42 = .ok (.iconst 1, 1) := by decide +kernel
theorem dX3_holdsCondition_43 : decode cX3_holdsCondition 43 = .ok (.goto 18, 3) := by decide +kernel
theorem dX3_holdsCondition_46 : decode cX3_holdsCondition 46 = .ok (.iconst 0, 1) := by decide +kernel
theorem dX3_holdsCondition_47 : decode cX3_holdsCondition 47 = .ok (.goto 14, 3) := by decide +kernel
theorem dX3_holdsCondition_50 : decode cX3_holdsCondition 50 = .ok (.lload_n 2, 1) := by decide +kernel
theorem dX3_holdsCondition_51 : decode cX3_holdsCondition 51 = .ok (.lconst 0, 1) := by decide +kernel
theorem dX3_holdsCondition_52 : decode cX3_holdsCondition 52 = .ok (.lcmp, 1) := by decide +kernel
theorem dX3_holdsCondition_53 : decode cX3_holdsCondition 53 = .ok (.ifCond .ne 7, 3) := by decide +kernel
theorem dX3_holdsCondition_56 : decode cX3_holdsCondition 56 = .ok (.iconst 1, 1) := by decide +kernel
theorem dX3_holdsCondition_57 : decode cX3_holdsCondition 57 = .ok (.goto 4, 3) := by decide +kernel
theorem dX3_holdsCondition_60 : decode cX3_holdsCondition 60 = .ok (.iconst 0, 1) := by decide +kernel
theorem dX3_holdsCondition_61 : decode cX3_holdsCondition 61 = .ok (.ireturn, 1) := by decide +kernel
theorem dX3_isInBox_0 : decode cX3_isInBox 0 = .ok (.iload_n 1, 1) := by decide +kernel
theorem dX3_isInBox_1 : decode cX3_isInBox 1 = .ok (.ifCond .lt 14, 3) := by decide +kernel
theorem dX3_isInBox_4 : decode cX3_isInBox 4 = .ok (.iload_n 2, 1) := by decide +kernel
theorem dX3_isInBox_5 : decode cX3_isInBox 5 = .ok (.iconst 1, 1) := by decide +kernel
theorem dX3_isInBox_6 : decode cX3_isInBox 6 = .ok (.if_icmp .lt 9, 3) := by decide +kernel
theorem dX3_isInBox_9 : decode cX3_isInBox 9 = .ok (.iload_n 2, 1) := by decide +kernel
theorem dX3_isInBox_10 : decode cX3_isInBox 10 = .ok (.bipush 6, 2) := by decide +kernel
theorem dX3_isInBox_12 : decode cX3_isInBox 12 = .ok (.if_icmp .le 5, 3) := by decide +kernel
theorem dX3_isInBox_15 : decode cX3_isInBox 15 = .ok (.iconst 0, 1) := by decide +kernel
theorem dX3_isInBox_16 : decode cX3_isInBox 16 = .ok (.ireturn, 1) := by decide +kernel
theorem dX3_isInBox_17 : decode cX3_isInBox 17 = .ok (.iload_n 1, 1) := by decide +kernel
theorem dX3_isInBox_18 : decode cX3_isInBox 18 = .ok (.i2l, 1) := by decide +kernel
theorem dX3_isInBox_19 : decode cX3_isInBox 19 = .ok (.aload_n 0, 1) := by decide +kernel
theorem dX3_isInBox_20 : decode cX3_isInBox 20 = .ok (.getfield 27, 3) := by decide +kernel
theorem dX3_isInBox_23 : decode cX3_isInBox 23 = .ok (.i2l, 1) := by decide +kernel
theorem dX3_isInBox_24 : decode cX3_isInBox 24 = .ok (.lmul, 1) := by decide +kernel
theorem dX3_isInBox_25 : decode cX3_isInBox 25 = .ok (.aload_n 0, 1) := by decide +kernel
theorem dX3_isInBox_26 : decode cX3_isInBox 26 = .ok (.getfield 23, 3) := by decide +kernel
theorem dX3_isInBox_29 : decode cX3_isInBox 29 = .ok (.i2l, 1) := by decide +kernel
theorem dX3_isInBox_30 : decode cX3_isInBox 30 = .ok (.iload_n 2, 1) := by decide +kernel
theorem dX3_isInBox_31 : decode cX3_isInBox 31 = .ok (.i2l, 1) := by decide +kernel
theorem dX3_isInBox_32 : decode cX3_isInBox 32 = .ok (.lmul, 1) := by decide +kernel
theorem dX3_isInBox_33 : decode cX3_isInBox 33 = .ok (.lcmp, 1) := by decide +kernel
theorem dX3_isInBox_34 : decode cX3_isInBox 34 = .ok (.ifCond .gt 7, 3) := by decide +kernel
theorem dX3_isInBox_37 : decode cX3_isInBox 37 = .ok (.iconst 1, 1) := by decide +kernel
theorem dX3_isInBox_38 : decode cX3_isInBox 38 = .ok (.goto 4, 3) := by decide +kernel
theorem dX3_isInBox_41 : decode cX3_isInBox 41 = .ok (.iconst 0, 1) := by decide +kernel
theorem dX3_isInBox_42 : decode cX3_isInBox 42 = .ok (.ireturn, 1) := by decide +kernel
set_option maxRecDepth 20000 in
theorem ggX3_worthSign_X3_shareBase : GoodIn wsX3_worthSign wsX3_shareBase := goodIn_r _ [6, 7, 8, 9, 48, 49, 50, 51, 52, 53, 54, 55, 56, 57, 58, 59, 60] (by decide +kernel) (by decide +kernel)
set_option maxRecDepth 20000 in
theorem gX3_worthSign_X3_shareBase : GoodIn wsX3_worthSign (wsV RX3 126 RX3 yX3_shareBase wsX3_shareBase) := goodIn_app (goodIn_of _ (by decide +kernel)) ggX3_worthSign_X3_shareBase
set_option maxRecDepth 20000 in
theorem ggX3_worthSign_X3_share : GoodIn wsX3_worthSign wsX3_share := goodIn_r _ [13, 7, 14, 15, 16, 17, 18, 19, 20, 21, 22, 23, 24, 25, 48, 49, 50, 51, 52, 53, 54, 55, 56, 57, 58, 59, 60] (by decide +kernel) (by decide +kernel)
set_option maxRecDepth 20000 in
theorem gX3_worthSign_X3_share : GoodIn wsX3_worthSign (wsV RX3 122 RX3 yX3_share wsX3_share) := goodIn_app (goodIn_of _ (by decide +kernel)) ggX3_worthSign_X3_share
set_option maxRecDepth 20000 in
theorem ggX3_worthSign_X3_slopeShare : GoodIn wsX3_worthSign wsX3_slopeShare := goodIn_r _ [29, 1, 30, 2, 3, 4, 5, 6, 7, 8, 9, 31, 32, 33, 34, 35, 36, 37, 38, 39, 40, 41, 42, 43, 10, 11, 12, 13, 14, 15, 16, 17, 18, 19, 20, 21, 22, 23, 24, 25, 48, 49, 50, 51, 61, 62, 63, 64, 65, 52, 53, 54, 55, 56, 57, 58, 59, 60] (by decide +kernel) (by decide +kernel)
set_option maxRecDepth 20000 in
theorem gX3_worthSign_X3_slopeShare : GoodIn wsX3_worthSign (wsV RX3 133 RX3 yX3_slopeShare wsX3_slopeShare) := goodIn_app (goodIn_of _ (by decide +kernel)) ggX3_worthSign_X3_slopeShare
set_option maxRecDepth 20000 in
theorem ggX3_worthSign_X0_product : GoodIn wsX3_worthSign wsX0_product := goodIn_r _ [35, 36, 37, 38, 39, 40, 41, 34, 42, 43, 61, 62, 63, 64, 65] (by decide +kernel) (by decide +kernel)
set_option maxRecDepth 20000 in
theorem gX3_worthSign_X0_product : GoodIn wsX3_worthSign (wsV RX3 55 RX0 yX0_product wsX0_product) := goodIn_app (goodIn_of _ (by decide +kernel)) ggX3_worthSign_X0_product
set_option maxRecDepth 20000 in
theorem ggX3_worthSign_J13_signum_95d88 : GoodIn wsX3_worthSign wsJ13_signum_95d88 := goodIn_r _ [47] (by decide +kernel) (by decide +kernel)
set_option maxRecDepth 20000 in
theorem gX3_worthSign_J13_signum_95d88 : GoodIn wsX3_worthSign (va_wsS RX3 150 yJ13_signum_95d88 wsJ13_signum_95d88) := goodIn_app (goodIn_of _ (by decide +kernel)) ggX3_worthSign_J13_signum_95d88
theorem dX3_worthSign_0 : decode cX3_worthSign 0 = .ok (.iload_n 2, 1) := by decide +kernel
theorem dX3_worthSign_1 : decode cX3_worthSign 1 = .ok (.i2l, 1) := by decide +kernel
theorem dX3_worthSign_2 : decode cX3_worthSign 2 = .ok (.aload_n 0, 1) := by decide +kernel
theorem dX3_worthSign_3 : decode cX3_worthSign 3 = .ok (.invokevirtual 126, 3) := by decide +kernel
theorem dX3_worthSign_6 : decode cX3_worthSign 6 = .ok (.lmul, 1) := by decide +kernel
theorem dX3_worthSign_7 : decode cX3_worthSign 7 = .ok (.aload_n 0, 1) := by decide +kernel
theorem dX3_worthSign_8 : decode cX3_worthSign 8 = .ok (.iload_n 1, 1) := by decide +kernel
theorem dX3_worthSign_9 : decode cX3_worthSign 9 = .ok (.invokevirtual 122, 3) := by decide +kernel
theorem dX3_worthSign_12 : decode cX3_worthSign 12 = .ok (.iload_n 3, 1) := by decide +kernel
theorem dX3_worthSign_13 : decode cX3_worthSign 13 = .ok (.i2l, 1) := by decide +kernel
theorem dX3_worthSign_14 : decode cX3_worthSign 14 = .ok (.lmul, 1) := by decide +kernel
theorem dX3_worthSign_15 : decode cX3_worthSign 15 = .ok (.lsub, 1) := by decide +kernel
theorem dX3_worthSign_16 : decode cX3_worthSign 16 = .ok (.lstore 4, 2) := by decide +kernel
theorem dX3_worthSign_18 : decode cX3_worthSign 18 = .ok (.iconst 2, 1) := by decide +kernel
theorem dX3_worthSign_19 : decode cX3_worthSign 19 = .ok (.iload_n 3, 1) := by decide +kernel
theorem dX3_worthSign_20 : decode cX3_worthSign 20 = .ok (.imul, 1) := by decide +kernel
theorem dX3_worthSign_21 : decode cX3_worthSign 21 = .ok (.i2l, 1) := by decide +kernel
theorem dX3_worthSign_22 : decode cX3_worthSign 22 = .ok (.aload_n 0, 1) := by decide +kernel
theorem dX3_worthSign_23 : decode cX3_worthSign 23 = .ok (.iload_n 1, 1) := by decide +kernel
theorem dX3_worthSign_24 : decode cX3_worthSign 24 = .ok (.invokevirtual 133, 3) := by decide +kernel
theorem dX3_worthSign_27 : decode cX3_worthSign 27 = .ok (.lmul, 1) := by decide +kernel
theorem dX3_worthSign_28 : decode cX3_worthSign 28 = .ok (.lload 4, 2) := by decide +kernel
theorem dX3_worthSign_30 : decode cX3_worthSign 30 = .ok (.aload_n 0, 1) := by decide +kernel
theorem dX3_worthSign_31 : decode cX3_worthSign 31 = .ok (.getfield 10, 3) := by decide +kernel
theorem dX3_worthSign_34 : decode cX3_worthSign 34 = .ok (.iload_n 1, 1) := by decide +kernel
theorem dX3_worthSign_35 : decode cX3_worthSign 35 = .ok (.iload_n 1, 1) := by decide +kernel
theorem dX3_worthSign_36 : decode cX3_worthSign 36 = .ok (.invokevirtual 55, 3) := by decide +kernel
theorem dX3_worthSign_39 : decode cX3_worthSign 39 = .ok (.i2l, 1) := by decide +kernel
theorem dX3_worthSign_40 : decode cX3_worthSign 40 = .ok (.lmul, 1) := by decide +kernel
theorem dX3_worthSign_41 : decode cX3_worthSign 41 = .ok (.lsub, 1) := by decide +kernel
theorem dX3_worthSign_42 : decode cX3_worthSign 42 = .ok (.lstore 6, 2) := by decide +kernel
theorem dX3_worthSign_44 : decode cX3_worthSign 44 = .ok (.lload 4, 2) := by decide +kernel
theorem dX3_worthSign_46 : decode cX3_worthSign 46 = .ok (.invokestatic 150, 3) := by decide +kernel
theorem dX3_worthSign_49 : decode cX3_worthSign 49 = .ok (.lload 6, 2) := by decide +kernel
theorem dX3_worthSign_51 : decode cX3_worthSign 51 = .ok (.invokestatic 150, 3) := by decide +kernel
theorem dX3_worthSign_54 : decode cX3_worthSign 54 = .ok (.imul, 1) := by decide +kernel
theorem dX3_worthSign_55 : decode cX3_worthSign 55 = .ok (.ireturn, 1) := by decide +kernel
set_option maxRecDepth 20000 in
theorem ggX3_decisionShare_X3_share : GoodIn wsX3_decisionShare wsX3_share := goodIn_r _ [8, 9, 10, 11, 12, 13, 14, 15, 16, 17, 18, 19, 20, 21, 30, 31, 32, 33, 39, 40, 41, 42, 43, 44, 45, 46, 47] (by decide +kernel) (by decide +kernel)
set_option maxRecDepth 20000 in
theorem gX3_decisionShare_X3_share : GoodIn wsX3_decisionShare (wsV RX3 122 RX3 yX3_share wsX3_share) := goodIn_app (goodIn_of _ (by decide +kernel)) ggX3_decisionShare_X3_share
set_option maxRecDepth 20000 in
theorem ggX3_decisionShare_X0_kernel : GoodIn wsX3_decisionShare wsX0_kernel := goodIn_r _ [26, 27, 28, 29, 34, 35, 36, 37, 38] (by decide +kernel) (by decide +kernel)
set_option maxRecDepth 20000 in
theorem gX3_decisionShare_X0_kernel : GoodIn wsX3_decisionShare (wsV RX3 188 RX0 yX0_kernel wsX0_kernel) := goodIn_app (goodIn_of _ (by decide +kernel)) ggX3_decisionShare_X0_kernel
theorem dX3_decisionShare_0 : decode cX3_decisionShare 0 = .ok (.lconst 0, 1) := by decide +kernel
theorem dX3_decisionShare_1 : decode cX3_decisionShare 1 = .ok (.lstore_n 3, 1) := by decide +kernel
theorem dX3_decisionShare_2 : decode cX3_decisionShare 2 = .ok (.iconst 0, 1) := by decide +kernel
theorem dX3_decisionShare_3 : decode cX3_decisionShare 3 = .ok (.istore 5, 2) := by decide +kernel
theorem dX3_decisionShare_5 : decode cX3_decisionShare 5 = .ok (.iload 5, 2) := by decide +kernel
theorem dX3_decisionShare_7 : decode cX3_decisionShare 7 = .ok (.aload_n 0, 1) := by decide +kernel
theorem dX3_decisionShare_8 : decode cX3_decisionShare 8 = .ok (.getfield 10, 3) := by decide +kernel
theorem dX3_decisionShare_11 : decode cX3_decisionShare 11 = .ok (.getfield 34, 3) := by decide +kernel
theorem dX3_decisionShare_14 : decode cX3_decisionShare 14 = .ok (.if_icmp .ge 43, 3) := by decide +kernel
theorem dX3_decisionShare_17 : decode cX3_decisionShare 17 = .ok (.lload_n 3, 1) := by decide +kernel
theorem dX3_decisionShare_18 : decode cX3_decisionShare 18 = .ok (.aload_n 0, 1) := by decide +kernel
theorem dX3_decisionShare_19 : decode cX3_decisionShare 19 = .ok (.iload 5, 2) := by decide +kernel
theorem dX3_decisionShare_21 : decode cX3_decisionShare 21 = .ok (.invokevirtual 122, 3) := by decide +kernel
theorem dX3_decisionShare_24 : decode cX3_decisionShare 24 = .ok (.aload_n 0, 1) := by decide +kernel
theorem dX3_decisionShare_25 : decode cX3_decisionShare 25 = .ok (.getfield 10, 3) := by decide +kernel
theorem dX3_decisionShare_28 : decode cX3_decisionShare 28 = .ok (.getfield 173, 3) := by decide +kernel
theorem dX3_decisionShare_31 : decode cX3_decisionShare 31 = .ok (.iload 5, 2) := by decide +kernel
theorem dX3_decisionShare_33 : decode cX3_decisionShare 33 = .ok (.iaload, 1) := by decide +kernel
theorem dX3_decisionShare_34 : decode cX3_decisionShare 34 = .ok (.i2l, 1) := by decide +kernel
theorem dX3_decisionShare_35 : decode cX3_decisionShare 35 = .ok (.lmul, 1) := by decide +kernel
theorem dX3_decisionShare_36 : decode cX3_decisionShare 36 = .ok (.aload_n 0, 1) := by decide +kernel
theorem dX3_decisionShare_37 : decode cX3_decisionShare 37 = .ok (.getfield 10, 3) := by decide +kernel
theorem dX3_decisionShare_40 : decode cX3_decisionShare 40 = .ok (.iload 5, 2) := by decide +kernel
theorem dX3_decisionShare_42 : decode cX3_decisionShare 42 = .ok (.iload_n 1, 1) := by decide +kernel
theorem dX3_decisionShare_43 : decode cX3_decisionShare 43 = .ok (.iload_n 2, 1) := by decide +kernel
theorem dX3_decisionShare_44 : decode cX3_decisionShare 44 = .ok (.invokevirtual 188, 3) := by decide +kernel
theorem dX3_decisionShare_47 : decode cX3_decisionShare 47 = .ok (.i2l, 1) := by decide +kernel
theorem dX3_decisionShare_48 : decode cX3_decisionShare 48 = .ok (.lmul, 1) := by decide +kernel
theorem dX3_decisionShare_49 : decode cX3_decisionShare 49 = .ok (.ladd, 1) := by decide +kernel
theorem dX3_decisionShare_50 : decode cX3_decisionShare 50 = .ok (.lstore_n 3, 1) := by decide +kernel
theorem dX3_decisionShare_51 : decode cX3_decisionShare 51 = .ok (.iinc 5 1, 3) := by decide +kernel
theorem dX3_decisionShare_54 : decode cX3_decisionShare 54 = .ok (.goto (-49), 3) := by decide +kernel
theorem dX3_decisionShare_57 : decode cX3_decisionShare 57 = .ok (.lload_n 3, 1) := by decide +kernel
theorem dX3_decisionShare_58 : decode cX3_decisionShare 58 = .ok (.lreturn, 1) := by decide +kernel
set_option maxRecDepth 20000 in
theorem ggX3_supporters_X3_share : GoodIn wsX3_supporters wsX3_share := goodIn_r _ [7, 8, 9, 10, 11, 12, 13, 14, 15, 16, 17, 18, 19, 20, 21, 22, 23, 24, 30, 31, 32, 33, 34, 35, 36, 37, 38] (by decide +kernel) (by decide +kernel)
set_option maxRecDepth 20000 in
theorem gX3_supporters_X3_share : GoodIn wsX3_supporters (wsV RX3 122 RX3 yX3_share wsX3_share) := goodIn_app (goodIn_of _ (by decide +kernel)) ggX3_supporters_X3_share
theorem dX3_supporters_0 : decode cX3_supporters 0 = .ok (.iconst 0, 1) := by decide +kernel
theorem dX3_supporters_1 : decode cX3_supporters 1 = .ok (.istore_n 1, 1) := by decide +kernel
theorem dX3_supporters_2 : decode cX3_supporters 2 = .ok (.iconst 0, 1) := by decide +kernel
theorem dX3_supporters_3 : decode cX3_supporters 3 = .ok (.istore_n 2, 1) := by decide +kernel
theorem dX3_supporters_4 : decode cX3_supporters 4 = .ok (.iload_n 2, 1) := by decide +kernel
theorem dX3_supporters_5 : decode cX3_supporters 5 = .ok (.aload_n 0, 1) := by decide +kernel
theorem dX3_supporters_6 : decode cX3_supporters 6 = .ok (.getfield 10, 3) := by decide +kernel
theorem dX3_supporters_9 : decode cX3_supporters 9 = .ok (.getfield 34, 3) := by decide +kernel
theorem dX3_supporters_12 : decode cX3_supporters 12 = .ok (.if_icmp .ge 22, 3) := by decide +kernel
theorem dX3_supporters_15 : decode cX3_supporters 15 = .ok (.aload_n 0, 1) := by decide +kernel
theorem dX3_supporters_16 : decode cX3_supporters 16 = .ok (.iload_n 2, 1) := by decide +kernel
theorem dX3_supporters_17 : decode cX3_supporters 17 = .ok (.invokevirtual 122, 3) := by decide +kernel
theorem dX3_supporters_20 : decode cX3_supporters 20 = .ok (.lconst 0, 1) := by decide +kernel
theorem dX3_supporters_21 : decode cX3_supporters 21 = .ok (.lcmp, 1) := by decide +kernel
theorem dX3_supporters_22 : decode cX3_supporters 22 = .ok (.ifCond .le 6, 3) := by decide +kernel
theorem dX3_supporters_25 : decode cX3_supporters 25 = .ok (.iinc 1 1, 3) := by decide +kernel
theorem dX3_supporters_28 : decode cX3_supporters 28 = .ok (.iinc 2 1, 3) := by decide +kernel
theorem dX3_supporters_31 : decode cX3_supporters 31 = .ok (.goto (-27), 3) := by decide +kernel
theorem dX3_supporters_34 : decode cX3_supporters 34 = .ok (.iload_n 1, 1) := by decide +kernel
theorem dX3_supporters_35 : decode cX3_supporters 35 = .ok (.ireturn, 1) := by decide +kernel
