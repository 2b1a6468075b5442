theorem dX0_init_0 : decode cX0_init 0 = .ok (.aload_n 0, 1) := by decide +kernel
theorem dX0_init_1 : decode cX0_init 1 = .ok (.invokespecial 1, 3) := by decide +kernel
theorem dX0_init_4 : decode cX0_init 4 = .ok (.aload_n 0, 1) := by decide +kernel
theorem dX0_init_5 : decode cX0_init 5 = .ok (.bipush 6, 2) := by decide +kernel
theorem dX0_init_7 : decode cX0_init 7 = .ok (.newarray .int, 2) := by decide +kernel
theorem dX0_init_9 : decode cX0_init 9 = .ok (.putfield 9, 3) := by decide +kernel
theorem dX0_init_12 : decode cX0_init 12 = .ok (.aload_n 0, 1) := by decide +kernel
theorem dX0_init_13 : decode cX0_init 13 = .ok (.bipush 6, 2) := by decide +kernel
theorem dX0_init_15 : decode cX0_init 15 = .ok (.newarray .int, 2) := by decide +kernel
theorem dX0_init_17 : decode cX0_init 17 = .ok (.putfield 13, 3) := by decide +kernel
theorem dX0_init_20 : decode cX0_init 20 = .ok (.aload_n 0, 1) := by decide +kernel
theorem dX0_init_21 : decode cX0_init 21 = .ok (.bipush 6, 2) := by decide +kernel
theorem dX0_init_23 : decode cX0_init 23 = .ok (.newarray .int, 2) := by decide +kernel
theorem dX0_init_25 : decode cX0_init 25 = .ok (.putfield 16, 3) := by decide +kernel
theorem dX0_init_28 : decode cX0_init 28 = .ok (.aload_n 0, 1) := by decide +kernel
theorem dX0_init_29 : decode cX0_init 29 = .ok (.iconst 0, 1) := by decide +kernel
theorem dX0_init_30 : decode cX0_init 30 = .ok (.putfield 19, 3) := by decide +kernel
theorem dX0_init_33 : decode cX0_init 33 = .ok (.aload_n 0, 1) := by decide +kernel
theorem dX0_init_34 : decode cX0_init 34 = .ok (.iconst 1, 1) := by decide +kernel
theorem dX0_init_35 : decode cX0_init 35 = .ok (.putfield 23, 3) := by decide +kernel
theorem dX0_init_38 : decode cX0_init 38 = .ok (.return_, 1) := by decide +kernel
theorem dX0_isPlace_0 : decode cX0_isPlace 0 = .ok (.iload_n 0, 1) := by decide +kernel
theorem dX0_isPlace_1 : decode cX0_isPlace 1 = .ok (.bipush (-4), 2) := by decide +kernel
theorem dX0_isPlace_3 : decode cX0_isPlace 3 = .ok (.if_icmp .lt 23, 3) := by decide +kernel
theorem dX0_isPlace_6 : decode cX0_isPlace 6 = .ok (.iload_n 0, 1) := by decide +kernel
theorem dX0_isPlace_7 : decode cX0_isPlace 7 = .ok (.iconst 4, 1) := by decide +kernel
theorem dX0_isPlace_8 : decode cX0_isPlace 8 = .ok (.if_icmp .gt 18, 3) := by decide +kernel
theorem dX0_isPlace_11 : decode cX0_isPlace 11 = .ok (.iload_n 1, 1) := by decide +kernel
theorem dX0_isPlace_12 : decode cX0_isPlace 12 = .ok (.bipush (-4), 2) := by decide +kernel
theorem dX0_isPlace_14 : decode cX0_isPlace 14 = .ok (.if_icmp .lt 12, 3) := by decide +kernel
theorem dX0_isPlace_17 : decode cX0_isPlace 17 = .ok (.iload_n 1, 1) := by decide +kernel
theorem dX0_isPlace_18 : decode cX0_isPlace 18 = .ok (.iconst 4, 1) := by decide +kernel
theorem dX0_isPlace_19 : decode cX0_isPlace 19 = .ok (.if_icmp .gt 7, 3) := by decide +kernel
theorem dX0_isPlace_22 : decode cX0_isPlace 22 = .ok (.iconst 1, 1) := by decide +kernel
theorem dX0_isPlace_23 : decode cX0_isPlace 23 = .ok (.goto 4, 3) := by decide +kernel
theorem dX0_isPlace_26 : decode cX0_isPlace 26 = .ok (.iconst 0, 1) := by decide +kernel
theorem dX0_isPlace_27 : decode cX0_isPlace 27 = .ok (.ireturn, 1) := by decide +kernel
theorem dX0_mostWith_0 : decode cX0_mostWith 0 = .ok (.iload_n 0, 1) := by decide +kernel
theorem dX0_mostWith_1 : decode cX0_mostWith 1 = .ok (.iconst 1, 1) := by decide +kernel
theorem dX0_mostWith_2 : decode cX0_mostWith 2 = .ok (.if_icmp .ne 8, 3) := by decide +kernel
theorem dX0_mostWith_5 : decode cX0_mostWith 5 = .ok (.bipush 6, 2) := by decide +kernel
theorem dX0_mostWith_7 : decode cX0_mostWith 7 = .ok (.goto 4, 3) := by decide +kernel
theorem dX0_mostWith_10 : decode cX0_mostWith 10 = .ok (.iconst 4, 1) := by decide +kernel
theorem dX0_mostWith_11 : decode cX0_mostWith 11 = .ok (.ireturn, 1) := by decide +kernel
theorem dX0_has_0 : decode cX0_has 0 = .ok (.iload_n 1, 1) := by decide +kernel
theorem dX0_has_1 : decode cX0_has 1 = .ok (.ifCond .lt 15, 3) := by decide +kernel
theorem dX0_has_4 : decode cX0_has 4 = .ok (.iload_n 1, 1) := by decide +kernel
theorem dX0_has_5 : decode cX0_has 5 = .ok (.aload_n 0, 1) := by decide +kernel
theorem dX0_has_6 : decode cX0_has 6 = .ok (.getfield 19, 3) := by decide +kernel
theorem dX0_has_9 : decode cX0_has 9 = .ok (.if_icmp .ge 7, 3) := by decide +kernel
theorem dX0_has_12 : decode cX0_has 12 = .ok (.iconst 1, 1) := by decide +kernel
theorem dX0_has_13 : decode cX0_has 13 = .ok (.goto 4, 3) := by decide +kernel
theorem dX0_has_16 : decode cX0_has 16 = .ok (.iconst 0, 1) := by decide +kernel
theorem dX0_has_17 : decode cX0_has 17 = .ok (.ireturn, 1) := by decide +kernel
theorem dX0_add_0 : decode cX0_add 0 = .ok (.aload_n 0, 1) := by decide +kernel
theorem dX0_add_1 : decode cX0_add 1 = .ok (.getfield 9, 3) := by decide +kernel
theorem dX0_add_4 : decode cX0_add 4 = .ok (.aload_n 0, 1) := by decide +kernel
theorem dX0_add_5 : decode cX0_add 5 = .ok (.getfield 19, 3) := by decide +kernel
theorem dX0_add_8 : decode cX0_add 8 = .ok (.iload_n 1, 1) := by decide +kernel
theorem dX0_add_9 : decode cX0_add 9 = .ok (.iastore, 1) := by decide +kernel
theorem dX0_add_10 : decode cX0_add 10 = .ok (.aload_n 0, 1) := by decide +kernel
theorem dX0_add_11 : decode cX0_add 11 = .ok (.getfield 13, 3) := by decide +kernel
theorem dX0_add_14 : decode cX0_add 14 = .ok (.aload_n 0, 1) := by decide +kernel
theorem dX0_add_15 : decode cX0_add 15 = .ok (.getfield 19, 3) := by decide +kernel
theorem dX0_add_18 : decode cX0_add 18 = .ok (.iload_n 2, 1) := by decide +kernel
theorem dX0_add_19 : decode cX0_add 19 = .ok (.iastore, 1) := by decide +kernel
theorem dX0_add_20 : decode cX0_add 20 = .ok (.aload_n 0, 1) := by decide +kernel
theorem dX0_add_21 : decode cX0_add 21 = .ok (.getfield 16, 3) := by decide +kernel
theorem dX0_add_24 : decode cX0_add 24 = .ok (.aload_n 0, 1) := by decide +kernel
theorem dX0_add_25 : decode cX0_add 25 = .ok (.getfield 19, 3) := by decide +kernel
theorem dX0_add_28 : decode cX0_add 28 = .ok (.iload_n 3, 1) := by decide +kernel
theorem dX0_add_29 : decode cX0_add 29 = .ok (.iastore, 1) := by decide +kernel
theorem dX0_add_30 : decode cX0_add 30 = .ok (.aload_n 0, 1) := by decide +kernel
theorem dX0_add_31 : decode cX0_add 31 = .ok (.dup, 1) := by decide +kernel
theorem dX0_add_32 : decode cX0_add 32 = .ok (.getfield 19, 3) := by decide +kernel
theorem dX0_add_35 : decode cX0_add 35 = .ok (.iconst 1, 1) := by decide +kernel
theorem dX0_add_36 : decode cX0_add 36 = .ok (.iadd, 1) := by decide +kernel
theorem dX0_add_37 : decode cX0_add 37 = .ok (.putfield 19, 3) := by decide +kernel
theorem dX0_add_40 : decode cX0_add 40 = .ok (.return_, 1) := by decide +kernel
theorem dX0_kernel_0 : decode cX0_kernel 0 = .ok (.aload_n 0, 1) := by decide +kernel
theorem dX0_kernel_1 : decode cX0_kernel 1 = .ok (.getfield 9, 3) := by decide +kernel
theorem dX0_kernel_4 : decode cX0_kernel 4 = .ok (.iload_n 1, 1) := by decide +kernel
theorem dX0_kernel_5 : decode cX0_kernel 5 = .ok (.iaload, 1) := by decide +kernel
theorem dX0_kernel_6 : decode cX0_kernel 6 = .ok (.iload_n 2, 1) := by decide +kernel
theorem dX0_kernel_7 : decode cX0_kernel 7 = .ok (.imul, 1) := by decide +kernel
theorem dX0_kernel_8 : decode cX0_kernel 8 = .ok (.aload_n 0, 1) := by decide +kernel
theorem dX0_kernel_9 : decode cX0_kernel 9 = .ok (.getfield 13, 3) := by decide +kernel
theorem dX0_kernel_12 : decode cX0_kernel 12 = .ok (.iload_n 1, 1) := by decide +kernel
theorem dX0_kernel_13 : decode cX0_kernel 13 = .ok (.iaload, 1) := by decide +kernel
theorem dX0_kernel_14 : decode cX0_kernel 14 = .ok (.iload_n 3, 1) := by decide +kernel
theorem dX0_kernel_15 : decode cX0_kernel 15 = .ok (.imul, 1) := by decide +kernel
theorem dX0_kernel_16 : decode cX0_kernel 16 = .ok (.iadd, 1) := by decide +kernel
theorem dX0_kernel_17 : decode cX0_kernel 17 = .ok (.iconst 1, 1) := by decide +kernel
theorem dX0_kernel_18 : decode cX0_kernel 18 = .ok (.iadd, 1) := by decide +kernel
theorem dX0_kernel_19 : decode cX0_kernel 19 = .ok (.istore 4, 2) := by decide +kernel
theorem dX0_kernel_21 : decode cX0_kernel 21 = .ok (.aload_n 0, 1) := by decide +kernel
theorem dX0_kernel_22 : decode cX0_kernel 22 = .ok (.getfield 23, 3) := by decide +kernel
theorem dX0_kernel_25 : decode cX0_kernel 25 = .ok (.iconst 1, 1) := by decide +kernel
theorem dX0_kernel_26 : decode cX0_kernel 26 = .ok (.if_icmp .ne 8, 3) := by decide +kernel
theorem dX0_kernel_29 : decode cX0_kernel 29 = .ok (.iload 4, 2) := by decide +kernel
theorem dX0_kernel_31 : decode cX0_kernel 31 = .ok (.goto 8, 3) := by decide +kernel
theorem dX0_kernel_34 : decode cX0_kernel 34 = .ok (.iload 4, 2) := by decide +kernel
theorem dX0_kernel_36 : decode cX0_kernel 36 = .ok (.iload 4, 2) := by decide +kernel
theorem dX0_kernel_38 : decode cX0_kernel 38 = .ok (.imul, 1) := by decide +kernel
theorem dX0_kernel_39 : decode cX0_kernel 39 = .ok (.ireturn, 1) := by decide +kernel
set_option maxRecDepth 20000 in
theorem ggX0_product_X0_kernel : GoodIn wsX0_product wsX0_kernel := goodIn_r _ [8, 2, 3, 9, 10, 11, 12, 13, 14] (by decide +kernel) (by decide +kernel)
set_option maxRecDepth 20000 in
theorem gX0_product_X0_kernel : GoodIn wsX0_product (wsV RX0 26 RX0 yX0_kernel wsX0_kernel) := goodIn_app (goodIn_of _ (by decide +kernel)) ggX0_product_X0_kernel
theorem dX0_product_0 : decode cX0_product 0 = .ok (.aload_n 0, 1) := by decide +kernel
theorem dX0_product_1 : decode cX0_product 1 = .ok (.getfield 16, 3) := by decide +kernel
theorem dX0_product_4 : decode cX0_product 4 = .ok (.iload_n 1, 1) := by decide +kernel
theorem dX0_product_5 : decode cX0_product 5 = .ok (.iaload, 1) := by decide +kernel
theorem dX0_product_6 : decode cX0_product 6 = .ok (.aload_n 0, 1) := by decide +kernel
theorem dX0_product_7 : decode cX0_product 7 = .ok (.getfield 16, 3) := by decide +kernel
theorem dX0_product_10 : decode cX0_product 10 = .ok (.iload_n 2, 1) := by decide +kernel
theorem dX0_product_11 : decode cX0_product 11 = .ok (.iaload, 1) := by decide +kernel
theorem dX0_product_12 : decode cX0_product 12 = .ok (.imul, 1) := by decide +kernel
theorem dX0_product_13 : decode cX0_product 13 = .ok (.aload_n 0, 1) := by decide +kernel
theorem dX0_product_14 : decode cX0_product 14 = .ok (.iload_n 1, 1) := by decide +kernel
theorem dX0_product_15 : decode cX0_product 15 = .ok (.aload_n 0, 1) := by decide +kernel
theorem dX0_product_16 : decode cX0_product 16 = .ok (.getfield 9, 3) := by decide +kernel
theorem dX0_product_19 : decode cX0_product 19 = .ok (.iload_n 2, 1) := by decide +kernel
theorem dX0_product_20 : decode cX0_product 20 = .ok (.iaload, 1) := by decide +kernel
theorem dX0_product_21 : decode cX0_product 21 = .ok (.aload_n 0, 1) := by decide +kernel
theorem dX0_product_22 : decode cX0_product 22 = .ok (.getfield 13, 3) := by decide +kernel
theorem dX0_product_25 : decode cX0_product 25 = .ok (.iload_n 2, 1) := by decide +kernel
theorem dX0_product_26 : decode cX0_product 26 = .ok (.iaload, 1) := by decide +kernel
theorem dX0_product_27 : decode cX0_product 27 = .ok (.invokevirtual 26, 3) := by decide +kernel
theorem dX0_product_30 : decode cX0_product 30 = .ok (.imul, 1) := by decide +kernel
theorem dX0_product_31 : decode cX0_product 31 = .ok (.ireturn, 1) := by decide +kernel
theorem dX1_init_0 : decode cX1_init 0 = .ok (.aload_n 0, 1) := by decide +kernel
theorem dX1_init_1 : decode cX1_init 1 = .ok (.invokespecial 7, 3) := by decide +kernel
theorem dX1_init_4 : decode cX1_init 4 = .ok (.aload_n 0, 1) := by decide +kernel
theorem dX1_init_5 : decode cX1_init 5 = .ok (.bipush 12, 2) := by decide +kernel
theorem dX1_init_7 : decode cX1_init 7 = .ok (.bipush 26, 2) := by decide +kernel
theorem dX1_init_9 : decode cX1_init 9 = .ok (.multianewarray 13 2, 4) := by decide +kernel
theorem dX1_init_13 : decode cX1_init 13 = .ok (.putfield 15, 3) := by decide +kernel
theorem dX1_init_16 : decode cX1_init 16 = .ok (.aload_n 0, 1) := by decide +kernel
theorem dX1_init_17 : decode cX1_init 17 = .ok (.bipush 12, 2) := by decide +kernel
theorem dX1_init_19 : decode cX1_init 19 = .ok (.newarray .int, 2) := by decide +kernel
theorem dX1_init_21 : decode cX1_init 21 = .ok (.putfield 18, 3) := by decide +kernel
theorem dX1_init_24 : decode cX1_init 24 = .ok (.aload_n 0, 1) := by decide +kernel
theorem dX1_init_25 : decode cX1_init 25 = .ok (.sipush 200, 3) := by decide +kernel
theorem dX1_init_28 : decode cX1_init 28 = .ok (.newarray .int, 2) := by decide +kernel
theorem dX1_init_30 : decode cX1_init 30 = .ok (.putfield 22, 3) := by decide +kernel
theorem dX1_init_33 : decode cX1_init 33 = .ok (.aload_n 0, 1) := by decide +kernel
theorem dX1_init_34 : decode cX1_init 34 = .ok (.sipush 200, 3) := by decide +kernel
theorem dX1_init_37 : decode cX1_init 37 = .ok (.newarray .int, 2) := by decide +kernel
theorem dX1_init_39 : decode cX1_init 39 = .ok (.putfield 25, 3) := by decide +kernel
theorem dX1_init_42 : decode cX1_init 42 = .ok (.aload_n 0, 1) := by decide +kernel
theorem dX1_init_43 : decode cX1_init 43 = .ok (.sipush 200, 3) := by decide +kernel
theorem dX1_init_46 : decode cX1_init 46 = .ok (.newarray .int, 2) := by decide +kernel
theorem dX1_init_48 : decode cX1_init 48 = .ok (.putfield 28, 3) := by decide +kernel
theorem dX1_init_51 : decode cX1_init 51 = .ok (.aload_n 0, 1) := by decide +kernel
theorem dX1_init_52 : decode cX1_init 52 = .ok (.iconst 0, 1) := by decide +kernel
theorem dX1_init_53 : decode cX1_init 53 = .ok (.putfield 31, 3) := by decide +kernel
theorem dX1_init_56 : decode cX1_init 56 = .ok (.aload_n 0, 1) := by decide +kernel
theorem dX1_init_57 : decode cX1_init 57 = .ok (.iconst 0, 1) := by decide +kernel
theorem dX1_init_58 : decode cX1_init 58 = .ok (.putfield 35, 3) := by decide +kernel
theorem dX1_init_61 : decode cX1_init 61 = .ok (.aload_n 0, 1) := by decide +kernel
theorem dX1_init_62 : decode cX1_init 62 = .ok (.iconst (-1), 1) := by decide +kernel
theorem dX1_init_63 : decode cX1_init 63 = .ok (.putfield 38, 3) := by decide +kernel
theorem dX1_init_66 : decode cX1_init 66 = .ok (.aload_n 0, 1) := by decide +kernel
theorem dX1_init_67 : decode cX1_init 67 = .ok (.lconst 1, 1) := by decide +kernel
theorem dX1_init_68 : decode cX1_init 68 = .ok (.putfield 41, 3) := by decide +kernel
theorem dX1_init_71 : decode cX1_init 71 = .ok (.return_, 1) := by decide +kernel
theorem dX1_forget_0 : decode cX1_forget 0 = .ok (.aload_n 0, 1) := by decide +kernel
theorem dX1_forget_1 : decode cX1_forget 1 = .ok (.iconst 0, 1) := by decide +kernel
theorem dX1_forget_2 : decode cX1_forget 2 = .ok (.putfield 31, 3) := by decide +kernel
theorem dX1_forget_5 : decode cX1_forget 5 = .ok (.aload_n 0, 1) := by decide +kernel
theorem dX1_forget_6 : decode cX1_forget 6 = .ok (.iconst 0, 1) := by decide +kernel
theorem dX1_forget_7 : decode cX1_forget 7 = .ok (.putfield 35, 3) := by decide +kernel
theorem dX1_forget_10 : decode cX1_forget 10 = .ok (.aload_n 0, 1) := by decide +kernel
theorem dX1_forget_11 : decode cX1_forget 11 = .ok (.iconst (-1), 1) := by decide +kernel
theorem dX1_forget_12 : decode cX1_forget 12 = .ok (.putfield 38, 3) := by decide +kernel
theorem dX1_forget_15 : decode cX1_forget 15 = .ok (.return_, 1) := by decide +kernel
theorem dX1_hasRow_0 : decode cX1_hasRow 0 = .ok (.iload_n 1, 1) := by decide +kernel
theorem dX1_hasRow_1 : decode cX1_hasRow 1 = .ok (.ifCond .lt 15, 3) := by decide +kernel
theorem dX1_hasRow_4 : decode cX1_hasRow 4 = .ok (.iload_n 1, 1) := by decide +kernel
theorem dX1_hasRow_5 : decode cX1_hasRow 5 = .ok (.aload_n 0, 1) := by decide +kernel
theorem dX1_hasRow_6 : decode cX1_hasRow 6 = .ok (.getfield 31, 3) := by decide +kernel
theorem dX1_hasRow_9 : decode cX1_hasRow 9 = .ok (.if_icmp .ge 7, 3) := by decide +kernel
theorem dX1_hasRow_12 : decode cX1_hasRow 12 = .ok (.iconst 1, 1) := by decide +kernel
theorem dX1_hasRow_13 : decode cX1_hasRow 13 = .ok (.goto 4, 3) := by decide +kernel
theorem dX1_hasRow_16 : decode cX1_hasRow 16 = .ok (.iconst 0, 1) := by decide +kernel
theorem dX1_hasRow_17 : decode cX1_hasRow 17 = .ok (.ireturn, 1) := by decide +kernel
set_option maxRecDepth 20000 in
theorem ggX1_hasColumn_X1_columnOfQ : GoodIn wsX1_hasColumn wsX1_columnOfQ := goodIn_r _ [5, 6, 7, 8, 9, 10, 11, 12, 13, 14, 15] (by decide +kernel) (by decide +kernel)
set_option maxRecDepth 20000 in
theorem gX1_hasColumn_X1_columnOfQ : GoodIn wsX1_hasColumn (wsV RX1 45 RX1 yX1_columnOfQ wsX1_columnOfQ) := goodIn_app (goodIn_of _ (by decide +kernel)) ggX1_hasColumn_X1_columnOfQ
theorem dX1_hasColumn_0 : decode cX1_hasColumn 0 = .ok (.iload_n 1, 1) := by decide +kernel
theorem dX1_hasColumn_1 : decode cX1_hasColumn 1 = .ok (.ifCond .lt 15, 3) := by decide +kernel
theorem dX1_hasColumn_4 : decode cX1_hasColumn 4 = .ok (.iload_n 1, 1) := by decide +kernel
theorem dX1_hasColumn_5 : decode cX1_hasColumn 5 = .ok (.aload_n 0, 1) := by decide +kernel
theorem dX1_hasColumn_6 : decode cX1_hasColumn 6 = .ok (.invokevirtual 45, 3) := by decide +kernel
theorem dX1_hasColumn_9 : decode cX1_hasColumn 9 = .ok (.if_icmp .gt 7, 3) := by decide +kernel
theorem dX1_hasColumn_12 : decode cX1_hasColumn 12 = .ok (.iconst 1, 1) := by decide +kernel
theorem dX1_hasColumn_13 : decode cX1_hasColumn 13 = .ok (.goto 4, 3) := by decide +kernel
theorem dX1_hasColumn_16 : decode cX1_hasColumn 16 = .ok (.iconst 0, 1) := by decide +kernel
theorem dX1_hasColumn_17 : decode cX1_hasColumn 17 = .ok (.ireturn, 1) := by decide +kernel
theorem dX1_columnOfY_0 : decode cX1_columnOfY 0 = .ok (.iconst 2, 1) := by decide +kernel
theorem dX1_columnOfY_1 : decode cX1_columnOfY 1 = .ok (.aload_n 0, 1) := by decide +kernel
theorem dX1_columnOfY_2 : decode cX1_columnOfY 2 = .ok (.getfield 31, 3) := by decide +kernel
theorem dX1_columnOfY_5 : decode cX1_columnOfY 5 = .ok (.imul, 1) := by decide +kernel
theorem dX1_columnOfY_6 : decode cX1_columnOfY 6 = .ok (.ireturn, 1) := by decide +kernel
theorem dX1_columnOfQ_0 : decode cX1_columnOfQ 0 = .ok (.iconst 2, 1) := by decide +kernel
theorem dX1_columnOfQ_1 : decode cX1_columnOfQ 1 = .ok (.aload_n 0, 1) := by decide +kernel
theorem dX1_columnOfQ_2 : decode cX1_columnOfQ 2 = .ok (.getfield 31, 3) := by decide +kernel
theorem dX1_columnOfQ_5 : decode cX1_columnOfQ 5 = .ok (.imul, 1) := by decide +kernel
theorem dX1_columnOfQ_6 : decode cX1_columnOfQ 6 = .ok (.iconst 1, 1) := by decide +kernel
theorem dX1_columnOfQ_7 : decode cX1_columnOfQ 7 = .ok (.iadd, 1) := by decide +kernel
theorem dX1_columnOfQ_8 : decode cX1_columnOfQ 8 = .ok (.ireturn, 1) := by decide +kernel
set_option maxRecDepth 20000 in
theorem ggX1_letter_X1_columnOfY : GoodIn wsX1_letter wsX1_columnOfY := goodIn_r _ [6, 1, 7, 8, 9, 10, 11, 12, 13, 14, 15] (by decide +kernel) (by decide +kernel)
set_option maxRecDepth 20000 in
theorem gX1_letter_X1_columnOfY : GoodIn wsX1_letter (wsV RX1 49 RX1 yX1_columnOfY wsX1_columnOfY) := goodIn_app (goodIn_of _ (by decide +kernel)) ggX1_letter_X1_columnOfY
theorem dX1_letter_0 : decode cX1_letter 0 = .ok (.iload_n 1, 1) := by decide +kernel
theorem dX1_letter_1 : decode cX1_letter 1 = .ok (.aload_n 0, 1) := by decide +kernel
theorem dX1_letter_2 : decode cX1_letter 2 = .ok (.getfield 31, 3) := by decide +kernel
theorem dX1_letter_5 : decode cX1_letter 5 = .ok (.if_icmp .ge 5, 3) := by decide +kernel
theorem dX1_letter_8 : decode cX1_letter 8 = .ok (.iload_n 1, 1) := by decide +kernel
theorem dX1_letter_9 : decode cX1_letter 9 = .ok (.ireturn, 1) := by decide +kernel
theorem dX1_letter_10 : decode cX1_letter 10 = .ok (.iload_n 1, 1) := by decide +kernel
theorem dX1_letter_11 : decode cX1_letter 11 = .ok (.aload_n 0, 1) := by decide +kernel
theorem dX1_letter_12 : decode cX1_letter 12 = .ok (.invokevirtual 49, 3) := by decide +kernel
theorem dX1_letter_15 : decode cX1_letter 15 = .ok (.if_icmp .ge 15, 3) := by decide +kernel
theorem dX1_letter_18 : decode cX1_letter 18 = .ok (.bipush 100, 2) := by decide +kernel
theorem dX1_letter_20 : decode cX1_letter 20 = .ok (.iload_n 1, 1) := by decide +kernel
theorem dX1_letter_21 : decode cX1_letter 21 = .ok (.iadd, 1) := by decide +kernel
theorem dX1_letter_22 : decode cX1_letter 22 = .ok (.aload_n 0, 1) := by decide +kernel
theorem dX1_letter_23 : decode cX1_letter 23 = .ok (.getfield 31, 3) := by decide +kernel
theorem dX1_letter_26 : decode cX1_letter 26 = .ok (.isub, 1) := by decide +kernel
theorem dX1_letter_27 : decode cX1_letter 27 = .ok (.goto 6, 3) := by decide +kernel
theorem dX1_letter_30 : decode cX1_letter 30 = .ok (.sipush 200, 3) := by decide +kernel
theorem dX1_letter_33 : decode cX1_letter 33 = .ok (.ireturn, 1) := by decide +kernel
theorem dX1_complement_0 : decode cX1_complement 0 = .ok (.iload_n 1, 1) := by decide +kernel
theorem dX1_complement_1 : decode cX1_complement 1 = .ok (.aload_n 0, 1) := by decide +kernel
theorem dX1_complement_2 : decode cX1_complement 2 = .ok (.getfield 31, 3) := by decide +kernel
theorem dX1_complement_5 : decode cX1_complement 5 = .ok (.if_icmp .ge 12, 3) := by decide +kernel
theorem dX1_complement_8 : decode cX1_complement 8 = .ok (.iload_n 1, 1) := by decide +kernel
theorem dX1_complement_9 : decode cX1_complement 9 = .ok (.aload_n 0, 1) := by decide +kernel
theorem dX1_complement_10 : decode cX1_complement 10 = .ok (.getfield 31, 3) := by decide +kernel
theorem dX1_complement_13 : decode cX1_complement 13 = .ok (.iadd, 1) := by decide +kernel
theorem dX1_complement_14 : decode cX1_complement 14 = .ok (.goto 9, 3) := by decide +kernel
theorem dX1_complement_17 : decode cX1_complement 17 = .ok (.iload_n 1, 1) := by decide +kernel
theorem dX1_complement_18 : decode cX1_complement 18 = .ok (.aload_n 0, 1) := by decide +kernel
theorem dX1_complement_19 : decode cX1_complement 19 = .ok (.getfield 31, 3) := by decide +kernel
theorem dX1_complement_22 : decode cX1_complement 22 = .ok (.isub, 1) := by decide +kernel
theorem dX1_complement_23 : decode cX1_complement 23 = .ok (.ireturn, 1) := by decide +kernel
set_option maxRecDepth 20000 in
theorem ggX1_lay_X1_matrix : GoodIn wsX1_lay wsX1_matrix := goodIn_r _ [12, 1, 13, 14, 15, 16, 17, 18, 19, 20, 21, 22, 23, 24, 25, 34, 35, 36, 37, 38] (by decide +kernel) (by decide +kernel)
set_option maxRecDepth 20000 in
theorem gX1_lay_X1_matrix : GoodIn wsX1_lay (va_wsS RX1 55 yX1_matrix wsX1_matrix) := goodIn_app (goodIn_of _ (by decide +kernel)) ggX1_lay_X1_matrix
set_option maxRecDepth 20000 in
theorem ggX1_lay_X1_columnOfY : GoodIn wsX1_lay wsX1_columnOfY := goodIn_r _ [29, 2, 39, 40, 41, 42, 43, 44, 45, 46, 47] (by decide +kernel) (by decide +kernel)
set_option maxRecDepth 20000 in
theorem gX1_lay_X1_columnOfY : GoodIn wsX1_lay (wsV RX1 49 RX1 yX1_columnOfY wsX1_columnOfY) := goodIn_app (goodIn_of _ (by decide +kernel)) ggX1_lay_X1_columnOfY
set_option maxRecDepth 20000 in
theorem ggX1_lay_X1_columnOfQ : GoodIn wsX1_lay wsX1_columnOfQ := goodIn_r _ [33, 2, 39, 40, 41, 42, 43, 44, 45, 46, 47] (by decide +kernel) (by decide +kernel)
set_option maxRecDepth 20000 in
theorem gX1_lay_X1_columnOfQ : GoodIn wsX1_lay (wsV RX1 45 RX1 yX1_columnOfQ wsX1_columnOfQ) := goodIn_app (goodIn_of _ (by decide +kernel)) ggX1_lay_X1_columnOfQ
theorem dX1_lay_0 : decode cX1_lay 0 = .ok (.aload_n 1, 1) := by decide +kernel
theorem dX1_lay_1 : decode cX1_lay 1 = .ok (.getfield 52, 3) := by decide +kernel
theorem dX1_lay_4 : decode cX1_lay 4 = .ok (.istore 4, 2) := by decide +kernel
theorem dX1_lay_6 : decode cX1_lay 6 = .ok (.aload_n 0, 1) := by decide +kernel
theorem dX1_lay_7 : decode cX1_lay 7 = .ok (.iconst 2, 1) := by decide +kernel
theorem dX1_lay_8 : decode cX1_lay 8 = .ok (.iload 4, 2) := by decide +kernel
theorem dX1_lay_10 : decode cX1_lay 10 = .ok (.imul, 1) := by decide +kernel
theorem dX1_lay_11 : decode cX1_lay 11 = .ok (.putfield 31, 3) := by decide +kernel
theorem dX1_lay_14 : decode cX1_lay 14 = .ok (.aload_n 0, 1) := by decide +kernel
theorem dX1_lay_15 : decode cX1_lay 15 = .ok (.iconst 0, 1) := by decide +kernel
theorem dX1_lay_16 : decode cX1_lay 16 = .ok (.putfield 35, 3) := by decide +kernel
theorem dX1_lay_19 : decode cX1_lay 19 = .ok (.aload_n 0, 1) := by decide +kernel
theorem dX1_lay_20 : decode cX1_lay 20 = .ok (.iconst 0, 1) := by decide +kernel
theorem dX1_lay_21 : decode cX1_lay 21 = .ok (.putfield 38, 3) := by decide +kernel
theorem dX1_lay_24 : decode cX1_lay 24 = .ok (.aload_n 0, 1) := by decide +kernel
theorem dX1_lay_25 : decode cX1_lay 25 = .ok (.lconst 1, 1) := by decide +kernel
theorem dX1_lay_26 : decode cX1_lay 26 = .ok (.putfield 41, 3) := by decide +kernel
theorem dX1_lay_29 : decode cX1_lay 29 = .ok (.iconst 0, 1) := by decide +kernel
theorem dX1_lay_30 : decode cX1_lay 30 = .ok (.istore 5, 2) := by decide +kernel
theorem dX1_lay_32 : decode cX1_lay 32 = .ok (.iload 5, 2) := by decide +kernel
theorem dX1_lay_34 : decode cX1_lay 34 = .ok (.aload_n 0, 1) := by decide +kernel
theorem dX1_lay_35 : decode cX1_lay 35 = .ok (.getfield 31, 3) := by decide +kernel
theorem dX1_lay_38 : decode cX1_lay 38 = .ok (.if_icmp .ge 125, 3) := by decide +kernel
theorem dX1_lay_41 : decode cX1_lay 41 = .ok (.aload_n 0, 1) := by decide +kernel
theorem dX1_lay_42 : decode cX1_lay 42 = .ok (.getfield 18, 3) := by decide +kernel
theorem dX1_lay_45 : decode cX1_lay 45 = .ok (.iload 5, 2) := by decide +kernel
theorem dX1_lay_47 : decode cX1_lay 47 = .ok (.iload 5, 2) := by decide +kernel
theorem dX1_lay_49 : decode cX1_lay 49 = .ok (.iastore, 1) := by decide +kernel
theorem dX1_lay_50 : decode cX1_lay 50 = .ok (.iconst 0, 1) := by decide +kernel
theorem dX1_lay_51 : decode cX1_lay 51 = .ok (.istore 6, 2) := by decide +kernel
theorem dX1_lay_53 : decode cX1_lay 53 = .ok (.iload 6, 2) := by decide +kernel
theorem dX1_lay_55 : decode cX1_lay 55 = .ok (.aload_n 0, 1) := by decide +kernel
theorem dX1_lay_56 : decode cX1_lay 56 = .ok (.getfield 31, 3) := by decide +kernel
theorem dX1_lay_59 : decode cX1_lay 59 = .ok (.if_icmp .ge 56, 3) := by decide +kernel
theorem dX1_lay_62 : decode cX1_lay 62 = .ok (.aload_n 0, 1) := by decide +kernel
theorem dX1_lay_63 : decode cX1_lay 63 = .ok (.getfield 15, 3) := by decide +kernel
theorem dX1_lay_66 : decode cX1_lay 66 = .ok (.iload 5, 2) := by decide +kernel
theorem dX1_lay_68 : decode cX1_lay 68 = .ok (.aaload, 1) := by decide +kernel
theorem dX1_lay_69 : decode cX1_lay 69 = .ok (.iload 6, 2) := by decide +kernel
theorem dX1_lay_71 : decode cX1_lay 71 = .ok (.iload 6, 2) := by decide +kernel
theorem dX1_lay_73 : decode cX1_lay 73 = .ok (.iload 5, 2) := by decide +kernel
theorem dX1_lay_75 : decode cX1_lay 75 = .ok (.if_icmp .ne 7, 3) := by decide +kernel
theorem dX1_lay_78 : decode cX1_lay 78 = .ok (.lconst 1, 1) := by decide +kernel
theorem dX1_lay_79 : decode cX1_lay 79 = .ok (.goto 4, 3) := by decide +kernel
theorem dX1_lay_82 : decode cX1_lay 82 = .ok (.lconst 0, 1) := by decide +kernel
theorem dX1_lay_83 : decode cX1_lay 83 = .ok (.lastore, 1) := by decide +kernel
theorem dX1_lay_84 : decode cX1_lay 84 = .ok (.aload_n 0, 1) := by decide +kernel
theorem dX1_lay_85 : decode cX1_lay 85 = .ok (.getfield 15, 3) := by decide +kernel
theorem dX1_lay_88 : decode cX1_lay 88 = .ok (.iload 5, 2) := by decide +kernel
theorem dX1_lay_90 : decode cX1_lay 90 = .ok (.aaload, 1) := by decide +kernel
theorem dX1_lay_91 : decode cX1_lay 91 = .ok (.aload_n 0, 1) := by decide +kernel
theorem dX1_lay_92 : decode cX1_lay 92 = .ok (.getfield 31, 3) := by decide +kernel
theorem dX1_lay_95 : decode cX1_lay 95 = .ok (.iload 6, 2) := by decide +kernel
theorem dX1_lay_97 : decode cX1_lay 97 = .ok (.iadd, 1) := by decide +kernel
theorem dX1_lay_98 : decode cX1_lay 98 = .ok (.aload_n 1, 1) := by decide +kernel
theorem dX1_lay_99 : decode cX1_lay 99 = .ok (.iload 5, 2) := by decide +kernel
theorem dX1_lay_101 : decode cX1_lay 101 = .ok (.iload 6, 2) := by decide +kernel
theorem dX1_lay_103 : decode cX1_lay 103 = .ok (.invokestatic 55, 3) := by decide +kernel
theorem dX1_lay_106 : decode cX1_lay 106 = .ok (.ineg, 1) := by decide +kernel
theorem dX1_lay_107 : decode cX1_lay 107 = .ok (.i2l, 1) := by decide +kernel
theorem dX1_lay_108 : decode cX1_lay 108 = .ok (.lastore, 1) := by decide +kernel
theorem dX1_lay_109 : decode cX1_lay 109 = .ok (.iinc 6 1, 3) := by decide +kernel
theorem dX1_lay_112 : decode cX1_lay 112 = .ok (.goto (-59), 3) := by decide +kernel
theorem dX1_lay_115 : decode cX1_lay 115 = .ok (.aload_n 0, 1) := by decide +kernel
theorem dX1_lay_116 : decode cX1_lay 116 = .ok (.getfield 15, 3) := by decide +kernel
theorem dX1_lay_119 : decode cX1_lay 119 = .ok (.iload 5, 2) := by decide +kernel
theorem dX1_lay_121 : decode cX1_lay 121 = .ok (.aaload, 1) := by decide +kernel
theorem dX1_lay_122 : decode cX1_lay 122 = .ok (.aload_n 0, 1) := by decide +kernel
theorem dX1_lay_123 : decode cX1_lay 123 = .ok (.invokevirtual 49, 3) := by decide +kernel
theorem dX1_lay_126 : decode cX1_lay 126 = .ok (.ldc2_w 59, 3) := by decide +kernel
theorem dX1_lay_129 : decode cX1_lay 129 = .ok (.lastore, 1) := by decide +kernel
theorem dX1_lay_130 : decode cX1_lay 130 = .ok (.aload_n 0, 1) := by decide +kernel
theorem dX1_lay_131 : decode cX1_lay 131 = .ok (.getfield 15, 3) := by decide +kernel
theorem dX1_lay_134 : decode cX1_lay 134 = .ok (.iload 5, 2) := by decide +kernel
theorem dX1_lay_136 : decode cX1_lay 136 = .ok (.aaload, 1) := by decide +kernel
theorem dX1_lay_137 : decode cX1_lay 137 = .ok (.aload_n 0, 1) := by decide +kernel
theorem dX1_lay_138 : decode cX1_lay 138 = .ok (.invokevirtual 45, 3) := by decide +kernel
theorem dX1_lay_141 : decode cX1_lay 141 = .ok (.iload 5, 2) := by decide +kernel
theorem dX1_lay_143 : decode cX1_lay 143 = .ok (.iload 4, 2) := by decide +kernel
theorem dX1_lay_145 : decode cX1_lay 145 = .ok (.if_icmp .ge 9, 3) := by decide +kernel
theorem dX1_lay_148 : decode cX1_lay 148 = .ok (.iload_n 3, 1) := by decide +kernel
theorem dX1_lay_149 : decode cX1_lay 149 = .ok (.ineg, 1) := by decide +kernel
theorem dX1_lay_150 : decode cX1_lay 150 = .ok (.i2l, 1) := by decide +kernel
theorem dX1_lay_151 : decode cX1_lay 151 = .ok (.goto 5, 3) := by decide +kernel
theorem dX1_lay_154 : decode cX1_lay 154 = .ok (.iload_n 2, 1) := by decide +kernel
theorem dX1_lay_155 : decode cX1_lay 155 = .ok (.i2l, 1) := by decide +kernel
theorem dX1_lay_156 : decode cX1_lay 156 = .ok (.lastore, 1) := by decide +kernel
theorem dX1_lay_157 : decode cX1_lay 157 = .ok (.iinc 5 1, 3) := by decide +kernel
theorem dX1_lay_160 : decode cX1_lay 160 = .ok (.goto (-128), 3) := by decide +kernel
theorem dX1_lay_163 : decode cX1_lay 163 = .ok (.return_, 1) := by decide +kernel
set_option maxRecDepth 20000 in
theorem ggX1_matrix_X0_product : GoodIn wsX1_matrix wsX0_product := goodIn_r _ [6, 7, 8, 9, 10, 11, 12, 5, 13, 14, 15, 16, 17, 18, 19] (by decide +kernel) (by decide +kernel)
set_option maxRecDepth 20000 in
theorem gX1_matrix_X0_product : GoodIn wsX1_matrix (wsV RX1 61 RX0 yX0_product wsX0_product) := goodIn_app (goodIn_of _ (by decide +kernel)) ggX1_matrix_X0_product
theorem dX1_matrix_0 : decode cX1_matrix 0 = .ok (.aload_n 0, 1) := by decide +kernel
theorem dX1_matrix_1 : decode cX1_matrix 1 = .ok (.getfield 52, 3) := by decide +kernel
theorem dX1_matrix_4 : decode cX1_matrix 4 = .ok (.istore_n 3, 1) := by decide +kernel
theorem dX1_matrix_5 : decode cX1_matrix 5 = .ok (.iload_n 1, 1) := by decide +kernel
theorem dX1_matrix_6 : decode cX1_matrix 6 = .ok (.iload_n 3, 1) := by decide +kernel
theorem dX1_matrix_7 : decode cX1_matrix 7 = .ok (.if_icmp .ge 15, 3) := by decide +kernel
theorem dX1_matrix_10 : decode cX1_matrix 10 = .ok (.iload_n 2, 1) := by decide +kernel
theorem dX1_matrix_11 : decode cX1_matrix 11 = .ok (.iload_n 3, 1) := by decide +kernel
theorem dX1_matrix_12 : decode cX1_matrix 12 = .ok (.if_icmp .ge 10, 3) := by decide +kernel
theorem dX1_matrix_15 : decode cX1_matrix 15 = .ok (.aload_n 0, 1) := by decide +kernel
theorem dX1_matrix_16 : decode cX1_matrix 16 = .ok (.iload_n 1, 1) := by decide +kernel
theorem dX1_matrix_17 : decode cX1_matrix 17 = .ok (.iload_n 2, 1) := by decide +kernel
theorem dX1_matrix_18 : decode cX1_matrix 18 = .ok (.invokevirtual 61, 3) := by decide +kernel
theorem dX1_matrix_21 : decode cX1_matrix 21 = .ok (.ireturn, 1) := by decide +kernel
theorem dX1_matrix_22 : decode cX1_matrix 22 = .ok (.iload_n 2, 1) := by decide +kernel
theorem dX1_matrix_23 : decode cX1_matrix 23 = .ok (.iload_n 3, 1) := by decide +kernel
theorem dX1_matrix_24 : decode cX1_matrix 24 = .ok (.iload_n 1, 1) := by decide +kernel
theorem dX1_matrix_25 : decode cX1_matrix 25 = .ok (.iadd, 1) := by decide +kernel
theorem dX1_matrix_26 : decode cX1_matrix 26 = .ok (.if_icmp .ne 5, 3) := by decide +kernel
theorem dX1_matrix_29 : decode cX1_matrix 29 = .ok (.iconst 1, 1) := by decide +kernel
theorem dX1_matrix_30 : decode cX1_matrix 30 = .ok (.ireturn, 1) := by decide +kernel
theorem dX1_matrix_31 : decode cX1_matrix 31 = .ok (.iload_n 1, 1) := by decide +kernel
theorem dX1_matrix_32 : decode cX1_matrix 32 = .ok (.iload_n 3, 1) := by decide +kernel
theorem dX1_matrix_33 : decode cX1_matrix 33 = .ok (.iload_n 2, 1) := by decide +kernel
theorem dX1_matrix_34 : decode cX1_matrix 34 = .ok (.iadd, 1) := by decide +kernel
theorem dX1_matrix_35 : decode cX1_matrix 35 = .ok (.if_icmp .ne 7, 3) := by decide +kernel
theorem dX1_matrix_38 : decode cX1_matrix 38 = .ok (.iconst (-1), 1) := by decide +kernel
theorem dX1_matrix_39 : decode cX1_matrix 39 = .ok (.goto 4, 3) := by decide +kernel
theorem dX1_matrix_42 : decode cX1_matrix 42 = .ok (.iconst 0, 1) := by decide +kernel
theorem dX1_matrix_43 : decode cX1_matrix 43 = .ok (.ireturn, 1) := by decide +kernel
set_option maxRecDepth 20000 in
theorem ggX1_shareOfZ_X1_columnOfQ : GoodIn wsX1_shareOfZ wsX1_columnOfQ := goodIn_r _ [8, 1, 9, 10, 11, 12, 13, 14, 15, 16, 17] (by decide +kernel) (by decide +kernel)
set_option maxRecDepth 20000 in
theorem gX1_shareOfZ_X1_columnOfQ : GoodIn wsX1_shareOfZ (wsV RX1 45 RX1 yX1_columnOfQ wsX1_columnOfQ) := goodIn_app (goodIn_of _ (by decide +kernel)) ggX1_shareOfZ_X1_columnOfQ
theorem dX1_shareOfZ_0 : decode cX1_shareOfZ 0 = .ok (.iconst 0, 1) := by decide +kernel
theorem dX1_shareOfZ_1 : decode cX1_shareOfZ 1 = .ok (.istore_n 2, 1) := by decide +kernel
theorem dX1_shareOfZ_2 : decode cX1_shareOfZ 2 = .ok (.iload_n 2, 1) := by decide +kernel
theorem dX1_shareOfZ_3 : decode cX1_shareOfZ 3 = .ok (.aload_n 0, 1) := by decide +kernel
theorem dX1_shareOfZ_4 : decode cX1_shareOfZ 4 = .ok (.getfield 31, 3) := by decide +kernel
theorem dX1_shareOfZ_7 : decode cX1_shareOfZ 7 = .ok (.if_icmp .ge 36, 3) := by decide +kernel
theorem dX1_shareOfZ_10 : decode cX1_shareOfZ 10 = .ok (.aload_n 0, 1) := by decide +kernel
theorem dX1_shareOfZ_11 : decode cX1_shareOfZ 11 = .ok (.getfield 18, 3) := by decide +kernel
theorem dX1_shareOfZ_14 : decode cX1_shareOfZ 14 = .ok (.iload_n 2, 1) := by decide +kernel
theorem dX1_shareOfZ_15 : decode cX1_shareOfZ 15 = .ok (.iaload, 1) := by decide +kernel
theorem dX1_shareOfZ_16 : decode cX1_shareOfZ 16 = .ok (.aload_n 0, 1) := by decide +kernel
theorem dX1_shareOfZ_17 : decode cX1_shareOfZ 17 = .ok (.getfield 31, 3) := by decide +kernel
theorem dX1_shareOfZ_20 : decode cX1_shareOfZ 20 = .ok (.iload_n 1, 1) := by decide +kernel
theorem dX1_shareOfZ_21 : decode cX1_shareOfZ 21 = .ok (.iadd, 1) := by decide +kernel
theorem dX1_shareOfZ_22 : decode cX1_shareOfZ 22 = .ok (.if_icmp .ne 15, 3) := by decide +kernel
theorem dX1_shareOfZ_25 : decode cX1_shareOfZ 25 = .ok (.aload_n 0, 1) := by decide +kernel
theorem dX1_shareOfZ_26 : decode cX1_shareOfZ 26 = .ok (.getfield 15, 3) := by decide +kernel
theorem dX1_shareOfZ_29 : decode cX1_shareOfZ 29 = .ok (.iload_n 2, 1) := by decide +kernel
theorem dX1_shareOfZ_30 : decode cX1_shareOfZ 30 = .ok (.aaload, 1) := by decide +kernel
theorem dX1_shareOfZ_31 : decode cX1_shareOfZ 31 = .ok (.aload_n 0, 1) := by decide +kernel
theorem dX1_shareOfZ_32 : decode cX1_shareOfZ 32 = .ok (.invokevirtual 45, 3) := by decide +kernel
theorem dX1_shareOfZ_35 : decode cX1_shareOfZ 35 = .ok (.laload, 1) := by decide +kernel
theorem dX1_shareOfZ_36 : decode cX1_shareOfZ 36 = .ok (.lreturn, 1) := by decide +kernel
theorem dX1_shareOfZ_37 : decode cX1_shareOfZ 37 = .ok (.iinc 2 1, 3) := by decide +kernel
theorem dX1_shareOfZ_40 : decode cX1_shareOfZ 40 = .ok (.goto (-38), 3) := by decide +kernel
theorem dX1_shareOfZ_43 : decode cX1_shareOfZ 43 = .ok (.lconst 0, 1) := by decide +kernel
theorem dX1_shareOfZ_44 : decode cX1_shareOfZ 44 = .ok (.lreturn, 1) := by decide +kernel
theorem dX1_mayStep_0 : decode cX1_mayStep 0 = .ok (.aload_n 0, 1) := by decide +kernel
theorem dX1_mayStep_1 : decode cX1_mayStep 1 = .ok (.getfield 38, 3) := by decide +kernel
theorem dX1_mayStep_4 : decode cX1_mayStep 4 = .ok (.ifCond .ne 17, 3) := by decide +kernel
theorem dX1_mayStep_7 : decode cX1_mayStep 7 = .ok (.aload_n 0, 1) := by decide +kernel
theorem dX1_mayStep_8 : decode cX1_mayStep 8 = .ok (.getfield 35, 3) := by decide +kernel
theorem dX1_mayStep_11 : decode cX1_mayStep 11 = .ok (.sipush 200, 3) := by decide +kernel
theorem dX1_mayStep_14 : decode cX1_mayStep 14 = .ok (.if_icmp .ge 7, 3) := by decide +kernel
theorem dX1_mayStep_17 : decode cX1_mayStep 17 = .ok (.iconst 1, 1) := by decide +kernel
theorem dX1_mayStep_18 : decode cX1_mayStep 18 = .ok (.goto 4, 3) := by decide +kernel
theorem dX1_mayStep_21 : decode cX1_mayStep 21 = .ok (.iconst 0, 1) := by decide +kernel
theorem dX1_mayStep_22 : decode cX1_mayStep 22 = .ok (.ireturn, 1) := by decide +kernel
set_option maxRecDepth 20000 in
theorem ggX1_makeStep_X1_columnOfY : GoodIn wsX1_makeStep wsX1_columnOfY := goodIn_r _ [11, 12, 85, 86, 87, 88, 89, 90, 91, 92, 93] (by decide +kernel) (by decide +kernel)
set_option maxRecDepth 20000 in
theorem gX1_makeStep_X1_columnOfY : GoodIn wsX1_makeStep (wsV RX1 49 RX1 yX1_columnOfY wsX1_columnOfY) := goodIn_app (goodIn_of _ (by decide +kernel)) ggX1_makeStep_X1_columnOfY
set_option maxRecDepth 20000 in
theorem ggX1_makeStep_X1_complement : GoodIn wsX1_makeStep wsX1_complement := goodIn_r _ [16, 12, 85, 86, 87, 88, 89, 90, 91, 92, 93] (by decide +kernel) (by decide +kernel)
set_option maxRecDepth 20000 in
theorem gX1_makeStep_X1_complement : GoodIn wsX1_makeStep (wsV RX1 65 RX1 yX1_complement wsX1_complement) := goodIn_app (goodIn_of _ (by decide +kernel)) ggX1_makeStep_X1_complement
set_option maxRecDepth 20000 in
theorem ggX1_makeStep_X1_leastRow : GoodIn wsX1_makeStep wsX1_leastRow := goodIn_r _ [20, 12, 21, 22, 23, 10, 24, 1, 25, 26, 27, 28, 29, 30, 31, 32, 33, 34, 35, 36, 37, 38, 39, 40, 41, 42, 43, 44, 45, 46, 47, 48, 49, 50, 51, 52, 53, 54, 55, 85, 86, 87, 88, 89, 90, 91, 92, 93] (by decide +kernel) (by decide +kernel)
set_option maxRecDepth 20000 in
theorem gX1_makeStep_X1_leastRow : GoodIn wsX1_makeStep (wsV RX1 69 RX1 yX1_leastRow wsX1_leastRow) := goodIn_app (goodIn_of _ (by decide +kernel)) ggX1_makeStep_X1_leastRow
set_option maxRecDepth 20000 in
theorem ggX1_makeStep_X1_turn : GoodIn wsX1_makeStep wsX1_turn := goodIn_r _ [59, 25, 60, 12, 61, 62, 63, 10, 64, 30, 31, 32, 33, 65, 66, 43, 67, 68, 69, 70, 71, 72, 73, 74, 36, 75, 76, 77, 78, 79, 80, 81, 39, 40, 41, 42, 44, 45, 46, 47, 48, 49, 50, 51, 52, 82, 83, 84, 85, 86, 87, 88, 89, 90, 91, 92, 93] (by decide +kernel) (by decide +kernel)
set_option maxRecDepth 20000 in
theorem gX1_makeStep_X1_turn : GoodIn wsX1_makeStep (wsV RX1 72 RX1 yX1_turn wsX1_turn) := goodIn_app (goodIn_of _ (by decide +kernel)) ggX1_makeStep_X1_turn
theorem dX1_makeStep_0 : decode cX1_makeStep 0 = .ok (.aload_n 0, 1) := by decide +kernel
theorem dX1_makeStep_1 : decode cX1_makeStep 1 = .ok (.getfield 35, 3) := by decide +kernel
theorem dX1_makeStep_4 : decode cX1_makeStep 4 = .ok (.ifCond .ne 10, 3) := by decide +kernel
theorem dX1_makeStep_7 : decode cX1_makeStep 7 = .ok (.aload_n 0, 1) := by decide +kernel
theorem dX1_makeStep_8 : decode cX1_makeStep 8 = .ok (.invokevirtual 49, 3) := by decide +kernel
theorem dX1_makeStep_11 : decode cX1_makeStep 11 = .ok (.goto 18, 3) := by decide +kernel
theorem dX1_makeStep_14 : decode cX1_makeStep 14 = .ok (.aload_n 0, 1) := by decide +kernel
theorem dX1_makeStep_15 : decode cX1_makeStep 15 = .ok (.aload_n 0, 1) := by decide +kernel
theorem dX1_makeStep_16 : decode cX1_makeStep 16 = .ok (.getfield 25, 3) := by decide +kernel
theorem dX1_makeStep_19 : decode cX1_makeStep 19 = .ok (.aload_n 0, 1) := by decide +kernel
theorem dX1_makeStep_20 : decode cX1_makeStep 20 = .ok (.getfield 35, 3) := by decide +kernel
theorem dX1_makeStep_23 : decode cX1_makeStep 23 = .ok (.iconst 1, 1) := by decide +kernel
theorem dX1_makeStep_24 : decode cX1_makeStep 24 = .ok (.isub, 1) := by decide +kernel
theorem dX1_makeStep_25 : decode cX1_makeStep 25 = .ok (.iaload, 1) := by decide +kernel
theorem dX1_makeStep_26 : decode cX1_makeStep 26 = .ok (.invokevirtual 65, 3) := by decide +kernel
theorem dX1_makeStep_29 : decode cX1_makeStep 29 = .ok (.istore_n 1, 1) := by decide +kernel
theorem dX1_makeStep_30 : decode cX1_makeStep 30 = .ok (.aload_n 0, 1) := by decide +kernel
theorem dX1_makeStep_31 : decode cX1_makeStep 31 = .ok (.iload_n 1, 1) := by decide +kernel
theorem dX1_makeStep_32 : decode cX1_makeStep 32 = .ok (.invokevirtual 69, 3) := by decide +kernel
theorem dX1_makeStep_35 : decode cX1_makeStep 35 = .ok (.istore_n 2, 1) := by decide +kernel
theorem dX1_makeStep_36 : decode cX1_makeStep 36 = .ok (.iload_n 2, 1) := by decide +kernel
theorem dX1_makeStep_37 : decode cX1_makeStep 37 = .ok (.iconst (-1), 1) := by decide +kernel
theorem dX1_makeStep_38 : decode cX1_makeStep 38 = .ok (.if_icmp .ne 9, 3) := by decide +kernel
theorem dX1_makeStep_41 : decode cX1_makeStep 41 = .ok (.aload_n 0, 1) := by decide +kernel
theorem dX1_makeStep_42 : decode cX1_makeStep 42 = .ok (.iconst 2, 1) := by decide +kernel
theorem dX1_makeStep_43 : decode cX1_makeStep 43 = .ok (.putfield 38, 3) := by decide +kernel
theorem dX1_makeStep_46 : decode cX1_makeStep 46 = .ok (.return_, 1) := by decide +kernel
theorem dX1_makeStep_47 : decode cX1_makeStep 47 = .ok (.aload_n 0, 1) := by decide +kernel
theorem dX1_makeStep_48 : decode cX1_makeStep 48 = .ok (.getfield 22, 3) := by decide +kernel
theorem dX1_makeStep_51 : decode cX1_makeStep 51 = .ok (.aload_n 0, 1) := by decide +kernel
theorem dX1_makeStep_52 : decode cX1_makeStep 52 = .ok (.getfield 35, 3) := by decide +kernel
theorem dX1_makeStep_55 : decode cX1_makeStep 55 = .ok (.iload_n 1, 1) := by decide +kernel
theorem dX1_makeStep_56 : decode cX1_makeStep 56 = .ok (.iastore, 1) := by decide +kernel
theorem dX1_makeStep_57 : decode cX1_makeStep 57 = .ok (.aload_n 0, 1) := by decide +kernel
theorem dX1_makeStep_58 : decode cX1_makeStep 58 = .ok (.getfield 25, 3) := by decide +kernel
theorem dX1_makeStep_61 : decode cX1_makeStep 61 = .ok (.aload_n 0, 1) := by decide +kernel
theorem dX1_makeStep_62 : decode cX1_makeStep 62 = .ok (.getfield 35, 3) := by decide +kernel
theorem dX1_makeStep_65 : decode cX1_makeStep 65 = .ok (.aload_n 0, 1) := by decide +kernel
theorem dX1_makeStep_66 : decode cX1_makeStep 66 = .ok (.getfield 18, 3) := by decide +kernel
theorem dX1_makeStep_69 : decode cX1_makeStep 69 = .ok (.iload_n 2, 1) := by decide +kernel
theorem dX1_makeStep_70 : decode cX1_makeStep 70 = .ok (.iaload, 1) := by decide +kernel
theorem dX1_makeStep_71 : decode cX1_makeStep 71 = .ok (.iastore, 1) := by decide +kernel
theorem dX1_makeStep_72 : decode cX1_makeStep 72 = .ok (.aload_n 0, 1) := by decide +kernel
theorem dX1_makeStep_73 : decode cX1_makeStep 73 = .ok (.getfield 28, 3) := by decide +kernel
theorem dX1_makeStep_76 : decode cX1_makeStep 76 = .ok (.aload_n 0, 1) := by decide +kernel
theorem dX1_makeStep_77 : decode cX1_makeStep 77 = .ok (.getfield 35, 3) := by decide +kernel
theorem dX1_makeStep_80 : decode cX1_makeStep 80 = .ok (.iload_n 2, 1) := by decide +kernel
theorem dX1_makeStep_81 : decode cX1_makeStep 81 = .ok (.iastore, 1) := by decide +kernel
theorem dX1_makeStep_82 : decode cX1_makeStep 82 = .ok (.aload_n 0, 1) := by decide +kernel
theorem dX1_makeStep_83 : decode cX1_makeStep 83 = .ok (.dup, 1) := by decide +kernel
theorem dX1_makeStep_84 : decode cX1_makeStep 84 = .ok (.getfield 35, 3) := by decide +kernel
theorem dX1_makeStep_87 : decode cX1_makeStep 87 = .ok (.iconst 1, 1) := by decide +kernel
theorem dX1_makeStep_88 : decode cX1_makeStep 88 = .ok (.iadd, 1) := by decide +kernel
theorem dX1_makeStep_89 : decode cX1_makeStep 89 = .ok (.putfield 35, 3) := by decide +kernel
theorem dX1_makeStep_92 : decode cX1_makeStep 92 = .ok (.aload_n 0, 1) := by decide +kernel
theorem dX1_makeStep_93 : decode cX1_makeStep 93 = .ok (.getfield 18, 3) := by decide +kernel
theorem dX1_makeStep_96 : decode cX1_makeStep 96 = .ok (.iload_n 2, 1) := by decide +kernel
theorem dX1_makeStep_97 : decode cX1_makeStep 97 = .ok (.iaload, 1) := by decide +kernel
theorem dX1_makeStep_98 : decode cX1_makeStep 98 = .ok (.aload_n 0, 1) := by decide +kernel
theorem dX1_makeStep_99 : decode cX1_makeStep 99 = .ok (.invokevirtual 49, 3) := by decide +kernel
theorem dX1_makeStep_102 : decode cX1_makeStep 102 = .ok (.if_icmp .ne 8, 3) := by decide +kernel
theorem dX1_makeStep_105 : decode cX1_makeStep 105 = .ok (.aload_n 0, 1) := by decide +kernel
theorem dX1_makeStep_106 : decode cX1_makeStep 106 = .ok (.iconst 1, 1) := by decide +kernel
theorem dX1_makeStep_107 : decode cX1_makeStep 107 = .ok (.putfield 38, 3) := by decide +kernel
theorem dX1_makeStep_110 : decode cX1_makeStep 110 = .ok (.aload_n 0, 1) := by decide +kernel
theorem dX1_makeStep_111 : decode cX1_makeStep 111 = .ok (.iload_n 2, 1) := by decide +kernel
theorem dX1_makeStep_112 : decode cX1_makeStep 112 = .ok (.iload_n 1, 1) := by decide +kernel
theorem dX1_makeStep_113 : decode cX1_makeStep 113 = .ok (.invokevirtual 72, 3) := by decide +kernel
theorem dX1_makeStep_116 : decode cX1_makeStep 116 = .ok (.aload_n 0, 1) := by decide +kernel
theorem dX1_makeStep_117 : decode cX1_makeStep 117 = .ok (.getfield 18, 3) := by decide +kernel
theorem dX1_makeStep_120 : decode cX1_makeStep 120 = .ok (.iload_n 2, 1) := by decide +kernel
theorem dX1_makeStep_121 : decode cX1_makeStep 121 = .ok (.iload_n 1, 1) := by decide +kernel
theorem dX1_makeStep_122 : decode cX1_makeStep 122 = .ok (.iastore, 1) := by decide +kernel
theorem dX1_makeStep_123 : decode cX1_makeStep 123 = .ok (.return_, 1) := by decide +kernel
set_option maxRecDepth 20000 in
theorem ggX1_leastRow_X1_weight : GoodIn wsX1_leastRow wsX1_weight := goodIn_r _ [6, 7, 8, 39, 40, 41, 42, 43, 44, 45, 46, 47] (by decide +kernel) (by decide +kernel)
set_option maxRecDepth 20000 in
theorem gX1_leastRow_X1_weight : GoodIn wsX1_leastRow (wsV RX1 76 RX1 yX1_weight wsX1_weight) := goodIn_app (goodIn_of _ (by decide +kernel)) ggX1_leastRow_X1_weight
set_option maxRecDepth 20000 in
theorem ggX1_leastRow_X1_isLess : GoodIn wsX1_leastRow wsX1_isLess := goodIn_r _ [12, 8, 1, 2, 3, 4, 5, 6, 7, 13, 14, 15, 16, 17, 18, 19, 20, 21, 22, 23, 24, 25, 26, 27, 28, 29, 30, 31, 32, 33, 34, 35, 36, 37, 38, 39, 40, 41, 42, 43, 44, 45, 46, 47] (by decide +kernel) (by decide +kernel)
set_option maxRecDepth 20000 in
theorem gX1_leastRow_X1_isLess : GoodIn wsX1_leastRow (wsV RX1 80 RX1 yX1_isLess wsX1_isLess) := goodIn_app (goodIn_of _ (by decide +kernel)) ggX1_leastRow_X1_isLess
theorem dX1_leastRow_0 : decode cX1_leastRow 0 = .ok (.iconst (-1), 1) := by decide +kernel
theorem dX1_leastRow_1 : decode cX1_leastRow 1 = .ok (.istore_n 2, 1) := by decide +kernel
theorem dX1_leastRow_2 : decode cX1_leastRow 2 = .ok (.iconst 0, 1) := by decide +kernel
theorem dX1_leastRow_3 : decode cX1_leastRow 3 = .ok (.istore_n 3, 1) := by decide +kernel
theorem dX1_leastRow_4 : decode cX1_leastRow 4 = .ok (.iload_n 3, 1) := by decide +kernel
theorem dX1_leastRow_5 : decode cX1_leastRow 5 = .ok (.aload_n 0, 1) := by decide +kernel
theorem dX1_leastRow_6 : decode cX1_leastRow 6 = .ok (.getfield 31, 3) := by decide +kernel
theorem dX1_leastRow_9 : decode cX1_leastRow 9 = .ok (.if_icmp .ge 37, 3) := by decide +kernel
theorem dX1_leastRow_12 : decode cX1_leastRow 12 = .ok (.aload_n 0, 1) := by decide +kernel
theorem dX1_leastRow_13 : decode cX1_leastRow 13 = .ok (.iload_n 3, 1) := by decide +kernel
theorem dX1_leastRow_14 : decode cX1_leastRow 14 = .ok (.iload_n 1, 1) := by decide +kernel
theorem dX1_leastRow_15 : decode cX1_leastRow 15 = .ok (.invokevirtual 76, 3) := by decide +kernel
theorem dX1_leastRow_18 : decode cX1_leastRow 18 = .ok (.lconst 0, 1) := by decide +kernel
theorem dX1_leastRow_19 : decode cX1_leastRow 19 = .ok (.lcmp, 1) := by decide +kernel
theorem dX1_leastRow_20 : decode cX1_leastRow 20 = .ok (.ifCond .le 20, 3) := by decide +kernel
theorem dX1_leastRow_23 : decode cX1_leastRow 23 = .ok (.iload_n 2, 1) := by decide +kernel
theorem dX1_leastRow_24 : decode cX1_leastRow 24 = .ok (.iconst (-1), 1) := by decide +kernel
theorem dX1_leastRow_25 : decode cX1_leastRow 25 = .ok (.if_icmp .eq 13, 3) := by decide +kernel
theorem dX1_leastRow_28 : decode cX1_leastRow 28 = .ok (.aload_n 0, 1) := by decide +kernel
theorem dX1_leastRow_29 : decode cX1_leastRow 29 = .ok (.iload_n 3, 1) := by decide +kernel
theorem dX1_leastRow_30 : decode cX1_leastRow 30 = .ok (.iload_n 2, 1) := by decide +kernel
theorem dX1_leastRow_31 : decode cX1_leastRow 31 = .ok (.iload_n 1, 1) := by decide +kernel
theorem dX1_leastRow_32 : decode cX1_leastRow 32 = .ok (.invokevirtual 80, 3) := by decide +kernel
theorem dX1_leastRow_35 : decode cX1_leastRow 35 = .ok (.ifCond .eq 5, 3) := by decide +kernel
theorem dX1_leastRow_38 : decode cX1_leastRow 38 = .ok (.iload_n 3, 1) := by decide +kernel
theorem dX1_leastRow_39 : decode cX1_leastRow 39 = .ok (.istore_n 2, 1) := by decide +kernel
theorem dX1_leastRow_40 : decode cX1_leastRow 40 = .ok (.iinc 3 1, 3) := by decide +kernel
theorem dX1_leastRow_43 : decode cX1_leastRow 43 = .ok (.goto (-39), 3) := by decide +kernel
theorem dX1_leastRow_46 : decode cX1_leastRow 46 = .ok (.iload_n 2, 1) := by decide +kernel
theorem dX1_leastRow_47 : decode cX1_leastRow 47 = .ok (.ireturn, 1) := by decide +kernel
theorem dX1_weight_0 : decode cX1_weight 0 = .ok (.aload_n 0, 1) := by decide +kernel
theorem dX1_weight_1 : decode cX1_weight 1 = .ok (.getfield 35, 3) := by decide +kernel
theorem dX1_weight_4 : decode cX1_weight 4 = .ok (.ifCond .ne 7, 3) := by decide +kernel
theorem dX1_weight_7 : decode cX1_weight 7 = .ok (.lconst 1, 1) := by decide +kernel
theorem dX1_weight_8 : decode cX1_weight 8 = .ok (.goto 11, 3) := by decide +kernel
theorem dX1_weight_11 : decode cX1_weight 11 = .ok (.aload_n 0, 1) := by decide +kernel
theorem dX1_weight_12 : decode cX1_weight 12 = .ok (.getfield 15, 3) := by decide +kernel
theorem dX1_weight_15 : decode cX1_weight 15 = .ok (.iload_n 1, 1) := by decide +kernel
theorem dX1_weight_16 : decode cX1_weight 16 = .ok (.aaload, 1) := by decide +kernel
theorem dX1_weight_17 : decode cX1_weight 17 = .ok (.iload_n 2, 1) := by decide +kernel
theorem dX1_weight_18 : decode cX1_weight 18 = .ok (.laload, 1) := by decide +kernel
theorem dX1_weight_19 : decode cX1_weight 19 = .ok (.lreturn, 1) := by decide +kernel
set_option maxRecDepth 20000 in
theorem ggX1_isLess_X1_weight : GoodIn wsX1_isLess wsX1_weight := goodIn_r _ [7, 8, 1, 35, 36, 37, 38, 39, 40, 41, 42, 43] (by decide +kernel) (by decide +kernel)
set_option maxRecDepth 20000 in
theorem gX1_isLess_X1_weight : GoodIn wsX1_isLess (wsV RX1 76 RX1 yX1_weight wsX1_weight) := goodIn_app (goodIn_of _ (by decide +kernel)) ggX1_isLess_X1_weight
set_option maxRecDepth 20000 in
theorem ggX1_isLess_X1_columnOfQ : GoodIn wsX1_isLess wsX1_columnOfQ := goodIn_r _ [12, 2, 35, 36, 37, 38, 39, 40, 41, 42, 43] (by decide +kernel) (by decide +kernel)
set_option maxRecDepth 20000 in
theorem gX1_isLess_X1_columnOfQ : GoodIn wsX1_isLess (wsV RX1 45 RX1 yX1_columnOfQ wsX1_columnOfQ) := goodIn_app (goodIn_of _ (by decide +kernel)) ggX1_isLess_X1_columnOfQ
set_option maxRecDepth 20000 in
theorem ggX1_isLess_X2_crossSign : GoodIn wsX1_isLess wsX2_crossSign := goodIn_r _ [16, 17, 18, 15, 19, 20, 21, 22, 23, 24, 25, 26, 27, 28, 29, 30, 31, 32, 33, 34] (by decide +kernel) (by decide +kernel)
set_option maxRecDepth 20000 in
theorem gX1_isLess_X2_crossSign : GoodIn wsX1_isLess (va_wsS RX1 84 yX2_crossSign wsX2_crossSign) := goodIn_app (goodIn_of _ (by decide +kernel)) ggX1_isLess_X2_crossSign
theorem dX1_isLess_0 : decode cX1_isLess 0 = .ok (.aload_n 0, 1) := by decide +kernel
theorem dX1_isLess_1 : decode cX1_isLess 1 = .ok (.iload_n 1, 1) := by decide +kernel
theorem dX1_isLess_2 : decode cX1_isLess 2 = .ok (.iload_n 3, 1) := by decide +kernel
theorem dX1_isLess_3 : decode cX1_isLess 3 = .ok (.invokevirtual 76, 3) := by decide +kernel
theorem dX1_isLess_6 : decode cX1_isLess 6 = .ok (.lstore 4, 2) := by decide +kernel
theorem dX1_isLess_8 : decode cX1_isLess 8 = .ok (.aload_n 0, 1) := by decide +kernel
theorem dX1_isLess_9 : decode cX1_isLess 9 = .ok (.iload_n 2, 1) := by decide +kernel
theorem dX1_isLess_10 : decode cX1_isLess 10 = .ok (.iload_n 3, 1) := by decide +kernel
theorem dX1_isLess_11 : decode cX1_isLess 11 = .ok (.invokevirtual 76, 3) := by decide +kernel
theorem dX1_isLess_14 : decode cX1_isLess 14 = .ok (.lstore 6, 2) := by decide +kernel
theorem dX1_isLess_16 : decode cX1_isLess 16 = .ok (.aload_n 0, 1) := by decide +kernel
theorem dX1_isLess_17 : decode cX1_isLess 17 = .ok (.getfield 15, 3) := by decide +kernel
theorem dX1_isLess_20 : decode cX1_isLess 20 = .ok (.iload_n 1, 1) := by decide +kernel
theorem dX1_isLess_21 : decode cX1_isLess 21 = .ok (.aaload, 1) := by decide +kernel
theorem dX1_isLess_22 : decode cX1_isLess 22 = .ok (.aload_n 0, 1) := by decide +kernel
theorem dX1_isLess_23 : decode cX1_isLess 23 = .ok (.invokevirtual 45, 3) := by decide +kernel
theorem dX1_isLess_26 : decode cX1_isLess 26 = .ok (.laload, 1) := by decide +kernel
theorem dX1_isLess_27 : decode cX1_isLess 27 = .ok (.lload 6, 2) := by decide +kernel
theorem dX1_isLess_29 : decode cX1_isLess 29 = .ok (.aload_n 0, 1) := by decide +kernel
theorem dX1_isLess_30 : decode cX1_isLess 30 = .ok (.getfield 15, 3) := by decide +kernel
theorem dX1_isLess_33 : decode cX1_isLess 33 = .ok (.iload_n 2, 1) := by decide +kernel
theorem dX1_isLess_34 : decode cX1_isLess 34 = .ok (.aaload, 1) := by decide +kernel
theorem dX1_isLess_35 : decode cX1_isLess 35 = .ok (.aload_n 0, 1) := by decide +kernel
theorem dX1_isLess_36 : decode cX1_isLess 36 = .ok (.invokevirtual 45, 3) := by decide +kernel
theorem dX1_isLess_39 : decode cX1_isLess 39 = .ok (.laload, 1) := by decide +kernel
theorem dX1_isLess_40 : decode cX1_isLess 40 = .ok (.lload 4, 2) := by decide +kernel
theorem dX1_isLess_42 : decode cX1_isLess 42 = .ok (.invokestatic 84, 3) := by decide +kernel
theorem dX1_isLess_45 : decode cX1_isLess 45 = .ok (.istore 8, 2) := by decide +kernel
theorem dX1_isLess_47 : decode cX1_isLess 47 = .ok (.iconst 0, 1) := by decide +kernel
theorem dX1_isLess_48 : decode cX1_isLess 48 = .ok (.istore 9, 2) := by decide +kernel
theorem dX1_isLess_50 : decode cX1_isLess 50 = .ok (.iload 9, 2) := by decide +kernel
theorem dX1_isLess_52 : decode cX1_isLess 52 = .ok (.aload_n 0, 1) := by decide +kernel
theorem dX1_isLess_53 : decode cX1_isLess 53 = .ok (.getfield 31, 3) := by decide +kernel
theorem dX1_isLess_56 : decode cX1_isLess 56 = .ok (.if_icmp .ge 41, 3) := by decide +kernel
theorem dX1_isLess_59 : decode cX1_isLess 59 = .ok (.iload 8, 2) := by decide +kernel
theorem dX1_isLess_61 : decode cX1_isLess 61 = .ok (.ifCond .ne 36, 3) := by decide +kernel
theorem dX1_isLess_64 : decode cX1_isLess 64 = .ok (.aload_n 0, 1) := by decide +kernel
theorem dX1_isLess_65 : decode cX1_isLess 65 = .ok (.getfield 15, 3) := by decide +kernel
theorem dX1_isLess_68 : decode cX1_isLess 68 = .ok (.iload_n 1, 1) := by decide +kernel
theorem dX1_isLess_69 : decode cX1_isLess 69 = .ok (.aaload, 1) := by decide +kernel
theorem dX1_isLess_70 : decode cX1_isLess 70 = .ok (.iload 9, 2) := by decide +kernel
theorem dX1_isLess_72 : decode cX1_isLess 72 = .ok (.laload, 1) := by decide +kernel
theorem dX1_isLess_73 : decode cX1_isLess 73 = .ok (.lload 6, 2) := by decide +kernel
theorem dX1_isLess_75 : decode cX1_isLess 75 = .ok (.aload_n 0, 1) := by decide +kernel
theorem dX1_isLess_76 : decode cX1_isLess 76 = .ok (.getfield 15, 3) := by decide +kernel
theorem dX1_isLess_79 : decode cX1_isLess 79 = .ok (.iload_n 2, 1) := by decide +kernel
theorem dX1_isLess_80 : decode cX1_isLess 80 = .ok (.aaload, 1) := by decide +kernel
theorem dX1_isLess_81 : decode cX1_isLess 81 = .ok (.iload 9, 2) := by decide +kernel
theorem dX1_isLess_83 : decode cX1_isLess 83 = .ok (.laload, 1) := by decide +kernel
theorem dX1_isLess_84 : decode cX1_isLess 84 = .ok (.lload 4, 2) := by decide +kernel
theorem dX1_isLess_86 : decode cX1_isLess 86 = .ok (.invokestatic 84, 3) := by decide +kernel
theorem dX1_isLess_89 : decode cX1_isLess 89 = .ok (.istore 8, 2) := by decide +kernel
theorem dX1_isLess_91 : decode cX1_isLess 91 = .ok (.iinc 9 1, 3) := by decide +kernel
theorem dX1_isLess_94 : decode cX1_isLess 94 = .ok (.goto (-44), 3) := by decide +kernel
theorem dX1_isLess_97 : decode cX1_isLess 97 = .ok (.iload 8, 2) := by decide +kernel
theorem dX1_isLess_99 : decode cX1_isLess 99 = .ok (.ifCond .ge 7, 3) := by decide +kernel
theorem dX1_isLess_102 : decode cX1_isLess 102 = .ok (.iconst 1, 1) := by decide +kernel
theorem dX1_isLess_103 : decode cX1_isLess 103 = .ok (.goto 4, 3) := by decide +kernel
theorem dX1_isLess_106 : decode cX1_isLess 106 = .ok (.iconst 0, 1) := by decide +kernel
theorem dX1_isLess_107 : decode cX1_isLess 107 = .ok (.ireturn, 1) := by decide +kernel
set_option maxRecDepth 20000 in
theorem ggX1_turn_X1_negate : GoodIn wsX1_turn wsX1_negate := goodIn_r _ [8, 1, 9, 10, 11, 7, 12, 3, 48, 49, 50, 51, 52, 53, 54, 55, 56] (by decide +kernel) (by decide +kernel)
set_option maxRecDepth 20000 in
theorem gX1_turn_X1_negate : GoodIn wsX1_turn (wsV RX1 90 RX1 yX1_negate wsX1_negate) := goodIn_app (goodIn_of _ (by decide +kernel)) ggX1_turn_X1_negate
set_option maxRecDepth 20000 in
theorem ggX1_turn_J13_numberOfTrailingZeros_95d88 : GoodIn wsX1_turn wsJ13_numberOfTrailingZeros_95d88 := goodIn_r _ [16, 17, 18, 19, 20, 21] (by decide +kernel) (by decide +kernel)
set_option maxRecDepth 20000 in
theorem gX1_turn_J13_numberOfTrailingZeros_95d88 : GoodIn wsX1_turn (va_wsS RX1 94 yJ13_numberOfTrailingZeros_95d88 wsJ13_numberOfTrailingZeros_95d88) := goodIn_app (goodIn_of _ (by decide +kernel)) ggX1_turn_J13_numberOfTrailingZeros_95d88
set_option maxRecDepth 20000 in
theorem ggX1_turn_X2_inverseOfOdd : GoodIn wsX1_turn wsX2_inverseOfOdd := goodIn_r _ [25, 26] (by decide +kernel) (by decide +kernel)
set_option maxRecDepth 20000 in
theorem gX1_turn_X2_inverseOfOdd : GoodIn wsX1_turn (va_wsS RX1 100 yX2_inverseOfOdd wsX2_inverseOfOdd) := goodIn_app (goodIn_of _ (by decide +kernel)) ggX1_turn_X2_inverseOfOdd
set_option maxRecDepth 20000 in
theorem ggX1_turn_X1_takeOut : GoodIn wsX1_turn wsX1_takeOut := goodIn_r _ [30, 1, 9, 10, 11, 7, 12, 3, 31, 32, 24, 33, 34, 35, 15, 36, 37, 38, 39, 40, 41, 42, 43, 44, 45, 46, 47, 48, 49, 50, 51, 52, 53, 54, 55, 56] (by decide +kernel) (by decide +kernel)
set_option maxRecDepth 20000 in
theorem gX1_turn_X1_takeOut : GoodIn wsX1_turn (wsV RX1 104 RX1 yX1_takeOut wsX1_takeOut) := goodIn_app (goodIn_of _ (by decide +kernel)) ggX1_turn_X1_takeOut
theorem dX1_turn_0 : decode cX1_turn 0 = .ok (.aload_n 0, 1) := by decide +kernel
theorem dX1_turn_1 : decode cX1_turn 1 = .ok (.getfield 15, 3) := by decide +kernel
theorem dX1_turn_4 : decode cX1_turn 4 = .ok (.iload_n 1, 1) := by decide +kernel
theorem dX1_turn_5 : decode cX1_turn 5 = .ok (.aaload, 1) := by decide +kernel
theorem dX1_turn_6 : decode cX1_turn 6 = .ok (.iload_n 2, 1) := by decide +kernel
theorem dX1_turn_7 : decode cX1_turn 7 = .ok (.laload, 1) := by decide +kernel
theorem dX1_turn_8 : decode cX1_turn 8 = .ok (.lconst 0, 1) := by decide +kernel
theorem dX1_turn_9 : decode cX1_turn 9 = .ok (.lcmp, 1) := by decide +kernel
theorem dX1_turn_10 : decode cX1_turn 10 = .ok (.ifCond .ge 8, 3) := by decide +kernel
theorem dX1_turn_13 : decode cX1_turn 13 = .ok (.aload_n 0, 1) := by decide +kernel
theorem dX1_turn_14 : decode cX1_turn 14 = .ok (.iload_n 1, 1) := by decide +kernel
theorem dX1_turn_15 : decode cX1_turn 15 = .ok (.invokevirtual 90, 3) := by decide +kernel
theorem dX1_turn_18 : decode cX1_turn 18 = .ok (.aload_n 0, 1) := by decide +kernel
theorem dX1_turn_19 : decode cX1_turn 19 = .ok (.getfield 41, 3) := by decide +kernel
theorem dX1_turn_22 : decode cX1_turn 22 = .ok (.invokestatic 94, 3) := by decide +kernel
theorem dX1_turn_25 : decode cX1_turn 25 = .ok (.istore_n 3, 1) := by decide +kernel
theorem dX1_turn_26 : decode cX1_turn 26 = .ok (.aload_n 0, 1) := by decide +kernel
theorem dX1_turn_27 : decode cX1_turn 27 = .ok (.getfield 41, 3) := by decide +kernel
theorem dX1_turn_30 : decode cX1_turn 30 = .ok (.iload_n 3, 1) := by decide +kernel
theorem dX1_turn_31 : decode cX1_turn 31 = .ok (.lshr, 1) := by decide +kernel
theorem dX1_turn_32 : decode cX1_turn 32 = .ok (.invokestatic 100, 3) := by decide +kernel
theorem dX1_turn_35 : decode cX1_turn 35 = .ok (.lstore 4, 2) := by decide +kernel
theorem dX1_turn_37 : decode cX1_turn 37 = .ok (.iconst 0, 1) := by decide +kernel
theorem dX1_turn_38 : decode cX1_turn 38 = .ok (.istore 6, 2) := by decide +kernel
theorem dX1_turn_40 : decode cX1_turn 40 = .ok (.iload 6, 2) := by decide +kernel
theorem dX1_turn_42 : decode cX1_turn 42 = .ok (.aload_n 0, 1) := by decide +kernel
theorem dX1_turn_43 : decode cX1_turn 43 = .ok (.getfield 31, 3) := by decide +kernel
theorem dX1_turn_46 : decode cX1_turn 46 = .ok (.if_icmp .ge 26, 3) := by decide +kernel
theorem dX1_turn_49 : decode cX1_turn 49 = .ok (.iload 6, 2) := by decide +kernel
theorem dX1_turn_51 : decode cX1_turn 51 = .ok (.iload_n 1, 1) := by decide +kernel
theorem dX1_turn_52 : decode cX1_turn 52 = .ok (.if_icmp .eq 14, 3) := by decide +kernel
theorem dX1_turn_55 : decode cX1_turn 55 = .ok (.aload_n 0, 1) := by decide +kernel
theorem dX1_turn_56 : decode cX1_turn 56 = .ok (.iload 6, 2) := by decide +kernel
theorem dX1_turn_58 : decode cX1_turn 58 = .ok (.iload_n 1, 1) := by decide +kernel
theorem dX1_turn_59 : decode cX1_turn 59 = .ok (.iload_n 2, 1) := by decide +kernel
theorem dX1_turn_60 : decode cX1_turn 60 = .ok (.iload_n 3, 1) := by decide +kernel
theorem dX1_turn_61 : decode cX1_turn 61 = .ok (.lload 4, 2) := by decide +kernel
theorem dX1_turn_63 : decode cX1_turn 63 = .ok (.invokevirtual 104, 3) := by decide +kernel
theorem dX1_turn_66 : decode cX1_turn 66 = .ok (.iinc 6 1, 3) := by decide +kernel
theorem dX1_turn_69 : decode cX1_turn 69 = .ok (.goto (-29), 3) := by decide +kernel
theorem dX1_turn_72 : decode cX1_turn 72 = .ok (.aload_n 0, 1) := by decide +kernel
theorem dX1_turn_73 : decode cX1_turn 73 = .ok (.aload_n 0, 1) := by decide +kernel
theorem dX1_turn_74 : decode cX1_turn 74 = .ok (.getfield 15, 3) := by decide +kernel
theorem dX1_turn_77 : decode cX1_turn 77 = .ok (.iload_n 1, 1) := by decide +kernel
theorem dX1_turn_78 : decode cX1_turn 78 = .ok (.aaload, 1) := by decide +kernel
theorem dX1_turn_79 : decode cX1_turn 79 = .ok (.iload_n 2, 1) := by decide +kernel
theorem dX1_turn_80 : decode cX1_turn 80 = .ok (.laload, 1) := by decide +kernel
theorem dX1_turn_81 : decode cX1_turn 81 = .ok (.putfield 41, 3) := by decide +kernel
theorem dX1_turn_84 : decode cX1_turn 84 = .ok (.return_, 1) := by decide +kernel
set_option maxRecDepth 20000 in
theorem ggX1_negate_X1_columnOfQ : GoodIn wsX1_negate wsX1_columnOfQ := goodIn_r _ [6, 7, 8, 9, 10, 11, 12, 13, 14, 15, 16] (by decide +kernel) (by decide +kernel)
set_option maxRecDepth 20000 in
theorem gX1_negate_X1_columnOfQ : GoodIn wsX1_negate (wsV RX1 45 RX1 yX1_columnOfQ wsX1_columnOfQ) := goodIn_app (goodIn_of _ (by decide +kernel)) ggX1_negate_X1_columnOfQ
theorem dX1_negate_0 : decode cX1_negate 0 = .ok (.iconst 0, 1) := by decide +kernel
theorem dX1_negate_1 : decode cX1_negate 1 = .ok (.istore_n 2, 1) := by decide +kernel
theorem dX1_negate_2 : decode cX1_negate 2 = .ok (.iload_n 2, 1) := by decide +kernel
theorem dX1_negate_3 : decode cX1_negate 3 = .ok (.aload_n 0, 1) := by decide +kernel
theorem dX1_negate_4 : decode cX1_negate 4 = .ok (.invokevirtual 45, 3) := by decide +kernel
theorem dX1_negate_7 : decode cX1_negate 7 = .ok (.if_icmp .gt 26, 3) := by decide +kernel
theorem dX1_negate_10 : decode cX1_negate 10 = .ok (.aload_n 0, 1) := by decide +kernel
theorem dX1_negate_11 : decode cX1_negate 11 = .ok (.getfield 15, 3) := by decide +kernel
theorem dX1_negate_14 : decode cX1_negate 14 = .ok (.iload_n 1, 1) := by decide +kernel
theorem dX1_negate_15 : decode cX1_negate 15 = .ok (.aaload, 1) := by decide +kernel
theorem dX1_negate_16 : decode cX1_negate 16 = .ok (.iload_n 2, 1) := by decide +kernel
theorem dX1_negate_17 : decode cX1_negate 17 = .ok (.aload_n 0, 1) := by decide +kernel
theorem dX1_negate_18 : decode cX1_negate 18 = .ok (.getfield 15, 3) := by decide +kernel
theorem dX1_negate_21 : decode cX1_negate 21 = .ok (.iload_n 1, 1) := by decide +kernel
theorem dX1_negate_22 : decode cX1_negate 22 = .ok (.aaload, 1) := by decide +kernel
theorem dX1_negate_23 : decode cX1_negate 23 = .ok (.iload_n 2, 1) := by decide +kernel
theorem dX1_negate_24 : decode cX1_negate 24 = .ok (.laload, 1) := by decide +kernel
theorem dX1_negate_25 : decode cX1_negate 25 = .ok (.lneg, 1) := by decide +kernel
theorem dX1_negate_26 : decode cX1_negate 26 = .ok (.lastore, 1) := by decide +kernel
theorem dX1_negate_27 : decode cX1_negate 27 = .ok (.iinc 2 1, 3) := by decide +kernel
theorem dX1_negate_30 : decode cX1_negate 30 = .ok (.goto (-28), 3) := by decide +kernel
theorem dX1_negate_33 : decode cX1_negate 33 = .ok (.return_, 1) := by decide +kernel
set_option maxRecDepth 20000 in
theorem ggX1_takeOut_X1_columnOfQ : GoodIn wsX1_takeOut wsX1_columnOfQ := goodIn_r _ [6, 7, 27, 28, 29, 30, 31, 32, 33, 34, 35] (by decide +kernel) (by decide +kernel)
set_option maxRecDepth 20000 in
theorem gX1_takeOut_X1_columnOfQ : GoodIn wsX1_takeOut (wsV RX1 45 RX1 yX1_columnOfQ wsX1_columnOfQ) := goodIn_app (goodIn_of _ (by decide +kernel)) ggX1_takeOut_X1_columnOfQ
set_option maxRecDepth 20000 in
theorem ggX1_takeOut_X2_crossHigh : GoodIn wsX1_takeOut wsX2_crossHigh := goodIn_r _ [11, 12, 13, 14, 15, 16, 17, 18, 19, 20, 21, 10, 22, 23] (by decide +kernel) (by decide +kernel)
set_option maxRecDepth 20000 in
theorem gX1_takeOut_X2_crossHigh : GoodIn wsX1_takeOut (va_wsS RX1 108 yX2_crossHigh wsX2_crossHigh) := goodIn_app (goodIn_of _ (by decide +kernel)) ggX1_takeOut_X2_crossHigh
set_option maxRecDepth 20000 in
theorem ggX1_takeOut_X2_shiftedLow : GoodIn wsX1_takeOut wsX2_shiftedLow := goodIn_r _ [26] (by decide +kernel) (by decide +kernel)
set_option maxRecDepth 20000 in
theorem gX1_takeOut_X2_shiftedLow : GoodIn wsX1_takeOut (va_wsS RX1 112 yX2_shiftedLow wsX2_shiftedLow) := goodIn_app (goodIn_of _ (by decide +kernel)) ggX1_takeOut_X2_shiftedLow
theorem dX1_takeOut_0 : decode cX1_takeOut 0 = .ok (.aload_n 0, 1) := by decide +kernel
theorem dX1_takeOut_1 : decode cX1_takeOut 1 = .ok (.getfield 15, 3) := by decide +kernel
theorem dX1_takeOut_4 : decode cX1_takeOut 4 = .ok (.iload_n 1, 1) := by decide +kernel
theorem dX1_takeOut_5 : decode cX1_takeOut 5 = .ok (.aaload, 1) := by decide +kernel
theorem dX1_takeOut_6 : decode cX1_takeOut 6 = .ok (.astore 7, 2) := by decide +kernel
theorem dX1_takeOut_8 : decode cX1_takeOut 8 = .ok (.aload_n 0, 1) := by decide +kernel
theorem dX1_takeOut_9 : decode cX1_takeOut 9 = .ok (.getfield 15, 3) := by decide +kernel
theorem dX1_takeOut_12 : decode cX1_takeOut 12 = .ok (.iload_n 2, 1) := by decide +kernel
theorem dX1_takeOut_13 : decode cX1_takeOut 13 = .ok (.aaload, 1) := by decide +kernel
theorem dX1_takeOut_14 : decode cX1_takeOut 14 = .ok (.astore 8, 2) := by decide +kernel
theorem dX1_takeOut_16 : decode cX1_takeOut 16 = .ok (.aload 8, 2) := by decide +kernel
theorem dX1_takeOut_18 : decode cX1_takeOut 18 = .ok (.iload_n 3, 1) := by decide +kernel
theorem dX1_takeOut_19 : decode cX1_takeOut 19 = .ok (.laload, 1) := by decide +kernel
theorem dX1_takeOut_20 : decode cX1_takeOut 20 = .ok (.lstore 9, 2) := by decide +kernel
theorem dX1_takeOut_22 : decode cX1_takeOut 22 = .ok (.aload 7, 2) := by decide +kernel
theorem dX1_takeOut_24 : decode cX1_takeOut 24 = .ok (.iload_n 3, 1) := by decide +kernel
theorem dX1_takeOut_25 : decode cX1_takeOut 25 = .ok (.laload, 1) := by decide +kernel
theorem dX1_takeOut_26 : decode cX1_takeOut 26 = .ok (.lstore 11, 2) := by decide +kernel
theorem dX1_takeOut_28 : decode cX1_takeOut 28 = .ok (.iconst 0, 1) := by decide +kernel
theorem dX1_takeOut_29 : decode cX1_takeOut 29 = .ok (.istore 13, 2) := by decide +kernel
theorem dX1_takeOut_31 : decode cX1_takeOut 31 = .ok (.iload 13, 2) := by decide +kernel
theorem dX1_takeOut_33 : decode cX1_takeOut 33 = .ok (.aload_n 0, 1) := by decide +kernel
theorem dX1_takeOut_34 : decode cX1_takeOut 34 = .ok (.invokevirtual 45, 3) := by decide +kernel
theorem dX1_takeOut_37 : decode cX1_takeOut 37 = .ok (.if_icmp .gt 64, 3) := by decide +kernel
theorem dX1_takeOut_40 : decode cX1_takeOut 40 = .ok (.lload 9, 2) := by decide +kernel
theorem dX1_takeOut_42 : decode cX1_takeOut 42 = .ok (.aload 7, 2) := by decide +kernel
theorem dX1_takeOut_44 : decode cX1_takeOut 44 = .ok (.iload 13, 2) := by decide +kernel
theorem dX1_takeOut_46 : decode cX1_takeOut 46 = .ok (.laload, 1) := by decide +kernel
theorem dX1_takeOut_47 : decode cX1_takeOut 47 = .ok (.lload 11, 2) := by decide +kernel
theorem dX1_takeOut_49 : decode cX1_takeOut 49 = .ok (.aload 8, 2) := by decide +kernel
theorem dX1_takeOut_51 : decode cX1_takeOut 51 = .ok (.iload 13, 2) := by decide +kernel
theorem dX1_takeOut_53 : decode cX1_takeOut 53 = .ok (.laload, 1) := by decide +kernel
theorem dX1_takeOut_54 : decode cX1_takeOut 54 = .ok (.invokestatic 108, 3) := by decide +kernel
theorem dX1_takeOut_57 : decode cX1_takeOut 57 = .ok (.lstore 14, 2) := by decide +kernel
theorem dX1_takeOut_59 : decode cX1_takeOut 59 = .ok (.lload 9, 2) := by decide +kernel
theorem dX1_takeOut_61 : decode cX1_takeOut 61 = .ok (.aload 7, 2) := by decide +kernel
theorem dX1_takeOut_63 : decode cX1_takeOut 63 = .ok (.iload 13, 2) := by decide +kernel
theorem dX1_takeOut_65 : decode cX1_takeOut 65 = .ok (.laload, 1) := by decide +kernel
theorem dX1_takeOut_66 : decode cX1_takeOut 66 = .ok (.lmul, 1) := by decide +kernel
theorem dX1_takeOut_67 : decode cX1_takeOut 67 = .ok (.lload 11, 2) := by decide +kernel
theorem dX1_takeOut_69 : decode cX1_takeOut 69 = .ok (.aload 8, 2) := by decide +kernel
theorem dX1_takeOut_71 : decode cX1_takeOut 71 = .ok (.iload 13, 2) := by decide +kernel
theorem dX1_takeOut_73 : decode cX1_takeOut 73 = .ok (.laload, 1) := by decide +kernel
theorem dX1_takeOut_74 : decode cX1_takeOut 74 = .ok (.lmul, 1) := by decide +kernel
theorem dX1_takeOut_75 : decode cX1_takeOut 75 = .ok (.lsub, 1) := by decide +kernel
theorem dX1_takeOut_76 : decode cX1_takeOut 76 = .ok (.lstore 16, 2) := by decide +kernel
theorem dX1_takeOut_78 : decode cX1_takeOut 78 = .ok (.aload 7, 2) := by decide +kernel
theorem dX1_takeOut_80 : decode cX1_takeOut 80 = .ok (.iload 13, 2) := by decide +kernel
theorem dX1_takeOut_82 : decode cX1_takeOut 82 = .ok (.lload 14, 2) := by decide +kernel
theorem dX1_takeOut_84 : decode cX1_takeOut 84 = .ok (.lload 16, 2) := by decide +kernel
theorem dX1_takeOut_86 : decode cX1_takeOut 86 = .ok (.iload 4, 2) := by decide +kernel
theorem dX1_takeOut_88 : decode cX1_takeOut 88 = .ok (.invokestatic 112, 3) := by decide +kernel
theorem dX1_takeOut_91 : decode cX1_takeOut 91 = .ok (.lload 5, 2) := by decide +kernel
theorem dX1_takeOut_93 : decode cX1_takeOut 93 = .ok (.lmul, 1) := by decide +kernel
theorem dX1_takeOut_94 : decode cX1_takeOut 94 = .ok (.lastore, 1) := by decide +kernel
theorem dX1_takeOut_95 : decode cX1_takeOut 95 = .ok (.iinc 13 1, 3) := by decide +kernel
theorem dX1_takeOut_98 : decode cX1_takeOut 98 = .ok (.goto (-67), 3) := by decide +kernel
theorem dX1_takeOut_101 : decode cX1_takeOut 101 = .ok (.return_, 1) := by decide +kernel
set_option maxRecDepth 20000 in
theorem ggX2_part_X2_commonDivisor : GoodIn wsX2_part wsX2_commonDivisor := goodIn_r _ [8] (by decide +kernel) (by decide +kernel)
set_option maxRecDepth 20000 in
theorem gX2_part_X2_commonDivisor : GoodIn wsX2_part (va_wsS RX2 13 yX2_commonDivisor wsX2_commonDivisor) := goodIn_app (goodIn_of _ (by decide +kernel)) ggX2_part_X2_commonDivisor
theorem dX2_part_0 : decode cX2_part 0 = .ok (.iload 4, 2) := by decide +kernel
theorem dX2_part_2 : decode cX2_part 2 = .ok (.ifCond .ne 7, 3) := by decide +kernel
theorem dX2_part_5 : decode cX2_part 5 = .ok (.lload_n 0, 1) := by decide +kernel
theorem dX2_part_6 : decode cX2_part 6 = .ok (.goto 4, 3) := by decide +kernel
theorem dX2_part_9 : decode cX2_part 9 = .ok (.lload_n 2, 1) := by decide +kernel
theorem dX2_part_10 : decode cX2_part 10 = .ok (.lstore 5, 2) := by decide +kernel
theorem dX2_part_12 : decode cX2_part 12 = .ok (.lload_n 0, 1) := by decide +kernel
theorem dX2_part_13 : decode cX2_part 13 = .ok (.invokestatic 7, 3) := by decide +kernel
theorem dX2_part_16 : decode cX2_part 16 = .ok (.lload_n 2, 1) := by decide +kernel
theorem dX2_part_17 : decode cX2_part 17 = .ok (.invokestatic 13, 3) := by decide +kernel
theorem dX2_part_20 : decode cX2_part 20 = .ok (.lstore 7, 2) := by decide +kernel
theorem dX2_part_22 : decode cX2_part 22 = .ok (.lload 7, 2) := by decide +kernel
theorem dX2_part_24 : decode cX2_part 24 = .ok (.lconst 1, 1) := by decide +kernel
theorem dX2_part_25 : decode cX2_part 25 = .ok (.lcmp, 1) := by decide +kernel
theorem dX2_part_26 : decode cX2_part 26 = .ok (.ifCond .le 11, 3) := by decide +kernel
theorem dX2_part_29 : decode cX2_part 29 = .ok (.lload 5, 2) := by decide +kernel
theorem dX2_part_31 : decode cX2_part 31 = .ok (.lload 7, 2) := by decide +kernel
theorem dX2_part_33 : decode cX2_part 33 = .ok (.ldiv, 1) := by decide +kernel
theorem dX2_part_34 : decode cX2_part 34 = .ok (.goto 5, 3) := by decide +kernel
theorem dX2_part_37 : decode cX2_part 37 = .ok (.lload 5, 2) := by decide +kernel
theorem dX2_part_39 : decode cX2_part 39 = .ok (.lreturn, 1) := by decide +kernel
theorem dX2_commonDivisor_0 : decode cX2_commonDivisor 0 = .ok (.iconst 0, 1) := by decide +kernel
theorem dX2_commonDivisor_1 : decode cX2_commonDivisor 1 = .ok (.istore 4, 2) := by decide +kernel
theorem dX2_commonDivisor_3 : decode cX2_commonDivisor 3 = .ok (.iload 4, 2) := by decide +kernel
theorem dX2_commonDivisor_5 : decode cX2_commonDivisor 5 = .ok (.bipush 100, 2) := by decide +kernel
theorem dX2_commonDivisor_7 : decode cX2_commonDivisor 7 = .ok (.if_icmp .ge 25, 3) := by decide +kernel
theorem dX2_commonDivisor_10 : decode cX2_commonDivisor 10 = .ok (.lload_n 2, 1) := by decide +kernel
theorem dX2_commonDivisor_11 : decode cX2_commonDivisor 11 = .ok (.lconst 0, 1) := by decide +kernel
theorem dX2_commonDivisor_12 : decode cX2_commonDivisor 12 = .ok (.lcmp, 1) := by decide +kernel
theorem dX2_commonDivisor_13 : decode cX2_commonDivisor 13 = .ok (.ifCond .eq 19, 3) := by decide +kernel
theorem dX2_commonDivisor_16 : decode cX2_commonDivisor 16 = .ok (.lload_n 0, 1) := by decide +kernel
theorem dX2_commonDivisor_17 : decode cX2_commonDivisor 17 = .ok (.lload_n 2, 1) := by decide +kernel
theorem dX2_commonDivisor_18 : decode cX2_commonDivisor 18 = .ok (.lrem, 1) := by decide +kernel
theorem dX2_commonDivisor_19 : decode cX2_commonDivisor 19 = .ok (.lstore 5, 2) := by decide +kernel
theorem dX2_commonDivisor_21 : decode cX2_commonDivisor 21 = .ok (.lload_n 2, 1) := by decide +kernel
theorem dX2_commonDivisor_22 : decode cX2_commonDivisor 22 = .ok (.lstore_n 0, 1) := by decide +kernel
theorem dX2_commonDivisor_23 : decode cX2_commonDivisor 23 = .ok (.lload 5, 2) := by decide +kernel
theorem dX2_commonDivisor_25 : decode cX2_commonDivisor 25 = .ok (.lstore_n 2, 1) := by decide +kernel
theorem dX2_commonDivisor_26 : decode cX2_commonDivisor 26 = .ok (.iinc 4 1, 3) := by decide +kernel
theorem dX2_commonDivisor_29 : decode cX2_commonDivisor 29 = .ok (.goto (-26), 3) := by decide +kernel
theorem dX2_commonDivisor_32 : decode cX2_commonDivisor 32 = .ok (.lload_n 0, 1) := by decide +kernel
theorem dX2_commonDivisor_33 : decode cX2_commonDivisor 33 = .ok (.lreturn, 1) := by decide +kernel
set_option maxRecDepth 20000 in
theorem ggX2_crossSign_X2_crossHigh : GoodIn wsX2_crossSign wsX2_crossHigh := goodIn_r _ [4, 5, 6, 7, 8, 9, 10, 11, 12, 13, 14, 3, 15, 16] (by decide +kernel) (by decide +kernel)
set_option maxRecDepth 20000 in
theorem gX2_crossSign_X2_crossHigh : GoodIn wsX2_crossSign (va_wsS RX2 19 yX2_crossHigh wsX2_crossHigh) := goodIn_app (goodIn_of _ (by decide +kernel)) ggX2_crossSign_X2_crossHigh
set_option maxRecDepth 20000 in
theorem ggX2_crossSign_J13_signum_95d88 : GoodIn wsX2_crossSign wsJ13_signum_95d88 := goodIn_r _ [19] (by decide +kernel) (by decide +kernel)
set_option maxRecDepth 20000 in
theorem gX2_crossSign_J13_signum_95d88 : GoodIn wsX2_crossSign (va_wsS RX2 23 yJ13_signum_95d88 wsJ13_signum_95d88) := goodIn_app (goodIn_of _ (by decide +kernel)) ggX2_crossSign_J13_signum_95d88
theorem dX2_crossSign_0 : decode cX2_crossSign 0 = .ok (.lload_n 0, 1) := by decide +kernel
theorem dX2_crossSign_1 : decode cX2_crossSign 1 = .ok (.lload_n 2, 1) := by decide +kernel
theorem dX2_crossSign_2 : decode cX2_crossSign 2 = .ok (.lload 4, 2) := by decide +kernel
theorem dX2_crossSign_4 : decode cX2_crossSign 4 = .ok (.lload 6, 2) := by decide +kernel
theorem dX2_crossSign_6 : decode cX2_crossSign 6 = .ok (.invokestatic 19, 3) := by decide +kernel
theorem dX2_crossSign_9 : decode cX2_crossSign 9 = .ok (.lstore 8, 2) := by decide +kernel
theorem dX2_crossSign_11 : decode cX2_crossSign 11 = .ok (.lload 8, 2) := by decide +kernel
theorem dX2_crossSign_13 : decode cX2_crossSign 13 = .ok (.lconst 0, 1) := by decide +kernel
theorem dX2_crossSign_14 : decode cX2_crossSign 14 = .ok (.lcmp, 1) := by decide +kernel
theorem dX2_crossSign_15 : decode cX2_crossSign 15 = .ok (.ifCond .eq 9, 3) := by decide +kernel
theorem dX2_crossSign_18 : decode cX2_crossSign 18 = .ok (.lload 8, 2) := by decide +kernel
theorem dX2_crossSign_20 : decode cX2_crossSign 20 = .ok (.invokestatic 23, 3) := by decide +kernel
theorem dX2_crossSign_23 : decode cX2_crossSign 23 = .ok (.ireturn, 1) := by decide +kernel
theorem dX2_crossSign_24 : decode cX2_crossSign 24 = .ok (.lload_n 0, 1) := by decide +kernel
theorem dX2_crossSign_25 : decode cX2_crossSign 25 = .ok (.lload_n 2, 1) := by decide +kernel
theorem dX2_crossSign_26 : decode cX2_crossSign 26 = .ok (.lmul, 1) := by decide +kernel
theorem dX2_crossSign_27 : decode cX2_crossSign 27 = .ok (.lload 4, 2) := by decide +kernel
theorem dX2_crossSign_29 : decode cX2_crossSign 29 = .ok (.lload 6, 2) := by decide +kernel
theorem dX2_crossSign_31 : decode cX2_crossSign 31 = .ok (.lmul, 1) := by decide +kernel
theorem dX2_crossSign_32 : decode cX2_crossSign 32 = .ok (.lcmp, 1) := by decide +kernel
theorem dX2_crossSign_33 : decode cX2_crossSign 33 = .ok (.ifCond .ne 7, 3) := by decide +kernel
theorem dX2_crossSign_36 : decode cX2_crossSign 36 = .ok (.iconst 0, 1) := by decide +kernel
theorem dX2_crossSign_37 : decode cX2_crossSign 37 = .ok (.goto 4, 3) := by decide +kernel
theorem dX2_crossSign_40 : decode cX2_crossSign 40 = .ok (.iconst 1, 1) := by decide +kernel
theorem dX2_crossSign_41 : decode cX2_crossSign 41 = .ok (.ireturn, 1) := by decide +kernel
set_option maxRecDepth 20000 in
theorem ggX2_crossHigh_J13_compareUnsigned_74951 : GoodIn wsX2_crossHigh wsJ13_compareUnsigned_74951 := goodIn_r _ [4, 5, 6, 7, 3, 8] (by decide +kernel) (by decide +kernel)
set_option maxRecDepth 20000 in
theorem gX2_crossHigh_J13_compareUnsigned_74951 : GoodIn wsX2_crossHigh (va_wsS RX2 29 yJ13_compareUnsigned_74951 wsJ13_compareUnsigned_74951) := goodIn_app (goodIn_of _ (by decide +kernel)) ggX2_crossHigh_J13_compareUnsigned_74951
set_option maxRecDepth 20000 in
theorem ggX2_crossHigh_X2_highOfProduct : GoodIn wsX2_crossHigh wsX2_highOfProduct := goodIn_r _ [12, 13] (by decide +kernel) (by decide +kernel)
set_option maxRecDepth 20000 in
theorem gX2_crossHigh_X2_highOfProduct : GoodIn wsX2_crossHigh (va_wsS RX2 33 yX2_highOfProduct wsX2_highOfProduct) := goodIn_app (goodIn_of _ (by decide +kernel)) ggX2_crossHigh_X2_highOfProduct
theorem dX2_crossHigh_0 : decode cX2_crossHigh 0 = .ok (.lload_n 0, 1) := by decide +kernel
theorem dX2_crossHigh_1 : decode cX2_crossHigh 1 = .ok (.lload_n 2, 1) := by decide +kernel
theorem dX2_crossHigh_2 : decode cX2_crossHigh 2 = .ok (.lmul, 1) := by decide +kernel
theorem dX2_crossHigh_3 : decode cX2_crossHigh 3 = .ok (.lload 4, 2) := by decide +kernel
theorem dX2_crossHigh_5 : decode cX2_crossHigh 5 = .ok (.lload 6, 2) := by decide +kernel
theorem dX2_crossHigh_7 : decode cX2_crossHigh 7 = .ok (.lmul, 1) := by decide +kernel
theorem dX2_crossHigh_8 : decode cX2_crossHigh 8 = .ok (.invokestatic 29, 3) := by decide +kernel
theorem dX2_crossHigh_11 : decode cX2_crossHigh 11 = .ok (.ifCond .ge 7, 3) := by decide +kernel
theorem dX2_crossHigh_14 : decode cX2_crossHigh 14 = .ok (.lconst 1, 1) := by decide +kernel
theorem dX2_crossHigh_15 : decode cX2_crossHigh 15 = .ok (.goto 4, 3) := by decide +kernel
theorem dX2_crossHigh_18 : decode cX2_crossHigh 18 = .ok (.lconst 0, 1) := by decide +kernel
theorem dX2_crossHigh_19 : decode cX2_crossHigh 19 = .ok (.lstore 8, 2) := by decide +kernel
theorem dX2_crossHigh_21 : decode cX2_crossHigh 21 = .ok (.lload_n 0, 1) := by decide +kernel
theorem dX2_crossHigh_22 : decode cX2_crossHigh 22 = .ok (.lload_n 2, 1) := by decide +kernel
theorem dX2_crossHigh_23 : decode cX2_crossHigh 23 = .ok (.invokestatic 33, 3) := by decide +kernel
theorem dX2_crossHigh_26 : decode cX2_crossHigh 26 = .ok (.lload 4, 2) := by decide +kernel
theorem dX2_crossHigh_28 : decode cX2_crossHigh 28 = .ok (.lload 6, 2) := by decide +kernel
theorem dX2_crossHigh_30 : decode cX2_crossHigh 30 = .ok (.invokestatic 33, 3) := by decide +kernel
theorem dX2_crossHigh_33 : decode cX2_crossHigh 33 = .ok (.lsub, 1) := by decide +kernel
theorem dX2_crossHigh_34 : decode cX2_crossHigh 34 = .ok (.lload 8, 2) := by decide +kernel
theorem dX2_crossHigh_36 : decode cX2_crossHigh 36 = .ok (.lsub, 1) := by decide +kernel
theorem dX2_crossHigh_37 : decode cX2_crossHigh 37 = .ok (.lreturn, 1) := by decide +kernel
theorem dX2_highOfProduct_0 : decode cX2_highOfProduct 0 = .ok (.lload_n 0, 1) := by decide +kernel
theorem dX2_highOfProduct_1 : decode cX2_highOfProduct 1 = .ok (.ldc2_w 36, 3) := by decide +kernel
theorem dX2_highOfProduct_4 : decode cX2_highOfProduct 4 = .ok (.land, 1) := by decide +kernel
theorem dX2_highOfProduct_5 : decode cX2_highOfProduct 5 = .ok (.lstore 4, 2) := by decide +kernel
theorem dX2_highOfProduct_7 : decode cX2_highOfProduct 7 = .ok (.lload_n 0, 1) := by decide +kernel
theorem dX2_highOfProduct_8 : decode cX2_highOfProduct 8 = .ok (.bipush 32, 2) := by decide +kernel
theorem dX2_highOfProduct_10 : decode cX2_highOfProduct 10 = .ok (.lshr, 1) := by decide +kernel
theorem dX2_highOfProduct_11 : decode cX2_highOfProduct 11 = .ok (.lstore 6, 2) := by decide +kernel
theorem dX2_highOfProduct_13 : decode cX2_highOfProduct 13 = .ok (.lload_n 2, 1) := by decide +kernel
theorem dX2_highOfProduct_14 : decode cX2_highOfProduct 14 = .ok (.ldc2_w 36, 3) := by decide +kernel
theorem dX2_highOfProduct_17 : decode cX2_highOfProduct 17 = .ok (.land, 1) := by decide +kernel
theorem dX2_highOfProduct_18 : decode cX2_highOfProduct 18 = .ok (.lstore 8, 2) := by decide +kernel
theorem dX2_highOfProduct_20 : decode cX2_highOfProduct 20 = .ok (.lload_n 2, 1) := by decide +kernel
theorem dX2_highOfProduct_21 : decode cX2_highOfProduct 21 = .ok (.bipush 32, 2) := by decide +kernel
theorem dX2_highOfProduct_23 : decode cX2_highOfProduct 23 = .ok (.lshr, 1) := by decide +kernel
theorem dX2_highOfProduct_24 : decode cX2_highOfProduct 24 = .ok (.lstore 10, 2) := by decide +kernel
theorem dX2_highOfProduct_26 : decode cX2_highOfProduct 26 = .ok (.lload 6, 2) := by decide +kernel
theorem dX2_highOfProduct_28 : decode cX2_highOfProduct 28 = .ok (.lload 8, 2) := by decide +kernel
theorem dX2_highOfProduct_30 : decode cX2_highOfProduct 30 = .ok (.lmul, 1) := by decide +kernel
theorem dX2_highOfProduct_31 : decode cX2_highOfProduct 31 = .ok (.lload 4, 2) := by decide +kernel
theorem dX2_highOfProduct_33 : decode cX2_highOfProduct 33 = .ok (.lload 8, 2) := by decide +kernel
theorem dX2_highOfProduct_35 : decode cX2_highOfProduct 35 = .ok (.lmul, 1) := by decide +kernel
theorem dX2_highOfProduct_36 : decode cX2_highOfProduct 36 = .ok (.bipush 32, 2) := by decide +kernel
theorem dX2_highOfProduct_38 : decode cX2_highOfProduct 38 = .ok (.lushr, 1) := by decide +kernel
theorem dX2_highOfProduct_39 : decode cX2_highOfProduct 39 = .ok (.ladd, 1) := by decide +kernel
theorem dX2_highOfProduct_40 : decode cX2_highOfProduct 40 = .ok (.lstore 12, 2) := by decide +kernel
theorem dX2_highOfProduct_42 : decode cX2_highOfProduct 42 = .ok (.lload 4, 2) := by decide +kernel
theorem dX2_highOfProduct_44 : decode cX2_highOfProduct 44 = .ok (.lload 10, 2) := by decide +kernel
theorem dX2_highOfProduct_46 : decode cX2_highOfProduct 46 = .ok (.lmul, 1) := by decide +kernel
theorem dX2_highOfProduct_47 : decode cX2_highOfProduct 47 = .ok (.lload 12, 2) := by decide +kernel
theorem dX2_highOfProduct_49 : decode cX2_highOfProduct 49 = .ok (.ldc2_w 36, 3) := by decide +kernel
theorem dX2_highOfProduct_52 : decode cX2_highOfProduct 52 = .ok (.land, 1) := by decide +kernel
theorem dX2_highOfProduct_53 : decode cX2_highOfProduct 53 = .ok (.ladd, 1) := by decide +kernel
theorem dX2_highOfProduct_54 : decode cX2_highOfProduct 54 = .ok (.lstore 14, 2) := by decide +kernel
theorem dX2_highOfProduct_56 : decode cX2_highOfProduct 56 = .ok (.lload 6, 2) := by decide +kernel
theorem dX2_highOfProduct_58 : decode cX2_highOfProduct 58 = .ok (.lload 10, 2) := by decide +kernel
theorem dX2_highOfProduct_60 : decode cX2_highOfProduct 60 = .ok (.lmul, 1) := by decide +kernel
theorem dX2_highOfProduct_61 : decode cX2_highOfProduct 61 = .ok (.lload 12, 2) := by decide +kernel
theorem dX2_highOfProduct_63 : decode cX2_highOfProduct 63 = .ok (.bipush 32, 2) := by decide +kernel
theorem dX2_highOfProduct_65 : decode cX2_highOfProduct 65 = .ok (.lshr, 1) := by decide +kernel
theorem dX2_highOfProduct_66 : decode cX2_highOfProduct 66 = .ok (.ladd, 1) := by decide +kernel
theorem dX2_highOfProduct_67 : decode cX2_highOfProduct 67 = .ok (.lload 14, 2) := by decide +kernel
theorem dX2_highOfProduct_69 : decode cX2_highOfProduct 69 = .ok (.bipush 32, 2) := by decide +kernel
theorem dX2_highOfProduct_71 : decode cX2_highOfProduct 71 = .ok (.lshr, 1) := by decide +kernel
theorem dX2_highOfProduct_72 : decode cX2_highOfProduct 72 = .ok (.ladd, 1) := by decide +kernel
theorem dX2_highOfProduct_73 : decode cX2_highOfProduct 73 = .ok (.lreturn, 1) := by decide +kernel
theorem dX2_shiftedLow_0 : decode cX2_shiftedLow 0 = .ok (.iload 4, 2) := by decide +kernel
theorem dX2_shiftedLow_2 : decode cX2_shiftedLow 2 = .ok (.ifCond .ne 7, 3) := by decide +kernel
theorem dX2_shiftedLow_5 : decode cX2_shiftedLow 5 = .ok (.lload_n 2, 1) := by decide +kernel
theorem dX2_shiftedLow_6 : decode cX2_shiftedLow 6 = .ok (.goto 15, 3) := by decide +kernel
theorem dX2_shiftedLow_9 : decode cX2_shiftedLow 9 = .ok (.lload_n 2, 1) := by decide +kernel
theorem dX2_shiftedLow_10 : decode cX2_shiftedLow 10 = .ok (.iload 4, 2) := by decide +kernel
theorem dX2_shiftedLow_12 : decode cX2_shiftedLow 12 = .ok (.lushr, 1) := by decide +kernel
theorem dX2_shiftedLow_13 : decode cX2_shiftedLow 13 = .ok (.lload_n 0, 1) := by decide +kernel
theorem dX2_shiftedLow_14 : decode cX2_shiftedLow 14 = .ok (.bipush 64, 2) := by decide +kernel
theorem dX2_shiftedLow_16 : decode cX2_shiftedLow 16 = .ok (.iload 4, 2) := by decide +kernel
theorem dX2_shiftedLow_18 : decode cX2_shiftedLow 18 = .ok (.isub, 1) := by decide +kernel
theorem dX2_shiftedLow_19 : decode cX2_shiftedLow 19 = .ok (.lshl, 1) := by decide +kernel
theorem dX2_shiftedLow_20 : decode cX2_shiftedLow 20 = .ok (.lor, 1) := by decide +kernel
theorem dX2_shiftedLow_21 : decode cX2_shiftedLow 21 = .ok (.lreturn, 1) := by decide +kernel
theorem dX2_inverseOfOdd_0 : decode cX2_inverseOfOdd 0 = .ok (.lload_n 0, 1) := by decide +kernel
theorem dX2_inverseOfOdd_1 : decode cX2_inverseOfOdd 1 = .ok (.lstore_n 2, 1) := by decide +kernel
theorem dX2_inverseOfOdd_2 : decode cX2_inverseOfOdd 2 = .ok (.iconst 0, 1) := by decide +kernel
theorem dX2_inverseOfOdd_3 : decode cX2_inverseOfOdd 3 = .ok (.istore 4, 2) := by decide +kernel
theorem dX2_inverseOfOdd_5 : decode cX2_inverseOfOdd 5 = .ok (.iload 4, 2) := by decide +kernel
theorem dX2_inverseOfOdd_7 : decode cX2_inverseOfOdd 7 = .ok (.iconst 5, 1) := by decide +kernel
theorem dX2_inverseOfOdd_8 : decode cX2_inverseOfOdd 8 = .ok (.if_icmp .ge 19, 3) := by decide +kernel
theorem dX2_inverseOfOdd_11 : decode cX2_inverseOfOdd 11 = .ok (.lload_n 2, 1) := by decide +kernel
theorem dX2_inverseOfOdd_12 : decode cX2_inverseOfOdd 12 = .ok (.ldc2_w 38, 3) := by decide +kernel
theorem dX2_inverseOfOdd_15 : decode cX2_inverseOfOdd 15 = .ok (.lload_n 0, 1) := by decide +kernel
theorem dX2_inverseOfOdd_16 : decode cX2_inverseOfOdd 16 = .ok (.lload_n 2, 1) := by decide +kernel
theorem dX2_inverseOfOdd_17 : decode cX2_inverseOfOdd 17 = .ok (.lmul, 1) := by decide +kernel
theorem dX2_inverseOfOdd_18 : decode cX2_inverseOfOdd 18 = .ok (.lsub, 1) := by decide +kernel
theorem dX2_inverseOfOdd_19 : decode cX2_inverseOfOdd 19 = .ok (.lmul, 1) := by decide +kernel
theorem dX2_inverseOfOdd_20 : decode cX2_inverseOfOdd 20 = .ok (.lstore_n 2, 1) := by decide +kernel
theorem dX2_inverseOfOdd_21 : decode cX2_inverseOfOdd 21 = .ok (.iinc 4 1, 3) := by decide +kernel
theorem dX2_inverseOfOdd_24 : decode cX2_inverseOfOdd 24 = .ok (.goto (-19), 3) := by decide +kernel
theorem dX2_inverseOfOdd_27 : decode cX2_inverseOfOdd 27 = .ok (.lload_n 2, 1) := by decide +kernel
theorem dX2_inverseOfOdd_28 : decode cX2_inverseOfOdd 28 = .ok (.lreturn, 1) := by decide +kernel
set_option maxRecDepth 20000 in
theorem ggX3_init_X0_init : GoodIn wsX3_init wsX0_init := goodIn_r _ [15, 16, 2, 3, 17, 18, 19, 20, 21, 22, 37, 38, 39, 40, 41] (by decide +kernel) (by decide +kernel)
set_option maxRecDepth 20000 in
theorem gX3_init_X0_init_n9 : GoodIn wsX3_init (wsX0_init) := ggX3_init_X0_init
set_option maxRecDepth 20000 in
theorem ggX3_init_X1_init : GoodIn wsX3_init wsX1_init := goodIn_r _ [24, 25, 2, 3, 26, 27, 28, 17, 29, 30, 31, 32, 33, 34, 35, 36, 46, 47, 48, 49, 50, 51, 52, 53, 54] (by decide +kernel) (by decide +kernel)
set_option maxRecDepth 20000 in
theorem gX3_init_X1_init_n18 : GoodIn wsX3_init (wsX1_init) := ggX3_init_X1_init
